/-! the component's course from its start -/
theorem pu_st10 (f : am_M) : D_X0_start_10 am_fu 0 f = some (am_wr (am_wr (am_wr f 80 0 0) 80 1 0) 80 2 0) := rfl
theorem pu_cStart {T : pu_T} {N : pu_S} {f : am_M} (hT : pu_Tok T) (hS : pu_Sok T N) (hF : pu_Sf N f 11) : ∃ f', D_X0_start f = some f' ∧ (∀ q, q < 80 ∨ 87 < q → f' q = f q) ∧ pu_KC T N 0 f' := by
  have hB := hS.B hT
  obtain ⟨f1, x1, x2, x3, _, _⟩ := pu_copy (p := 81) (e := 0) (q := 11) (d := 999) (by omega) (by omega) (by omega) hF hB.1 hB.2
  refine ⟨am_wr (am_wr (am_wr f1 80 0 0) 80 1 0) 80 2 0, ?_, fun q hq => by rw [am_wr_ne q (by omega), am_wr_ne q (by omega), am_wr_ne q (by omega), x2 q (by omega)], pu_cu N, ⟨⟨hS.1, hS.2.2.1, hS.2.2.2.1, pu_cu_le, hS.2.2.2.2.2⟩, hS.2.2.2.2.1⟩, ?_, fun m hm => ?_⟩
  · unfold D_X0_start
    rw [x1, pu_bV, pu_st10]
  · obtain ⟨d1, d2, d3, d4, d5, d6, d7, d8⟩ := x3
    have e : ∀ q, q ≠ 80 → am_wr (am_wr (am_wr f1 80 0 0) 80 1 0) 80 2 0 q = f1 q := fun q hq => by rw [am_wr_ne q hq, am_wr_ne q hq, am_wr_ne q hq]
    exact ⟨by rw [e 81 (by decide)]; exact d1, by rw [e 81 (by decide)]; exact d2, by rw [e 81 (by decide)]; exact d3, fun t ht => by rw [e 82 (by decide)]; exact d4 t ht, fun t q hq => by rw [e 85 (by decide)]; exact d7 t q hq, fun t ht => by rw [e 86 (by decide)]; exact d8 t ht⟩
  · show _ = (0 : Int32)
    have : m = 0 ∨ m = 1 ∨ m = 2 := by omega
    rcases this with rfl | rfl | rfl
    · rw [pu_wr_n2 (by decide), pu_wr_n2 (by decide), pu_wr_eq]
    · rw [pu_wr_n2 (by decide), pu_wr_eq]
    · rw [pu_wr_eq]
theorem pu_cAfter7 {T : pu_T} {N : pu_S} {x : Nat} (hT : pu_Tok T) (hx : x ≤ 60) : ∀ d fu k (f : am_M), k + d = x → d < fu → pu_Tc T (f 3) (f 4) (f 5) (f 6) → pu_KC T N k f → ∃ f', D_X0_after_7 fu (nI x) (nI k) f = some f' ∧ (∀ q, q < 80 ∨ 87 < q → f' q = f q) ∧ pu_KC T N x f'
  | d, 0, k, f, _, h, _, _ => absurd h (by omega)
  | 0, fu + 1, k, f, h1, h2, h3, h => by
    have : k = x := by omega
    subst this
    refine ⟨f, ?_, fun _ _ => rfl, h⟩
    rw [D_X0_after_7, if_neg (pu_nlt (Nat.le_refl _) (by omega))]
  | d + 1, fu + 1, k, f, h1, h2, h3, h => by
    obtain ⟨f1, x1, x2, x3⟩ := pu_cTick hT (by omega) h3 h
    obtain ⟨f', y1, y2, y3⟩ := pu_cAfter7 hT hx d fu (k + 1) f1 (by omega) (by omega) (pu_frT (fun q h1 h2 => x2 q (by omega)) h3) x3
    refine ⟨f', ?_, fun q hq => by rw [y2 q hq, x2 q hq], y3⟩
    rw [D_X0_after_7, if_pos (pu_lt (by omega) (by omega)), x1, pu_bV, nI_1]
    exact y1
theorem pu_cAfter {T : pu_T} {N : pu_S} {f : am_M} (hT : pu_Tok T) (hS : pu_Sok T N) (h3 : pu_Tc T (f 3) (f 4) (f 5) (f 6)) (hF : pu_Sf N f 11) {k : Nat} (hk : k ≤ 60) : ∃ f', D_X0_after (nI k) f = some f' ∧ (∀ q, q < 80 ∨ 87 < q → f' q = f q) ∧ pu_KC T N k f' := by
  obtain ⟨f1, x1, x2, x3⟩ := pu_cStart hT hS hF
  obtain ⟨f', y1, y2, y3⟩ := pu_cAfter7 hT hk k am_fu 0 f1 (Nat.zero_add _) (by show k < 6000; omega) (pu_frT (fun q h1 h2 => x2 q (by omega)) h3) x3
  refine ⟨f', ?_, fun q hq => by rw [y2 q hq, x2 q hq], y3⟩
  unfold D_X0_after
  rw [x1, pu_bV]
  exact y1
/-- the rest of the component is as it was -/
theorem pu_C.cs {T : pu_T} {X : Nat × (Nat → Int32)} {N : pu_S} {P : List (pu_S × Option Nat)} {I0 I1 : Option pu_S} {Z : Nat × (Nat → Nat) × (Nat → Int32)} {f f' : am_M} (hC : pu_C T X N P I0 I1 Z f) (e : ∀ q, q < 80 ∨ 87 < q → f' q = f q) : pu_C T X N P I0 I1 Z f' := by
  obtain ⟨a1, a2, a3, a4, ⟨a5, a6⟩, a7⟩ := hC
  exact ⟨pu_frT (fun q h1 h2 => e q (by omega)) a1, pu_fcX (fun q h1 h2 => e q (by omega)) a2, pu_frN (fun q h1 h2 => e q (by omega)) a3, pu_frP (fun q h1 h2 => e q (by omega)) a4, ⟨pu_frI rfl (fun q h1 h2 => e q (by omega)) a5, pu_frI rfl (fun q h1 h2 => e q (by omega)) a6⟩, pu_fcZ (fun q h1 h2 => e q (by omega)) a7⟩
/-- and the rest of the model -/
theorem pu_M.cs {T : pu_T} {X : Nat × (Nat → Int32)} {N : pu_S} {P : List (pu_S × Option Nat)} {I0 I1 : Option pu_S} {Z : Nat × (Nat → Nat) × (Nat → Int32)} {f f' : am_M} (hM : pu_M T X N P I0 I1 Z f) (e : ∀ q, 91 < q → q < 105 → f' q = f q) (e1 : ∀ k, k < 29 → f' 91 k = f 91 k) : pu_M T X N P I0 I1 Z f' := by
  obtain ⟨m1, m2, m3, m4, ⟨m6, m7⟩, m8⟩ := hM
  exact ⟨pu_fmT (e1 0 (by decide)) (e1 1 (by decide)) (e1 3 (by decide)) (fun q a b => e q (by omega) (by omega)) m1, pu_fmX (e1 15 (by decide)) (e 101 (by decide) (by decide)) m2, by rw [e 95 (by decide) (by decide)]; exact m3, pu_fmP (e1 8 (by decide)) (e 96 (by decide) (by decide)) m4, ⟨pu_fmI (e 97 (by decide) (by decide)) (e 98 (by decide) (by decide)) m6, pu_fmI (e 97 (by decide) (by decide)) (e 98 (by decide) (by decide)) m7⟩, pu_fmZ (e1 11 (by decide)) (e 99 (by decide) (by decide)) (e 100 (by decide) (by decide)) m8⟩
/-! the model's course -/
def pu_Km (S : pu_S) (f : am_M) : Prop := f 91 29 = nI (pu_cl S) ∧ f 91 30 = nI (pu_rw S).length ∧ (∀ t, t < 6 → f 111 t = nI (pu_dn S t)) ∧ (∀ (i : Nat) (q : Nat × Nat), (pu_rw S)[i]? = some q → f 109 i = nI q.1 ∧ f 110 i = nI q.2)
section MK
variable {T : pu_T} {B u : Nat} {S : pu_S} {f : am_M}
theorem pu_mKleast (hT : pu_Tok T) (hB : B ≤ 100000) (h : pu_Ko0 T B u S) (h3 : pu_Tm T (f 91) (f 92) (f 93) (f 94)) (hF : pu_Km S f) : D_X8_leastOver f = some (nI (pu_lst T S), f) := by
  have hn := hT.2.2.1
  have hc := h.cl
  unfold D_X8_leastOver
  rw [hF.1]
  exact pu_lleast (c := pu_cl S) hn h3.2.2.1 (fun t ht => hF.2.2.1 t (by omega)) (fun t ht => by have := h.dn ht; omega) (by omega) am_fu 0 (Nat.zero_le _) (by show _ < 0 + 6000; omega)
end MK
theorem pu_mwait4 {m L : Nat} {f : am_M} (hL : L ≤ 3) (hm : m < 3) (h9 : f 91 30 = nI L) : ∀ (s : List (Nat × Nat)) (i n acc : Nat), acc ≤ 1 → i + s.length = L → (∀ (j : Nat) (q : Nat × Nat), s[j]? = some q → f 109 (i + j) = nI q.1 ∧ q.1 < 3) → L < i + n → D_X8_doesWait_4 n (nI m) (nI acc) (nI i) f = some (nI (if acc = 1 ∨ pu_ix s m ≠ none then 1 else 0), f)
  | s, i, 0, acc, ha, h1, h2, h3 => absurd h3 (by omega)
  | [], i, n + 1, acc, ha, h1, h2, h3 => by
    have : i = L := by simpa using h1
    subst this
    have : acc = 0 ∨ acc = 1 := by omega
    unfold D_X8_doesWait_4
    rw [h9, if_neg (pu_nlt (Nat.le_refl _) (by omega))]
    rcases this with rfl | rfl
    · rfl
    · rfl
  | (a, w) :: s, i, n + 1, acc, ha, h1, h2, h3 => by
    have hi : i < L := by simp at h1; omega
    obtain ⟨a1, a2⟩ := h2 0 (a, w) rfl
    have ih := fun acc ha => pu_mwait4 hL hm h9 s (i + 1) n acc ha (by simp at h1; omega) (fun j q hq => by
      have := h2 (j + 1) q (by simpa using hq)
      rw [show i + 1 + j = i + (j + 1) by omega]; exact this) (by omega)
    unfold D_X8_doesWait_4
    rw [h9, if_pos (pu_lt hi (by omega)), nI_1]
    have : acc = 0 ∨ acc = 1 := by omega
    rcases this with rfl | rfl
    · rw [if_pos nI_0, pu_chk (by omega) (by decide), nI_clamp (by omega), show f 109 i = nI a from a1]
      unfold pu_ix
      by_cases e : a = m
      · rw [if_pos (by rw [e]), if_pos e, show (1 : Int32) = nI 1 from rfl, ih 1 (by decide)]
        simp
      · rw [if_neg (pu_ne e (by simp at a2; omega) (by omega)), if_neg e, show (0 : Int32) = nI 0 from rfl, ih 0 (by decide)]
        cases pu_ix s m <;> simp
    · rw [if_neg (by decide), show (1 : Int32) = nI 1 from rfl, ih 1 (by decide)]
      simp
