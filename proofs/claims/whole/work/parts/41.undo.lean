/-! the model's keeps; undo, keep, back -/
def pu_B (S : pu_S) : Prop := pu_cl S ≤ 999 ∧ (pu_rw S).length ≤ 3
theorem pu_Sok.B {T : pu_T} {S : pu_S} (hT : pu_Tok T) (hS : pu_Sok T S) : pu_B S := ⟨hS.cl, hS.len hT⟩
section KP
variable {T : pu_T} {X : Nat × (Nat → Int32)} {N : pu_S} {P : List (pu_S × Option Nat)} {I0 I1 : Option pu_S} {Z : Nat × (Nat → Nat) × (Nat → Int32)} {f : am_M}
theorem pu_keeps (hM : pu_M T X N P I0 I1 Z f) (hN : pu_B N) (hP : ∀ q ∈ P, pu_B q.1) (hl : P.length ≤ 6) (c : Option Nat) : ∃ f', D_X8_keeps f = some f' ∧ pu_hi f f' ∧ f' 95 = f 95 ∧ pu_M T X N (((N, c) :: P).take 6) I0 I1 Z f' := by
  obtain ⟨a1, a2, a3, ⟨a4, a5⟩, ⟨a6, a7⟩, a8⟩ := hM
  have key : ∀ (u : Nat) (g : am_M), u < 6 → g 91 8 = nI u → (∀ q, q ≠ 96 → q ≠ 91 → g q = f q) → (∀ k, k ≠ 8 → g 91 k = f 91 k) → u + 1 = (((N, c) :: P).take 6).length → (∀ (i : Nat) (q : pu_S × Option Nat), ((N, c) :: P)[i + 1]? = some q → i + 1 < 6 → pu_Sm q.1 (fun k => g 96 (1026 * (u - (i + 1)) + k))) → ∃ f', D_X8_keeps_52 am_fu 0 g = some f' ∧ pu_hi f f' ∧ f' 95 = f 95 ∧ pu_M T X N (((N, c) :: P).take 6) I0 I1 Z f' := by
    intro u g hu h8 hg hg1 hlen hp
    have hk := pu_k52 hu h8 1026 am_fu 0 (by decide) (by decide)
    rw [pu_cp_0] at hk
    have fo : ∀ q, q ≠ 96 → q ≠ 91 → am_wr (am_cp g 95 96 0 (1026 * u) 1026) 91 8 (nI (u + 1)) q = f q := fun q h1 h2 => by rw [am_wr_ne q h2, am_cp_ne q h1, hg q h1 h2]
    have fo1 : ∀ k, k ≠ 8 → am_wr (am_cp g 95 96 0 (1026 * u) 1026) 91 8 (nI (u + 1)) 91 k = f 91 k := fun k hk => by rw [pu_wr_n2 hk, pu_cp_n1 (by decide), hg1 k hk]
    refine ⟨_, hk, fun q hq => fo q (by omega) (by omega), fo 95 (by decide) (by decide), pu_fmT (fo1 0 (by decide)) (fo1 1 (by decide)) (fo1 3 (by decide)) (fun q h1 h2 => fo q (by omega) (by omega)) a1, pu_fmX (fo1 15 (by decide)) (fo 101 (by decide) (by decide)) a2, by rw [fo 95 (by decide) (by decide)]; exact a3, ⟨by rw [pu_wr_eq, hlen], fun i q hq => ?_⟩, ⟨pu_fmI (fo 97 (by decide) (by decide)) (fo 98 (by decide) (by decide)) a6, pu_fmI (fo 97 (by decide) (by decide)) (fo 98 (by decide) (by decide)) a7⟩, pu_fmZ (fo1 11 (by decide)) (fo 99 (by decide) (by decide)) (fo 100 (by decide) (by decide)) a8⟩
    rw [am_wr_ne 96 (by decide), ← hlen]
    have hi6 : i < 6 := by
      rcases Nat.lt_or_ge i 6 with h | h
      · exact h
      · rw [List.getElem?_eq_none (by rw [← hlen]; omega)] at hq; simp at hq
    have hil : i < u + 1 := by
      rcases Nat.lt_or_ge i (u + 1) with h | h
      · exact h
      · rw [List.getElem?_eq_none (by rw [← hlen]; omega)] at hq; simp at hq
    rw [List.getElem?_take_of_lt hi6] at hq
    cases i with
    | zero =>
      simp at hq
      subst hq
      refine a3.cg hN.1 hN.2 (fun k hk => ?_)
      show am_cp g 95 96 0 (1026 * u) 1026 96 (1026 * (u + 1 - 1 - 0) + k) = f 95 k
      rw [← hg 95 (by decide) (by decide), show u + 1 - 1 - 0 = u by omega]
      simp [am_cp, hk]
    | succ j =>
      have hq' : pu_B q.1 := by
        simp at hq
        exact hP q (List.mem_of_getElem? hq)
      refine (hp j q hq hi6).cg hq'.1 hq'.2 (fun k hk => ?_)
      show am_cp g 95 96 0 (1026 * u) 1026 96 (1026 * (u + 1 - 1 - (j + 1)) + k) = g 96 (1026 * (u - (j + 1)) + k)
      rw [show u + 1 - 1 - (j + 1) = u - (j + 1) by omega]
      simp [am_cp]
      intro h1
      omega
  unfold D_X8_keeps
  by_cases h6 : P.length = 6
  · rw [a4, h6, if_pos (show nI 6 = 6 from rfl)]
    have h8 : f 91 8 = 6 := by rw [a4, h6]; rfl
    have hk := pu_k11 h8 5130 am_fu 0 (by decide) (by decide)
    rw [pu_cp_0] at hk
    rw [show D_X8_keeps_11 am_fu 0 f = _ from hk]
    refine key 5 _ (by decide) pu_wr_eq (fun q h1 h2 => by rw [am_wr_ne q h2, am_cp_ne q h1]) (fun k hk => by rw [pu_wr_n2 hk, pu_cp_n1 (by decide)]) (by simp; omega) (fun i q hq hi => ?_)
    simp at hq
    have hq' := hP q (List.mem_of_getElem? hq)
    refine (a5 i q hq).cg hq'.1 hq'.2 (fun k hk => ?_)
    show am_wr (am_cp f 96 96 1026 0 5130) 91 8 5 96 (1026 * (5 - (i + 1)) + k) = f 96 (1026 * (P.length - 1 - i) + k)
    rw [pu_wr_n1 (by decide), h6]
    unfold am_cp
    rw [if_pos rfl, if_pos (by omega)]
    rw [show 1026 + (1026 * (5 - (i + 1)) + k - 0) = 1026 * (6 - 1 - i) + k by omega]
  · rw [a4, if_neg (show ¬ nI P.length = 6 from pu_ne (b := 6) h6 (by omega) (by decide))]
    refine key P.length f (by omega) a4 (fun _ _ _ => rfl) (fun _ _ => rfl) (by simp; omega) (fun i q hq hi => ?_)
    simp at hq
    have := a5 i q hq
    rw [show P.length - 1 - i = P.length - (i + 1) by omega] at this
    exact this
theorem pu_u22 {f : am_M} {u : Nat} (hu : u < 6) (h8 : f 91 8 = nI u) : ∀ d n k, k + d = 1026 → d < n → D_X8_undo_22 n (nI k) (am_cp f 96 95 (1026 * u) 0 k) = some (nI u, am_cp f 96 95 (1026 * u) 0 1026)
  | d, 0, k, h1, h2 => absurd h2 (by omega)
  | 0, n + 1, k, h1, h2 => by
    have : k = 1026 := by omega
    subst this
    unfold D_X8_undo_22
    rw [if_neg (show ¬ nI 1026 < am_int 1026 from pu_nlt (Nat.le_refl _) (by decide)), pu_cp_n1 (by decide), h8]
  | d + 1, n + 1, k, h1, h2 => by
    have e1 : (am_int 1026 : Int32) * nI u + nI k = nI (1026 * u + k) := by
      rw [← nI_add, ← pu_mul]; rfl
    have ih := pu_u22 hu h8 d n (k + 1) (by omega) (by omega)
    unfold D_X8_undo_22
    rw [if_pos (show nI k < am_int 1026 from pu_lt (b := 1026) (by omega) (by decide)), pu_cp_n1 (by decide), h8, e1, pu_chk (by omega) (by decide), pu_chk (by omega) (by decide), nI_clamp (by omega), nI_clamp (by omega), pu_cp_n1 (by decide), nI_1]
    have := pu_cp_step (f := f) (a := 96) (b := 95) (s := 1026 * u) (d := 0) (k := k)
    rw [Nat.zero_add] at this
    rw [this]
    exact ih
theorem pu_kp13 {f : am_M} {u : Nat} (hu : u < 2) : ∀ d n k, k + d = 1026 → d < n → D_X8_keep_13 n (nI u) (nI k) (am_cp f 95 97 0 (1026 * u) k) = some (f 95 0, am_wr (am_cp f 95 97 0 (1026 * u) 1026) 98 u 1)
  | d, 0, k, h1, h2 => absurd h2 (by omega)
  | 0, n + 1, k, h1, h2 => by
    have : k = 1026 := by omega
    subst this
    unfold D_X8_keep_13
    rw [if_neg (show ¬ nI 1026 < am_int 1026 from pu_nlt (Nat.le_refl _) (by decide)), pu_chk hu (by decide), pu_cp_n1 (by decide), nI_clamp (by omega)]
  | d + 1, n + 1, k, h1, h2 => by
    have e1 : (am_int 1026 : Int32) * nI u + nI k = nI (1026 * u + k) := by
      rw [← nI_add, ← pu_mul]; rfl
    have ih := pu_kp13 (f := f) hu d n (k + 1) (by omega) (by omega)
    unfold D_X8_keep_13
    rw [if_pos (show nI k < am_int 1026 from pu_lt (b := 1026) (by omega) (by decide)), pu_chk (by omega) (by decide), e1, pu_chk (by omega) (by decide), nI_clamp (by omega), nI_clamp (by omega), pu_cp_n1 (by decide), nI_1]
    have := pu_cp_step (f := f) (a := 95) (b := 97) (s := 0) (d := 1026 * u) (k := k)
    rw [Nat.zero_add] at this
    rw [this]
    exact ih
theorem pu_bk25 {f : am_M} {u : Nat} (hu : u < 2) : ∀ d n k, k + d = 1026 → d < n → D_X8_back_25 n (nI u) (nI k) (am_cp f 97 95 (1026 * u) 0 k) = some (f 97 (1026 * u), am_wr (am_cp f 97 95 (1026 * u) 0 1026) 91 8 0)
  | d, 0, k, h1, h2 => absurd h2 (by omega)
  | 0, n + 1, k, h1, h2 => by
    have : k = 1026 := by omega
    subst this
    unfold D_X8_back_25
    rw [if_neg (show ¬ nI 1026 < am_int 1026 from pu_nlt (Nat.le_refl _) (by decide)), show am_cp f 97 95 (1026 * u) 0 1026 95 0 = f 97 (1026 * u) by simp [am_cp]]
  | d + 1, n + 1, k, h1, h2 => by
    have e1 : (am_int 1026 : Int32) * nI u + nI k = nI (1026 * u + k) := by
      rw [← nI_add, ← pu_mul]; rfl
    have ih := pu_bk25 (f := f) hu d n (k + 1) (by omega) (by omega)
    unfold D_X8_back_25
    rw [if_pos (show nI k < am_int 1026 from pu_lt (b := 1026) (by omega) (by decide)), e1, pu_chk (by omega) (by decide), pu_chk (by omega) (by decide), nI_clamp (by omega), nI_clamp (by omega), pu_cp_n1 (by decide), nI_1]
    have := pu_cp_step (f := f) (a := 97) (b := 95) (s := 1026 * u) (d := 0) (k := k)
    rw [Nat.zero_add] at this
    rw [this]
    exact ih
end KP
theorem pu_reopen {p c : Nat} {ev : Nat → Nat × Nat × Nat} {f : am_M} (h0 : f p 2 = nI c) (hc : c ≤ 999) (o : Option Nat) (ho : ∀ k, o = some k → k < c ∧ (ev k).1 ≤ 2 ∧ (ev k).2.1 < 3 ∧ (ev k).2.2 ≤ 99 ∧ f (p + 6) k = pu_ce (ev k)) : ∃ f', D_X4_reopen p 999 (pu_cd o) f = some f' ∧ (∀ q, q ≠ p + 6 → f' q = f q) ∧ ∀ k, f' (p + 6) k = if o = some k then pu_ce (0, (ev k).2.1, 0) else f (p + 6) k := by
  cases o with
  | none => exact ⟨f, by unfold D_X4_reopen; rw [pu_hasNoEvent h0 (Or.inl (by decide)), pu_bI, pu_i00], fun _ _ => rfl, fun k => by simp⟩
  | some k =>
    obtain ⟨h1, h2, h3, h4, h5⟩ := ho k rfl
    refine ⟨am_wr f (p + 6) k (nI (ev k).2.1), ?_, fun q hq => am_wr_ne q hq, fun j => ?_⟩
    · unfold D_X4_reopen D_X4_makerOf
      show am_bI (D_X4_hasEvent p 999 (nI k) f) _ = _
      rw [pu_hasEvent h0 h1 hc, pu_bI, pu_i10]
      show am_bI (am_chk (nI k) 999 (some (f (p + 6) (nI k).toNatClampNeg &&& 3, f))) (fun v2 f2 => am_chk (nI k) 999 (some (am_wr f2 (p + 6) (nI k).toNatClampNeg v2))) = _
      rw [pu_chk (by omega) (by decide), pu_bI, pu_chk (by omega) (by decide), nI_clamp (by omega), h5]
      unfold pu_ce
      rw [(pu_ces _ (show (ev k).1 < 3 by omega) _ h3 _ (show (ev k).2.2 < 100 by omega)).1]
    · rw [pu_wr_u]
      by_cases e : j = k
      · subst e; simp [upd, pu_ce]
      · have : ¬ k = j := fun q => e q.symm
        simp [upd, e, this]
theorem pu_undo {f : am_M} (h : pu_R f) : pu_Go D_X7_undo D_X8_undo f := by
  obtain ⟨T, X, N, P, I0, I1, Z, hV, hC, hM⟩ := id h
  obtain ⟨hT, hX, hS, ⟨hCh, hPl, hP⟩, hI0, hI1, hZ⟩ := hV
  cases P with
  | nil =>
    refine pu_same (r := -2) h ?_ ?_
    · unfold D_X7_undo D_X2_restore
      rw [hC.2.2.2.1.1, if_pos (show nI (List.length ([] : List (pu_S × Option Nat))) = 0 from rfl), pu_bI, pu_i00]
    · unfold D_X8_undo
      rw [hM.2.2.2.1.1, if_pos (show nI (List.length ([] : List (pu_S × Option Nat))) = 0 from rfl)]
  | cons x P =>
    obtain ⟨O, c⟩ := x
    obtain ⟨ch1, ch2, ch3, ch4⟩ := hCh
    have hO := hP (O, c) (by simp)
    have hOB := hO.B hT
    have hNc := hS.cl
    have hl1 : P.length + 1 ≤ 6 := by simpa using hPl
    obtain ⟨a1, a2, a3, ⟨a4, a5, la, a6, a7, a8⟩, ⟨a9, a10⟩, a11⟩ := hC
    obtain ⟨b0, b0'⟩ := a8 0 (O, c) rfl
    have ep : pu_pl la 0 = la := by unfold pu_pl; omega
    rw [ep] at b0 b0'
    obtain ⟨f1, x1, x2, x3, x4, x5⟩ := pu_copy (p := 11) (e := 999) (q := 21 + 7 * la) (d := 0) (by omega) (by omega) (by omega) b0 hOB.1 hOB.2
    have x5' : ∀ k, f1 17 k = f 17 k := fun k => x5 k (by omega)
    have hE : ∀ k, c = some k → k < pu_cl O ∧ (pu_ev N k).1 ≤ 2 ∧ (pu_ev N k).2.1 < 3 ∧ (pu_ev N k).2.2 ≤ 99 ∧ f1 (11 + 6) k = pu_ce (pu_ev N k) := fun k hk => by
      have h1 := ch3 k hk
      obtain ⟨c1, c2, c3, _⟩ := hS.2.1 k (by omega)
      exact ⟨h1, c1, c2, c3, by show f1 17 k = _; rw [x5' k]; exact a3.2 k (by omega)⟩
    obtain ⟨f2, y1, y2, y3⟩ := pu_reopen (p := 11) (ev := pu_ev N) x3.1 hOB.1 c hE
    have z2 : ∀ q, q < 11 ∨ 17 < q → f2 q = f q := fun q hq => by rw [y2 q (by omega), x2 q (by omega)]
    have fo : ∀ q, (q < 11 ∨ 17 < q) → q ≠ 18 → am_wr (am_wr f2 18 2 (nI ((la + 5) % 6))) 18 3 (nI P.length) q = f q := fun q h1 h2 => by
      rw [am_wr_ne q h2, am_wr_ne q h2, z2 q h1]
    have hV' : pu_V T X O P I0 I1 Z := ⟨hT, hX, hO, ⟨ch4, by omega, fun q hq => hP q (by simp [hq])⟩, hI0, hI1, hZ⟩
    refine pu_join (r := nI P.length) (f1 := am_wr (am_wr f2 18 2 (nI ((la + 5) % 6))) 18 3 (nI P.length)) hV' ?_ (fun q hq => fo q (by omega) (by omega)) ?_ hM (fun g hg => ?_)
    · unfold D_X7_undo D_X2_restore
      rw [a4, if_neg (nI_ne0 (by simp) (by simp; omega)), a7, pu_chk a6 (by decide)]
      have w := pu_six a6 (fun p => am_bV (D_X4_copyFrom 11 999 p 0 f) fun f1 => am_chk (f1 18 2) 6 (am_bV (D_X4_reopen 11 999 (f1 20 (f1 18 2).toNatClampNeg) f1) fun f2 => some ((1 : Int32), (am_wr (am_wr f2 18 2 ((((f2 18 2) + 6) - 1) - (((f2 18 2) + 6) - 1) / 6 * 6)) 18 3 ((f2 18 3) - 1)))))
      have w2 : am_bV (D_X4_copyFrom 11 999 (21 + 7 * la) 0 f) (fun f1 => am_chk (f1 18 2) 6 (am_bV (D_X4_reopen 11 999 (f1 20 (f1 18 2).toNatClampNeg) f1) fun f2 => some ((1 : Int32), (am_wr (am_wr f2 18 2 ((((f2 18 2) + 6) - 1) - (((f2 18 2) + 6) - 1) / 6 * 6)) 18 3 ((f2 18 3) - 1))))) = some (1, am_wr (am_wr f2 18 2 (nI ((la + 5) % 6))) 18 3 (nI P.length)) := by
        rw [x1, pu_bV, x2 18 (by omega), a7, pu_chk a6 (by decide), nI_clamp (by omega), x2 20 (by omega), b0', y1, pu_bV, z2 18 (by omega), a7, a4, pu_mod6b la a6]
        show some ((1 : Int32), am_wr _ 18 3 (nI (P.length + 1) - 1)) = _
        rw [nI_pred]
      refine (congrArg (fun z => am_bI z _) (w.trans w2)).trans ?_
      show am_bI (some (1, _)) _ = _
      rw [pu_bI, pu_i10, pu_wr_eq]
    · refine ⟨pu_frT (fun q h1 h2 => fo q (by omega) (by omega)) a1, pu_fcX (fun q h1 h2 => fo q (by omega) (by omega)) a2, ⟨?_, fun k hk => ?_⟩, ⟨pu_wr_eq, by omega, (la + 5) % 6, by omega, by rw [pu_wr_n2 (by decide), pu_wr_eq], fun i q hq => ?_⟩, ⟨pu_frI rfl (fun q h1 h2 => fo q (by omega) (by omega)) a9, pu_frI rfl (fun q h1 h2 => fo q (by omega) (by omega)) a10⟩, pu_fcZ (fun q h1 h2 => fo q (by omega) (by omega)) a11⟩
      · refine pu_frS (f := f1) (fun q h1 h2 => ?_) x3
        rw [am_wr_ne q (by omega), am_wr_ne q (by omega), y2 q (by omega)]
      · rw [pu_wr_n1 (by decide), pu_wr_n1 (by decide), show f2 17 k = _ from y3 k, ch2 k hk]
        by_cases e : c = some k
        · rw [if_pos e, if_pos e]
        · rw [if_neg e, if_neg e]
          show f1 17 k = _
          rw [x5' k]
          exact a3.2 k (by omega)
      · have hi : i < P.length := by
          rcases Nat.lt_or_ge i P.length with h | h
          · exact h
          · rw [List.getElem?_eq_none h] at hq; simp at hq
        have e0 : pu_pl ((la + 5) % 6) i = pu_pl la (i + 1) := by unfold pu_pl; omega
        have e2 := pu_pl_lt la (i + 1)
        rw [e0]
        obtain ⟨h1, h2⟩ := a8 (i + 1) q (by simpa using hq)
        refine ⟨pu_frS (fun r h1 h2 => fo r (by omega) (by omega)) h1, ?_⟩
        rw [fo 20 (by omega) (by omega)]
        exact h2
    · obtain ⟨m1, m2, m3, ⟨m4, m5⟩, ⟨m6, m7⟩, m8⟩ := hg
      have m4' : g 91 8 = nI (P.length + 1) := m4
      have hk := pu_u22 (f := am_wr g 91 8 (nI P.length)) (u := P.length) (by omega) pu_wr_eq 1026 am_fu 0 (by decide) (by decide)
      rw [pu_cp_0] at hk
      have fo : ∀ q, q ≠ 95 → q ≠ 91 → am_cp (am_wr g 91 8 (nI P.length)) 96 95 (1026 * P.length) 0 1026 q = g q := fun q h1 h2 => by rw [am_cp_ne q h1, am_wr_ne q h2]
      have fo1 : ∀ k, k ≠ 8 → am_cp (am_wr g 91 8 (nI P.length)) 96 95 (1026 * P.length) 0 1026 91 k = g 91 k := fun k hk => by rw [pu_cp_n1 (by decide), pu_wr_n2 hk]
      refine ⟨_, ?_, fun q hq => fo q (by omega) (by omega), pu_fmT (fo1 0 (by decide)) (fo1 1 (by decide)) (fo1 3 (by decide)) (fun q h1 h2 => fo q (by omega) (by omega)) m1, pu_fmX (fo1 15 (by decide)) (fo 101 (by decide) (by decide)) m2, ?_, ⟨by rw [pu_cp_n1 (by decide), pu_wr_eq], fun i q hq => ?_⟩, ⟨pu_fmI (fo 97 (by decide) (by decide)) (fo 98 (by decide) (by decide)) m6, pu_fmI (fo 97 (by decide) (by decide)) (fo 98 (by decide) (by decide)) m7⟩, pu_fmZ (fo1 11 (by decide)) (fo 99 (by decide) (by decide)) (fo 100 (by decide) (by decide)) m8⟩
      · unfold D_X8_undo
        rw [m4', if_neg (nI_ne0 (by omega) (by omega)), nI_pred]
        exact hk
      · refine (m5 0 (O, c) rfl).cg hOB.1 hOB.2 (fun k hk => ?_)
        show _ = g 96 (1026 * (P.length + 1 - 1 - 0) + k)
        rw [show P.length + 1 - 1 - 0 = P.length by omega, ← am_wr_ne (f := g) (p := 91) (k := 8) (x := nI P.length) 96 (by decide)]
        simp [am_cp, hk]
      · rw [fo 96 (by decide) (by decide)]
        have := m5 (i + 1) q (by simpa using hq)
        show pu_Sm q.1 (fun k => g 96 (1026 * (P.length - 1 - i) + k))
        have e : P.length - 1 - i = P.length + 1 - 1 - (i + 1) := by omega
        rw [e]
        exact this
