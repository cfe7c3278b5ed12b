/-! copies of standings: remember, undo, keep, back -/
theorem pu_min {a b : Nat} {f : am_M} (ha : a < 2 ^ 31) (hb : b < 2 ^ 31) : D_J9_min_7cf53 (nI a) (nI b) f = some (nI (min a b), f) := by
  unfold D_J9_min_7cf53
  by_cases h : b < a
  · rw [if_pos (pu_lt h ha), Nat.min_eq_right (by omega)]
  · rw [if_neg (pu_nlt (by omega) (by omega)), Nat.min_eq_left (by omega)]
theorem pu_cp_in {f : am_M} {a p n k : Nat} (h : k < n) : am_cp f a p 0 0 n p k = f a k := by simp [am_cp, h]
theorem pu_copy {p e q d : Nat} {S : pu_S} {f : am_M} (hpq : p + 6 < q ∨ q + 6 < p) (he : e ≤ 999) (hd : d ≤ 999) (hF : pu_Sf S f q) (hc : pu_cl S ≤ 999) (hl : (pu_rw S).length ≤ 3) : ∃ f', D_X4_copyFrom p e q d f = some f' ∧ (∀ r, r < p ∨ p + 6 < r → f' r = f r) ∧ pu_Sf S f' p ∧ (∀ k, k < min (min e d) (pu_cl S) → f' (p + 6) k = f (q + 6) k) ∧ (∀ k, min (min e d) (pu_cl S) ≤ k → f' (p + 6) k = f (p + 6) k) := by
  obtain ⟨g, hg⟩ : ∃ g, g = am_cp (am_cp (am_cp (am_cp (am_cp (am_wr (am_wr (am_wr f p 2 (f q 2)) p 3 (f q 3)) p 9 (f q 9)) (q + 1) (p + 1) 0 0 6) (q + 2) (p + 2) 0 0 6) (q + 3) (p + 3) 0 0 6) (q + 4) (p + 4) 0 0 3) (q + 5) (p + 5) 0 0 3 := ⟨_, rfl⟩
  have g2 : g p 2 = nI (pu_cl S) := by
    rw [hg, pu_cp_n1 (by omega), pu_cp_n1 (by omega), pu_cp_n1 (by omega), pu_cp_n1 (by omega), pu_cp_n1 (by omega), pu_wr_n2 (by decide), pu_wr_n2 (by decide), pu_wr_eq]
    exact hF.1
  have g3 : g p 3 = f q 3 := by
    rw [hg, pu_cp_n1 (by omega), pu_cp_n1 (by omega), pu_cp_n1 (by omega), pu_cp_n1 (by omega), pu_cp_n1 (by omega), pu_wr_n2 (by decide), pu_wr_eq]
  have g9 : g p 9 = f q 9 := by
    rw [hg, pu_cp_n1 (by omega), pu_cp_n1 (by omega), pu_cp_n1 (by omega), pu_cp_n1 (by omega), pu_cp_n1 (by omega), pu_wr_eq]
  have r1 : ∀ k, k < 6 → g (p + 1) k = f (q + 1) k := fun k hk => by
    rw [hg, pu_cp_n1 (by omega), pu_cp_n1 (by omega), pu_cp_n1 (by omega), pu_cp_n1 (by omega), pu_cp_in hk, pu_wr_n1 (by omega), pu_wr_n1 (by omega), pu_wr_n1 (by omega)]
  have r2 : ∀ k, k < 6 → g (p + 2) k = f (q + 2) k := fun k hk => by
    rw [hg, pu_cp_n1 (by omega), pu_cp_n1 (by omega), pu_cp_n1 (by omega), pu_cp_in hk, pu_cp_n1 (by omega), pu_wr_n1 (by omega), pu_wr_n1 (by omega), pu_wr_n1 (by omega)]
  have r3 : ∀ k, k < 6 → g (p + 3) k = f (q + 3) k := fun k hk => by
    rw [hg, pu_cp_n1 (by omega), pu_cp_n1 (by omega), pu_cp_in hk, pu_cp_n1 (by omega), pu_cp_n1 (by omega), pu_wr_n1 (by omega), pu_wr_n1 (by omega), pu_wr_n1 (by omega)]
  have r4 : ∀ k, k < 3 → g (p + 4) k = f (q + 4) k := fun k hk => by
    rw [hg, pu_cp_n1 (by omega), pu_cp_in hk, pu_cp_n1 (by omega), pu_cp_n1 (by omega), pu_cp_n1 (by omega), pu_wr_n1 (by omega), pu_wr_n1 (by omega), pu_wr_n1 (by omega)]
  have r5 : ∀ k, k < 3 → g (p + 5) k = f (q + 5) k := fun k hk => by
    rw [hg, pu_cp_in hk, pu_cp_n1 (by omega), pu_cp_n1 (by omega), pu_cp_n1 (by omega), pu_cp_n1 (by omega), pu_wr_n1 (by omega), pu_wr_n1 (by omega), pu_wr_n1 (by omega)]
  have ro : ∀ r, r < p ∨ p + 5 < r → g r = f r := fun r hr => by
    rw [hg, am_cp_ne r (by omega), am_cp_ne r (by omega), am_cp_ne r (by omega), am_cp_ne r (by omega), am_cp_ne r (by omega), am_wr_ne r (by omega), am_wr_ne r (by omega), am_wr_ne r (by omega)]
  have hm : min (min e d) (pu_cl S) ≤ 999 := by omega
  refine ⟨am_cp g (q + 6) (p + 6) 0 0 (min (min e d) (pu_cl S)), ?_, ?_, ?_, ?_, ?_⟩
  · unfold D_X4_copyFrom
    rw [← hg, show Int32.ofNat e = nI e from rfl, show Int32.ofNat d = nI d from rfl, pu_min (by omega) (by omega), pu_bI, g2, pu_min (by omega) (by omega), pu_bI, if_neg (nI_pos (by omega)), nI_clamp (by omega), if_pos (by omega), if_pos (by omega)]
  · intro r hr
    rw [am_cp_ne r (by omega), ro r (by omega)]
  · refine ⟨?_, ?_, ?_, ?_, ?_, ?_, ?_, ?_⟩
    · rw [pu_cp_n1 (by omega)]; exact g2
    · rw [pu_cp_n1 (by omega), g3]; exact hF.2.1
    · rw [pu_cp_n1 (by omega), g9]; exact hF.2.2.1
    · intro t ht; rw [pu_cp_n1 (by omega), r1 t ht]; exact hF.2.2.2.1 t ht
    · intro t ht; rw [pu_cp_n1 (by omega), r2 t ht]; exact hF.2.2.2.2.1 t ht
    · intro t ht; rw [pu_cp_n1 (by omega), r3 t ht]; exact hF.2.2.2.2.2.1 t ht
    · intro i x hx
      have hi : i < 3 := by
        rcases Nat.lt_or_ge i (pu_rw S).length with h | h
        · omega
        · rw [List.getElem?_eq_none h] at hx; simp at hx
      rw [pu_cp_n1 (by omega), r4 i hi]; exact hF.2.2.2.2.2.2.1 i x hx
    · intro m hm; rw [pu_cp_n1 (by omega), r5 m hm]; exact hF.2.2.2.2.2.2.2 m hm
  · intro k hk
    rw [pu_cp_in hk, ro _ (by omega)]
  · intro k hk
    rw [← ro (p + 6) (by omega)]
    simp [am_cp]
    intro h
    omega
theorem pu_six {α : Type} {k : Nat} (hk : k < 6) (F : Nat → Option α) : am_six (nI k) (F 21) (F 28) (F 35) (F 42) (F 49) (F 56) = F (21 + 7 * k) := by
  have : k = 0 ∨ k = 1 ∨ k = 2 ∨ k = 3 ∨ k = 4 ∨ k = 5 := by omega
  rcases this with rfl | rfl | rfl | rfl | rfl | rfl <;> rfl
theorem pu_mod6 : ∀ a, a < 6 → (nI a + 1) - (nI a + 1) / 6 * 6 = nI ((a + 1) % 6) := by decide +kernel
theorem pu_mod6b : ∀ a, a < 6 → ((nI a + 6) - 1) - ((nI a + 6) - 1) / 6 * 6 = nI ((a + 5) % 6) := by decide +kernel
section CP
variable {T : pu_T} {X : Nat × (Nat → Int32)} {N : pu_S} {P : List (pu_S × Option Nat)} {I0 I1 : Option pu_S} {Z : Nat × (Nat → Nat) × (Nat → Int32)} {f : am_M}
theorem pu_remember (hC : pu_C T X N P I0 I1 Z f) (hcl : pu_cl N ≤ 999) (hl : (pu_rw N).length ≤ 3) (c : Option Nat) : ∃ f', D_X2_remember (pu_cd c) f = some f' ∧ (∀ q, q < 18 ∨ 62 < q → f' q = f q) ∧ pu_C T X N (((N, c) :: P).take 6) I0 I1 Z f' := by
  obtain ⟨a1, a2, a3, ⟨a4, a5, la, a6, a7, a8⟩, ⟨a9, a10⟩, a11⟩ := hC
  obtain ⟨l, hl'⟩ : ∃ l, l = (la + 1) % 6 := ⟨_, rfl⟩
  have hl6 : l < 6 := by omega
  have hN : pu_Sf N (am_wr f 18 2 (nI l)) 11 := pu_frS (pu_g.refl.wr (by decide)) a3.1
  obtain ⟨f1, x1, x2, x3, _, _⟩ := pu_copy (p := 21 + 7 * l) (e := 0) (q := 11) (d := 999) (by omega) (by omega) (by omega) hN hcl hl
  have y18 : f1 18 = am_wr f 18 2 (nI l) 18 := x2 18 (by omega)
  have y2 : f1 18 2 = nI l := by rw [y18, pu_wr_eq]
  have y3 : f1 18 3 = nI P.length := by rw [y18, pu_wr_n2 (by decide)]; exact a4
  have fo : ∀ q, q ≠ 18 → q ≠ 20 → (q < 21 + 7 * l ∨ 21 + 7 * l + 6 < q) → am_wr (am_wr f1 20 l (pu_cd c)) 18 3 (nI (min (P.length + 1) 6)) q = f q := fun q h1 h2 h3 => by
    rw [am_wr_ne q h1, am_wr_ne q h2, x2 q h3, am_wr_ne q h1]
  refine ⟨am_wr (am_wr f1 20 l (pu_cd c)) 18 3 (nI (min (P.length + 1) 6)), ?_, fun q hq => fo q (by omega) (by omega) (by omega), ?_⟩
  · unfold D_X2_remember
    rw [a7, pu_mod6 la a6, ← hl', pu_chk hl6 (by decide)]
    refine (pu_six hl6 (fun p => am_bV (D_X4_copyFrom p 0 11 999 (am_wr f 18 2 (nI l))) fun f1 => am_chk (f1 18 2) 6 (am_bI (D_J9_min_7cf53 ((f1 18 3) + 1) 6 (am_wr f1 20 (f1 18 2).toNatClampNeg (pu_cd c))) fun v2 f2 => some (am_wr f2 18 3 v2)))).trans ?_
    show am_bV (D_X4_copyFrom (21 + 7 * l) 0 11 999 (am_wr f 18 2 (nI l))) _ = _
    have e6 : D_J9_min_7cf53 (nI (P.length + 1)) 6 (am_wr f1 20 l (pu_cd c)) = _ := pu_min (b := 6) (by omega) (by decide)
    rw [x1, pu_bV, y2, pu_chk hl6 (by decide), y3, nI_clamp (by omega), nI_1, e6, pu_bI]
  · have hlen : (((N, c) :: P).take 6).length = min (P.length + 1) 6 := by simp; omega
    refine ⟨pu_frT (fun q h1 h2 => fo q (by omega) (by omega) (by omega)) a1, pu_fcX (fun q h1 h2 => fo q (by omega) (by omega) (by omega)) a2, pu_frN (fun q h1 h2 => fo q (by omega) (by omega) (by omega)) a3, ⟨?_, by rw [hlen]; omega, l, hl6, ?_, fun i q hq => ?_⟩, ⟨pu_frI rfl (fun q h1 h2 => fo q (by omega) (by omega) (by omega)) a9, pu_frI rfl (fun q h1 h2 => fo q (by omega) (by omega) (by omega)) a10⟩, pu_fcZ (fun q h1 h2 => fo q (by omega) (by omega) (by omega)) a11⟩
    · rw [pu_wr_eq, hlen]
    · rw [pu_wr_n2 (by decide), pu_wr_n1 (by decide), y2]
    · have hi6 : i < 6 := by
        rcases Nat.lt_or_ge i 6 with h | h
        · exact h
        · rw [List.getElem?_eq_none (by rw [hlen]; omega)] at hq; simp at hq
      rw [List.getElem?_take_of_lt hi6] at hq
      cases i with
      | zero =>
        simp at hq
        subst hq
        have e0 : pu_pl l 0 = l := by unfold pu_pl; omega
        rw [e0]
        refine ⟨pu_frS (f := f1) (fun q h1 h2 => ?_) x3, ?_⟩
        · rw [am_wr_ne q (by omega), am_wr_ne q (by omega)]
        · rw [pu_wr_n1 (by decide), pu_wr_eq]
      | succ j =>
        simp at hq
        have e0 : pu_pl l (j + 1) = pu_pl la j := by unfold pu_pl; omega
        have e1 : pu_pl la j ≠ l := by unfold pu_pl; omega
        have e2 := pu_pl_lt la j
        rw [e0]
        obtain ⟨h1, h2⟩ := a8 j q hq
        refine ⟨pu_frS (fun r h1 h2 => fo r (by omega) (by omega) (by omega)) h1, ?_⟩
        rw [pu_wr_n1 (by decide), pu_wr_n2 e1, x2 20 (by omega), am_wr_ne _ (by decide)]
        exact h2
end CP
/-! the model's copies -/
theorem pu_cp_step {f : am_M} {a b s d k : Nat} : am_wr (am_cp f a b s d k) b (d + k) (f a (s + k)) = am_cp f a b s d (k + 1) := by
  funext p j
  unfold am_wr am_cp
  by_cases hp : p = b
  · rw [if_pos hp, if_pos hp, if_pos hp]
    by_cases hj : j = d + k
    · rw [if_pos hj, if_pos (by omega), hj, show s + (d + k - d) = s + k by omega]
    · rw [if_neg hj]
      by_cases h : d ≤ j ∧ j < d + k
      · rw [if_pos h, if_pos (by omega)]
      · rw [if_neg h, if_neg (by omega)]
  · rw [if_neg hp, if_neg hp, if_neg hp]
theorem pu_cp_0 {f : am_M} {a b s d : Nat} : am_cp f a b s d 0 = f := by
  funext p j
  unfold am_cp
  by_cases hp : p = b
  · rw [if_pos hp, if_neg (by omega)]
  · rw [if_neg hp]
theorem pu_mul (a b : Nat) : nI a * nI b = nI (a * b) := (Int32.ofNat_mul a b).symm
theorem pu_k52 {f : am_M} {u : Nat} (hu : u < 6) (h8 : f 91 8 = nI u) : ∀ d n k, k + d = 1026 → d < n → D_X8_keeps_52 n (nI k) (am_cp f 95 96 0 (1026 * u) k) = some (am_wr (am_cp f 95 96 0 (1026 * u) 1026) 91 8 (nI (u + 1)))
  | d, 0, k, h1, h2 => absurd h2 (by omega)
  | 0, n + 1, k, h1, h2 => by
    have : k = 1026 := by omega
    subst this
    unfold D_X8_keeps_52
    rw [if_neg (show ¬ nI 1026 < am_int 1026 from pu_nlt (Nat.le_refl _) (by decide)), pu_cp_n1 (by decide), h8, nI_1]
  | d + 1, n + 1, k, h1, h2 => by
    have e1 : (am_int 1026 : Int32) * nI u + nI k = nI (1026 * u + k) := by
      rw [← nI_add, ← pu_mul]; rfl
    have ih := pu_k52 hu h8 d n (k + 1) (by omega) (by omega)
    unfold D_X8_keeps_52
    rw [if_pos (show nI k < am_int 1026 from pu_lt (b := 1026) (by omega) (by decide)), pu_chk (by omega) (by decide), pu_cp_n1 (by decide), h8, e1, pu_chk (by omega) (by decide), nI_clamp (by omega), nI_clamp (by omega), pu_cp_n1 (by decide), nI_1]
    have := pu_cp_step (f := f) (a := 95) (b := 96) (s := 0) (d := 1026 * u) (k := k)
    rw [Nat.zero_add] at this
    rw [this]
    exact ih
theorem pu_k11 {f : am_M} (h8 : f 91 8 = 6) : ∀ d n k, k + d = 5130 → d < n → D_X8_keeps_11 n (nI k) (am_cp f 96 96 1026 0 k) = D_X8_keeps_52 am_fu 0 (am_wr (am_cp f 96 96 1026 0 5130) 91 8 5)
  | d, 0, k, h1, h2 => absurd h2 (by omega)
  | 0, n + 1, k, h1, h2 => by
    have : k = 5130 := by omega
    subst this
    unfold D_X8_keeps_11
    rw [if_neg (show ¬ nI 5130 < am_int 5130 from pu_nlt (Nat.le_refl _) (by decide)), pu_cp_n1 (by decide), h8]
    rfl
  | d + 1, n + 1, k, h1, h2 => by
    have e1 : nI k + (am_int 1026 : Int32) = nI (1026 + k) := by rw [Nat.add_comm, ← nI_add]; rfl
    have ih := pu_k11 h8 d n (k + 1) (by omega) (by omega)
    have e2 : am_cp f 96 96 1026 0 k 96 (1026 + k) = f 96 (1026 + k) := by simp [am_cp]; intro h; omega
    unfold D_X8_keeps_11
    rw [if_pos (show nI k < am_int 5130 from pu_lt (b := 5130) (by omega) (by decide)), e1, pu_chk (by omega) (by decide), pu_chk (by omega) (by decide), nI_clamp (by omega), nI_clamp (by omega), nI_1, e2]
    have := pu_cp_step (f := f) (a := 96) (b := 96) (s := 1026) (d := 0) (k := k)
    rw [Nat.zero_add] at this
    rw [this]
    exact ih
theorem pu_Sm.cg {S : pu_S} {g g' : Nat → Int32} (h : pu_Sm S g) (hc : pu_cl S ≤ 999) (hl : (pu_rw S).length ≤ 3) (e : ∀ k, k < 1026 → g' k = g k) : pu_Sm S g' := by
  obtain ⟨a1, a2, a3, a4, a5, a6, a7⟩ := h
  refine ⟨by rw [e _ (by omega)]; exact a1, by rw [e _ (by omega)]; exact a2, fun t ht => by rw [e _ (by omega)]; exact a3 t ht, fun t ht => by rw [e _ (by omega)]; exact a4 t ht, fun t ht => by rw [e _ (by omega)]; exact a5 t ht, fun i q hq => ?_, fun k hk => by rw [e _ (by omega)]; exact a7 k hk⟩
  have hi : i < 3 := by
    rcases Nat.lt_or_ge i (pu_rw S).length with h | h
    · omega
    · rw [List.getElem?_eq_none h] at hq; simp at hq
  rw [e _ (by omega), e _ (by omega)]
  exact a6 i q hq
