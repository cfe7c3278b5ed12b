/-! the model lays its course -/
theorem pu_ml23 {x : Int32} : ∀ d fu i (f : am_M), i + d = 3 → d < fu → ∃ f', D_X8_laysRule_23 fu x (nI i) f = D_X8_laysRule_66 am_fu x 0 f' ∧ (∀ q, q ≠ 109 → q ≠ 110 → f' q = f q) ∧ (∀ j, i ≤ j → j < 3 → f' 109 j = f 95 (20 + j) ∧ f' 110 j = f 95 (23 + j)) ∧ (∀ j, j < i → f' 109 j = f 109 j ∧ f' 110 j = f 110 j)
  | d, 0, i, f, _, h => absurd h (by omega)
  | 0, fu + 1, i, f, h1, h2 => by
    have : i = 3 := by omega
    subst this
    refine ⟨f, ?_, fun _ _ _ => rfl, fun t a b => absurd b (by omega), fun _ _ => ⟨rfl, rfl⟩⟩
    rw [D_X8_laysRule_23, if_neg (show ¬ nI 3 < 3 from pu_nlt (b := 3) (Nat.le_refl _) (by decide))]
  | d + 1, fu + 1, i, f, h1, h2 => by
    have e1 : (20 : Int32) + nI i = nI (20 + i) := nI_add 20 i
    have e2 : (23 : Int32) + nI i = nI (23 + i) := nI_add 23 i
    obtain ⟨f', y1, y2, y3, y4⟩ := pu_ml23 (x := x) d fu (i + 1) (am_wr (am_wr f 109 i (f 95 (20 + i))) 110 i (f 95 (23 + i))) (by omega) (by omega)
    refine ⟨f', ?_, fun q a b => by rw [y2 q a b, am_wr_ne q b, am_wr_ne q a], fun j a b => ?_, fun j hj => ?_⟩
    · rw [D_X8_laysRule_23, if_pos (show nI i < 3 from pu_lt (b := 3) (by omega) (by decide)), e1, e2, pu_chk (by omega) (by decide), pu_chk (by omega) (by decide), pu_chk (by omega) (by decide), pu_chk (by omega) (by decide), nI_clamp (by omega), nI_clamp (by omega), nI_clamp (by omega), nI_1]
      exact y1
    · by_cases e : j = i
      · subst e
        obtain ⟨z1, z2⟩ := y4 j (by omega)
        exact ⟨by rw [z1, pu_wr_n1 (by decide), pu_wr_eq], by rw [z2, pu_wr_eq]⟩
      · obtain ⟨z1, z2⟩ := y3 j (by omega) b
        exact ⟨by rw [z1, am_wr_ne _ (by decide), am_wr_ne _ (by decide)], by rw [z2, am_wr_ne _ (by decide), am_wr_ne _ (by decide)]⟩
    · obtain ⟨z1, z2⟩ := y4 j (by omega)
      exact ⟨by rw [z1, pu_wr_n1 (by decide), pu_wr_n2 (by omega)], by rw [z2, pu_wr_n2 (by omega), pu_wr_n1 (by decide)]⟩
theorem pu_ml66 {x : Int32} : ∀ d fu i (f : am_M), i + d = 6 → d < fu → ∃ f', D_X8_laysRule_66 fu x (nI i) f = am_bV (D_X8_saves 0 f') (fun f1 => D_X8_laysRule_99 am_fu x 1 f1) ∧ (∀ q, q ≠ 111 → f' q = f q) ∧ (∀ j, i ≤ j → j < 6 → f' 111 j = f 95 (1 + j)) ∧ (∀ j, j < i → f' 111 j = f 111 j)
  | d, 0, i, f, _, h => absurd h (by omega)
  | 0, fu + 1, i, f, h1, h2 => by
    have : i = 6 := by omega
    subst this
    refine ⟨f, ?_, fun _ _ => rfl, fun t a b => absurd b (by omega), fun _ _ => rfl⟩
    rw [D_X8_laysRule_66, if_neg (show ¬ nI 6 < 6 from pu_nlt (b := 6) (Nat.le_refl _) (by decide))]
  | d + 1, fu + 1, i, f, h1, h2 => by
    have e1 : (1 : Int32) + nI i = nI (1 + i) := nI_add 1 i
    obtain ⟨f', y1, y2, y3, y4⟩ := pu_ml66 (x := x) d fu (i + 1) (am_wr f 111 i (f 95 (1 + i))) (by omega) (by omega)
    refine ⟨f', ?_, fun q a => by rw [y2 q a, am_wr_ne q a], fun j a b => ?_, fun j hj => ?_⟩
    · rw [D_X8_laysRule_66, if_pos (show nI i < 6 from pu_lt (b := 6) (by omega) (by decide)), e1, pu_chk (by omega) (by decide), pu_chk (by omega) (by decide), nI_clamp (by omega), nI_clamp (by omega), nI_1]
      exact y1
    · by_cases e : j = i
      · subst e; rw [y4 j (by omega), pu_wr_eq]
      · rw [y3 j (by omega) b, am_wr_ne _ (by decide)]
    · rw [y4 j (by omega), pu_wr_n2 (by omega)]
theorem pu_KH.fr {T : pu_T} {N : pu_S} {k : Nat} {f f' : am_M} (h : pu_KH T N k f) (e : ∀ q, 105 ≤ q → q ≤ 108 → f' q = f q) : pu_KH T N k f' := fun j hj => by
  obtain ⟨a1, a2, a3, a4⟩ := h j hj
  exact ⟨by rw [e 105 (by decide) (by decide)]; exact a1, by rw [e 106 (by decide) (by decide)]; exact a2, fun t ht => by rw [e 107 (by decide) (by decide)]; exact a3 t ht, fun m hm => by rw [e 108 (by decide) (by decide)]; exact a4 m hm⟩
theorem pu_Km.fr {S : pu_S} {f f' : am_M} (h : pu_Km S f) (e0 : f' 91 29 = f 91 29) (e00 : f' 91 30 = f 91 30) (e : ∀ q, 109 ≤ q → q ≤ 111 → f' q = f q) : pu_Km S f' := by
  obtain ⟨a1, a2, a3, a4⟩ := h
  exact ⟨by rw [e0]; exact a1, by rw [e00]; exact a2, fun t ht => by rw [e 111 (by decide) (by decide)]; exact a3 t ht, fun i q hq => by rw [e 109 (by decide) (by decide), e 110 (by decide) (by decide)]; exact a4 i q hq⟩
/-- where a course may write -/
def pu_Lfr (f f' : am_M) : Prop := (∀ q, q < 105 → q ≠ 91 → f' q = f q) ∧ ∀ j, j ≠ 29 → j ≠ 30 → f' 91 j = f 91 j
theorem pu_Lfr.trans {f g h : am_M} (a : pu_Lfr f g) (b : pu_Lfr g h) : pu_Lfr f h := ⟨fun q h1 h2 => (b.1 q h1 h2).trans (a.1 q h1 h2), fun j h1 h2 => (b.2 j h1 h2).trans (a.2 j h1 h2)⟩
theorem pu_Lfr.T {T : pu_T} {f f' : am_M} (a : pu_Lfr f f') (h : pu_Tm T (f 91) (f 92) (f 93) (f 94)) : pu_Tm T (f' 91) (f' 92) (f' 93) (f' 94) := pu_fmT (a.2 0 (by decide) (by decide)) (a.2 1 (by decide) (by decide)) (a.2 3 (by decide) (by decide)) (fun q h1 h2 => a.1 q (by omega) (by omega)) h
theorem pu_Lfr.M {T : pu_T} {X : Nat × (Nat → Int32)} {N : pu_S} {P : List (pu_S × Option Nat)} {I0 I1 : Option pu_S} {Z : Nat × (Nat → Nat) × (Nat → Int32)} {f f' : am_M} (a : pu_Lfr f f') (hM : pu_M T X N P I0 I1 Z f) : pu_M T X N P I0 I1 Z f' := hM.cs (fun q h1 h2 => a.1 q (by omega) (by omega)) (fun k hk => a.2 k (by omega) (by omega))
theorem pu_Lfr.hi {f f' : am_M} (a : pu_Lfr f f') : pu_hi f f' := fun q hq => a.1 q (by omega) (by omega)
theorem pu_ml99 {T : pu_T} {N : pu_S} {k : Nat} (hT : pu_Tok T) (hS : pu_Sok T N) (hk : k ≤ 60) : ∀ d fu j (f : am_M), j + d = k → d < fu → pu_Tm T (f 91) (f 92) (f 93) (f 94) → pu_Km (pu_Kn T N j).1 f → pu_KH T N (j + 1) f → ∃ f', D_X8_laysRule_99 fu (nI k) (nI (j + 1)) f = some f' ∧ pu_Lfr f f' ∧ pu_KH T N (k + 1) f'
  | d, 0, j, f, _, h, _, _, _ => absurd h (by omega)
  | 0, fu + 1, j, f, h1, h2, h3, hF, hH => by
    have : j = k := by omega
    subst this
    refine ⟨f, ?_, ⟨fun _ _ _ => rfl, fun _ _ _ => rfl⟩, hH⟩
    rw [D_X8_laysRule_99, if_pos (pu_lt (by omega) (by omega))]
  | d + 1, fu + 1, j, f, h1, h2, h3, hF, hH => by
    obtain ⟨u, hu⟩ := pu_Kn_ok hT hS j
    obtain ⟨v, hv⟩ := pu_Kn_ok hT hS (j + 1)
    obtain ⟨f1, x1, x2, x3⟩ := pu_mTick hT (by omega) hu h3 hF
    obtain ⟨f2, y1, y2, y3⟩ := pu_mSave hT (by omega) hv (x2.T h3) x3 (hH.fr (fun q a b => x2.1 q (by omega) (by omega) (by omega) (by omega)))
    have l2 : pu_Lfr f f2 := ⟨fun q a b => by rw [y2 q (by omega), x2.1 q b (by omega) (by omega) (by omega)], fun i a b => by rw [y2 91 (by omega), x2.2 i a b]⟩
    obtain ⟨f3, z1, z2, z3⟩ := pu_ml99 hT hS hk d fu (j + 1) f2 (by omega) (by omega) (l2.T h3) (x3.fr (by rw [y2 91 (by omega)]) (by rw [y2 91 (by omega)]) (fun q a b => y2 q (by omega))) y3
    refine ⟨f3, ?_, l2.trans z2, z3⟩
    rw [D_X8_laysRule_99, if_neg (pu_nlt (by omega) (by omega)), x1, pu_bV, y1, pu_bV, nI_1]
    exact z1
theorem pu_mLays {T : pu_T} {N : pu_S} {k : Nat} {f : am_M} (hT : pu_Tok T) (hS : pu_Sok T N) (hk : k ≤ 60) (h3 : pu_Tm T (f 91) (f 92) (f 93) (f 94)) (hF : pu_Sm N (f 95)) : ∃ f', D_X8_laysRule (nI k) f = some f' ∧ pu_Lfr f f' ∧ pu_KH T N (k + 1) f' := by
  obtain ⟨g, hg⟩ : ∃ g, g = am_wr (am_wr f 91 29 (f 95 0)) 91 30 (f 95 19) := ⟨_, rfl⟩
  have go : ∀ q, q ≠ 91 → g q = f q := fun q a => by rw [hg, am_wr_ne q a, am_wr_ne q a]
  have go1 : ∀ j, j ≠ 29 → j ≠ 30 → g 91 j = f 91 j := fun j a b => by rw [hg, pu_wr_n2 b, pu_wr_n2 a]
  have g29 : g 91 29 = f 95 0 := by rw [hg, pu_wr_n2 (by decide), pu_wr_eq]
  have g30 : g 91 30 = f 95 19 := by rw [hg, pu_wr_eq]
  obtain ⟨f1, x1, x2, x3, _⟩ := pu_ml23 (x := nI k) 3 am_fu 0 g (Nat.zero_add _) (by decide)
  obtain ⟨f2, y1, y2, y3, _⟩ := pu_ml66 (x := nI k) 6 am_fu 0 f1 (Nat.zero_add _) (by decide)
  have l2 : pu_Lfr f f2 := ⟨fun q a b => by rw [y2 q (by omega), x2 q (by omega) (by omega), go q b], fun i a b => by rw [y2 91 (by omega), x2 91 (by omega) (by omega), go1 i a b]⟩
  have hK : pu_Km N f2 := by
    have hl := hS.len hT
    refine ⟨by rw [y2 91 (by decide), x2 91 (by decide) (by decide), g29]; exact hF.1, by rw [y2 91 (by decide), x2 91 (by decide) (by decide), g30]; exact hF.2.1, fun t ht => by rw [y3 t (Nat.zero_le _) ht, x2 95 (by decide) (by decide), go 95 (by decide)]; exact hF.2.2.1 t ht, fun i q hq => ?_⟩
    have hil := pu_lt_len hq
    obtain ⟨z1, z2⟩ := x3 i (Nat.zero_le _) (by omega)
    rw [y2 109 (by decide), y2 110 (by decide), z1, z2, go 95 (by decide)]
    exact hF.2.2.2.2.2.1 i q hq
  obtain ⟨u, hu⟩ := pu_Kn_ok hT hS 0
  obtain ⟨f3, z1, z2, z3⟩ := pu_mSave (k := 0) hT (by omega) hu (l2.T h3) hK (fun j hj => absurd hj (Nat.not_lt_zero _))
  have l3 : pu_Lfr f f3 := ⟨fun q a b => by rw [z2 q (by omega)]; exact l2.1 q a b, fun i a b => by rw [z2 91 (by omega)]; exact l2.2 i a b⟩
  obtain ⟨f4, w1, w2, w3⟩ := pu_ml99 hT hS hk k am_fu 0 f3 (Nat.zero_add _) (by show k < 6000; omega) (l3.T h3) (hK.fr (by rw [z2 91 (by omega)]) (by rw [z2 91 (by omega)]) (fun q a b => z2 q (by omega))) z3
  refine ⟨f4, ?_, l3.trans w2, w3⟩
  unfold D_X8_laysRule
  rw [← hg, show D_X8_laysRule_23 am_fu (nI k) 0 g = _ from x1, show D_X8_laysRule_66 am_fu (nI k) 0 f1 = _ from y1, show D_X8_saves 0 f2 = _ from z1, pu_bV]
  exact w1
