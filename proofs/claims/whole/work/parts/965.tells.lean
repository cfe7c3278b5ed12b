/-! tells -/
theorem px_r52 {p e : Nat} : ∀ d fu i (f : am_M), i + d = 3 → d < fu → ∃ f', D_X4_reset_52 p e fu (nI i) f = some f' ∧ (∀ q, q ≠ p + 5 → f' q = f q) ∧ (∀ k, i ≤ k → k < 3 → f' (p + 5) k = 0) ∧ (∀ k, k < i → f' (p + 5) k = f (p + 5) k)
  | d, 0, i, f, _, h => absurd h (by omega)
  | 0, fu + 1, i, f, h1, h2 => by
    have : i = 3 := by omega
    subst this
    refine ⟨f, ?_, fun _ _ => rfl, fun t a b => absurd b (by omega), fun _ _ => rfl⟩
    rw [D_X4_reset_52, if_neg (show ¬ nI 3 < 3 by decide)]
  | d + 1, fu + 1, i, f, h1, h2 => by
    obtain ⟨f', y1, y2, y3, y4⟩ := px_r52 (p := p) (e := e) d fu (i + 1) (am_wr f (p + 5) i 0) (by omega) (by omega)
    refine ⟨f', ?_, fun q a => by rw [y2 q a, am_wr_ne q a], fun k a b => ?_, fun k hk => by rw [y4 k (by omega), pu_wr_n2 (by omega)]⟩
    · rw [D_X4_reset_52, if_pos (show nI i < 3 from pu_lt (b := 3) (by omega) (by decide)), pu_chk (by omega) (by decide), nI_clamp (by omega), nI_1]
      exact y1
    · by_cases e : k = i
      · subst e; rw [y4 k (by omega), pu_wr_eq]
      · exact y3 k (by omega) b
theorem px_r17 {p e : Nat} : ∀ d fu i (f : am_M), i + d = 6 → d < fu → ∃ f', D_X4_reset_17 p e fu (nI i) f = D_X4_reset_52 p e am_fu 0 f' ∧ (∀ q, q ≠ p + 1 → q ≠ p + 2 → q ≠ p + 3 → f' q = f q) ∧ (∀ k, i ≤ k → k < 6 → f' (p + 1) k = 0 ∧ f' (p + 2) k = 0 ∧ f' (p + 3) k = 0) ∧ (∀ k, k < i → f' (p + 1) k = f (p + 1) k ∧ f' (p + 2) k = f (p + 2) k ∧ f' (p + 3) k = f (p + 3) k)
  | d, 0, i, f, _, h => absurd h (by omega)
  | 0, fu + 1, i, f, h1, h2 => by
    have : i = 6 := by omega
    subst this
    refine ⟨f, ?_, fun _ _ _ _ => rfl, fun t a b => absurd b (by omega), fun _ _ => ⟨rfl, rfl, rfl⟩⟩
    rw [D_X4_reset_17, if_neg (show ¬ nI 6 < 6 by decide)]
  | d + 1, fu + 1, i, f, h1, h2 => by
    obtain ⟨f', y1, y2, y3, y4⟩ := px_r17 (p := p) (e := e) d fu (i + 1) (am_wr (am_wr (am_wr f (p + 1) i 0) (p + 2) i 0) (p + 3) i 0) (by omega) (by omega)
    refine ⟨f', ?_, fun q a b c => by rw [y2 q a b c, am_wr_ne q c, am_wr_ne q b, am_wr_ne q a], fun k a b => ?_, fun k hk => ?_⟩
    · rw [D_X4_reset_17, if_pos (show nI i < 6 from pu_lt (b := 6) (by omega) (by decide)), pu_chk (by omega) (by decide), pu_chk (by omega) (by decide), pu_chk (by omega) (by decide), nI_clamp (by omega), nI_1]
      exact y1
    · by_cases e : k = i
      · subst e
        obtain ⟨z1, z2, z3⟩ := y4 k (by omega)
        exact ⟨by rw [z1, pu_wr_n1 (by omega), pu_wr_n1 (by omega), pu_wr_eq], by rw [z2, pu_wr_n1 (by omega), pu_wr_eq], by rw [z3, pu_wr_eq]⟩
      · exact y3 k (by omega) b
    · obtain ⟨z1, z2, z3⟩ := y4 k (by omega)
      exact ⟨by rw [z1, pu_wr_n1 (by omega), pu_wr_n1 (by omega), pu_wr_n2 (by omega)], by rw [z2, pu_wr_n1 (by omega), pu_wr_n2 (by omega), pu_wr_n1 (by omega)], by rw [z3, pu_wr_n2 (by omega), pu_wr_n1 (by omega), pu_wr_n1 (by omega)]⟩
theorem px_reset {p e : Nat} (f : am_M) : ∃ f', D_X4_reset p e f = some f' ∧ (∀ q, q < p ∨ p + 5 < q → f' q = f q) ∧ pu_Sf pu_e f' p := by
  obtain ⟨g, hg⟩ : ∃ g, g = am_wr (am_wr (am_wr f p 2 0) p 3 0) p 9 0 := ⟨_, rfl⟩
  obtain ⟨f1, x1, x2, x3, _⟩ := px_r17 (p := p) (e := e) 6 am_fu 0 g (Nat.zero_add _) (by decide)
  obtain ⟨f2, y1, y2, y3, _⟩ := px_r52 (p := p) (e := e) 3 am_fu 0 f1 (Nat.zero_add _) (by decide)
  have fo : ∀ q, q ≠ p + 1 → q ≠ p + 2 → q ≠ p + 3 → q ≠ p + 5 → f2 q = g q := fun q a b c d => by rw [y2 q d, x2 q a b c]
  have fp : f2 p = g p := fo p (by omega) (by omega) (by omega) (by omega)
  refine ⟨f2, ?_, fun q hq => ?_, ?_, ?_, ?_, fun t ht => ?_, fun t ht => ?_, fun t ht => ?_, fun i q hq => by simp [pu_e, pu_rw] at hq, fun m hm => ?_⟩
  · unfold D_X4_reset
    rw [← hg, show D_X4_reset_17 p e am_fu 0 g = _ from x1]
    exact y1
  · rw [fo q (by omega) (by omega) (by omega) (by omega), hg, am_wr_ne q (by omega), am_wr_ne q (by omega), am_wr_ne q (by omega)]
  · rw [fp, hg, pu_wr_n2 (by decide), pu_wr_n2 (by decide), pu_wr_eq]; rfl
  · rw [fp, hg, pu_wr_n2 (by decide), pu_wr_eq]; rfl
  · rw [fp, hg, pu_wr_eq]; rfl
  · rw [y2 (p + 1) (by omega), (x3 t (Nat.zero_le _) ht).1]; rfl
  · rw [y2 (p + 2) (by omega), (x3 t (Nat.zero_le _) ht).2.1]; rfl
  · rw [y2 (p + 3) (by omega), (x3 t (Nat.zero_le _) ht).2.2]; rfl
  · rw [y3 m (Nat.zero_le _) hm]; rfl
theorem px_t43 {x : Int32} : ∀ d fu i (f : am_M), i + d = 3 → d < fu → ∃ f', D_X8_tells_43 fu x (nI i) f = D_X8_tells_68 am_fu x 0 f' ∧ (∀ q, q ≠ 92 → f' q = f q) ∧ (∀ k, i ≤ k → k < 3 → f' 92 k = f 102 k) ∧ (∀ k, k < i → f' 92 k = f 92 k)
  | d, 0, i, f, _, h => absurd h (by omega)
  | 0, fu + 1, i, f, h1, h2 => by
    have : i = 3 := by omega
    subst this
    refine ⟨f, ?_, fun _ _ => rfl, fun t a b => absurd b (by omega), fun _ _ => rfl⟩
    rw [D_X8_tells_43, if_neg (show ¬ nI 3 < 3 by decide)]
  | d + 1, fu + 1, i, f, h1, h2 => by
    obtain ⟨f', y1, y2, y3, y4⟩ := px_t43 (x := x) d fu (i + 1) (am_wr f 92 i (f 102 i)) (by omega) (by omega)
    refine ⟨f', ?_, fun q a => by rw [y2 q a, am_wr_ne q a], fun k a b => ?_, fun k hk => by rw [y4 k (by omega), pu_wr_n2 (by omega)]⟩
    · rw [D_X8_tells_43, if_pos (show nI i < 3 from pu_lt (b := 3) (by omega) (by decide)), pu_chk (by omega) (by decide), pu_chk (by omega) (by decide), nI_clamp (by omega), nI_1]
      exact y1
    · by_cases e : k = i
      · subst e; rw [y4 k (by omega), pu_wr_eq]
      · rw [y3 k (by omega) b, am_wr_ne _ (by decide)]
theorem px_t68 {x : Int32} : ∀ d fu i (f : am_M), i + d = 6 → d < fu → ∃ f', D_X8_tells_68 fu x (nI i) f = D_X8_tells_106 am_fu x 0 f' ∧ (∀ q, q ≠ 93 → q ≠ 94 → f' q = f q) ∧ (∀ k, i ≤ k → k < 6 → f' 93 k = f 103 k ∧ f' 94 k = f 104 k) ∧ (∀ k, k < i → f' 93 k = f 93 k ∧ f' 94 k = f 94 k)
  | d, 0, i, f, _, h => absurd h (by omega)
  | 0, fu + 1, i, f, h1, h2 => by
    have : i = 6 := by omega
    subst this
    refine ⟨f, ?_, fun _ _ _ => rfl, fun t a b => absurd b (by omega), fun _ _ => ⟨rfl, rfl⟩⟩
    rw [D_X8_tells_68, if_neg (show ¬ nI 6 < 6 by decide)]
  | d + 1, fu + 1, i, f, h1, h2 => by
    obtain ⟨f', y1, y2, y3, y4⟩ := px_t68 (x := x) d fu (i + 1) (am_wr (am_wr f 93 i (f 103 i)) 94 i (f 104 i)) (by omega) (by omega)
    refine ⟨f', ?_, fun q a b => by rw [y2 q a b, am_wr_ne q b, am_wr_ne q a], fun k a b => ?_, fun k hk => ?_⟩
    · rw [D_X8_tells_68, if_pos (show nI i < 6 from pu_lt (b := 6) (by omega) (by decide)), pu_chk (by omega) (by decide), pu_chk (by omega) (by decide), pu_chk (by omega) (by decide), pu_chk (by omega) (by decide), nI_clamp (by omega), nI_1]
      exact y1
    · by_cases e : k = i
      · subst e
        obtain ⟨z1, z2⟩ := y4 k (by omega)
        exact ⟨by rw [z1, pu_wr_n1 (by decide), pu_wr_eq], by rw [z2, pu_wr_eq]⟩
      · obtain ⟨z1, z2⟩ := y3 k (by omega) b
        exact ⟨by rw [z1, am_wr_ne _ (by decide), am_wr_ne _ (by decide)], by rw [z2, am_wr_ne _ (by decide), am_wr_ne _ (by decide)]⟩
    · obtain ⟨z1, z2⟩ := y4 k (by omega)
      exact ⟨by rw [z1, pu_wr_n1 (by decide), pu_wr_n2 (by omega)], by rw [z2, pu_wr_n2 (by omega), pu_wr_n1 (by decide)]⟩
theorem px_t106 {x : Int32} : ∀ d fu i (f : am_M), i + d = 1026 → d < fu → ∃ f', D_X8_tells_106 fu x (nI i) f = some (x, am_wr (am_wr (am_wr (am_wr (am_wr f' 91 11 0) 91 8 0) 98 0 0) 98 1 0) 91 15 0) ∧ (∀ q, q ≠ 95 → f' q = f q) ∧ (∀ k, i ≤ k → k < 1026 → f' 95 k = 0) ∧ (∀ k, k < i → f' 95 k = f 95 k)
  | d, 0, i, f, _, h => absurd h (by omega)
  | 0, fu + 1, i, f, h1, h2 => by
    have : i = 1026 := by omega
    subst this
    refine ⟨f, ?_, fun _ _ => rfl, fun t a b => absurd b (by omega), fun _ _ => rfl⟩
    rw [D_X8_tells_106, if_neg (show ¬ nI 1026 < am_int 1026 from pu_nlt (b := 1026) (Nat.le_refl _) (by decide))]
  | d + 1, fu + 1, i, f, h1, h2 => by
    obtain ⟨f', y1, y2, y3, y4⟩ := px_t106 (x := x) d fu (i + 1) (am_wr f 95 i 0) (by omega) (by omega)
    refine ⟨f', ?_, fun q a => by rw [y2 q a, am_wr_ne q a], fun k a b => ?_, fun k hk => by rw [y4 k (by omega), pu_wr_n2 (by omega)]⟩
    · rw [D_X8_tells_106, if_pos (show nI i < am_int 1026 from pu_lt (b := 1026) (by omega) (by decide)), pu_chk (by omega) (by decide), nI_clamp (by omega), nI_1]
      exact y1
    · by_cases e : k = i
      · subst e; rw [y4 k (by omega), pu_wr_eq]
      · exact y3 k (by omega) b
theorem px_flt : ∀ p, p < 121 → (-10 : Int32) - nI p < 0 := by decide +kernel
def px_X0 : Nat × (Nat → Int32) := (0, fun _ => 0)
def px_Z0 : Nat × (Nat → Nat) × (Nat → Int32) := (0, (fun _ => 0), fun _ => 0)
section TE
variable {T T' : pu_T} {X : Nat × (Nat → Int32)} {N : pu_S} {P : List (pu_S × Option Nat)} {I0 I1 : Option pu_S} {Z : Nat × (Nat → Nat) × (Nat → Int32)} {f f1 : am_M}
theorem px_Pf.C (h : px_Pf f f1) (hC : pu_C T X N P I0 I1 Z f) : pu_C T X N P I0 I1 Z f1 := by
  obtain ⟨a1, a2, a3, a4, ⟨a5, a6⟩, a7⟩ := hC
  have e : ∀ q, 2 ≤ q → q < 7 ∨ 10 < q → f1 q = f q := fun q h1 h2 => h.1 q (by omega) h2
  exact ⟨pu_frT (fun q h1 h2 => e q (by omega) (by omega)) a1, ⟨by rw [h.2]; exact a2.1, by rw [e 2 (by decide) (by decide)]; exact a2.2⟩, pu_frN (fun q h1 h2 => e q (by omega) (by omega)) a3, pu_frP (fun q h1 h2 => e q (by omega) (by omega)) a4, ⟨pu_frI rfl (fun q h1 h2 => e q (by omega) (by omega)) a5, pu_frI rfl (fun q h1 h2 => e q (by omega) (by omega)) a6⟩, pu_fcZ (fun q h1 h2 => e q (by omega) (by omega)) a7⟩
theorem px_Qf.M (h : px_Qf f f1) (hM : pu_M T X N P I0 I1 Z f) : pu_M T X N P I0 I1 Z f1 := by
  obtain ⟨m1, m2, m3, m4, ⟨m6, m7⟩, m8⟩ := hM
  have e : ∀ q, 91 < q → q < 102 → f1 q = f q := fun q h1 h2 => h.1 q (by omega) (by omega)
  have e1 : ∀ k, k < 16 → f1 91 k = f 91 k := fun k hk => h.2 k (by omega)
  exact ⟨pu_fmT (e1 0 (by decide)) (e1 1 (by decide)) (e1 3 (by decide)) (fun q a b => e q (by omega) (by omega)) m1, pu_fmX (e1 15 (by decide)) (e 101 (by decide) (by decide)) m2, by rw [e 95 (by decide) (by decide)]; exact m3, pu_fmP (e1 8 (by decide)) (e 96 (by decide) (by decide)) m4, ⟨pu_fmI (e 97 (by decide) (by decide)) (e 98 (by decide) (by decide)) m6, pu_fmI (e 97 (by decide) (by decide)) (e 98 (by decide) (by decide)) m7⟩, pu_fmZ (e1 11 (by decide)) (e 99 (by decide) (by decide)) (e 100 (by decide) (by decide)) m8⟩
theorem px_cFin {hs : Nat} {x : Int32} (hT : pu_Tok T') (hC : pu_C T X N P I0 I1 Z f1) (hD : px_Dc hs T' f1) : ∃ f2, (am_bV (D_X6_copyFrom f1) fun f2 => am_bV (D_X4_reset 11 999 f2) fun f3 => some (x, (am_wr (am_wr (am_wr (am_wr (am_wr f3 18 3 0) 63 1 0) 71 1 0) 88 2 0) 1 1 0))) = some (x, f2) ∧ pu_lo f1 f2 ∧ pu_C T' px_X0 pu_e [] none none px_Z0 f2 := by
  have hnm := hT.2.1
  have hnt := hT.2.2.1
  obtain ⟨c1, c2, c3, c4, c5, c6, c7⟩ := hD
  obtain ⟨g, hg⟩ : ∃ g, g = am_cp (am_cp (am_cp (am_wr (am_wr (am_wr f1 3 0 (f1 7 0)) 3 1 (f1 7 1)) 3 2 (f1 7 2)) 8 4 0 0 3) 9 5 0 0 6) 10 6 0 0 6 := ⟨_, rfl⟩
  have go : ∀ q, q < 3 ∨ 6 < q → g q = f1 q := fun q hq => by rw [hg, am_cp_ne q (by omega), am_cp_ne q (by omega), am_cp_ne q (by omega), am_wr_ne q (by omega), am_wr_ne q (by omega), am_wr_ne q (by omega)]
  have g3 : g 3 = am_wr (am_wr (am_wr f1 3 0 (f1 7 0)) 3 1 (f1 7 1)) 3 2 (f1 7 2) 3 := by rw [hg, am_cp_ne 3 (by decide), am_cp_ne 3 (by decide), am_cp_ne 3 (by decide)]
  have g4 : ∀ m, m < 3 → g 4 m = f1 8 m := fun m hm => by rw [hg, am_cp_ne 4 (by decide), am_cp_ne 4 (by decide), pu_cp_in hm, am_wr_ne 8 (by decide), am_wr_ne 8 (by decide), am_wr_ne 8 (by decide)]
  have g5 : ∀ m, m < 6 → g 5 m = f1 9 m := fun m hm => by rw [hg, am_cp_ne 5 (by decide), pu_cp_in hm, am_cp_ne 9 (by decide), am_wr_ne 9 (by decide), am_wr_ne 9 (by decide), am_wr_ne 9 (by decide)]
  have g6 : ∀ m, m < 6 → g 6 m = f1 10 m := fun m hm => by rw [hg, pu_cp_in hm, am_cp_ne 10 (by decide), am_cp_ne 10 (by decide), am_wr_ne 10 (by decide), am_wr_ne 10 (by decide), am_wr_ne 10 (by decide)]
  obtain ⟨f3, r1, r2, r3⟩ := px_reset (p := 11) (e := 999) g
  obtain ⟨h, hh⟩ : ∃ h, h = am_wr (am_wr (am_wr (am_wr (am_wr f3 18 3 0) 63 1 0) 71 1 0) 88 2 0) 1 1 0 := ⟨_, rfl⟩
  have ho : ∀ q, q ≠ 1 → q ≠ 18 → q ≠ 63 → q ≠ 71 → q ≠ 88 → h q = f3 q := fun q a b c d e => by rw [hh, am_wr_ne q a, am_wr_ne q e, am_wr_ne q d, am_wr_ne q c, am_wr_ne q b]
  have hT3 : ∀ q, 3 ≤ q → q ≤ 6 → h q = g q := fun q a b => by rw [ho q (by omega) (by omega) (by omega) (by omega) (by omega), r2 q (by omega)]
  obtain ⟨_, _, _, ⟨_, _, la, l1, l2, _⟩, _, _⟩ := hC
  refine ⟨h, ?_, fun q hq => by rw [ho q (by omega) (by omega) (by omega) (by omega) (by omega), r2 q (by omega), go q (by omega)], ⟨?_, ?_, ?_, fun m hm => ?_, fun m hm => ?_, fun m hm => ?_⟩, ⟨?_, fun i hi => absurd hi (Nat.not_lt_zero _)⟩, ⟨?_, fun k hk => absurd hk (Nat.not_lt_zero _)⟩, ⟨?_, Nat.zero_le _, la, l1, ?_, fun i q hq => by simp at hq⟩, ⟨?_, ?_⟩, ⟨?_, fun i hi => absurd hi (Nat.not_lt_zero _)⟩⟩
  · unfold D_X6_copyFrom
    rw [← hg, pu_bV, r1, pu_bV, ← hh]
  · rw [hT3 3 (by decide) (by decide), g3, pu_wr_n2 (by decide), pu_wr_n2 (by decide), pu_wr_eq]; exact c2
  · rw [hT3 3 (by decide) (by decide), g3, pu_wr_n2 (by decide), pu_wr_eq]; exact c3
  · rw [hT3 3 (by decide) (by decide), g3, pu_wr_eq]; exact c4
  · rw [hT3 4 (by decide) (by decide), g4 m (by omega)]; exact c5 m hm
  · rw [hT3 5 (by decide) (by decide), g5 m (by omega)]; exact c6 m hm
  · rw [hT3 6 (by decide) (by decide), g6 m (by omega)]; exact c7 m hm
  · rw [hh, pu_wr_eq]; rfl
  · exact pu_frS (fun q h1 h2 => ho q (by omega) (by omega) (by omega) (by omega) (by omega)) r3
  · rw [hh, pu_wr_n1 (by decide), pu_wr_n1 (by decide), pu_wr_n1 (by decide), pu_wr_n1 (by decide), pu_wr_eq]; rfl
  · rw [hh, pu_wr_n1 (by decide), pu_wr_n1 (by decide), pu_wr_n1 (by decide), pu_wr_n1 (by decide), pu_wr_n2 (by decide), r2 18 (by decide), go 18 (by decide)]; exact l2
  · show h 63 1 = 0
    rw [hh, pu_wr_n1 (by decide), pu_wr_n1 (by decide), pu_wr_n1 (by decide), pu_wr_eq]
  · show h 71 1 = 0
    rw [hh, pu_wr_n1 (by decide), pu_wr_n1 (by decide), pu_wr_eq]
  · rw [hh, pu_wr_n1 (by decide), pu_wr_eq]; rfl
theorem px_mFin {hs : Nat} {x : Int32} (hT : pu_Tok T') (hD : px_Dm hs T' f1) : ∃ f2, D_X8_tells_43 am_fu x 0 (am_wr (am_wr (am_wr f1 91 0 (f1 91 19)) 91 1 (f1 91 20)) 91 3 (f1 91 21)) = some (x, f2) ∧ pu_hi f1 f2 ∧ pu_M T' px_X0 pu_e [] none none px_Z0 f2 := by
  have hnm := hT.2.1
  have hnt := hT.2.2.1
  obtain ⟨c1, c2, c3, c4, c5, c6, c7⟩ := hD
  obtain ⟨g, hg⟩ : ∃ g, g = am_wr (am_wr (am_wr f1 91 0 (f1 91 19)) 91 1 (f1 91 20)) 91 3 (f1 91 21) := ⟨_, rfl⟩
  have go : ∀ q, q ≠ 91 → g q = f1 q := fun q a => by rw [hg, am_wr_ne q a, am_wr_ne q a, am_wr_ne q a]
  obtain ⟨f2, x1, x2, x3, _⟩ := px_t43 (x := x) 3 am_fu 0 g (Nat.zero_add _) (by decide)
  obtain ⟨f3, y1, y2, y3, _⟩ := px_t68 (x := x) 6 am_fu 0 f2 (Nat.zero_add _) (by decide)
  obtain ⟨f4, z1, z2, z3, _⟩ := px_t106 (x := x) 1026 am_fu 0 f3 (Nat.zero_add _) (by decide)
  obtain ⟨h, hh⟩ : ∃ h, h = am_wr (am_wr (am_wr (am_wr (am_wr f4 91 11 0) 91 8 0) 98 0 0) 98 1 0) 91 15 0 := ⟨_, rfl⟩
  have ho : ∀ q, q ≠ 91 → q ≠ 98 → h q = f4 q := fun q a b => by rw [hh, am_wr_ne q a, am_wr_ne q b, am_wr_ne q b, am_wr_ne q a, am_wr_ne q a]
  have h91 : ∀ j, j ≠ 11 → j ≠ 8 → j ≠ 15 → h 91 j = g 91 j := fun j a b c => by rw [hh, pu_wr_n2 c, pu_wr_n1 (by decide), pu_wr_n1 (by decide), pu_wr_n2 b, pu_wr_n2 a, z2 91 (by decide), y2 91 (by decide) (by decide), x2 91 (by decide)]
  have h95 : ∀ k, k < 1026 → h 95 k = 0 := fun k hk => by rw [ho 95 (by decide) (by decide)]; exact z3 k (Nat.zero_le _) hk
  refine ⟨h, ?_, fun q hq => by rw [ho q (by omega) (by omega), z2 q (by omega), y2 q (by omega) (by omega), x2 q (by omega), go q (by omega)], ⟨?_, ?_, ?_, fun m hm => ?_, fun m hm => ?_, fun m hm => ?_⟩, ⟨?_, fun i hi => absurd hi (Nat.not_lt_zero _)⟩, ⟨?_, ?_, fun t ht => ?_, fun t ht => ?_, fun t ht => ?_, fun i q hq => by simp [pu_e, pu_rw] at hq, fun k hk => absurd hk (Nat.not_lt_zero _)⟩, ⟨?_, fun i q hq => by simp at hq⟩, ⟨?_, ?_⟩, ⟨?_, fun i hi => absurd hi (Nat.not_lt_zero _)⟩⟩
  · rw [← hg, show D_X8_tells_43 am_fu x 0 g = _ from x1, show D_X8_tells_68 am_fu x 0 f2 = _ from y1, show D_X8_tells_106 am_fu x 0 f3 = _ from z1, ← hh]
  · rw [h91 0 (by decide) (by decide) (by decide), hg, pu_wr_n2 (by decide), pu_wr_n2 (by decide), pu_wr_eq]; exact c2
  · rw [h91 1 (by decide) (by decide) (by decide), hg, pu_wr_n2 (by decide), pu_wr_eq]; exact c3
  · rw [h91 3 (by decide) (by decide) (by decide), hg, pu_wr_eq]; exact c4
  · rw [ho 92 (by decide) (by decide), z2 92 (by decide), y2 92 (by decide) (by decide), x3 m (Nat.zero_le _) (by omega), go 102 (by decide)]; exact c5 m hm
  · rw [ho 93 (by decide) (by decide), z2 93 (by decide), (y3 m (Nat.zero_le _) (by omega)).1, x2 103 (by decide), go 103 (by decide)]; exact c6 m hm
  · rw [ho 94 (by decide) (by decide), z2 94 (by decide), (y3 m (Nat.zero_le _) (by omega)).2, x2 104 (by decide), go 104 (by decide)]; exact c7 m hm
  · rw [hh, pu_wr_eq]; rfl
  · rw [h95 0 (by decide)]; rfl
  · rw [h95 19 (by decide)]; rfl
  · rw [h95 (1 + t) (by omega)]; rfl
  · rw [h95 (7 + t) (by omega)]; rfl
  · rw [h95 (13 + t) (by omega)]; rfl
  · rw [hh, pu_wr_n2 (by decide), pu_wr_n1 (by decide), pu_wr_n1 (by decide), pu_wr_eq]; rfl
  · show h 98 0 = 0
    rw [hh, pu_wr_n1 (by decide), pu_wr_n2 (by decide), pu_wr_eq]
  · show h 98 1 = 0
    rw [hh, pu_wr_n1 (by decide), pu_wr_eq]
  · rw [hh, pu_wr_n2 (by decide), pu_wr_n1 (by decide), pu_wr_n1 (by decide), pu_wr_n2 (by decide), pu_wr_eq]; rfl
end TE
theorem pu_tells {f : am_M} (h : pu_R f) : pu_Go D_X7_tells D_X8_tells f := by
  obtain ⟨T, X, N, P, I0, I1, Z, hV, hC, hM⟩ := id h
  have hn := hV.2.1
  have rc := px_cRead (n := X.1) (L := X.2) hn (f := f) hC.2.1
  have rm : ∀ g, pu_M T X N P I0 I1 Z g → px_ME (D_X8_reads g) g _ := fun g hg => px_mRead (n := X.1) (L := X.2) hn (f := g) hg.2.1
  cases ho : px_rd X.1 X.2 (X.1 + 1) 0 (px_sk X.1 X.2 0) 0 px_t0 with
  | inl p =>
    rw [ho] at rc
    obtain ⟨f1, x1, x2, x3⟩ := rc
    have hp := px_flt p (by omega)
    refine pu_join (r := (-10 : Int32) - nI p) hV (f1 := f1) ?_ (fun q hq => x1.1 q (by omega) (by omega)) (x1.C hC) hM (fun g hg => ?_)
    · unfold D_X7_tells
      rw [x2, pu_bI, if_pos hp]
    · have rm := rm g hg
      rw [ho] at rm
      obtain ⟨g1, y1, y2, y3⟩ := rm
      refine ⟨g1, ?_, fun q hq => y1.1 q (by omega) (by omega), y1.M hg⟩
      unfold D_X8_tells
      rw [y2, pu_bI, if_pos px_neg1.1, y3]
  | inr r =>
    rw [ho] at rc
    obtain ⟨f1, x1, x2, x3, x4, hs, x5⟩ := rc
    obtain ⟨f2, z1, z2, z3⟩ := px_cFin (x := nI r.1) x4 (x1.C hC) x5
    refine pu_join (r := nI r.1) (T' := r.2) (X' := px_X0) (N' := pu_e) (P' := []) (I0' := none) (I1' := none) (Z' := px_Z0) ⟨x4, Nat.zero_le _, pu_e_ok, ⟨trivial, Nat.zero_le _, fun q hq => by simp at hq⟩, fun S h => by simp at h, fun S h => by simp at h, Nat.zero_le _, fun i hi => absurd hi (Nat.not_lt_zero _)⟩ (f1 := f2) ?_ (fun q hq => by rw [z2 q hq]; exact x1.1 q (by omega) (by omega)) z3 hM (fun g hg => ?_)
    · unfold D_X7_tells
      rw [x2, pu_bI, if_neg (nI_pos (by omega))]
      exact z1
    · have rm := rm g hg
      rw [ho] at rm
      obtain ⟨g1, y1, y2, hs', y3⟩ := rm
      obtain ⟨g2, w1, w2, w3⟩ := px_mFin (x := nI r.1) x4 y3
      refine ⟨g2, ?_, fun q hq => by rw [w2 q hq]; exact y1.1 q (by omega) (by omega), w3⟩
      unfold D_X8_tells
      rw [y2, pu_bI, if_neg (nI_pos (by omega))]
      exact w1
