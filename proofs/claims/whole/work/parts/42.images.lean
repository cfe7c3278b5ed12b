/-! keep, back -/
theorem pu_01 (a : Int32) : a = nI 0 ∨ a = nI 1 ∨ (a ≠ 0 ∧ a ≠ 1 ∧ ∀ f, D_X8_within a 0 1 f = some (0, f)) := by
  by_cases h0 : a = 0
  · exact Or.inl h0
  by_cases h1 : a = 1
  · exact Or.inr (Or.inl h1)
  refine Or.inr (Or.inr ⟨h0, h1, fun f => ?_⟩)
  rcases pu_wl 1 (by decide) a f with ⟨j, hj, rfl, _⟩ | ⟨hw, _⟩
  · exfalso
    have : j = 0 ∨ j = 1 := by omega
    rcases this with rfl | rfl
    · exact h0 rfl
    · exact h1 rfl
  · exact hw
section IM
variable {T : pu_T} {X : Nat × (Nat → Int32)} {N : pu_S} {P : List (pu_S × Option Nat)} {I0 I1 : Option pu_S} {Z : Nat × (Nat → Nat) × (Nat → Int32)} {f : am_M}
theorem pu_ckeep {a : Nat} (ha : 62 < a) (ha2 : a + 7 < 88) (hC : pu_C T X N P I0 I1 Z f) (hB : pu_B N) : ∃ f', D_X4_copyFrom (a + 1) 999 11 999 f = some f' ∧ f' 11 2 = nI (pu_cl N) ∧ (∀ q, q < a ∨ a + 7 < q → am_wr f' a 1 1 q = f q) ∧ pu_Ic (some N) (am_wr f' a 1 1) a (a + 1) := by
  obtain ⟨f1, x1, x2, x3, x4, x5⟩ := pu_copy (p := a + 1) (e := 999) (q := 11) (d := 999) (by omega) (by omega) (by omega) hC.2.2.1.1 hB.1 hB.2
  refine ⟨f1, x1, by rw [x2 11 (by omega)]; exact hC.2.2.1.1.1, fun q hq => by rw [am_wr_ne q (by omega), x2 q (by omega)], pu_wr_eq, ?_, fun k hk => ?_⟩
  · exact pu_frS (f := f1) (fun q h1 h2 => am_wr_ne q (by omega)) x3
  · have hc := hB.1
    rw [pu_wr_n1 (by omega), x4 k (by omega)]
    exact hC.2.2.1.2 k hk
theorem pu_mkeep {u : Nat} (hu : u < 2) (hM : pu_M T X N P I0 I1 Z f) : ∃ f', D_X8_keep (nI u) f = some (nI (pu_cl N), f') ∧ (∀ q, q ≠ 97 → q ≠ 98 → f' q = f q) ∧ (∀ k, k < 1026 → f' 97 (1026 * u + k) = f 95 k) ∧ (∀ k, k < 1026 * u ∨ 1026 * u + 1026 ≤ k → f' 97 k = f 97 k) ∧ (∀ k, f' 98 k = if k = u then 1 else f 98 k) := by
  have hk := pu_kp13 (f := f) hu 1026 am_fu 0 (by decide) (by decide)
  rw [pu_cp_0, hM.2.2.1.1] at hk
  refine ⟨am_wr (am_cp f 95 97 0 (1026 * u) 1026) 98 u 1, ?_, fun q h1 h2 => by rw [am_wr_ne q h2, am_cp_ne q h1], fun k hk => ?_, fun k hk => ?_, fun k => ?_⟩
  · unfold D_X8_keep
    have w : D_X8_within (nI u) 0 1 f = some (1, f) := by
      rcases pu_wl 1 (by decide) (nI u) f with ⟨_, _, _, hw⟩ | ⟨_, hn⟩
      · exact hw
      · exact absurd rfl (hn u (by omega))
    rw [w, pu_bI, pu_i10]
    exact hk
  · rw [pu_wr_n1 (by decide)]
    simp [am_cp, hk]
  · rw [pu_wr_n1 (by decide)]
    simp [am_cp]
    intro h
    omega
  · rw [pu_wr_u, am_cp_ne _ (by decide)]
    rfl
theorem pu_mkeepM {J0 J1 : Option pu_S} {f' : am_M} (hM : pu_M T X N P J0 J1 Z f) (h1 : ∀ q, q ≠ 97 → q ≠ 98 → f' q = f q) (h2 : pu_Im I0 f' 0) (h3 : pu_Im I1 f' 1) : pu_M T X N P I0 I1 Z f' := by
  obtain ⟨m1, m2, m3, m4, ⟨m6, m7⟩, m8⟩ := hM
  exact ⟨pu_fmT (by rw [h1 91 (by decide) (by decide)]) (by rw [h1 91 (by decide) (by decide)]) (by rw [h1 91 (by decide) (by decide)]) (fun q a b => h1 q (by omega) (by omega)) m1, pu_fmX (by rw [h1 91 (by decide) (by decide)]) (h1 101 (by decide) (by decide)) m2, by rw [h1 95 (by decide) (by decide)]; exact m3, pu_fmP (by rw [h1 91 (by decide) (by decide)]) (h1 96 (by decide) (by decide)) m4, ⟨h2, h3⟩, pu_fmZ (by rw [h1 91 (by decide) (by decide)]) (h1 99 (by decide) (by decide)) (h1 100 (by decide) (by decide)) m8⟩
end IM
/-- the images the model holds are those bounded -/
theorem pu_Im.cg {I : Option pu_S} {f f' : am_M} {i : Nat} (h : pu_Im I f i) (hB : ∀ S, I = some S → pu_B S) (e : ∀ k, k < 1026 → f' 97 (1026 * i + k) = f 97 (1026 * i + k)) (e2 : f' 98 i = f 98 i) : pu_Im I f' i := by
  cases I with
  | none => show f' 98 i = 0; rw [e2]; exact h
  | some S => exact ⟨by rw [e2]; exact h.1, h.2.cg (hB S rfl).1 (hB S rfl).2 e⟩
theorem pu_keep (a : Int32) {f : am_M} (h : pu_R f) : pu_Go (D_X7_keep a) (D_X8_keep a) f := by
  obtain ⟨T, X, N, P, I0, I1, Z, hV, hC, hM⟩ := id h
  obtain ⟨hT, hX, hS, hP, hI0, hI1, hZ⟩ := hV
  have hB := hS.B hT
  have hB0 : ∀ S, I0 = some S → pu_B S := fun S e => (hI0 S e).B hT
  have hB1 : ∀ S, I1 = some S → pu_B S := fun S e => (hI1 S e).B hT
  rcases pu_01 a with rfl | rfl | ⟨h0, h1, hw⟩
  · obtain ⟨f1, x1, x2, x3, x4⟩ := pu_ckeep (a := 63) (by decide) (by decide) hC hB
    refine pu_join (T' := T) (X' := X) (N' := N) (P' := P) (I0' := some N) (I1' := I1) (Z' := Z) (r := nI (pu_cl N)) (f1 := am_wr f1 63 1 1) ⟨hT, hX, hS, hP, fun S e => by cases e; exact hS, hI1, hZ⟩ ?_ (fun q hq => x3 q (by omega)) ?_ hM (fun g hg => ?_)
    · unfold D_X7_keep
      rw [if_pos (show nI 0 = 0 from rfl), if_pos (show nI 0 = 0 from rfl), show D_X4_copyFrom 64 999 11 999 f = some f1 from x1, pu_bV, x2]
    · obtain ⟨a1, a2, a3, a4, ⟨a5, a6⟩, a7⟩ := hC
      exact ⟨pu_frT (fun q h1 h2 => x3 q (by omega)) a1, pu_fcX (fun q h1 h2 => x3 q (by omega)) a2, pu_frN (fun q h1 h2 => x3 q (by omega)) a3, pu_frP (fun q h1 h2 => x3 q (by omega)) a4, ⟨x4, pu_frI rfl (fun q h1 h2 => x3 q (by omega)) a6⟩, pu_fcZ (fun q h1 h2 => x3 q (by omega)) a7⟩
    · obtain ⟨g1, y1, y2, y3, y4, y5⟩ := pu_mkeep (u := 0) (by decide) hg
      have hg' := hg
      obtain ⟨m1, m2, m3, m4, ⟨m6, m7⟩, m8⟩ := hg
      refine ⟨g1, y1, fun q hq => y2 q (by omega) (by omega), pu_mkeepM (I0 := some N) (I1 := I1) hg' y2 ?_ ?_⟩
      · exact ⟨by rw [y5]; rfl, m3.cg hB.1 hB.2 (fun k hk => y3 k hk)⟩
      · exact m7.cg hB1 (fun k hk => y4 _ (by omega)) (by rw [y5]; rfl)
  · obtain ⟨f1, x1, x2, x3, x4⟩ := pu_ckeep (a := 71) (by decide) (by decide) hC hB
    refine pu_join (T' := T) (X' := X) (N' := N) (P' := P) (I0' := I0) (I1' := some N) (Z' := Z) (r := nI (pu_cl N)) (f1 := am_wr f1 71 1 1) ⟨hT, hX, hS, hP, hI0, fun S e => by cases e; exact hS, hZ⟩ ?_ (fun q hq => x3 q (by omega)) ?_ hM (fun g hg => ?_)
    · unfold D_X7_keep
      rw [if_neg (show ¬ nI 1 = 0 by decide), if_pos (show nI 1 = 1 from rfl), if_neg (show ¬ nI 1 = 0 by decide), show D_X4_copyFrom 72 999 11 999 f = some f1 from x1, pu_bV, x2]
    · obtain ⟨a1, a2, a3, a4, ⟨a5, a6⟩, a7⟩ := hC
      exact ⟨pu_frT (fun q h1 h2 => x3 q (by omega)) a1, pu_fcX (fun q h1 h2 => x3 q (by omega)) a2, pu_frN (fun q h1 h2 => x3 q (by omega)) a3, pu_frP (fun q h1 h2 => x3 q (by omega)) a4, ⟨pu_frI rfl (fun q h1 h2 => x3 q (by omega)) a5, x4⟩, pu_fcZ (fun q h1 h2 => x3 q (by omega)) a7⟩
    · obtain ⟨g1, y1, y2, y3, y4, y5⟩ := pu_mkeep (u := 1) (by decide) hg
      have hg' := hg
      obtain ⟨m1, m2, m3, m4, ⟨m6, m7⟩, m8⟩ := hg
      refine ⟨g1, y1, fun q hq => y2 q (by omega) (by omega), pu_mkeepM (I0 := I0) (I1 := some N) hg' y2 ?_ ?_⟩
      · exact m6.cg hB0 (fun k hk => y4 _ (by omega)) (by rw [y5]; rfl)
      · exact ⟨by rw [y5]; rfl, m3.cg hB.1 hB.2 (fun k hk => y3 k hk)⟩
  · refine pu_same (r := -1) h ?_ ?_
    · unfold D_X7_keep
      rw [if_neg h0, if_neg h1]
    · unfold D_X8_keep
      rw [hw, pu_bI, pu_i00]
theorem pu_mback {T : pu_T} {X : Nat × (Nat → Int32)} {N S : pu_S} {P : List (pu_S × Option Nat)} {I0 I1 : Option pu_S} {Z : Nat × (Nat → Nat) × (Nat → Int32)} {g : am_M} {u : Nat} (hu : u < 2) (hg : pu_M T X N P I0 I1 Z g) (hB : pu_B S) (hI : pu_Im (some S) g u) : ∃ g2, D_X8_back (nI u) g = some (nI (pu_cl S), g2) ∧ pu_hi g g2 ∧ pu_M T X S [] I0 I1 Z g2 := by
  obtain ⟨m1, m2, m3, ⟨m4, m5⟩, ⟨m6, m7⟩, m8⟩ := hg
  have hk := pu_bk25 (f := g) hu 1026 am_fu 0 (by decide) (by decide)
  have h0 : g 97 (1026 * u) = nI (pu_cl S) := hI.2.1
  rw [pu_cp_0, h0] at hk
  have fo : ∀ q, q ≠ 95 → q ≠ 91 → am_wr (am_cp g 97 95 (1026 * u) 0 1026) 91 8 0 q = g q := fun q h1 h2 => by rw [am_wr_ne q h2, am_cp_ne q h1]
  have fo1 : ∀ k, k ≠ 8 → am_wr (am_cp g 97 95 (1026 * u) 0 1026) 91 8 0 91 k = g 91 k := fun k hk => by rw [pu_wr_n2 hk, pu_cp_n1 (by decide)]
  refine ⟨_, ?_, fun q hq => fo q (by omega) (by omega), pu_fmT (fo1 0 (by decide)) (fo1 1 (by decide)) (fo1 3 (by decide)) (fun q h1 h2 => fo q (by omega) (by omega)) m1, pu_fmX (fo1 15 (by decide)) (fo 101 (by decide) (by decide)) m2, ?_, ⟨pu_wr_eq, fun i q hq => by simp at hq⟩, ⟨pu_fmI (fo 97 (by decide) (by decide)) (fo 98 (by decide) (by decide)) m6, pu_fmI (fo 97 (by decide) (by decide)) (fo 98 (by decide) (by decide)) m7⟩, pu_fmZ (fo1 11 (by decide)) (fo 99 (by decide) (by decide)) (fo 100 (by decide) (by decide)) m8⟩
  · unfold D_X8_back
    have w : D_X8_within (nI u) 0 1 g = some (1, g) := by
      rcases pu_wl 1 (by decide) (nI u) g with ⟨_, _, _, hw⟩ | ⟨_, hn⟩
      · exact hw
      · exact absurd rfl (hn u (by omega))
    rw [w, pu_bI, pu_i10, pu_chk hu (by decide), nI_clamp (by omega), hI.1, pu_i10]
    exact hk
  · rw [am_wr_ne _ (by decide)]
    refine hI.2.cg hB.1 hB.2 (fun k hk => ?_)
    simp [am_cp, hk]
theorem pu_cback {T : pu_T} {X : Nat × (Nat → Int32)} {N S : pu_S} {P : List (pu_S × Option Nat)} {I0 I1 : Option pu_S} {Z : Nat × (Nat → Nat) × (Nat → Int32)} {f : am_M} {a : Nat} (ha : 62 < a) (hC : pu_C T X N P I0 I1 Z f) (hB : pu_B S) (hI : pu_Ic (some S) f a (a + 1)) : ∃ f', D_X4_copyFrom 11 999 (a + 1) 999 f = some f' ∧ f' 11 2 = nI (pu_cl S) ∧ pu_lo f (am_wr f' 18 3 0) ∧ pu_C T X S [] I0 I1 Z (am_wr f' 18 3 0) := by
  obtain ⟨f1, x1, x2, x3, x4, x5⟩ := pu_copy (p := 11) (e := 999) (q := a + 1) (d := 999) (by omega) (by omega) (by omega) hI.2.1 hB.1 hB.2
  obtain ⟨a1, a2, a3, ⟨a4, a5, la, a6, a7, a8⟩, ⟨a9, a10⟩, a11⟩ := hC
  have fo : ∀ q, (q < 11 ∨ 17 < q) → q ≠ 18 → am_wr f1 18 3 0 q = f q := fun q h1 h2 => by rw [am_wr_ne q h2, x2 q (by omega)]
  have hc := hB.1
  refine ⟨f1, x1, x3.1, fun q hq => fo q (by omega) (by omega), pu_frT (fun q h1 h2 => fo q (by omega) (by omega)) a1, pu_fcX (fun q h1 h2 => fo q (by omega) (by omega)) a2, ⟨pu_frS (f := f1) (fun q h1 h2 => am_wr_ne q (by omega)) x3, fun k hk => ?_⟩, ⟨pu_wr_eq, by simp, la, a6, by rw [pu_wr_n2 (by decide), x2 18 (by omega)]; exact a7, fun i q hq => by simp at hq⟩, ⟨pu_frI rfl (fun q h1 h2 => fo q (by omega) (by omega)) a9, pu_frI rfl (fun q h1 h2 => fo q (by omega) (by omega)) a10⟩, pu_fcZ (fun q h1 h2 => fo q (by omega) (by omega)) a11⟩
  rw [pu_wr_n1 (by decide), show f1 17 k = _ from x4 k (by omega)]
  exact hI.2.2 k hk
theorem pu_back (a : Int32) {f : am_M} (h : pu_R f) : pu_Go (D_X7_back a) (D_X8_back a) f := by
  obtain ⟨T, X, N, P, I0, I1, Z, hV, hC, hM⟩ := id h
  obtain ⟨hT, hX, hS, hP, hI0, hI1, hZ⟩ := hV
  have w : ∀ u, u < 2 → ∀ g, D_X8_within (nI u) 0 1 g = some (1, g) := fun u hu g => by
    rcases pu_wl 1 (by decide) (nI u) g with ⟨_, _, _, hw⟩ | ⟨_, hn⟩
    · exact hw
    · exact absurd rfl (hn u (by omega))
  rcases pu_01 a with rfl | rfl | ⟨h0, h1, hw⟩
  · cases hI : I0 with
    | none =>
      subst hI
      refine pu_same (r := -2) h ?_ ?_
      · unfold D_X7_back
        rw [if_pos (show nI 0 = 0 from rfl), if_pos (show nI 0 = 0 from rfl), show f 63 1 = 0 from hC.2.2.2.2.1.1, pu_i00]
      · unfold D_X8_back
        rw [w 0 (by decide), pu_bI, pu_i10, pu_chk (show 0 < 2 by decide) (by decide), nI_clamp (by decide), show f 98 0 = 0 from hM.2.2.2.2.1.1, pu_i00]
    | some S =>
      subst hI
      have hSS := hI0 S rfl
      obtain ⟨f1, x1, x2, x3, x4⟩ := pu_cback (a := 63) (by decide) hC (hSS.B hT) hC.2.2.2.2.1.1
      refine pu_join (P' := []) (r := nI (pu_cl S)) (f1 := am_wr f1 18 3 0) ⟨hT, hX, hSS, ⟨trivial, by simp, fun q hq => by simp at hq⟩, hI0, hI1, hZ⟩ ?_ x3 x4 hM (fun g hg => pu_mback (by decide) hg (hSS.B hT) hg.2.2.2.2.1.1)
      unfold D_X7_back
      rw [if_pos (show nI 0 = 0 from rfl), if_pos (show nI 0 = 0 from rfl), show f 63 1 = 1 from hC.2.2.2.2.1.1.1, pu_i10, show D_X4_copyFrom 11 999 64 999 f = some f1 from x1, pu_bV, x2]
  · cases hI : I1 with
    | none =>
      subst hI
      refine pu_same (r := -2) h ?_ ?_
      · unfold D_X7_back
        rw [if_neg (show ¬ nI 1 = 0 by decide), if_pos (show nI 1 = 1 from rfl), if_neg (show ¬ nI 1 = 0 by decide), show f 71 1 = 0 from hC.2.2.2.2.1.2, pu_i00]
      · unfold D_X8_back
        rw [w 1 (by decide), pu_bI, pu_i10, pu_chk (show 1 < 2 by decide) (by decide), nI_clamp (by decide), show f 98 1 = 0 from hM.2.2.2.2.1.2, pu_i00]
    | some S =>
      subst hI
      have hSS := hI1 S rfl
      obtain ⟨f1, x1, x2, x3, x4⟩ := pu_cback (a := 71) (by decide) hC (hSS.B hT) hC.2.2.2.2.1.2
      refine pu_join (P' := []) (r := nI (pu_cl S)) (f1 := am_wr f1 18 3 0) ⟨hT, hX, hSS, ⟨trivial, by simp, fun q hq => by simp at hq⟩, hI0, hI1, hZ⟩ ?_ x3 x4 hM (fun g hg => pu_mback (by decide) hg (hSS.B hT) hg.2.2.2.2.1.2)
      unfold D_X7_back
      rw [if_neg (show ¬ nI 1 = 0 by decide), if_pos (show nI 1 = 1 from rfl), if_neg (show ¬ nI 1 = 0 by decide), show f 71 1 = 1 from hC.2.2.2.2.1.2.1, pu_i10, show D_X4_copyFrom 11 999 72 999 f = some f1 from x1, pu_bV, x2]
  · refine pu_same (r := -1) h ?_ ?_
    · unfold D_X7_back
      rw [if_neg h0, if_neg h1]
    · unfold D_X8_back
      rw [hw, pu_bI, pu_i00]
