/-! type, clear, forget, sees -/
theorem pu_type (a : Int32) {f : am_M} (h : pu_R f) : pu_Go (D_X7_type a) (D_X8_type a) f := by
  obtain ⟨T, X, N, P, I0, I1, Z, hV, hC, hM⟩ := id h
  have hx := hV.2.1
  have c1 : f 1 1 = nI X.1 := hC.2.1.1
  have m1 : f 91 15 = nI X.1 := hM.2.1.1
  by_cases h0 : a < 0
  · exact pu_same h (if_pos h0) (by unfold D_X8_type D_X8_within; rw [if_pos h0, pu_bI, if_pos rfl])
  by_cases h1 : am_int 255 < a
  · refine pu_same (r := -1) h ?_ ?_
    · unfold D_X7_type; rw [if_neg h0, if_pos h1]
    · unfold D_X8_type D_X8_within; rw [if_neg h0, if_pos h1, pu_bI, if_pos rfl]
  by_cases h2 : X.1 < 120
  · have e1 : nI X.1 < 120 := pu_lt h2 (by decide)
    have e2 : ¬ nI X.1 = 120 := pu_ne (b := 120) (by omega) (by omega) (by decide)
    refine pu_join (T' := T) (X' := (X.1 + 1, upd X.2 X.1 a)) (N' := N) (P' := P) (I0' := I0) (I1' := I1) (Z' := Z) (r := nI (X.1 + 1)) (f1 := am_wr (am_wr f 2 X.1 a) 1 1 (nI (X.1 + 1))) ⟨hV.1, by show X.1 + 1 ≤ 120; omega, hV.2.2⟩ ?_ (pu_lo.refl.wr (by decide) |>.wr (by decide)) ?_ hM (fun g hg => ?_)
    · unfold D_X7_type D_X5_append
      rw [if_neg h0, if_neg h1, c1, if_pos e1, pu_chk h2 (by decide), nI_clamp (by omega), pu_bI, if_neg (by decide), pu_wr_eq, nI_1]
    · obtain ⟨a1, a2, a3, a4, ⟨a5, a6⟩, a7⟩ := hC
      refine ⟨pu_frT (pu_g.refl.wr (by decide) |>.wr (by decide)) a1, ⟨pu_wr_eq, fun i hi => ?_⟩, pu_frN (pu_g.refl.wr (by decide) |>.wr (by decide)) a3, pu_frP (pu_g.refl.wr (by decide) |>.wr (by decide)) a4, ⟨pu_frI rfl (pu_g.refl.wr (by decide) |>.wr (by decide)) a5, pu_frI rfl (pu_g.refl.wr (by decide) |>.wr (by decide)) a6⟩, pu_fcZ (pu_g.refl.wr (by decide) |>.wr (by decide)) a7⟩
      rw [pu_wr_n1 (by decide), pu_wr_u]
      have : i < X.1 + 1 := hi
      by_cases hi2 : i = X.1
      · simp [upd, hi2]
      · simp [upd, hi2]
        exact a2.2 i (by omega)
    · obtain ⟨a1, a2, a3, a4, ⟨a5, a6⟩, a7⟩ := hg
      refine ⟨am_wr (am_wr g 101 X.1 a) 91 15 (nI (X.1 + 1)), ?_, pu_hi.refl.wr (by decide) |>.wr (by decide), ?_⟩
      · unfold D_X8_type D_X8_within
        rw [if_neg h0, if_neg h1, pu_bI, if_neg (by decide), a2.1, if_neg e2, pu_chk h2 (by decide), nI_clamp (by omega), nI_1]
      · refine ⟨pu_fmT (by simp [am_wr]) (by simp [am_wr]) (by simp [am_wr]) (pu_g.refl.wr (by decide) |>.wr (by decide)) a1, ⟨pu_wr_eq, fun i hi => ?_⟩, by rw [am_wr_ne _ (by decide), am_wr_ne _ (by decide)]; exact a3, pu_fmP (by simp [am_wr]) (by rw [am_wr_ne _ (by decide), am_wr_ne _ (by decide)]) a4, ⟨pu_fmI (by rw [am_wr_ne _ (by decide), am_wr_ne _ (by decide)]) (by rw [am_wr_ne _ (by decide), am_wr_ne _ (by decide)]) a5, pu_fmI (by rw [am_wr_ne _ (by decide), am_wr_ne _ (by decide)]) (by rw [am_wr_ne _ (by decide), am_wr_ne _ (by decide)]) a6⟩, pu_fmZ (by simp [am_wr]) (by rw [am_wr_ne _ (by decide), am_wr_ne _ (by decide)]) (by rw [am_wr_ne _ (by decide), am_wr_ne _ (by decide)]) a7⟩
        rw [pu_wr_n1 (by decide), pu_wr_u]
        have : i < X.1 + 1 := hi
        by_cases hi2 : i = X.1
        · simp [upd, hi2]
        · simp [upd, hi2]
          exact a2.2 i (by omega)
  · have hx2 : X.1 = 120 := by omega
    refine pu_same (r := -3) h ?_ ?_
    · unfold D_X7_type D_X5_append
      rw [if_neg h0, if_neg h1, c1, hx2, if_neg (by decide), pu_bI, if_pos rfl]
    · unfold D_X8_type D_X8_within
      rw [if_neg h0, if_neg h1, pu_bI, if_neg (by decide), m1, hx2, if_pos (by rfl)]
/-- the model, where but single fields of its object are written -/
theorem pu_clear {f : am_M} (h : pu_R f) : pu_Go D_X7_clear D_X8_clear f := by
  obtain ⟨T, X, N, P, I0, I1, Z, hV, hC, hM⟩ := id h
  refine pu_join (T' := T) (X' := (0, X.2)) (N' := N) (P' := P) (I0' := I0) (I1' := I1) (Z' := Z) (r := nI X.1) (f1 := am_wr f 1 1 0) ⟨hV.1, Nat.zero_le _, hV.2.2⟩ (by unfold D_X7_clear; rw [hC.2.1.1]) (pu_lo.refl.wr (by decide)) ?_ hM (fun g hg => ?_)
  · obtain ⟨a1, a2, a3, a4, ⟨a5, a6⟩, a7⟩ := hC
    exact ⟨pu_frT (pu_g.refl.wr (by decide)) a1, ⟨pu_wr_eq, fun i hi => absurd hi (Nat.not_lt_zero _)⟩, pu_frN (pu_g.refl.wr (by decide)) a3, pu_frP (pu_g.refl.wr (by decide)) a4, ⟨pu_frI rfl (pu_g.refl.wr (by decide)) a5, pu_frI rfl (pu_g.refl.wr (by decide)) a6⟩, pu_fcZ (pu_g.refl.wr (by decide)) a7⟩
  · obtain ⟨a1, a2, a3, a4, ⟨a5, a6⟩, a7⟩ := hg
    exact ⟨am_wr g 91 15 0, by unfold D_X8_clear; rw [a2.1], pu_hi.refl.wr (by decide), pu_fmT (by simp [am_wr]) (by simp [am_wr]) (by simp [am_wr]) (pu_g.refl.wr (by decide)) a1, ⟨pu_wr_eq, fun i hi => absurd hi (Nat.not_lt_zero _)⟩, by rw [am_wr_ne _ (by decide)]; exact a3, pu_fmP (by simp [am_wr]) (am_wr_ne _ (by decide)) a4, ⟨pu_fmI (am_wr_ne _ (by decide)) (am_wr_ne _ (by decide)) a5, pu_fmI (am_wr_ne _ (by decide)) (am_wr_ne _ (by decide)) a6⟩, pu_fmZ (by simp [am_wr]) (am_wr_ne _ (by decide)) (am_wr_ne _ (by decide)) a7⟩
theorem pu_forget {f : am_M} (h : pu_R f) : pu_Go D_X7_forget D_X8_forget f := by
  obtain ⟨T, X, N, P, I0, I1, Z, hV, hC, hM⟩ := id h
  refine pu_join (T' := T) (X' := X) (N' := N) (P' := P) (I0' := I0) (I1' := I1) (Z' := (0, Z.2)) (r := nI Z.1) (f1 := am_wr f 88 2 0) ⟨hV.1, hV.2.1, hV.2.2.1, hV.2.2.2.1, hV.2.2.2.2.1, hV.2.2.2.2.2.1, Nat.zero_le _, fun i hi => absurd hi (Nat.not_lt_zero _)⟩ (by unfold D_X7_forget; rw [hC.2.2.2.2.2.1]) (pu_lo.refl.wr (by decide)) ?_ hM (fun g hg => ?_)
  · obtain ⟨a1, a2, a3, a4, ⟨a5, a6⟩, a7⟩ := hC
    exact ⟨pu_frT (pu_g.refl.wr (by decide)) a1, pu_fcX (pu_g.refl.wr (by decide)) a2, pu_frN (pu_g.refl.wr (by decide)) a3, pu_frP (pu_g.refl.wr (by decide)) a4, ⟨pu_frI rfl (pu_g.refl.wr (by decide)) a5, pu_frI rfl (pu_g.refl.wr (by decide)) a6⟩, ⟨pu_wr_eq, fun i hi => absurd hi (Nat.not_lt_zero _)⟩⟩
  · obtain ⟨a1, a2, a3, a4, ⟨a5, a6⟩, a7⟩ := hg
    exact ⟨am_wr g 91 11 0, by unfold D_X8_forget; rw [a7.1], pu_hi.refl.wr (by decide), pu_fmT (by simp [am_wr]) (by simp [am_wr]) (by simp [am_wr]) (pu_g.refl.wr (by decide)) a1, pu_fmX (by simp [am_wr]) (am_wr_ne _ (by decide)) a2, by rw [am_wr_ne _ (by decide)]; exact a3, pu_fmP (by simp [am_wr]) (am_wr_ne _ (by decide)) a4, ⟨pu_fmI (am_wr_ne _ (by decide)) (am_wr_ne _ (by decide)) a5, pu_fmI (am_wr_ne _ (by decide)) (am_wr_ne _ (by decide)) a6⟩, ⟨pu_wr_eq, fun i hi => absurd hi (Nat.not_lt_zero _)⟩⟩
