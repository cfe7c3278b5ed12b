/-! the law's own loop, given each call -/
def pu_Each : Prop := ∀ f, pu_R f → (∀ a, pu_Go (D_X7_type a) (D_X8_type a) f) ∧ pu_Go D_X7_clear D_X8_clear f ∧ pu_Go D_X7_tells D_X8_tells f ∧ (∀ a b, pu_Go (D_X7_claims a b) (D_X8_claims a b) f) ∧ (∀ a b, pu_Go (D_X7_fills a b) (D_X8_fills a b) f) ∧ (∀ a, pu_Go (D_X7_gaps a) (D_X8_gaps a) f) ∧ (∀ a b, pu_Go (D_X7_takes a b) (D_X8_takes a b) f) ∧ (∀ a, pu_Go (D_X7_calls a) (D_X8_calls a) f) ∧ pu_Go D_X7_undo D_X8_undo f ∧ (∀ a b, pu_Go (D_X7_event a b) (D_X8_event a b) f) ∧ (∀ a b, pu_Go (D_X7_taker a b) (D_X8_taker a b) f) ∧ (∀ a b, pu_Go (D_X7_maker a b) (D_X8_maker a b) f) ∧ pu_Go D_X7_blamed D_X8_blamed f ∧ pu_Go D_X7_steps D_X8_steps f ∧ (∀ a b, pu_Go (D_X7_rule a b) (D_X8_rule a b) f) ∧ (∀ a b, pu_Go (D_X7_waited a b) (D_X8_waited a b) f) ∧ (∀ a b, pu_Go (D_X7_done a b) (D_X8_done a b) f) ∧ (∀ a b, pu_Go (D_X7_sees a b) (D_X8_sees a b) f) ∧ pu_Go D_X7_forget D_X8_forget f ∧ pu_Go D_X7_which D_X8_which f ∧ pu_Go D_X7_look D_X8_look f ∧ (∀ a, pu_Go (D_X7_keep a) (D_X8_keep a) f) ∧ (∀ a, pu_Go (D_X7_back a) (D_X8_back a) f) ∧ (∀ a, pu_Go (D_X7_count a) (D_X8_count a) f)
theorem pu_st {A B : am_M → Option (Int32 × am_M)} {f : am_M} {K : am_M → Option (Int32 × am_M)} (h : pu_Go A B f) (hK : ∀ f2, pu_R f2 → ∃ f', K f2 = some (1, f')) : ∃ f', (am_bI (A f) fun v1 f1 => am_bI (B f1) fun v2 f2 => if v1 = v2 then K f2 else some (0, f2)) = some (1, f') := by
  obtain ⟨r, f1, f2, h1, h2, h3⟩ := h
  obtain ⟨f', hf⟩ := hK f2 h3
  refine ⟨f', ?_⟩
  rw [h1, pu_bI, h2, pu_bI, if_pos rfl, hf]
theorem pu_ite {c : Prop} [Decidable c] {a b : Option (Int32 × am_M)} (ha : ∃ f', a = some (1, f')) (hb : ∃ f', b = some (1, f')) : ∃ f', (if c then a else b) = some (1, f') := by
  by_cases h : c
  · rw [if_pos h]; exact ha
  · rw [if_neg h]; exact hb
set_option maxHeartbeats 1000000 in
theorem pu_loop (hE : pu_Each) (X : am_X) (hL : X.1 ≤ 1536) : ∀ (n j : Nat) (f : am_M), X.1 < j + n → j ≤ X.1 → pu_R f → ∃ f', D_L_law_18 X n (nI j) f = some (1, f')
  | 0, j, f, h1, h2, _ => absurd h1 (by omega)
  | n + 1, j, f, h1, h2, hR => by
    by_cases hj : X.1 < j + 3
    · refine ⟨f, ?_⟩
      show (if nI X.1 - nI 3 < nI j then some (1, f) else _) = _
      exact if_pos ((pu_sublt (by omega) (by decide) (by omega)).mpr (by omega))
    have hK : ∀ f2, pu_R f2 → ∃ f', D_L_law_18 X n (nI (j + 3)) f2 = some (1, f') := fun f2 h => pu_loop hE X hL n (j + 3) f2 (by omega) (by omega) h
    have e1 : nI j + 1 = nI (j + 1) := nI_1 j
    have e2 : nI j + 2 = nI (j + 2) := nI_add j 2
    have e3 : nI j + 3 = nI (j + 3) := nI_add j 3
    have hE' := hE f hR
    unfold D_L_law_18
    rw [if_neg (fun q => by have := (pu_sublt (a := X.1) (b := 3) (c := j) (by omega) (by decide) (by omega)).mp q; omega)]
    simp only [e1, e2, e3, pu_chk (show j < X.1 by omega) (show X.1 < 2 ^ 31 by omega), pu_chk (show j + 1 < X.1 by omega) (show X.1 < 2 ^ 31 by omega), pu_chk (show j + 2 < X.1 by omega) (show X.1 < 2 ^ 31 by omega)]
    generalize X.2 (nI j).toNatClampNeg &&& 31 = w
    generalize X.2 (nI (j + 1)).toNatClampNeg = u
    generalize X.2 (nI (j + 2)).toNatClampNeg = v
    obtain ⟨h0, h1, h2, h3, h4, h5, h6, h7, h8, h9, h10, h11, h12, h13, h14, h15, h16, h17, h18, h19, h20, h21, h22, h23⟩ := hE'
    refine pu_ite (pu_st (h0 u) hK) ?_
    refine pu_ite (pu_st (h1) hK) ?_
    refine pu_ite (pu_st (h2) hK) ?_
    refine pu_ite (pu_st (h3 u v) hK) ?_
    refine pu_ite (pu_st (h4 u v) hK) ?_
    refine pu_ite (pu_st (h5 u) hK) ?_
    refine pu_ite (pu_st (h6 u v) hK) ?_
    refine pu_ite (pu_st (h7 u) hK) ?_
    refine pu_ite (pu_st (h8) hK) ?_
    refine pu_ite (pu_st (h9 u v) hK) ?_
    refine pu_ite (pu_st (h10 u v) hK) ?_
    refine pu_ite (pu_st (h11 u v) hK) ?_
    refine pu_ite (pu_st (h12) hK) ?_
    refine pu_ite (pu_st (h13) hK) ?_
    refine pu_ite (pu_st (h14 u v) hK) ?_
    refine pu_ite (pu_st (h15 u v) hK) ?_
    refine pu_ite (pu_st (h16 u v) hK) ?_
    refine pu_ite (pu_st (h17 u v) hK) ?_
    refine pu_ite (pu_st (h18) hK) ?_
    refine pu_ite (pu_st (h19) hK) ?_
    refine pu_ite (pu_st (h20) hK) ?_
    refine pu_ite (pu_st (h21 u) hK) ?_
    refine pu_ite (pu_st (h22 u) hK) ?_
    refine pu_ite (pu_st (h23 u) hK) ?_
    exact hK f hR
theorem am_pure_of (hE : pu_Each) (h0 : pu_R am_fb) (X : am_X) (hL : X.1 ≤ 1536) : ∃ f', D_L_law X am_fb = some (1, f') := pu_loop hE X hL am_fu 0 am_fb (by show X.1 < 0 + 6000; omega) (Nat.zero_le _) h0
