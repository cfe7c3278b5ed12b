/-! the calls that only answer -/
def pu_Eq (x y : Option (Int32 × am_M)) (f : am_M) : Prop := ∃ r, x = some (r, f) ∧ y = some (r, f)
theorem pu_Eq.go {A B : am_M → Option (Int32 × am_M)} {f : am_M} (h : pu_Eq (A f) (B f) f) (hR : pu_R f) : pu_Go A B f := by
  obtain ⟨r, h1, h2⟩ := h
  exact ⟨r, f, f, h1, h2, hR⟩
theorem pu_Eq.ite {c : Prop} [Decidable c] {a b a' b' : Option (Int32 × am_M)} {f : am_M} (h1 : pu_Eq a b f) (h2 : pu_Eq a' b' f) : pu_Eq (if c then a else a') (if c then b else b') f := by
  by_cases h : c
  · rw [if_pos h, if_pos h]; exact h1
  · rw [if_neg h, if_neg h]; exact h2
theorem pu_i10 {α : Type} {a b : α} : (if (1 : Int32) = 0 then a else b) = b := if_neg (by decide)
theorem pu_i00 {α : Type} {a b : α} : (if (0 : Int32) = 0 then a else b) = a := if_pos rfl
theorem pu_count (a : Int32) {f : am_M} (h : pu_R f) : pu_Go (D_X7_count a) (D_X8_count a) f := by
  refine pu_Eq.go ?_ h
  obtain ⟨T, X, N, P, I0, I1, Z, hV, hC, hM⟩ := h
  obtain ⟨hT, hX, hS, hP, hI0, hI1, hZ⟩ := hV
  obtain ⟨a1, a2, a3, a4, a5, a7⟩ := hC
  obtain ⟨b1, b2, b3, b4, b5, b7⟩ := hM
  unfold D_X7_count D_X8_count
  refine pu_Eq.ite ⟨nI (pu_sl T), by rw [a1.1], by rw [b1.1]⟩ ?_
  refine pu_Eq.ite ⟨nI (pu_nm T), by rw [a1.2.1], by rw [b1.2.1]⟩ ?_
  refine pu_Eq.ite ⟨nI (pu_nt T), by rw [a1.2.2.1], by rw [b1.2.2.1]⟩ ?_
  refine pu_Eq.ite ⟨nI (pu_cl N), by rw [a3.1.1], by rw [b3.1]⟩ ?_
  refine pu_Eq.ite ⟨nI (pu_cu N), by rw [a3.1.2.1], by rw [pu_mCursor hS b3, pu_bI]⟩ ?_
  refine pu_Eq.ite ⟨nI (pu_lst T N), by rw [pu_cLeast hT hS a1 a3.1, pu_bI], by rw [pu_mLeast hT hS b1 b3, pu_bI]⟩ ?_
  refine pu_Eq.ite ⟨nI (pu_ro T N), by rw [pu_cRoom hT hS a1 a3.1, pu_bI], by rw [pu_mRoom hT hS b1 b3, pu_bI]⟩ ?_
  refine pu_Eq.ite ⟨nI (pu_rw N).length, by rw [a3.1.2.2.1], by rw [b3.2.1]⟩ ?_
  refine pu_Eq.ite ⟨nI Z.1, by rw [a7.1], by rw [b7.1]⟩ ?_
  refine pu_Eq.ite ⟨nI X.1, by rw [a2.1], by rw [b2.1]⟩ ?_
  refine pu_Eq.ite ⟨nI P.length, by rw [a4.1], by rw [b4.1]⟩ ?_
  exact ⟨-1, rfl, rfl⟩
theorem pu_hasEvent {p c : Nat} {f : am_M} (h0 : f p 2 = nI c) {j : Nat} (hj : j < c) (hc : c ≤ 999) : D_X4_hasEvent p 999 (nI j) f = some (1, f) := by
  have e9 : nI j < Int32.ofNat 999 := pu_lt (b := 999) (by omega) (by decide)
  unfold D_X4_hasEvent
  rw [if_neg (nI_pos (by omega)), h0, if_pos (pu_lt hj (by omega)), if_pos e9]
theorem pu_hasNoEvent {p e c : Nat} {a : Int32} {f : am_M} (h0 : f p 2 = nI c) (h : a < 0 ∨ ∃ j, c ≤ j ∧ j < 2 ^ 31 ∧ a = nI j) : D_X4_hasEvent p e a f = some (0, f) := by
  unfold D_X4_hasEvent
  rcases h with h | ⟨j, h1, h2, rfl⟩
  · rw [if_pos h]
  · rw [if_neg (nI_pos h2), h0, if_neg (pu_nlt h1 h2)]
section EV
variable {ev : Nat → Nat × Nat × Nat} {c : Nat} {f : am_M} {p : Nat}
theorem pu_cKind (hc : c ≤ 999) (hE : pu_Eok ev c) (hd : ∀ k, k < c → f (p + 6) k = pu_ce (ev k)) {k : Nat} (hk : k < c) : D_X4_kindOf p 999 (nI k) f = some (nI (ev k).1, f) := by
  obtain ⟨a1, a2, a3, _⟩ := hE k hk
  unfold D_X4_kindOf
  rw [pu_chk (by omega) (by decide), nI_clamp (by omega), hd k hk]
  unfold pu_ce
  rw [(pu_ces _ (show (ev k).1 < 3 by omega) _ a2 _ (show (ev k).2.2 < 100 by omega)).2.1]
theorem pu_cMaker (hc : c ≤ 999) (hE : pu_Eok ev c) (hd : ∀ k, k < c → f (p + 6) k = pu_ce (ev k)) {k : Nat} (hk : k < c) : D_X4_makerOf p 999 (nI k) f = some (nI (ev k).2.1, f) := by
  obtain ⟨a1, a2, a3, _⟩ := hE k hk
  unfold D_X4_makerOf
  rw [pu_chk (by omega) (by decide), nI_clamp (by omega), hd k hk]
  unfold pu_ce
  rw [(pu_ces _ (show (ev k).1 < 3 by omega) _ a2 _ (show (ev k).2.2 < 100 by omega)).1]
theorem pu_cValue (hc : c ≤ 999) (hE : pu_Eok ev c) (hd : ∀ k, k < c → f (p + 6) k = pu_ce (ev k)) {k : Nat} (hk : k < c) : D_X4_valueOf p 999 (nI k) f = some (nI (ev k).2.2, f) := by
  obtain ⟨a1, a2, a3, _⟩ := hE k hk
  unfold D_X4_valueOf
  rw [pu_chk (by omega) (by decide), nI_clamp (by omega), hd k hk]
  unfold pu_ce
  rw [(pu_ces _ (show (ev k).1 < 3 by omega) _ a2 _ (show (ev k).2.2 < 100 by omega)).2.2.1]
end EV
theorem pu_event (a b : Int32) {f : am_M} (h : pu_R f) : pu_Go (D_X7_event a b) (D_X8_event a b) f := by
  refine pu_Eq.go ?_ h
  obtain ⟨T, X, N, P, I0, I1, Z, hV, hC, hM⟩ := h
  obtain ⟨hT, hX, hS, hP, hI0, hI1, hZ⟩ := hV
  obtain ⟨a1, a2, a3, a4, a5, a7⟩ := hC
  obtain ⟨b1, b2, b3, b4, b5, b7⟩ := hM
  have hc := hS.cl
  unfold D_X7_event D_X8_event D_X8_isEvent
  rw [b3.1]
  rcases pu_in a (pu_cl N) with ⟨j, hj, rfl⟩ | hn
  · have hk := pu_cKind (p := 11) hc hS.2.1 a3.2 hj
    have hmk := pu_cMaker (p := 11) hc hS.2.1 a3.2 hj
    have hv := pu_cValue (p := 11) hc hS.2.1 a3.2 hj
    have hm := b3.2.2.2.2.2.2 j hj
    obtain ⟨c1, c2, c3, c4⟩ := hS.2.1 j hj
    obtain ⟨d1, d2, d3⟩ := pu_mes _ (show (pu_ev N j).1 < 3 by omega) _ c2 _ (show (pu_ev N j).2.2 < 100 by omega)
    have e1 : (26 : Int32) + nI j = nI (26 + j) := nI_add 26 j
    rw [pu_hasEvent a3.1.1 hj hc, pu_bI, pu_i10, pu_w1 hj (by omega), pu_bI, if_pos (Or.inr rfl), pu_bI, pu_i10]
    rcases pu_wl 2 (by decide) b f with ⟨i, hi, rfl, hw⟩ | ⟨hw, hne⟩
    · rw [show D_X8_within (nI i) 0 2 f = some (1, f) from hw, pu_bI, pu_i10]
      unfold D_X8_tellEvent
      rw [e1, pu_chk (by omega) (by decide), nI_clamp (by omega), hm]
      unfold pu_me
      rw [d1, d2, d3]
      have : i = 0 ∨ i = 1 ∨ i = 2 := by omega
      rcases this with rfl | rfl | rfl
      · exact ⟨nI (pu_ev N j).1, by rw [if_pos nI_0, hk, pu_bI], by rw [if_pos nI_0, pu_bI]⟩
      · exact ⟨nI (pu_ev N j).2.1, by rw [if_neg (by decide), if_pos (by decide), hmk, pu_bI], by rw [if_neg (by decide), if_pos (by decide), pu_bI]⟩
      · by_cases hz : (pu_ev N j).1 = 1
        · exact ⟨nI (pu_ev N j).2.2, by rw [if_neg (by decide), if_neg (by decide), if_pos (by decide), hk, pu_bI, hz, if_pos (by decide), hv, pu_bI], by rw [if_neg (by decide), if_neg (by decide), hz, if_pos (by decide), pu_bI]⟩
        · have hz' : ¬ nI (pu_ev N j).1 = 1 := pu_ne (b := 1) hz (by omega) (by decide)
          exact ⟨-9, by rw [if_neg (by decide), if_neg (by decide), if_pos (by decide), hk, pu_bI, if_neg hz'], by rw [if_neg (by decide), if_neg (by decide), if_neg hz', pu_bI]⟩
    · rw [show D_X8_within b 0 2 f = some (0, f) from hw, pu_bI, pu_i00, if_neg (show ¬ b = 0 from hne 0 (by decide)), if_neg (show ¬ b = 1 from hne 1 (by decide)), if_neg (show ¬ b = 2 from hne 2 (by decide))]
      exact ⟨-1, rfl, rfl⟩
  · rw [pu_hasNoEvent a3.1.1 hn, pu_bI, pu_i00, pu_w0 hn (by omega), pu_bI, if_pos (Or.inl rfl), pu_bI, pu_i00]
    exact ⟨-1, rfl, rfl⟩
theorem pu_hasM {f : am_M} {n : Nat} (h : f 3 1 = nI n) {j : Nat} (hj : j < n) (hn : n < 2 ^ 30) : D_X6_hasMaker (nI j) f = some (1, f) := by
  unfold D_X6_hasMaker
  rw [if_neg (nI_pos (by omega)), h, if_pos (pu_lt hj (by omega))]
theorem pu_hasNoM {f : am_M} {n : Nat} {a : Int32} (h : f 3 1 = nI n) (ha : a < 0 ∨ ∃ j, n ≤ j ∧ j < 2 ^ 31 ∧ a = nI j) : D_X6_hasMaker a f = some (0, f) := by
  unfold D_X6_hasMaker
  rcases ha with ha | ⟨j, h1, h2, rfl⟩
  · rw [if_pos ha]
  · rw [if_neg (nI_pos h2), h, if_neg (pu_nlt h1 h2)]
theorem pu_hasT {f : am_M} {n : Nat} (h : f 3 2 = nI n) {j : Nat} (hj : j < n) (hn : n < 2 ^ 30) : D_X6_hasTaker (nI j) f = some (1, f) := by
  unfold D_X6_hasTaker
  rw [if_neg (nI_pos (by omega)), h, if_pos (pu_lt hj (by omega))]
theorem pu_hasNoT {f : am_M} {n : Nat} {a : Int32} (h : f 3 2 = nI n) (ha : a < 0 ∨ ∃ j, n ≤ j ∧ j < 2 ^ 31 ∧ a = nI j) : D_X6_hasTaker a f = some (0, f) := by
  unfold D_X6_hasTaker
  rcases ha with ha | ⟨j, h1, h2, rfl⟩
  · rw [if_pos ha]
  · rw [if_neg (nI_pos h2), h, if_neg (pu_nlt h1 h2)]
theorem pu_isM {f : am_M} {n : Nat} (h : f 91 1 = nI n) {j : Nat} (hj : j < n) (hn : n < 2 ^ 30) : D_X8_isMaker (nI j) f = some (1, f) := by
  unfold D_X8_isMaker
  rw [h, pu_w1 hj hn, pu_bI, if_pos (Or.inr rfl)]
theorem pu_isNoM {f : am_M} {n : Nat} {a : Int32} (h : f 91 1 = nI n) (ha : a < 0 ∨ ∃ j, n ≤ j ∧ j < 2 ^ 31 ∧ a = nI j) (hn : n < 2 ^ 30) : D_X8_isMaker a f = some (0, f) := by
  unfold D_X8_isMaker
  rw [h, pu_w0 ha hn, pu_bI, if_pos (Or.inl rfl)]
theorem pu_isT {f : am_M} {n : Nat} (h : f 91 3 = nI n) {j : Nat} (hj : j < n) (hn : n < 2 ^ 30) : D_X8_isTaker (nI j) f = some (1, f) := by
  unfold D_X8_isTaker
  rw [h, pu_w1 hj hn, pu_bI, if_pos (Or.inr rfl)]
theorem pu_isNoT {f : am_M} {n : Nat} {a : Int32} (h : f 91 3 = nI n) (ha : a < 0 ∨ ∃ j, n ≤ j ∧ j < 2 ^ 31 ∧ a = nI j) (hn : n < 2 ^ 30) : D_X8_isTaker a f = some (0, f) := by
  unfold D_X8_isTaker
  rw [h, pu_w0 ha hn, pu_bI, if_pos (Or.inl rfl)]
theorem pu_isE {f : am_M} {n : Nat} (h : f 95 0 = nI n) {j : Nat} (hj : j < n) (hn : n < 2 ^ 30) : D_X8_isEvent (nI j) f = some (1, f) := by
  unfold D_X8_isEvent
  rw [h, pu_w1 hj hn, pu_bI, if_pos (Or.inr rfl)]
theorem pu_isNoE {f : am_M} {n : Nat} {a : Int32} (h : f 95 0 = nI n) (ha : a < 0 ∨ ∃ j, n ≤ j ∧ j < 2 ^ 31 ∧ a = nI j) (hn : n < 2 ^ 30) : D_X8_isEvent a f = some (0, f) := by
  unfold D_X8_isEvent
  rw [h, pu_w0 ha hn, pu_bI, if_pos (Or.inl rfl)]
theorem pu_maker (a b : Int32) {f : am_M} (h : pu_R f) : pu_Go (D_X7_maker a b) (D_X8_maker a b) f := by
  refine pu_Eq.go ?_ h
  obtain ⟨T, X, N, P, I0, I1, Z, hV, hC, hM⟩ := h
  obtain ⟨hT, hX, hS, hP, hI0, hI1, hZ⟩ := hV
  obtain ⟨a1, a2, a3, a4, a5, a7⟩ := hC
  obtain ⟨b1, b2, b3, b4, b5, b7⟩ := hM
  have hnm := hT.2.1
  have hl := hS.len hT
  unfold D_X7_maker D_X8_maker
  rcases pu_in a (pu_nm T) with ⟨j, hj, rfl⟩ | hn
  · rw [pu_hasM a1.2.1 hj (by omega), pu_bI, pu_i10, pu_isM b1.2.1 hj (by omega), pu_bI, pu_i10]
    rcases pu_wl 3 (by decide) b f with ⟨i, hi, rfl, hw⟩ | ⟨hw, hne⟩
    · rw [show D_X8_within (nI i) 0 3 f = some (1, f) from hw, pu_bI, pu_i10]
      unfold D_X8_tellMaker
      rw [pu_mPlace hT hS b3 (by omega), pu_bI, pu_cPlace hT hS a3.1 (by omega), pu_bI]
      have : i = 0 ∨ i = 1 ∨ i = 2 ∨ i = 3 := by omega
      rcases this with rfl | rfl | rfl | rfl
      · exact ⟨nI (pu_ra T j), by rw [if_pos nI_0, pu_chk (by omega) (by decide), nI_clamp (by omega), a1.2.2.2.1 j hj], by rw [if_pos nI_0, pu_chk (by omega) (by decide), nI_clamp (by omega), b1.2.2.2.1 j hj, pu_bI]⟩
      · refine ⟨nI (pu_wa (pu_rw N) j), ?_, ?_⟩
        · rw [if_neg (by decide), if_pos (by decide), pu_chk (by omega) (by decide), nI_clamp (by omega), show f 16 j = _ from a3.1.2.2.2.2.2.2.2 j (by omega)]
        · rw [if_neg (by decide), if_pos (by decide)]
          cases hx : pu_ix (pu_rw N) j with
          | none => rw [if_pos (show pu_cd none = -9 from rfl), pu_bI, (pu_ix_none _ _ hx).1]; rfl
          | some i =>
            obtain ⟨q, q1, q2, q3⟩ := pu_ix_some _ _ _ hx
            have hil : i < (pu_rw N).length := by
              rcases Nat.lt_or_ge i (pu_rw N).length with h | h
              · exact h
              · rw [List.getElem?_eq_none h] at q1; simp at q1
            have e1 : (23 : Int32) + nI i = nI (23 + i) := nI_add 23 i
            show am_bI (if nI i = -9 then _ else am_chk (23 + nI i) 1026 (some (f 95 (23 + nI i).toNatClampNeg, f))) _ = _
            rw [if_neg (pu_neg9 (by omega)), e1, pu_chk (by omega) (by decide), nI_clamp (by omega), (b3.2.2.2.2.2.1 i q q1).2, pu_bI, q3]
      · exact ⟨pu_cd (pu_ix (pu_rw N) j), by rw [if_neg (by decide), if_neg (by decide), if_pos (by decide)], by rw [if_neg (by decide), if_neg (by decide), if_pos (by decide), pu_bI]⟩
      · exact ⟨nI (pu_oc (pu_ev N) j (pu_cl N) 0), by rw [if_neg (by decide), if_neg (by decide), if_neg (by decide), if_pos (by decide), pu_cOpen hS a3.1 a3.2 (by omega), pu_bI], by rw [if_neg (by decide), if_neg (by decide), if_neg (by decide), pu_mOpen hS b3 (by omega), pu_bI, pu_bI]⟩
    · rw [show D_X8_within b 0 3 f = some (0, f) from hw, pu_bI, pu_i00, if_neg (show ¬ b = 0 from hne 0 (by decide)), if_neg (show ¬ b = 1 from hne 1 (by decide)), if_neg (show ¬ b = 2 from hne 2 (by decide)), if_neg (show ¬ b = 3 from hne 3 (by decide))]
      exact ⟨-1, rfl, rfl⟩
  · rw [pu_hasNoM a1.2.1 hn, pu_bI, pu_i00, pu_isNoM b1.2.1 hn (by omega), pu_bI, pu_i00]
    exact ⟨-1, rfl, rfl⟩
theorem pu_taker (a b : Int32) {f : am_M} (h : pu_R f) : pu_Go (D_X7_taker a b) (D_X8_taker a b) f := by
  refine pu_Eq.go ?_ h
  obtain ⟨T, X, N, P, I0, I1, Z, hV, hC, hM⟩ := h
  obtain ⟨hT, hX, hS, hP, hI0, hI1, hZ⟩ := hV
  obtain ⟨a1, a2, a3, a4, a5, a7⟩ := hC
  obtain ⟨b1, b2, b3, b4, b5, b7⟩ := hM
  have hnt := hT.2.2.1
  unfold D_X7_taker D_X8_taker
  rcases pu_in a (pu_nt T) with ⟨j, hj, rfl⟩ | hn
  · rw [pu_hasT a1.2.2.1 hj (by omega), pu_bI, pu_i10, pu_isT b1.2.2.1 hj (by omega), pu_bI, pu_i10]
    rcases pu_wl 6 (by decide) b f with ⟨i, hi, rfl, hw⟩ | ⟨hw, hne⟩
    · have e1 : (1 : Int32) + nI j = nI (1 + j) := nI_add 1 j
      have e7 : (7 : Int32) + nI j = nI (7 + j) := nI_add 7 j
      have e13 : (13 : Int32) + nI j = nI (13 + j) := nI_add 13 j
      rw [show D_X8_within (nI i) 0 6 f = some (1, f) from hw, pu_bI, pu_i10]
      unfold D_X8_tellTaker
      have hj6 : j < 6 := by omega
      have g1 : 1 + j < 1026 := by omega
      have g2 : 7 + j < 1026 := by omega
      have g3 : 13 + j < 1026 := by omega
      have k0 : j < 2 ^ 31 := by omega
      have k1 : 1 + j < 2 ^ 31 := by omega
      have k2 : 7 + j < 2 ^ 31 := by omega
      have k3 : 13 + j < 2 ^ 31 := by omega
      have l1 : f 12 j = _ := a3.1.2.2.2.1 j hj6
      have l2 : f 13 j = _ := a3.1.2.2.2.2.1 j hj6
      have l3 : f 14 j = _ := a3.1.2.2.2.2.2.1 j hj6
      have l4 : f 11 3 = _ := a3.1.2.1
      simp only [pu_cAtMost hT hS a1 a3.1 hj, pu_mAtMost hT hS b1 b3 hj, pu_bI, pu_mCursor hS b3, pu_chk hj6 (by decide), e1, e7, e13, pu_chk g1 (by decide), pu_chk g2 (by decide), pu_chk g3 (by decide), nI_clamp k0, nI_clamp k1, nI_clamp k2, nI_clamp k3, a1.2.2.2.2.1 j hj, a1.2.2.2.2.2 j hj, b1.2.2.2.2.1 j hj, b1.2.2.2.2.2 j hj, l1, l2, l3, l4, b3.2.2.1 j hj6, b3.2.2.2.1 j hj6, b3.2.2.2.2.1 j hj6]
      have : i = 0 ∨ i = 1 ∨ i = 2 ∨ i = 3 ∨ i = 4 ∨ i = 5 ∨ i = 6 := by omega
      rcases this with rfl | rfl | rfl | rfl | rfl | rfl | rfl <;> exact ⟨_, rfl, rfl⟩
    · rw [show D_X8_within b 0 6 f = some (0, f) from hw, pu_bI, pu_i00, if_neg (show ¬ b = 0 from hne 0 (by decide)), if_neg (show ¬ b = 1 from hne 1 (by decide)), if_neg (show ¬ b = 2 from hne 2 (by decide)), if_neg (show ¬ b = 3 from hne 3 (by decide)), if_neg (show ¬ b = 4 from hne 4 (by decide)), if_neg (show ¬ b = 5 from hne 5 (by decide)), if_neg (show ¬ b = 6 from hne 6 (by decide))]
      exact ⟨-1, rfl, rfl⟩
  · rw [pu_hasNoT a1.2.2.1 hn, pu_bI, pu_i00, pu_isNoT b1.2.2.1 hn (by omega), pu_bI, pu_i00]
    exact ⟨-1, rfl, rfl⟩
