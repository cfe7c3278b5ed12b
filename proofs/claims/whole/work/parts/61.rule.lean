/-! rule, waited, done -/
theorem pu_is60 {j : Nat} (hj : j ≤ 60) (f : am_M) : D_X7_isTicks (nI j) f = some (1, f) ∧ D_X8_isTicks (nI j) f = some (1, f) := by
  have e0 : ¬ nI j < 0 := nI_pos (by omega)
  have e1 : ¬ (60 : Int32) < nI j := pu_nlt (b := j) (a := 60) hj (by decide)
  unfold D_X7_isTicks D_X8_isTicks D_X8_within
  exact ⟨by rw [if_neg e0, if_neg e1], by rw [if_neg e0, if_neg e1, pu_bI, if_pos (Or.inr rfl)]⟩
theorem pu_fullb : ∀ n, n < 7 → ∀ i, i < n → (2 ^ n - 1) / 2 ^ i % 2 = 1 := by decide +kernel
theorem pu_full64 : ∀ n, n < 7 → 2 ^ n - 1 < 64 := by decide +kernel
theorem pu_le_so {dn : Nat → Nat} {b c : Nat} : ∀ i, (∀ t, t < i → b / 2 ^ t % 2 = 1) → (∀ t, t < i → dn t ≤ c) → pu_le dn c i = match pu_so dn b i with
    | none => c
    | some s => dn s
  | 0, _, _ => rfl
  | i + 1, hb, hd => by
    have ih := pu_le_so (dn := dn) (b := b) (c := c) i (fun t ht => hb t (by omega)) (fun t ht => hd t (by omega))
    have hbi := hb i (by omega)
    have hdi := hd i (by omega)
    have e : pu_le dn c (i + 1) = if dn i < pu_le dn c i then dn i else pu_le dn c i := rfl
    rw [e]
    cases hs : pu_so dn b i with
    | none =>
      rw [hs] at ih
      have ih : pu_le dn c i = c := ih
      rw [pu_so_n hbi hs, ih]
      show _ = dn i
      split <;> omega
    | some s =>
      rw [hs] at ih
      have ih : pu_le dn c i = dn s := ih
      by_cases hq : dn i < dn s
      · rw [pu_so_a hbi hs hq, ih, if_pos hq]
      · rw [pu_so_b hbi hs hq, ih, if_neg hq]
theorem pu_mslowAt {nt b k : Nat} {dn : Nat → Nat} {f : am_M} (hn : nt ≤ 6) (hk : k ≤ 60) (hbits : ∀ t, t < nt → b / 2 ^ t % 2 = 1) (h3 : f 91 3 = nI nt) (hd : ∀ t, t < nt → f 107 (6 * k + t) = nI (dn t)) (hdb : ∀ t, t < nt → dn t < 2 ^ 30) : ∀ n i, i ≤ nt → nt < i + n → D_X8_slowAt_5 n (nI k) (pu_cd (pu_so dn b i)) (nI i) f = some (pu_cd (pu_so dn b nt), f)
  | 0, i, h1, h2 => absurd h2 (by omega)
  | n + 1, i, h1, h2 => by
    rw [D_X8_slowAt_5, h3]
    by_cases hi : i < nt
    · have ih := pu_mslowAt hn hk hbits h3 hd hdb n (i + 1) (by omega) (by omega)
      have hdi := hdb i hi
      have hbi := hbits i hi
      rw [if_pos (pu_lt hi (by omega)), nI_1]
      cases hs : pu_so dn b i with
      | none => rw [pu_so_n hbi hs] at ih; exact (if_pos rfl).trans ih
      | some s =>
        have hsl := (pu_so_lt i s hs).1
        have hds := hdb s (by omega)
        have e1 : (6 : Int32) * nI k + nI i = nI (6 * k + i) := by rw [← nI_add, ← pu_mul]; rfl
        have e2 : (6 : Int32) * nI k + nI s = nI (6 * k + s) := by rw [← nI_add, ← pu_mul]; rfl
        show (if nI s = -9 then _ else am_chk ((6 : Int32) * nI k + nI i) 366 (am_chk ((6 : Int32) * nI k + nI s) 366 (if f 107 ((6 : Int32) * nI k + nI i).toNatClampNeg < f 107 ((6 : Int32) * nI k + nI s).toNatClampNeg then D_X8_slowAt_5 n (nI k) (nI i) (nI (i + 1)) f else D_X8_slowAt_5 n (nI k) (nI s) (nI (i + 1)) f))) = _
        rw [if_neg (pu_neg9 (by omega)), e1, e2, pu_chk (by omega) (by decide), pu_chk (by omega) (by decide), nI_clamp (by omega), nI_clamp (by omega), hd i hi, hd s (by omega)]
        by_cases hq : dn i < dn s
        · rw [pu_so_a hbi hs hq] at ih
          rw [if_pos (pu_lt hq (by omega))]; exact ih
        · rw [pu_so_b hbi hs hq] at ih
          rw [if_neg (pu_nlt (by omega) (by omega))]; exact ih
    · have : i = nt := by omega
      subst this
      rw [if_neg (pu_nlt (Nat.le_refl _) (by omega))]
section RU
variable {T : pu_T} {N : pu_S} {f : am_M} {k : Nat}
theorem pu_mSlowAt (hT : pu_Tok T) (hS : pu_Sok T N) (hk : k ≤ 60) (h3 : f 91 3 = nI (pu_nt T)) (hH : pu_KH1 T N k f) : D_X8_slowAt (nI k) f = some (pu_cd (pu_so (pu_dn (pu_Kn T N k).1) (2 ^ pu_nt T - 1) (pu_nt T)), f) := by
  have hn := hT.2.2.1
  obtain ⟨u, hu⟩ := pu_Kn_ok hT hS k
  exact pu_mslowAt hn hk (fun t ht => pu_fullb _ (by omega) t ht) h3 hH.2.2.1 (fun t ht => by have := hu.1.dn ht; omega) am_fu 0 (Nat.zero_le _) (by show _ < 0 + 6000; omega)
theorem pu_mLeastAt (hT : pu_Tok T) (hS : pu_Sok T N) (hk : k ≤ 60) (h3 : f 91 3 = nI (pu_nt T)) (hH : pu_KH1 T N k f) : D_X8_leastAt (nI k) f = some (nI (pu_lst T (pu_Kn T N k).1), f) := by
  have hn := hT.2.2.1
  obtain ⟨u, hu⟩ := pu_Kn_ok hT hS k
  have hle := pu_le_so (dn := pu_dn (pu_Kn T N k).1) (b := 2 ^ pu_nt T - 1) (c := pu_cl (pu_Kn T N k).1) (pu_nt T) (fun t ht => pu_fullb _ (by omega) t ht) (fun t ht => by have := (hu.1.2.2.1 t ht).1; have := hu.1.2.2.2.1; omega)
  unfold D_X8_leastAt
  rw [h3]
  by_cases hz : pu_nt T = 0
  · have e : pu_lst T (pu_Kn T N k).1 = pu_cl (pu_Kn T N k).1 := by
      unfold pu_lst
      rw [hz]; rfl
    rw [e, if_pos (by rw [hz]; rfl), pu_chk (by omega) (by decide), nI_clamp (by omega), hH.1]
  · rw [if_neg (nI_ne0 (by omega) (by omega)), pu_mSlowAt hT hS hk h3 hH, pu_bI]
    have ex := pu_so_ex (dn := pu_dn (pu_Kn T N k).1) (pu_fullb _ (show pu_nt T < 7 by omega) 0 (by omega)) (pu_nt T) (by omega)
    have e : pu_lst T (pu_Kn T N k).1 = pu_le (pu_dn (pu_Kn T N k).1) (pu_cl (pu_Kn T N k).1) (pu_nt T) := rfl
    rw [e, hle]
    cases hs : pu_so (pu_dn (pu_Kn T N k).1) (2 ^ pu_nt T - 1) (pu_nt T) with
    | none => exact absurd hs ex
    | some s =>
      have hsl := (pu_so_lt _ _ hs).1
      have e2 : (6 : Int32) * nI k + nI s = nI (6 * k + s) := by rw [← nI_add, ← pu_mul]; rfl
      show am_chk ((6 : Int32) * nI k + nI s) 366 (some (f 107 ((6 : Int32) * nI k + nI s).toNatClampNeg, f)) = some (nI (pu_dn (pu_Kn T N k).1 s), f)
      rw [e2, pu_chk (by omega) (by decide), nI_clamp (by omega), hH.2.2.1 s hsl]
theorem pu_cSlowK (hT : pu_Tok T) (h3 : pu_Tc T (f 3) (f 4) (f 5) (f 6)) (hk : k ≤ 60) (h : pu_KC T N k f) : D_X4_slowest 81 0 f = some (pu_cd (pu_so (pu_dn (pu_Kn T N k).1) (2 ^ pu_nt T - 1) (pu_nt T)), f) := by
  have hn := hT.2.2.1
  obtain ⟨u, hu, hF, _⟩ := h
  unfold D_X4_slowest
  rw [h3.2.2.1, pu_shl _ (by omega), pu_cKslow hT (by omega) hu.1 h3 hF (pu_full64 _ (by omega)), pu_bI]
end RU
theorem pu_rule (a b : Int32) {f : am_M} (h : pu_R f) : pu_Go (D_X7_rule a b) (D_X8_rule a b) f := by
  obtain ⟨T, X, N, P, I0, I1, Z, hV, hC, hM⟩ := id h
  have hT := hV.1
  have hS := hV.2.2.1
  rcases pu_ticks a f with ⟨j, hj, rfl, t1, t2⟩ | ⟨t1, t2⟩
  rotate_left
  · refine pu_same (r := -1) h ?_ ?_
    · unfold D_X7_rule; rw [t1, pu_bI, pu_i00]
    · unfold D_X8_rule; rw [t2, pu_bI, pu_i00]
  by_cases h0 : b < 0
  · refine pu_same (r := -1) h ?_ ?_
    · unfold D_X7_rule; rw [t1, pu_bI, pu_i10, if_pos h0]
    · unfold D_X8_rule D_X8_within; rw [t2, pu_bI, pu_i10, if_pos h0, pu_bI, pu_i00]
  by_cases h1 : 3 < b
  · refine pu_same (r := -1) h ?_ ?_
    · unfold D_X7_rule; rw [t1, pu_bI, pu_i10, if_neg h0, if_pos h1]
    · unfold D_X8_rule D_X8_within; rw [t2, pu_bI, pu_i10, if_neg h0, if_pos h1, pu_bI, pu_i00]
  obtain ⟨f1, x1, x2, x3⟩ := pu_cAfter hT hS hC.1 hC.2.2.1.1 hj
  have hC1 := hC.cs x2
  have hA : ∀ r, (if b = 0 then some ((f1 81 2), f1) else if b = 1 then am_bI (D_X4_least 81 0 f1) fun v3 f3 => some (v3, f3) else if b = 2 then am_bI (D_X4_slowest 81 0 f1) fun v4 f4 => some (v4, f4) else some ((f1 81 9), f1)) = some (r, f1) → D_X7_rule (nI j) b f = some (r, f1) := fun r hr => by
    unfold D_X7_rule
    rw [t1, pu_bI, pu_i10, if_neg h0, if_neg h1, x1, pu_bV]
    exact hr
  have hB : ∀ r, (∀ g1, g1 91 3 = nI (pu_nt T) → pu_KH1 T N j g1 → (if b = 0 then am_chk (nI j) 61 (some ((g1 105 (nI j).toNatClampNeg), g1)) else if b = 1 then am_bI (D_X8_leastAt (nI j) g1) fun v2 f2 => some (v2, f2) else if b = 2 then am_bI (D_X8_slowAt (nI j) g1) fun v3 f3 => some (v3, f3) else am_chk (nI j) 61 (some ((g1 106 (nI j).toNatClampNeg), g1))) = some (r, g1)) → ∀ g, pu_M T X N P I0 I1 Z g → ∃ g2, D_X8_rule (nI j) b g = some (r, g2) ∧ pu_hi g g2 ∧ pu_M T X N P I0 I1 Z g2 := fun r hr g hg => by
    obtain ⟨g1, y1, y2, y3⟩ := pu_mLays hT hS hj hg.1 hg.2.2.1
    refine ⟨g1, ?_, y2.hi, y2.M hg⟩
    unfold D_X8_rule D_X8_within D_X8_tellRule
    rw [(pu_is60 hj g).2, pu_bI, pu_i10, if_neg h0, if_neg h1, pu_bI, pu_i10, y1, pu_bV, hr g1 (y2.T hg.1).2.2.1 (y3 j (by omega)), pu_bI]
  have go : ∀ r, _ → _ → pu_Go (D_X7_rule (nI j) b) (D_X8_rule (nI j) b) f := fun r p q => pu_join (r := r) hV (hA r p) (fun q hq => x2 q (by omega)) hC1 hM (hB r q)
  obtain ⟨u, hu, hF, _⟩ := id x3
  by_cases b0 : b = 0
  · refine go (nI (pu_cl (pu_Kn T N j).1)) (by rw [if_pos b0, hF.1]) (fun g1 g3 gH => ?_)
    rw [if_pos b0, pu_chk (by omega) (by decide), nI_clamp (by omega), gH.1]
  by_cases b1 : b = 1
  · refine go (nI (pu_lst T (pu_Kn T N j).1)) (by rw [if_neg b0, if_pos b1, pu_cKleast hT (by omega) hu.1 hC1.1 hF, pu_bI]) (fun g1 g3 gH => ?_)
    rw [if_neg b0, if_pos b1, pu_mLeastAt hT hS hj g3 gH, pu_bI]
  by_cases b2 : b = 2
  · refine go (pu_cd (pu_so (pu_dn (pu_Kn T N j).1) (2 ^ pu_nt T - 1) (pu_nt T))) (by rw [if_neg b0, if_neg b1, if_pos b2, pu_cSlowK hT hC1.1 hj x3, pu_bI]) (fun g1 g3 gH => ?_)
    rw [if_neg b0, if_neg b1, if_pos b2, pu_mSlowAt hT hS hj g3 gH, pu_bI]
  · refine go (nI (pu_rw (pu_Kn T N j).1).length) (by rw [if_neg b0, if_neg b1, if_neg b2, hF.2.2.1]) (fun g1 g3 gH => ?_)
    rw [if_neg b0, if_neg b1, if_neg b2, pu_chk (by omega) (by decide), nI_clamp (by omega), gH.2.1]
theorem pu_waited (a b : Int32) {f : am_M} (h : pu_R f) : pu_Go (D_X7_waited a b) (D_X8_waited a b) f := by
  obtain ⟨T, X, N, P, I0, I1, Z, hV, hC, hM⟩ := id h
  have hT := hV.1
  have hS := hV.2.2.1
  have hnm := hT.2.1
  rcases pu_ticks a f with ⟨j, hj, rfl, t1, t2⟩ | ⟨t1, t2⟩
  rotate_left
  · refine pu_same (r := -1) h ?_ ?_
    · unfold D_X7_waited; rw [t1, pu_bI, pu_i00]
    · unfold D_X8_waited; rw [t2, pu_bI, pu_i00]
  rcases pu_in b (pu_nm T) with ⟨m, hm, rfl⟩ | hn
  rotate_left
  · refine pu_same (r := -1) h ?_ ?_
    · unfold D_X7_waited; rw [t1, pu_bI, pu_i10, pu_hasNoM hC.1.2.1 hn, pu_bI, pu_i00]
    · unfold D_X8_waited; rw [t2, pu_bI, pu_i10, pu_isNoM hM.1.2.1 hn (by omega), pu_bI, pu_i00]
  obtain ⟨f1, x1, x2, u, hu, hF, h80⟩ := pu_cAfter hT hS hC.1 hC.2.2.1.1 hj
  refine pu_join (r := nI ((pu_Kn T N j).2 m)) hV (f1 := f1) ?_ (fun q hq => x2 q (by omega)) (hC.cs x2) hM (fun g hg => ?_)
  · unfold D_X7_waited
    rw [t1, pu_bI, pu_i10, pu_hasM hC.1.2.1 hm (by omega), pu_bI, pu_i10, x1, pu_bV, pu_chk (by omega) (by decide), nI_clamp (by omega), h80 m (by omega)]
  · obtain ⟨g1, y1, y2, y3⟩ := pu_mLays hT hS hj hg.1 hg.2.2.1
    have e2 : (3 : Int32) * nI j + nI m = nI (3 * j + m) := by rw [← nI_add, ← pu_mul]; rfl
    refine ⟨g1, ?_, y2.hi, y2.M hg⟩
    unfold D_X8_waited
    rw [(pu_is60 hj g).2, pu_bI, pu_i10, pu_isM hg.1.2.1 hm (by omega), pu_bI, pu_i10, y1, pu_bV, e2, pu_chk (by omega) (by decide), nI_clamp (by omega), (y3 j (by omega)).2.2.2 m hm]
theorem pu_done (a b : Int32) {f : am_M} (h : pu_R f) : pu_Go (D_X7_done a b) (D_X8_done a b) f := by
  obtain ⟨T, X, N, P, I0, I1, Z, hV, hC, hM⟩ := id h
  have hT := hV.1
  have hS := hV.2.2.1
  have hnt := hT.2.2.1
  rcases pu_ticks a f with ⟨j, hj, rfl, t1, t2⟩ | ⟨t1, t2⟩
  rotate_left
  · refine pu_same (r := -1) h ?_ ?_
    · unfold D_X7_done; rw [t1, pu_bI, pu_i00]
    · unfold D_X8_done; rw [t2, pu_bI, pu_i00]
  rcases pu_in b (pu_nt T) with ⟨m, hm, rfl⟩ | hn
  rotate_left
  · refine pu_same (r := -1) h ?_ ?_
    · unfold D_X7_done; rw [t1, pu_bI, pu_i10, pu_hasNoT hC.1.2.2.1 hn, pu_bI, pu_i00]
    · unfold D_X8_done; rw [t2, pu_bI, pu_i10, pu_isNoT hM.1.2.2.1 hn (by omega), pu_bI, pu_i00]
  obtain ⟨f1, x1, x2, u, hu, hF, h80⟩ := pu_cAfter hT hS hC.1 hC.2.2.1.1 hj
  refine pu_join (r := nI (pu_dn (pu_Kn T N j).1 m)) hV (f1 := f1) ?_ (fun q hq => x2 q (by omega)) (hC.cs x2) hM (fun g hg => ?_)
  · unfold D_X7_done
    rw [t1, pu_bI, pu_i10, pu_hasT hC.1.2.2.1 hm (by omega), pu_bI, pu_i10, x1, pu_bV, pu_chk (by omega) (by decide), nI_clamp (by omega), hF.2.2.2.1 m (by omega)]
  · obtain ⟨g1, y1, y2, y3⟩ := pu_mLays hT hS hj hg.1 hg.2.2.1
    have e2 : (6 : Int32) * nI j + nI m = nI (6 * j + m) := by rw [← nI_add, ← pu_mul]; rfl
    refine ⟨g1, ?_, y2.hi, y2.M hg⟩
    unfold D_X8_done
    rw [(pu_is60 hj g).2, pu_bI, pu_i10, pu_isT hg.1.2.2.1 hm (by omega), pu_bI, pu_i10, y1, pu_bV, e2, pu_chk (by omega) (by decide), nI_clamp (by omega), (y3 j (by omega)).2.2.1 m hm]
