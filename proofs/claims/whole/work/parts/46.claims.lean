/-! claims, calls -/
theorem pu_sw_ap : ∀ (r : List (Nat × Nat)) (m n : Nat), pu_sw (r ++ [(m, n)]) = pu_sw r + n
  | [], m, n => by show n + 0 = 0 + n; omega
  | (a, b) :: r, m, n => by
    show b + pu_sw (r ++ [(m, n)]) = b + pu_sw r + n
    rw [pu_sw_ap r m n]
    omega
theorem pu_wa_ap : ∀ (r : List (Nat × Nat)) (m n k : Nat), (∀ q ∈ r, q.1 ≠ m) → pu_wa (r ++ [(m, n)]) k = if k = m then n else pu_wa r k
  | [], m, n, k, _ => by
    show (if m = k then n else 0) = if k = m then n else 0
    by_cases e : k = m
    · rw [if_pos e, if_pos e.symm]
    · rw [if_neg e, if_neg (fun q => e q.symm)]
  | (a, b) :: r, m, n, k, h => by
    have ha : a ≠ m := h (a, b) (by simp)
    show pu_wa ((a, b) :: (r ++ [(m, n)])) k = _
    rw [pu_wa_c, pu_wa_c, pu_wa_ap r m n k (fun q hq => h q (by simp [hq]))]
    by_cases e : a = k
    · rw [if_pos e, if_neg (by omega), if_pos e]
    · rw [if_neg e, if_neg e]
section WT
variable {T : pu_T} {S : pu_S} {f : am_M} {m n : Nat}
theorem pu_wt_ok (hT : pu_Tok T) (hS : pu_Sok T S) (hm : m < pu_nm T) (hn : 1 ≤ n ∧ n ≤ 9) (hx : pu_ix (pu_rw S) m = none) (hc : pu_cl S + pu_sw (pu_rw S) + n ≤ 999) (hw : pu_rw S = [] → pu_ro T S < n) : pu_Sok T (pu_sr S (pu_rw S ++ [(m, n)])) := by
  obtain ⟨s1, s2, s3, s4, s5, s6⟩ := hS
  have hne := (pu_ix_none _ _ hx).2
  refine ⟨?_, s2, ⟨fun q hq => ?_, ?_⟩, s4, fun m' n' r' h => ?_, s6⟩
  · show pu_cl S + pu_sw (pu_rw S ++ [(m, n)]) ≤ 999
    rw [pu_sw_ap]; omega
  · rcases List.mem_append.mp (show q ∈ pu_rw S ++ [(m, n)] from hq) with h | h
    · exact s3.1 q h
    · simp at h; subst h; exact ⟨hm, hn⟩
  · show ((pu_rw S ++ [(m, n)]).map Prod.fst).Nodup
    rw [List.map_append, List.nodup_append]
    refine ⟨s3.2, by simp, fun a ha b hb => ?_⟩
    simp at hb
    subst hb
    obtain ⟨q, hq, rfl⟩ := List.mem_map.mp ha
    exact hne q hq
  · have h' : pu_rw S ++ [(m, n)] = (m', n') :: r' := h
    show pu_sl T + pu_lst T S < pu_cl S + n'
    cases hr : pu_rw S with
    | nil =>
      rw [hr] at h'
      simp at h'
      have := hw hr
      unfold pu_ro at this
      omega
    | cons x r =>
      rw [hr] at h'
      simp at h'
      exact s5 m' n' r (by rw [hr, h'.1])
theorem pu_cWait {p : Nat} (hF : pu_Sf S f p) (hm : m < 3) (hl : (pu_rw S).length < 3) (hx : pu_ix (pu_rw S) m = none) : pu_Sf (pu_sr S (pu_rw S ++ [(m, n)])) (am_wr (am_wr (am_wr f (p + 4) (pu_rw S).length (nI m)) (p + 5) m (nI n)) p 9 (nI ((pu_rw S).length + 1))) p := by
  have hne := (pu_ix_none _ _ hx).2
  obtain ⟨d1, d2, d3, d4, d5, d6, d7, d8⟩ := hF
  refine ⟨?_, ?_, ?_, ?_, ?_, ?_, ?_, ?_⟩
  · rw [pu_wr_n2 (by decide), pu_wr_n1 (by omega), pu_wr_n1 (by omega)]; exact d1
  · rw [pu_wr_n2 (by decide), pu_wr_n1 (by omega), pu_wr_n1 (by omega)]; exact d2
  · rw [pu_wr_eq]
    show _ = nI (pu_rw S ++ [(m, n)]).length
    simp
  · intro t ht; rw [pu_wr_n1 (by omega), pu_wr_n1 (by omega), pu_wr_n1 (by omega)]; exact d4 t ht
  · intro t ht; rw [pu_wr_n1 (by omega), pu_wr_n1 (by omega), pu_wr_n1 (by omega)]; exact d5 t ht
  · intro t ht; rw [pu_wr_n1 (by omega), pu_wr_n1 (by omega), pu_wr_n1 (by omega)]; exact d6 t ht
  · intro i q hq
    have hq' : (pu_rw S ++ [(m, n)])[i]? = some q := hq
    have hil := pu_lt_len hq'
    simp at hil
    rw [pu_wr_n1 (by omega), pu_wr_n1 (by omega), pu_wr_u]
    by_cases e : i = (pu_rw S).length
    · rw [e] at hq' ⊢
      simp at hq'
      subst hq'
      simp [upd]
    · rw [List.getElem?_append_left (by omega)] at hq'
      simp [upd, e]
      exact d7 i q hq'
  · intro k hk
    rw [pu_wr_n1 (by omega), pu_wr_u, am_wr_ne _ (by omega)]
    show _ = nI (pu_wa (pu_rw S ++ [(m, n)]) k)
    rw [pu_wa_ap _ _ _ _ hne]
    by_cases e : k = m
    · rw [if_pos e]; simp [upd, e]
    · rw [if_neg e]; simp [upd, e]; exact d8 k hk
theorem pu_mWait (hF : pu_Sm S (f 95)) (hc : pu_cl S ≤ 999) (hl : (pu_rw S).length < 3) : pu_Sm (pu_sr S (pu_rw S ++ [(m, n)])) (am_wr (am_wr (am_wr f 95 (20 + (pu_rw S).length) (nI m)) 95 (23 + (pu_rw S).length) (nI n)) 95 19 (nI ((pu_rw S).length + 1)) 95) := by
  obtain ⟨d1, d2, d3, d4, d5, d6, d7⟩ := hF
  refine ⟨?_, ?_, ?_, ?_, ?_, ?_, ?_⟩
  · rw [pu_wr_n2 (by omega), pu_wr_n2 (by omega), pu_wr_n2 (by omega)]; exact d1
  · rw [pu_wr_eq]
    show _ = nI (pu_rw S ++ [(m, n)]).length
    simp
  · intro t ht; rw [pu_wr_n2 (by omega), pu_wr_n2 (by omega), pu_wr_n2 (by omega)]; exact d3 t ht
  · intro t ht; rw [pu_wr_n2 (by omega), pu_wr_n2 (by omega), pu_wr_n2 (by omega)]; exact d4 t ht
  · intro t ht; rw [pu_wr_n2 (by omega), pu_wr_n2 (by omega), pu_wr_n2 (by omega)]; exact d5 t ht
  · intro i q hq
    have hq' : (pu_rw S ++ [(m, n)])[i]? = some q := hq
    have hil := pu_lt_len hq'
    simp at hil
    rw [pu_wr_n2 (show 20 + i ≠ 19 by omega), pu_wr_n2 (show 23 + i ≠ 19 by omega), pu_wr_n2 (show 20 + i ≠ 23 + (pu_rw S).length by omega)]
    by_cases e : i = (pu_rw S).length
    · rw [e] at hq' ⊢
      simp at hq'
      subst hq'
      rw [pu_wr_eq, pu_wr_eq]
      exact ⟨rfl, rfl⟩
    · rw [List.getElem?_append_left (by omega)] at hq'
      rw [pu_wr_n2 (by omega), pu_wr_n2 (by omega), pu_wr_n2 (by omega)]
      exact d6 i q hq'
  · intro k hk; rw [pu_wr_n2 (by omega), pu_wr_n2 (by omega), pu_wr_n2 (by omega)]; exact d7 k hk
end WT
theorem pu_cm_ok {T : pu_T} {S : pu_S} {m n : Nat} (hT : pu_Tok T) (hS : pu_Sok T S) (hr : pu_rw S = []) (hm : m < pu_nm T) (hn : 1 ≤ n ∧ n ≤ 9) (hc : pu_cl S + n ≤ 999) (hro : n ≤ pu_ro T S) : pu_Sok T (pu_cm S m n) := by
  obtain ⟨s1, s2, s3, s4, s5, s6⟩ := hS
  have hnm := hT.2.1
  refine ⟨?_, fun k hk => ?_, s3, fun t ht => ⟨by rw [pu_cm_cu hn.1]; exact (s4 t ht).1, (s4 t ht).2⟩, fun m' n' r' h => ?_, ?_⟩
  · show pu_cl S + n + pu_sw (pu_rw S) ≤ 999
    rw [hr]; show pu_cl S + n + 0 ≤ 999; omega
  · have hk' : k < pu_cl S + n := hk
    rw [pu_cm_ev]
    by_cases h : pu_cl S ≤ k ∧ k < pu_cl S + n
    · rw [if_pos h]; exact ⟨Nat.zero_le _, by show m < 3; omega, Nat.zero_le _, fun _ => rfl⟩
    · rw [if_neg h]; exact s2 k (by omega)
  · have h' : pu_rw S = (m', n') :: r' := h
    rw [hr] at h'; simp at h'
  · have h1 : pu_lst T S ≤ pu_lst T (pu_cm S m n) := pu_le_mono (dn := pu_dn S) (show pu_cl S ≤ pu_cl S + n by omega) (pu_nt T)
    unfold pu_ro at hro
    show pu_cl S + n ≤ _
    omega
theorem pu_claims (a b : Int32) {f : am_M} (h : pu_R f) : pu_Go (D_X7_claims a b) (D_X8_claims a b) f := by
  obtain ⟨T, X, N, P, I0, I1, Z, hV, hC, hM⟩ := id h
  have hT := hV.1
  have hS := hV.2.2.1
  have hnm := hT.2.1
  have hc := hS.cl
  have hs1 := hS.1
  have hl := hS.len hT
  rcases pu_in a (pu_nm T) with ⟨m, hm, rfl⟩ | hn
  rotate_left
  · refine pu_same (r := -1) h ?_ ?_
    · unfold D_X7_claims; rw [pu_hasNoM hC.1.2.1 hn, pu_bI, pu_i00]
    · unfold D_X8_claims; rw [pu_isNoM hM.1.2.1 hn (by omega), pu_bI, pu_i00]
  have cA : D_X6_hasMaker (nI m) f = some (1, f) := pu_hasM hC.1.2.1 hm (by omega)
  have cB : ∀ g, pu_M T X N P I0 I1 Z g → D_X8_isMaker (nI m) g = some (1, g) := fun g hg => pu_isM hg.1.2.1 hm (by omega)
  by_cases hb1 : b < 1
  · refine pu_same (r := -1) h ?_ ?_
    · unfold D_X7_claims; rw [cA, pu_bI, pu_i10, if_pos hb1]
    · unfold D_X8_claims D_X8_within; rw [cB f hM, pu_bI, pu_i10, if_pos hb1, pu_bI, pu_i00]
  by_cases hb9 : 9 < b
  · refine pu_same (r := -1) h ?_ ?_
    · unfold D_X7_claims; rw [cA, pu_bI, pu_i10, if_neg hb1, if_pos hb9]
    · unfold D_X8_claims D_X8_within; rw [cB f hM, pu_bI, pu_i10, if_neg hb1, if_pos hb9, pu_bI, pu_i00]
  have hb0 : ¬ b < 0 := fun q => hb1 (by
    rw [Int32.lt_iff_toInt_lt] at q ⊢
    have e0 : (0 : Int32).toInt = 0 := by decide
    have e1 : (1 : Int32).toInt = 1 := by decide
    omega)
  obtain ⟨n, hn31, rfl⟩ := nI_of hb0
  have hn1 : 1 ≤ n := by
    rcases Nat.lt_or_ge n 1 with q | q
    · exact absurd (pu_lt (b := 1) q (by decide)) hb1
    · exact q
  have hn9 : n ≤ 9 := by
    rcases Nat.lt_or_ge 9 n with q | q
    · exact absurd (pu_lt (a := 9) q hn31) hb9
    · exact q
  have wB : ∀ g, D_X8_within (nI n) 1 9 g = some (1, g) := fun g => by unfold D_X8_within; rw [if_neg hb1, if_neg hb9]
  have c16 : f 16 m = nI (pu_wa (pu_rw N) m) := hC.2.2.1.1.2.2.2.2.2.2.2 m (by omega)
  cases hx : pu_ix (pu_rw N) m with
  | some i =>
    obtain ⟨q, q1, q2, q3⟩ := pu_ix_some _ _ _ hx
    have hq := (hS.2.2.1.1 q (List.mem_of_getElem? q1)).2
    have hil := pu_lt_len q1
    have hz : 0 < nI (pu_wa (pu_rw N) m) := pu_lt (a := 0) (by omega) (by omega)
    refine pu_same (r := -2) h ?_ ?_
    · unfold D_X7_claims
      rw [cA, pu_bI, pu_i10, if_neg hb1, if_neg hb9, pu_chk (by omega) (by decide), nI_clamp (by omega), c16, if_pos hz]
    · unfold D_X8_claims
      rw [cB f hM, pu_bI, pu_i10, wB f, pu_bI, pu_i10, pu_mPlace hT hS hM.2.2.1 (by omega), hx, pu_bI, if_neg (show ¬ pu_cd (some i) = -9 from pu_neg9 (a := i) (by omega))]
  | none =>
    have hz : ¬ 0 < f 16 m := by rw [c16, (pu_ix_none _ _ hx).1]; decide
    have c11 : f 11 2 = nI (pu_cl N) := hC.2.2.1.1.1
    by_cases h9 : 999 < pu_cl N + pu_sw (pu_rw N) + n
    · have h9' : am_int 999 < nI (pu_cl N + pu_sw (pu_rw N) + n) := pu_lt (a := 999) h9 (by omega)
      refine pu_same (r := -3) h ?_ ?_
      · unfold D_X7_claims
        rw [cA, pu_bI, pu_i10, if_neg hb1, if_neg hb9, pu_chk (by omega) (by decide), nI_clamp (by omega), if_neg hz, pu_cWanted hT hS hC.1 hC.2.2.1.1, pu_bI, c11, nI_add, nI_add, if_pos h9']
      · unfold D_X8_claims
        rw [cB f hM, pu_bI, pu_i10, wB f, pu_bI, pu_i10, pu_mPlace hT hS hM.2.2.1 (by omega), hx, pu_bI, if_pos (show pu_cd none = -9 from rfl), pu_mWanted hT hS hM.2.2.1, pu_bI, hM.2.2.1.1, nI_add, nI_add, if_pos h9']
    · have h9' : ¬ am_int 999 < nI (pu_cl N + pu_sw (pu_rw N) + n) := pu_nlt (a := 999) (by omega) (by decide)
      have hro : pu_ro T N ≤ 2000 := by have h1 : pu_lst T N ≤ pu_cl N := pu_le_le _; have := hT.1; unfold pu_ro; omega
      have fA : D_X7_claims (nI m) (nI n) f = am_bV (D_X2_remember (pu_cd none) f) (fun f3 => am_bI (D_X4_claimOrWait 11 999 (nI m) (nI n) f3) fun v4 f4 => some (v4, f4)) := by
        unfold D_X7_claims
        rw [cA, pu_bI, pu_i10, if_neg hb1, if_neg hb9, pu_chk (by omega) (by decide), nI_clamp (by omega), if_neg hz, pu_cWanted hT hS hC.1 hC.2.2.1.1, pu_bI, c11, nI_add, nI_add, if_neg h9']
        rfl
      obtain ⟨KB, hKB⟩ : ∃ KB : am_M → Option (Int32 × am_M), KB = fun f5 =>
          if (f5 95 19) = 0 then
            am_bI (D_X8_room f5) fun v6 f6 =>
            if v6 < nI n then
              am_chk ((20 : Int32) + (f6 95 19)) 1026 (
              am_chk ((23 : Int32) + ((am_wr f6 95 ((20 : Int32) + (f6 95 19)).toNatClampNeg (nI m)) 95 19)) 1026 (
              some ((-9), (am_wr (am_wr (am_wr f6 95 ((20 : Int32) + (f6 95 19)).toNatClampNeg (nI m)) 95 ((23 : Int32) + ((am_wr f6 95 ((20 : Int32) + (f6 95 19)).toNatClampNeg (nI m)) 95 19)).toNatClampNeg (nI n)) 95 19 (((am_wr (am_wr f6 95 ((20 : Int32) + (f6 95 19)).toNatClampNeg (nI m)) 95 ((23 : Int32) + ((am_wr f6 95 ((20 : Int32) + (f6 95 19)).toNatClampNeg (nI m)) 95 19)).toNatClampNeg (nI n)) 95 19) + 1)))))
            else
              am_bV (D_X8_claimsNow (nI m) (nI n) f6) fun f7 =>
              some ((f6 95 0), f7)
          else
            am_chk ((20 : Int32) + (f5 95 19)) 1026 (
            am_chk ((23 : Int32) + ((am_wr f5 95 ((20 : Int32) + (f5 95 19)).toNatClampNeg (nI m)) 95 19)) 1026 (
            some ((-9), (am_wr (am_wr (am_wr f5 95 ((20 : Int32) + (f5 95 19)).toNatClampNeg (nI m)) 95 ((23 : Int32) + ((am_wr f5 95 ((20 : Int32) + (f5 95 19)).toNatClampNeg (nI m)) 95 19)).toNatClampNeg (nI n)) 95 19 (((am_wr (am_wr f5 95 ((20 : Int32) + (f5 95 19)).toNatClampNeg (nI m)) 95 ((23 : Int32) + ((am_wr f5 95 ((20 : Int32) + (f5 95 19)).toNatClampNeg (nI m)) 95 19)).toNatClampNeg (nI n)) 95 19) + 1))))) := ⟨_, rfl⟩
      have fB : ∀ g, pu_M T X N P I0 I1 Z g → D_X8_claims (nI m) (nI n) g = am_bV (D_X8_keeps g) KB := fun g hg => by
        unfold D_X8_claims
        rw [cB g hg, pu_bI, pu_i10, wB g, pu_bI, pu_i10, pu_mPlace hT hS hg.2.2.1 (by omega), hx, pu_bI, if_pos (show pu_cd none = -9 from rfl), pu_mWanted hT hS hg.2.2.1, pu_bI, hg.2.2.1.1, nI_add, nI_add, if_neg h9', hKB]
      have wtB : ∀ g : am_M, g 95 19 = nI (pu_rw N).length → (pu_rw N).length < 3 → am_chk ((20 : Int32) + (g 95 19)) 1026 (
            am_chk ((23 : Int32) + ((am_wr g 95 ((20 : Int32) + (g 95 19)).toNatClampNeg (nI m)) 95 19)) 1026 (
            some ((-9 : Int32), (am_wr (am_wr (am_wr g 95 ((20 : Int32) + (g 95 19)).toNatClampNeg (nI m)) 95 ((23 : Int32) + ((am_wr g 95 ((20 : Int32) + (g 95 19)).toNatClampNeg (nI m)) 95 19)).toNatClampNeg (nI n)) 95 19 (((am_wr (am_wr g 95 ((20 : Int32) + (g 95 19)).toNatClampNeg (nI m)) 95 ((23 : Int32) + ((am_wr g 95 ((20 : Int32) + (g 95 19)).toNatClampNeg (nI m)) 95 19)).toNatClampNeg (nI n)) 95 19) + 1))))) = some (-9, am_wr (am_wr (am_wr g 95 (20 + (pu_rw N).length) (nI m)) 95 (23 + (pu_rw N).length) (nI n)) 95 19 (nI ((pu_rw N).length + 1))) := fun g hg hl3 => by
        have e1 : (20 : Int32) + nI (pu_rw N).length = nI (20 + (pu_rw N).length) := nI_add 20 _
        have e2 : (23 : Int32) + nI (pu_rw N).length = nI (23 + (pu_rw N).length) := nI_add 23 _
        rw [hg, e1, nI_clamp (by omega), pu_wr_n2 (show 19 ≠ 20 + (pu_rw N).length by omega), hg, e2, nI_clamp (by omega), pu_wr_n2 (show 19 ≠ 23 + (pu_rw N).length by omega), pu_wr_n2 (show 19 ≠ 20 + (pu_rw N).length by omega), hg, pu_chk (by omega) (by decide), pu_chk (by omega) (by decide), nI_1]
      have wait : (pu_rw N = [] → pu_ro T N < n) → pu_Go (D_X7_claims (nI m) (nI n)) (D_X8_claims (nI m) (nI n)) f := fun hw => by
        have hok := pu_wt_ok hT hS hm ⟨hn1, hn9⟩ hx (by omega) hw
        have hl3 : (pu_rw N).length < 3 := by
          have := hok.len hT
          have e : (pu_rw (pu_sr N (pu_rw N ++ [(m, n)]))).length = (pu_rw N).length + 1 := by
            show (pu_rw N ++ [(m, n)]).length = _
            simp
          omega
        refine pu_do (N' := pu_sr N (pu_rw N ++ [(m, n)])) (r := -9) (c := none) hV hC hM hok (Nat.le_refl _) (fun k hk => by rw [if_neg (by simp)]; rfl) (fun k hk => by simp at hk) fA fB (fun f1 h1 => ?_) (fun g1 h1 => ?_)
        · obtain ⟨b1, b2⟩ := h1.2.2.1
          refine ⟨am_wr (am_wr (am_wr f1 (11 + 4) (pu_rw N).length (nI m)) (11 + 5) m (nI n)) 11 9 (nI ((pu_rw N).length + 1)), ?_, fun q hq => by rw [am_wr_ne q (by omega), am_wr_ne q (by omega), am_wr_ne q (by omega)], pu_cWait b1 (by omega) hl3 hx, ?_⟩
          · show am_bI (D_X4_claimOrWait 11 999 (nI m) (nI n) f1) _ = _
            have e3 : nI (pu_rw N).length < 3 := pu_lt (b := 3) hl3 (by decide)
            unfold D_X4_claimOrWait
            rw [b1.2.2.1]
            by_cases hr : pu_rw N = []
            · have := hw hr
              rw [if_pos (by rw [hr]; rfl), pu_cRoom hT hS h1.1 b1, pu_bI, if_pos (pu_lt this (by omega)), b1.2.2.1, if_pos e3, pu_chk hl3 (by decide), pu_chk (by omega) (by decide), nI_clamp (by omega), nI_clamp (by omega), nI_1, pu_bI]
            · have h0 : ¬ nI (pu_rw N).length = 0 := nI_ne0 (by cases hr2 : pu_rw N with | nil => exact absurd hr2 hr | cons x r => simp) (by omega)
              rw [if_neg h0, if_pos e3, pu_chk hl3 (by decide), pu_chk (by omega) (by decide), nI_clamp (by omega), nI_clamp (by omega), nI_1, pu_bI]
          · rw [am_wr_ne 17 (by decide), am_wr_ne 17 (by decide), am_wr_ne 17 (by decide)]; exact b2
        · have b3 := h1.2.2.1
          refine ⟨am_wr (am_wr (am_wr g1 95 (20 + (pu_rw N).length) (nI m)) 95 (23 + (pu_rw N).length) (nI n)) 95 19 (nI ((pu_rw N).length + 1)), ?_, fun q hq => by rw [am_wr_ne q hq, am_wr_ne q hq, am_wr_ne q hq], pu_mWait b3 hc hl3⟩
          rw [hKB]
          by_cases hr : pu_rw N = []
          · have := hw hr
            show (if g1 95 19 = 0 then _ else _) = _
            rw [if_pos (by rw [b3.2.1, hr]; rfl), pu_mRoom hT hS h1.1 b3, pu_bI, if_pos (pu_lt this (by omega))]
            exact wtB g1 b3.2.1 hl3
          · have h0 : ¬ g1 95 19 = 0 := by rw [b3.2.1]; exact nI_ne0 (by cases hr2 : pu_rw N with | nil => exact absurd hr2 hr | cons x r => simp) (by omega)
            show (if g1 95 19 = 0 then _ else _) = _
            rw [if_neg h0]
            exact wtB g1 b3.2.1 hl3
      by_cases hr : pu_rw N = []
      · by_cases hlt : pu_ro T N < n
        · exact wait (fun _ => hlt)
        · have hok := pu_cm_ok hT hS hr hm ⟨hn1, hn9⟩ (by omega) (by omega)
          refine pu_do (N' := pu_cm N m n) (r := nI (pu_cl N)) (c := none) hV hC hM hok (by show pu_cl N ≤ pu_cl N + n; omega) (fun k hk => by rw [if_neg (by simp), pu_cm_ev, if_neg (by omega)]) (fun k hk => by simp at hk) fA fB (fun f1 h1 => ?_) (fun g1 h1 => ?_)
          · obtain ⟨b1, b2⟩ := h1.2.2.1
            obtain ⟨f2, y1, y2, y3, y4⟩ := pu_cClaim (p := 11) (m := m) (n := n) b1 b2 (by omega) hn1 (by omega)
            refine ⟨f2, ?_, y2, y3, y4⟩
            show am_bI (D_X4_claimOrWait 11 999 (nI m) (nI n) f1) _ = _
            unfold D_X4_claimOrWait
            rw [b1.2.2.1, if_pos (by rw [hr]; rfl), pu_cRoom hT hS h1.1 b1, pu_bI, if_neg (pu_nlt (by omega) (by omega)), y1, pu_bI, pu_bI]
          · have b3 := h1.2.2.1
            obtain ⟨g2, y1, y2, y3⟩ := pu_mClaim (m := m) (n := n) b3 ⟨hc, hl⟩ (by omega) (by omega)
            refine ⟨g2, ?_, y2, y3⟩
            rw [hKB]
            show (if g1 95 19 = 0 then _ else _) = _
            rw [if_pos (by rw [b3.2.1, hr]; rfl), pu_mRoom hT hS h1.1 b3, pu_bI, if_neg (pu_nlt (by omega) (by omega)), y1, pu_bV, b3.1]
      · exact wait (fun q => absurd q hr)
