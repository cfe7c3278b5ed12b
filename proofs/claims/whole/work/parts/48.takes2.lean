/-! the model's walk; takes -/
theorem pu_mgo {S : pu_S} {t v x3 : Nat} (ht : t < 6) (hc : pu_cl S ≤ 999) (hE : pu_Eok (pu_ev S) (pu_cl S)) (hv : v ≤ pu_cl S) (K : am_M → Option (Int32 × am_M)) (hK : ∀ g, K g = am_chk ((1 : Int32) + nI t) 1026 (am_bV (D_X8_lets (am_wr g 95 ((1 : Int32) + nI t).toNatClampNeg (nI v))) fun f6 => some ((nI v - nI x3), f6))) : ∀ d fu k (f : am_M), k + d = v → d < fu → (∀ j, j < pu_cl S → f 95 (26 + j) = pu_me (pu_ev S j)) → ∃ g, D_X8_takes_70 fu (nI t) (nI x3) (nI v) (nI k) f = K g ∧ (∀ q, q ≠ 95 → g q = f q) ∧ (∀ j, g 95 j = if j = 7 + t then (pu_go (pu_ev S) t d k (f 95 (7 + t), f 95 (13 + t))).1 else if j = 13 + t then (pu_go (pu_ev S) t d k (f 95 (7 + t), f 95 (13 + t))).2 else f 95 j)
  | d, 0, k, f, _, h, _ => absurd h (by omega)
  | 0, fu + 1, k, f, h1, h2, hF => by
    have : k = v := by omega
    subst this
    refine ⟨f, ?_, fun _ _ => rfl, fun j => ?_⟩
    · rw [hK]
      unfold D_X8_takes_70
      rw [if_neg (pu_nlt (Nat.le_refl _) (by omega))]
    · show f 95 j = if j = 7 + t then f 95 (7 + t) else if j = 13 + t then f 95 (13 + t) else f 95 j
      by_cases e : j = 7 + t
      · rw [if_pos e, e]
      · rw [if_neg e]
        by_cases e2 : j = 13 + t
        · rw [if_pos e2, e2]
        · rw [if_neg e2]
  | d + 1, fu + 1, k, f, h1, h2, hF => by
    have hk : k < pu_cl S := by omega
    obtain ⟨a1, a2, a3, _⟩ := hE k hk
    have e26 : (26 : Int32) + nI k = nI (26 + k) := nI_add 26 k
    have e7 : (7 : Int32) + nI t = nI (7 + t) := nI_add 7 t
    have e13 : (13 : Int32) + nI t = nI (13 + t) := nI_add 13 t
    obtain ⟨m1, m2, m3⟩ := pu_mes _ (show (pu_ev S k).1 < 3 by omega) _ a2 _ (show (pu_ev S k).2.2 < 100 by omega)
    have hkd : D_X8_kindOf (nI k) f = some (nI (pu_ev S k).1, f) := by
      unfold D_X8_kindOf
      rw [e26, pu_chk (by omega) (by decide), nI_clamp (by omega), hF k hk]
      unfold pu_me
      rw [m1]
    by_cases hz : (pu_ev S k).1 = 1
    · obtain ⟨F, hFd⟩ : ∃ F, F = am_wr (am_wr f 95 (7 + t) (f 95 (7 + t) + 1)) 95 (13 + t) (pu_rem ((((31 : Int32) * f 95 (13 + t)) + nI (pu_ev S k).2.2) + nI t)) := ⟨_, rfl⟩
      have f2 : F 95 (7 + t) = f 95 (7 + t) + 1 := by rw [hFd, pu_wr_n2 (by omega), pu_wr_eq]
      have f3 : F 95 (13 + t) = pu_rem ((((31 : Int32) * f 95 (13 + t)) + nI (pu_ev S k).2.2) + nI t) := by rw [hFd, pu_wr_eq]
      obtain ⟨g, y1, y2, y3⟩ := pu_mgo ht hc hE hv K hK d fu (k + 1) F (by omega) (by omega) (fun j hj => by rw [hFd, pu_wr_n2 (by omega), pu_wr_n2 (by omega)]; exact hF j hj)
      have eg : pu_go (pu_ev S) t (d + 1) k (f 95 (7 + t), f 95 (13 + t)) = pu_go (pu_ev S) t d (k + 1) (F 95 (7 + t), F 95 (13 + t)) := by
        show pu_go (pu_ev S) t d (k + 1) (if (pu_ev S k).1 = 1 then _ else _) = _
        rw [if_pos hz, f2, f3]
      refine ⟨g, ?_, fun q a => by rw [y2 q a, hFd, am_wr_ne q a, am_wr_ne q a], fun j => ?_⟩
      · have hgo : D_X8_goesOver (nI t) (nI k) f = some F := by
          unfold D_X8_goesOver
          rw [hkd, pu_bI, hz, if_pos (show nI 1 = 1 from rfl), e7, e13, e26, pu_chk (by omega) (by decide), pu_chk (by omega) (by decide), pu_chk (by omega) (by decide), pu_chk (by omega) (by decide), pu_chk (by omega) (by decide), nI_clamp (by omega), nI_clamp (by omega), nI_clamp (by omega), pu_wr_n2 (show 13 + t ≠ 7 + t by omega), pu_wr_n2 (show 26 + k ≠ 7 + t by omega), hF k hk]
          unfold pu_me
          rw [m3, hFd]
          rfl
        unfold D_X8_takes_70
        rw [if_pos (pu_lt (by omega) (by omega)), hgo, pu_bV, nI_1]
        exact y1
      · rw [y3 j, eg]
        by_cases e : j = 7 + t
        · rw [if_pos e, if_pos e]
        · rw [if_neg e, if_neg e]
          by_cases e2 : j = 13 + t
          · rw [if_pos e2, if_pos e2]
          · rw [if_neg e2, if_neg e2, hFd, pu_wr_n2 e2, pu_wr_n2 e]
    · obtain ⟨g, y1, y2, y3⟩ := pu_mgo ht hc hE hv K hK d fu (k + 1) f (by omega) (by omega) hF
      have eg : pu_go (pu_ev S) t (d + 1) k (f 95 (7 + t), f 95 (13 + t)) = pu_go (pu_ev S) t d (k + 1) (f 95 (7 + t), f 95 (13 + t)) := by
        show pu_go (pu_ev S) t d (k + 1) (if (pu_ev S k).1 = 1 then _ else _) = _
        rw [if_neg hz]
      refine ⟨g, ?_, y2, fun j => by rw [y3 j, eg]⟩
      have hgo : D_X8_goesOver (nI t) (nI k) f = some f := by
        unfold D_X8_goesOver
        rw [hkd, pu_bI, if_neg (show ¬ nI (pu_ev S k).1 = 1 from pu_ne (b := 1) hz (by omega) (by decide))]
      unfold D_X8_takes_70
      rw [if_pos (pu_lt (by omega) (by omega)), hgo, pu_bV, nI_1]
      exact y1
theorem pu_takes (a b : Int32) {f : am_M} (h : pu_R f) : pu_Go (D_X7_takes a b) (D_X8_takes a b) f := by
  obtain ⟨T, X, N, P, I0, I1, Z, hV, hC, hM⟩ := id h
  have hT := hV.1
  have hS := hV.2.2.1
  have hnt := hT.2.2.1
  have hc := hS.cl
  have hl := hS.len hT
  rcases pu_in a (pu_nt T) with ⟨t, ht, rfl⟩ | hn
  rotate_left
  · refine pu_same (r := -1) h ?_ ?_
    · unfold D_X7_takes; rw [pu_hasNoT hC.1.2.2.1 hn, pu_bI, pu_i00]
    · unfold D_X8_takes; rw [pu_isNoT hM.1.2.2.1 hn (by omega), pu_bI, pu_i00]
  have cA : D_X6_hasTaker (nI t) f = some (1, f) := pu_hasT hC.1.2.2.1 ht (by omega)
  have cB : ∀ g, pu_M T X N P I0 I1 Z g → D_X8_isTaker (nI t) g = some (1, g) := fun g hg => pu_isT hg.1.2.2.1 ht (by omega)
  by_cases hb1 : b < 1
  · refine pu_same (r := -1) h ?_ ?_
    · unfold D_X7_takes; rw [cA, pu_bI, pu_i10, if_pos hb1]
    · unfold D_X8_takes D_X8_within; rw [cB f hM, pu_bI, pu_i10, if_pos hb1, pu_bI, pu_i00]
  by_cases hb9 : 16 < b
  · refine pu_same (r := -1) h ?_ ?_
    · unfold D_X7_takes; rw [cA, pu_bI, pu_i10, if_neg hb1, if_pos hb9]
    · unfold D_X8_takes D_X8_within; rw [cB f hM, pu_bI, pu_i10, if_neg hb1, if_pos hb9, pu_bI, pu_i00]
  have hb0 : ¬ b < 0 := fun q => hb1 (by
    rw [Int32.lt_iff_toInt_lt] at q ⊢
    have e0 : (0 : Int32).toInt = 0 := by decide
    have e1 : (1 : Int32).toInt = 1 := by decide
    omega)
  obtain ⟨n, hn31, rfl⟩ := nI_of hb0
  have hn1 : 1 ≤ n := by
    rcases Nat.lt_or_ge n 1 with q | q
    · exact absurd (pu_lt (b := 1) q (by decide)) hb1
    · exact q
  have hn16 : n ≤ 16 := by
    rcases Nat.lt_or_ge 16 n with q | q
    · exact absurd (pu_lt (a := 16) q hn31) hb9
    · exact q
  have wB : ∀ g, D_X8_within (nI n) 1 16 g = some (1, g) := fun g => by unfold D_X8_within; rw [if_neg hb1, if_neg hb9]
  have hle := pu_dn_am hT hS ht
  have ha := pu_am_le hS t
  have hac := pu_am_cu hS t
  have hu := pu_cu_le (S := N)
  have e1 : (1 : Int32) + nI t = nI (1 + t) := nI_add 1 t
  by_cases hq : pu_dn N t < pu_am T N t
  · obtain ⟨v, hv⟩ : ∃ v, v = min (pu_dn N t + n) (pu_am T N t) := ⟨_, rfl⟩
    have h0 : pu_So0 T (pu_tk N t v) := pu_tk_s0 hS ht (by omega) (by omega)
    have hlen : (pu_rw (pu_tk N t v)).length ≤ 3 := hl
    obtain ⟨o1, o2, o3⟩ := pu_ad_ok hT 3 _ hlen h0
    refine pu_do (N' := pu_ad T 3 (pu_tk N t v)) (r := nI v - nI (pu_dn N t)) (c := none) (KA := fun f3 => am_bI (D_X4_goOver 11 999 (nI t) (nI n) f3) fun v4 f4 => some (v4, f4)) (KB := fun f4 => if nI (pu_dn N t) + nI n < nI (pu_am T N t) then D_X8_takes_70 am_fu (nI t) (nI (pu_dn N t)) (nI (pu_dn N t) + nI n) (nI (pu_dn N t)) f4 else D_X8_takes_70 am_fu (nI t) (nI (pu_dn N t)) (nI (pu_am T N t)) (nI (pu_dn N t)) f4) hV hC hM o1 o2 (fun k hk => by rw [if_neg (by simp), o3 k hk]; rfl) (fun k hk => by simp at hk) ?_ (fun g hg => ?_) (fun f1 h1 => ?_) (fun g1 h1 => ?_)
    · unfold D_X7_takes
      rw [cA, pu_bI, pu_i10, if_neg hb1, if_neg hb9, pu_cAhead hT hS hC.1 hC.2.2.1.1 ht, pu_bI, if_pos hq, pu_i10]
      rfl
    · have hd := hg.2.2.1.2.2.1 t (by omega)
      unfold D_X8_takes
      rw [cB g hg, pu_bI, pu_i10, wB g, pu_bI, pu_i10, e1, pu_chk (by omega) (by decide), pu_mAtMost hT hS hg.1 hg.2.2.1 ht, pu_bI, nI_clamp (by omega), hd, if_pos (pu_lt hq (by omega))]
    · obtain ⟨b1, b2⟩ := h1.2.2.1
      have hd := b1.2.2.2.1 t (by omega)
      obtain ⟨g, y1, y2, y3, y4⟩ := pu_cgo (T := T) (S := N) (p := 11) (t := t) (v := v) (x3 := pu_dn N t) (by decide) (by omega) hc hS.2.1 (by omega) _ (fun g => rfl) (v - pu_dn N t) am_fu (pu_dn N t) f1 (by omega) (by show _ < 6000; omega) b2
      have hF : pu_Sf (pu_tk N t v) (am_wr g (11 + 1) t (nI v)) 11 := by
        obtain ⟨d1, d2, d3, d4, d5, d6, d7, d8⟩ := id b1
        refine ⟨?_, ?_, ?_, ?_, ?_, ?_, ?_, ?_⟩
        · rw [pu_wr_n1 (by decide), y2 11 (by decide) (by decide)]; exact d1
        · rw [pu_wr_n1 (by decide), y2 11 (by decide) (by decide)]; exact d2
        · rw [pu_wr_n1 (by decide), y2 11 (by decide) (by decide)]; exact d3
        · intro u hu
          rw [pu_wr_u, y2 (11 + 1) (by decide) (by decide)]
          show _ = nI (pu_un (pu_dn N) t v u)
          by_cases e : u = t
          · simp [upd, pu_un, e]
          · simp [upd, pu_un, e]; exact d4 u hu
        · intro u hu
          rw [pu_wr_n1 (by decide), y3 u, d5 t (by omega), d6 t (by omega)]
          show _ = upd (pu_ct N) t _ u
          by_cases e : u = t
          · simp [upd, e]
          · simp [upd, e]; exact d5 u hu
        · intro u hu
          rw [pu_wr_n1 (by decide), y4 u, d5 t (by omega), d6 t (by omega)]
          show _ = upd (pu_sm N) t _ u
          by_cases e : u = t
          · simp [upd, e]
          · simp [upd, e]; exact d6 u hu
        · intro i q hq; rw [pu_wr_n1 (by decide), y2 (11 + 4) (by decide) (by decide)]; exact d7 i q hq
        · intro u hu; rw [pu_wr_n1 (by decide), y2 (11 + 5) (by decide) (by decide)]; exact d8 u hu
      have hE : pu_Ec (pu_tk N t v) (am_wr g (11 + 1) t (nI v) 17) := by rw [am_wr_ne 17 (by decide), y2 17 (by decide) (by decide)]; exact b2
      obtain ⟨f3, z1, z2, z3, z4⟩ := pu_cAdmit (p := 11) (by decide) hT am_fu 3 0 _ (am_wr g (11 + 1) t (nI v)) hlen (by decide) (by decide) h0 (pu_frT (fun q h1 h2 => by rw [am_wr_ne q (by omega), y2 q (by omega) (by omega)]) h1.1) hF hE
      refine ⟨f3, ?_, fun q hq => by rw [z2 q (by omega), am_wr_ne q (by omega), y2 q (by omega) (by omega)], z3, z4⟩
      show am_bI (D_X4_goOver 11 999 (nI t) (nI n) f1) _ = _
      unfold D_X4_goOver
      rw [pu_chk (by omega) (by decide), pu_cAtMost hT hS h1.1 b1 ht, pu_bI, nI_clamp (by omega), hd, nI_add, pu_min (by omega) (by omega), pu_bI, ← hv, if_pos (pu_lt (by omega) (by omega)), y1, pu_chk (by omega) (by decide), show D_X4_admit 11 999 (am_wr g (11 + 1) t (nI v)) = _ from z1, pu_bV, pu_bI]
    · have b3 := h1.2.2.1
      obtain ⟨d1, d2, d3, d4, d5, d6, d7⟩ := id b3
      obtain ⟨g, y1, y2, y3⟩ := pu_mgo (S := N) (t := t) (v := v) (x3 := pu_dn N t) (by omega) hc hS.2.1 (by omega) _ (fun g => rfl) (v - pu_dn N t) am_fu (pu_dn N t) g1 (by omega) (by show _ < 6000; omega) d7
      rw [d4 t (by omega), d5 t (by omega)] at y3
      have hF : pu_Sm (pu_tk N t v) (am_wr g 95 (1 + t) (nI v) 95) := by
        refine ⟨?_, ?_, ?_, ?_, ?_, ?_, ?_⟩
        · rw [pu_wr_n2 (by omega), y3, if_neg (by omega), if_neg (by omega)]; exact d1
        · rw [pu_wr_n2 (by omega), y3, if_neg (by omega), if_neg (by omega)]; exact d2
        · intro u hu
          show _ = nI (pu_un (pu_dn N) t v u)
          by_cases e : u = t
          · rw [e, pu_wr_eq]; simp [pu_un]
          · rw [pu_wr_n2 (by omega), y3, if_neg (by omega), if_neg (by omega)]; simp [pu_un, e]; exact d3 u hu
        · intro u hu
          show _ = upd (pu_ct N) t _ u
          rw [pu_wr_n2 (by omega), y3]
          by_cases e : u = t
          · rw [if_pos (by omega)]; simp [upd, e]
          · rw [if_neg (by omega), if_neg (by omega)]; simp [upd, e]; exact d4 u hu
        · intro u hu
          show _ = upd (pu_sm N) t _ u
          rw [pu_wr_n2 (by omega), y3, if_neg (by omega)]
          by_cases e : u = t
          · rw [if_pos (by omega)]; simp [upd, e]
          · rw [if_neg (by omega)]; simp [upd, e]; exact d5 u hu
        · intro i q hq
          rw [pu_wr_n2 (by omega), y3, if_neg (by omega), if_neg (by omega), pu_wr_n2 (by omega), y3, if_neg (by omega), if_neg (by omega)]; exact d6 i q hq
        · intro k hk
          rw [pu_wr_n2 (by omega), y3, if_neg (by omega), if_neg (by omega)]; exact d7 k hk
      obtain ⟨g3, z1, z2, z3⟩ := pu_mLets hT am_fu 3 _ (am_wr g 95 (1 + t) (nI v)) hlen (by decide) h0 (by rw [am_wr_ne 91 (by decide), am_wr_ne 92 (by decide), am_wr_ne 93 (by decide), am_wr_ne 94 (by decide), y2 91 (by decide), y2 92 (by decide), y2 93 (by decide), y2 94 (by decide)]; exact h1.1) hF
      refine ⟨g3, ?_, fun q hq => by rw [z2 q hq, am_wr_ne q hq, y2 q hq], z3⟩
      have fin : D_X8_takes_70 am_fu (nI t) (nI (pu_dn N t)) (nI v) (nI (pu_dn N t)) g1 = some (nI v - nI (pu_dn N t), g3) := by
        rw [y1, e1, pu_chk (by omega) (by decide), nI_clamp (by omega), show D_X8_lets (am_wr g 95 (1 + t) (nI v)) = _ from z1, pu_bV]
      show (if nI (pu_dn N t) + nI n < nI (pu_am T N t) then _ else _) = _
      rw [nI_add]
      by_cases hx : pu_dn N t + n < pu_am T N t
      · rw [if_pos (pu_lt hx (by omega))]
        rw [show v = pu_dn N t + n by omega] at fin ⊢
        exact fin
      · rw [if_neg (pu_nlt (by omega) (by omega))]
        rw [show v = pu_am T N t by omega] at fin ⊢
        exact fin
  · refine pu_same (r := -2) h ?_ ?_
    · unfold D_X7_takes
      rw [cA, pu_bI, pu_i10, if_neg hb1, if_neg hb9, pu_cAhead hT hS hC.1 hC.2.2.1.1 ht, pu_bI, if_neg hq, pu_i00]
    · have hd := hM.2.2.1.2.2.1 t (by omega)
      unfold D_X8_takes
      rw [cB f hM, pu_bI, pu_i10, wB f, pu_bI, pu_i10, e1, pu_chk (by omega) (by decide), pu_mAtMost hT hS hM.1 hM.2.2.1 ht, pu_bI, nI_clamp (by omega), hd, if_neg (pu_nlt (by omega) (by omega))]
