/-! sees, steps, blamed -/
def pu_un (d : Nat → Nat) (k v : Nat) : Nat → Nat := fun i => if i = k then v else d i
theorem pu_ticks (a : Int32) (f : am_M) : (∃ j, j ≤ 60 ∧ a = nI j ∧ D_X7_isTicks a f = some (1, f) ∧ D_X8_isTicks a f = some (1, f)) ∨ (D_X7_isTicks a f = some (0, f) ∧ D_X8_isTicks a f = some (0, f)) := by
  unfold D_X7_isTicks D_X8_isTicks D_X8_within
  by_cases h : a < 0
  · exact Or.inr ⟨by rw [if_pos h], by rw [if_pos h, pu_bI, if_pos (Or.inl rfl)]⟩
  · obtain ⟨j, h1, rfl⟩ := nI_of h
    by_cases hj : j ≤ 60
    · have e1 : ¬ (60 : Int32) < nI j := pu_nlt (b := j) (a := 60) hj (by decide)
      exact Or.inl ⟨j, hj, rfl, by rw [if_neg h, if_neg e1], by rw [if_neg h, if_neg e1, pu_bI, if_pos (Or.inr rfl)]⟩
    · have e1 : (60 : Int32) < nI j := pu_lt (a := 60) (by omega) h1
      exact Or.inr ⟨by rw [if_neg h, if_pos e1], by rw [if_neg h, if_pos e1, pu_bI, if_pos (Or.inl rfl)]⟩
theorem pu_sees (a b : Int32) {f : am_M} (h : pu_R f) : pu_Go (D_X7_sees a b) (D_X8_sees a b) f := by
  obtain ⟨T, X, N, P, I0, I1, Z, hV, hC, hM⟩ := id h
  have hz := hV.2.2.2.2.2.2.1
  have c1 : f 88 2 = nI Z.1 := hC.2.2.2.2.2.1
  have m1 : f 91 11 = nI Z.1 := hM.2.2.2.2.2.1
  rcases pu_ticks a f with ⟨j, hj, rfl, t1, t2⟩ | ⟨t1, t2⟩
  rotate_left
  · refine pu_same (r := -1) h ?_ ?_
    · unfold D_X7_sees; rw [t1, pu_bI, pu_i00]
    · unfold D_X8_sees; rw [t2, pu_bI, pu_i00]
  by_cases h0 : b < 0
  · refine pu_same (r := -1) h ?_ ?_
    · unfold D_X7_sees; rw [t1, pu_bI, pu_i10, if_pos h0]
    · unfold D_X8_sees D_X8_within; rw [t2, pu_bI, pu_i10, if_pos h0, pu_bI, pu_i00]
  by_cases h1 : am_int 9999 < b
  · refine pu_same (r := -1) h ?_ ?_
    · unfold D_X7_sees; rw [t1, pu_bI, pu_i10, if_neg h0, if_pos h1]
    · unfold D_X8_sees D_X8_within; rw [t2, pu_bI, pu_i10, if_neg h0, if_pos h1, pu_bI, pu_i00]
  by_cases h2 : Z.1 < 6
  · have e1 : nI Z.1 < 6 := pu_lt h2 (by decide)
    have e2 : ¬ nI Z.1 = 6 := pu_ne (b := 6) (by omega) (by omega) (by decide)
    refine pu_join (T' := T) (X' := X) (N' := N) (P' := P) (I0' := I0) (I1' := I1) (Z' := (Z.1 + 1, pu_un Z.2.1 Z.1 j, upd Z.2.2 Z.1 b)) (r := nI (Z.1 + 1)) (f1 := am_wr (am_wr (am_wr f 89 Z.1 (nI j)) 90 Z.1 b) 88 2 (nI (Z.1 + 1))) ⟨hV.1, hV.2.1, hV.2.2.1, hV.2.2.2.1, hV.2.2.2.2.1, hV.2.2.2.2.2.1, by show Z.1 + 1 ≤ 6; omega, fun i hi => ?_⟩ ?_ (pu_lo.refl.wr (by decide) |>.wr (by decide) |>.wr (by decide)) ?_ hM (fun g hg => ?_)
    · have hi' : i < Z.1 + 1 := hi
      show pu_un Z.2.1 Z.1 j i ≤ 60
      by_cases hi2 : i = Z.1
      · simp [pu_un, hi2]; exact hj
      · simp [pu_un, hi2]; exact hV.2.2.2.2.2.2.2 i (by omega)
    · unfold D_X7_sees D_X3_add
      rw [t1, pu_bI, pu_i10, if_neg h0, if_neg h1, c1, if_pos e1, pu_chk h2 (by decide), pu_chk h2 (by decide), nI_clamp (by omega), pu_bI, pu_i10, pu_wr_eq, nI_1]
    · obtain ⟨a1, a2, a3, a4, ⟨a5, a6⟩, a7⟩ := hC
      refine ⟨pu_frT (pu_g.refl.wr (by decide) |>.wr (by decide) |>.wr (by decide)) a1, pu_fcX (pu_g.refl.wr (by decide) |>.wr (by decide) |>.wr (by decide)) a2, pu_frN (pu_g.refl.wr (by decide) |>.wr (by decide) |>.wr (by decide)) a3, pu_frP (pu_g.refl.wr (by decide) |>.wr (by decide) |>.wr (by decide)) a4, ⟨pu_frI rfl (pu_g.refl.wr (by decide) |>.wr (by decide) |>.wr (by decide)) a5, pu_frI rfl (pu_g.refl.wr (by decide) |>.wr (by decide) |>.wr (by decide)) a6⟩, ⟨pu_wr_eq, fun i hi => ?_⟩⟩
      have hi' : i < Z.1 + 1 := hi
      constructor
      · rw [pu_wr_n1 (by decide), pu_wr_n1 (by decide), pu_wr_u]
        by_cases hi2 : i = Z.1
        · simp [upd, pu_un, hi2]
        · simp [upd, pu_un, hi2]
          exact (a7.2 i (by omega)).1
      · rw [pu_wr_n1 (by decide), pu_wr_u, am_wr_ne _ (by decide)]
        by_cases hi2 : i = Z.1
        · simp [upd, hi2]
        · simp [upd, hi2]
          exact (a7.2 i (by omega)).2
    · obtain ⟨a1, a2, a3, a4, ⟨a5, a6⟩, a7⟩ := hg
      refine ⟨am_wr (am_wr (am_wr g 99 Z.1 (nI j)) 100 Z.1 b) 91 11 (nI (Z.1 + 1)), ?_, pu_hi.refl.wr (by decide) |>.wr (by decide) |>.wr (by decide), ?_⟩
      · have t2' : D_X8_isTicks (nI j) g = some (1, g) := by
          rcases pu_ticks (nI j) g with ⟨_, _, _, _, q⟩ | ⟨q, _⟩
          · exact q
          · exfalso
            unfold D_X7_isTicks at t1 q
            rw [if_neg (nI_pos (by omega))] at t1 q
            by_cases hh : (60 : Int32) < nI j
            · rw [if_pos hh] at t1; simp at t1
            · rw [if_neg hh] at q; simp at q
        unfold D_X8_sees D_X8_within
        rw [t2', pu_bI, pu_i10, if_neg h0, if_neg h1, pu_bI, pu_i10, a7.1, if_neg e2, pu_chk h2 (by decide), pu_chk h2 (by decide), nI_clamp (by omega), nI_1]
      · refine ⟨pu_fmT (by simp [am_wr]) (by simp [am_wr]) (by simp [am_wr]) (pu_g.refl.wr (by decide) |>.wr (by decide) |>.wr (by decide)) a1, pu_fmX (by simp [am_wr]) (by rw [am_wr_ne _ (by decide), am_wr_ne _ (by decide), am_wr_ne _ (by decide)]) a2, by rw [am_wr_ne _ (by decide), am_wr_ne _ (by decide), am_wr_ne _ (by decide)]; exact a3, pu_fmP (by simp [am_wr]) (by rw [am_wr_ne _ (by decide), am_wr_ne _ (by decide), am_wr_ne _ (by decide)]) a4, ⟨pu_fmI (by rw [am_wr_ne _ (by decide), am_wr_ne _ (by decide), am_wr_ne _ (by decide)]) (by rw [am_wr_ne _ (by decide), am_wr_ne _ (by decide), am_wr_ne _ (by decide)]) a5, pu_fmI (by rw [am_wr_ne _ (by decide), am_wr_ne _ (by decide), am_wr_ne _ (by decide)]) (by rw [am_wr_ne _ (by decide), am_wr_ne _ (by decide), am_wr_ne _ (by decide)]) a6⟩, ⟨pu_wr_eq, fun i hi => ?_⟩⟩
        have hi' : i < Z.1 + 1 := hi
        constructor
        · rw [pu_wr_n1 (by decide), pu_wr_n1 (by decide), pu_wr_u]
          by_cases hi2 : i = Z.1
          · simp [upd, pu_un, hi2]
          · simp [upd, pu_un, hi2]
            exact (a7.2 i (by omega)).1
        · rw [pu_wr_n1 (by decide), pu_wr_u, am_wr_ne _ (by decide)]
          by_cases hi2 : i = Z.1
          · simp [upd, hi2]
          · simp [upd, hi2]
            exact (a7.2 i (by omega)).2
  · have hz2 : Z.1 = 6 := by omega
    refine pu_same (r := -3) h ?_ ?_
    · unfold D_X7_sees D_X3_add
      rw [t1, pu_bI, pu_i10, if_neg h0, if_neg h1, c1, hz2, if_neg (by decide), pu_bI, pu_i00]
    · unfold D_X8_sees D_X8_within
      rw [t2, pu_bI, pu_i10, if_neg h0, if_neg h1, pu_bI, pu_i10, m1, hz2, if_pos (by rfl)]
/-! steps -/
def pu_cs (dn : Nat → Nat) (x : Nat) : Nat → Nat
  | 0 => 0
  | i + 1 => pu_cs dn x i + if dn i < x then 1 else 0
theorem pu_csteps {p e nt x : Nat} {dn : Nat → Nat} {f : am_M} (hn : nt ≤ 6) (hx : x < 2 ^ 30) (h3 : f 3 2 = nI nt) (hd : ∀ t, t < nt → f (p + 1) t = nI (dn t)) (hb : ∀ t, t < nt → dn t < 2 ^ 30) : ∀ n i, i ≤ nt → nt < i + n → D_X4_takesToAdmitFirst_60 p e n (nI x) (nI (pu_cs dn x i)) (nI i) f = some (nI (pu_cs dn x nt), f)
  | 0, i, h1, h2 => absurd h2 (by omega)
  | n + 1, i, h1, h2 => by
    unfold D_X4_takesToAdmitFirst_60
    rw [h3]
    by_cases hi : i < nt
    · have hb' := hb i hi
      have ih := pu_csteps (e := e) hn hx h3 hd hb n (i + 1) (by omega) (by omega)
      rw [if_pos (pu_lt hi (by omega)), pu_chk (by omega) (by decide), nI_clamp (by omega), hd i hi, nI_1, nI_1]
      by_cases hlt : dn i < x
      · rw [if_pos (pu_lt hlt (by omega))]
        rw [show pu_cs dn x (i + 1) = pu_cs dn x i + 1 by simp [pu_cs, hlt]] at ih
        exact ih
      · rw [if_neg (pu_nlt (by omega) (by omega))]
        rw [show pu_cs dn x (i + 1) = pu_cs dn x i by simp [pu_cs, hlt]] at ih
        exact ih
    · have : i = nt := by omega
      subst this
      rw [if_neg (pu_nlt (Nat.le_refl _) (by omega))]
theorem pu_msteps {nt x : Nat} {dn : Nat → Nat} {f : am_M} (hn : nt ≤ 6) (hx : x < 2 ^ 30) (h3 : f 91 3 = nI nt) (hd : ∀ t, t < nt → f 95 (1 + t) = nI (dn t)) (hb : ∀ t, t < nt → dn t < 2 ^ 30) : ∀ n i, i ≤ nt → nt < i + n → D_X8_steps_51 n (nI x) (nI (pu_cs dn x i)) (nI i) f = some (nI (pu_cs dn x nt), f)
  | 0, i, h1, h2 => absurd h2 (by omega)
  | n + 1, i, h1, h2 => by
    unfold D_X8_steps_51
    rw [h3]
    by_cases hi : i < nt
    · have hb' := hb i hi
      have e1 : (1 : Int32) + nI i = nI (1 + i) := nI_add 1 i
      have e2 : nI (pu_cs dn x i) + 0 = nI (pu_cs dn x i) := nI_add _ 0
      have ih := pu_msteps hn hx h3 hd hb n (i + 1) (by omega) (by omega)
      rw [if_pos (pu_lt hi (by omega)), e1, pu_chk (by omega) (by decide), nI_clamp (by omega), hd i hi, e2, nI_1, nI_1]
      by_cases hlt : dn i < x
      · rw [if_pos (pu_lt hlt (by omega))]
        rw [show pu_cs dn x (i + 1) = pu_cs dn x i + 1 by simp [pu_cs, hlt]] at ih
        exact ih
      · rw [if_neg (pu_nlt (by omega) (by omega))]
        rw [show pu_cs dn x (i + 1) = pu_cs dn x i by simp [pu_cs, hlt]] at ih
        exact ih
    · have : i = nt := by omega
      subst this
      rw [if_neg (pu_nlt (Nat.le_refl _) (by omega))]
theorem pu_steps {f : am_M} (h : pu_R f) : pu_Go D_X7_steps D_X8_steps f := by
  refine pu_Eq.go ?_ h
  obtain ⟨T, X, N, P, I0, I1, Z, hV, hC, hM⟩ := h
  obtain ⟨hT, hX, hS, hP, hI0, hI1, hZ⟩ := hV
  obtain ⟨a1, a2, a3, a4, a5, a7⟩ := hC
  obtain ⟨b1, b2, b3, b4, b5, b7⟩ := hM
  have hnt := hT.2.2.1
  have hc := hS.cl
  have hu := pu_cu_le (S := N)
  unfold D_X7_steps D_X8_steps D_X4_takesToAdmitFirst
  rw [pu_mCursor hS b3]
  have k9 : f 11 9 = _ := a3.1.2.2.1
  have k3 : f 11 3 = _ := a3.1.2.1
  have k2 : f 11 2 = _ := a3.1.1
  rw [k9, k3, k2, b3.2.1, b3.1, a1.2.2.1, a1.1, b1.1]
  cases hr : pu_rw N with
  | nil =>
    refine ⟨-9, ?_, ?_⟩
    · rw [if_pos (show nI (List.length ([] : List (Nat × Nat))) = 0 from rfl), pu_bI]
    · rw [if_pos (show nI (List.length ([] : List (Nat × Nat))) = 0 from rfl), pu_bI, if_pos (show nI (pu_cu N) < am_int 1000 from pu_lt (b := 1000) (by omega) (by decide))]
  | cons q r =>
    obtain ⟨m, n⟩ := q
    have hst := hS.2.2.2.2.1 m n r hr
    have hq := hS.2.2.1.1 (m, n) (by rw [hr]; simp)
    have hnm := hT.2.1
    have hl := hS.len hT
    have hsl := hT.1
    rw [hr] at hl
    have k4 : f (11 + 4) 0 = nI m := a3.1.2.2.2.2.2.2.1 0 (m, n) (by rw [hr]; rfl)
    have k5 : f (11 + 5) m = nI n := by
      have := a3.1.2.2.2.2.2.2.2 m (by simp at hq; omega)
      rw [hr, pu_wa_c, if_pos rfl] at this
      exact this
    have k6 : f 95 23 = nI n := (b3.2.2.2.2.2.1 0 (m, n) (by rw [hr]; rfl)).2
    have h0 : ¬ nI ((m, n) :: r).length = 0 := nI_ne0 (by simp) (by omega)
    simp at hq
    rw [k4, pu_chk (show m < 3 by omega) (by decide), nI_clamp (by omega), k5, k6, nI_add, pu_subN (show pu_sl T ≤ pu_cl N + n by omega)]
    by_cases hz : pu_nt T = 0
    · have hle : pu_lst T N = pu_cl N := by unfold pu_lst; rw [hz]; rfl
      refine ⟨-9, ?_, ?_⟩
      · rw [if_neg h0, hz, if_pos nI_0, pu_bI]
      · rw [if_neg h0, pu_bI, if_pos (pu_lt (by omega) (by omega))]
    · by_cases hlt : pu_cu N < pu_cl N + n - pu_sl T
      · refine ⟨-9, ?_, ?_⟩
        · rw [if_neg h0, if_neg (nI_ne0 (by omega) (by omega)), if_pos (pu_lt hlt (by omega)), pu_bI]
        · rw [if_neg h0, pu_bI, if_pos (pu_lt hlt (by omega))]
      · have x1 := pu_csteps (p := 11) (e := 999) (x := pu_cl N + n - pu_sl T) hnt (by omega) a1.2.2.1 (fun t ht => a3.1.2.2.2.1 t (by omega)) (fun t ht => by have := hS.dn ht; omega) am_fu 0 (Nat.zero_le _) (by show _ < 0 + 6000; omega)
        have x2 := pu_msteps (x := pu_cl N + n - pu_sl T) hnt (by omega) b1.2.2.1 (fun t ht => b3.2.2.1 t (by omega)) (fun t ht => by have := hS.dn ht; omega) am_fu 0 (Nat.zero_le _) (by show _ < 0 + 6000; omega)
        refine ⟨nI (pu_cs (pu_dn N) (pu_cl N + n - pu_sl T) (pu_nt T)), ?_, ?_⟩
        · rw [if_neg h0, if_neg (nI_ne0 (by omega) (by omega)), if_neg (pu_nlt (by omega) (by omega))]
          have x1' : D_X4_takesToAdmitFirst_60 11 999 am_fu (nI (pu_cl N + n - pu_sl T)) 0 0 f = _ := x1
          rw [x1', pu_bI]
        · rw [if_neg h0, pu_bI, if_neg (pu_nlt (by omega) (by omega))]
          exact x2
/-! blamed -/
theorem pu_bit_lt {b t s : Nat} (hb : b < 2 ^ t) (hs : b / 2 ^ s % 2 = 1) : s < t := by
  rcases Nat.lt_or_ge s t with h | h
  · exact h
  · have : 2 ^ t ≤ 2 ^ s := Nat.pow_le_pow_right (by decide) h
    rw [Nat.div_eq_of_lt (by omega)] at hs
    simp at hs
theorem pu_dn_am {T : pu_T} {S : pu_S} (hT : pu_Tok T) (hS : pu_Sok T S) {t : Nat} (ht : t < pu_nt T) : pu_dn S t ≤ pu_am T S t := by
  unfold pu_am
  cases hs : pu_so (pu_dn S) (pu_bh T t) (pu_nt T) with
  | none => exact (hS.2.2.2.1 t ht).1
  | some s =>
    obtain ⟨h1, h2⟩ := pu_so_lt _ _ hs
    exact (hS.2.2.2.1 t ht).2 s (pu_bit_lt (hT.2.2.2.2 t ht).2.2 h2) h2
theorem pu_am_le {T : pu_T} {S : pu_S} (hS : pu_Sok T S) (t : Nat) : pu_am T S t ≤ 999 := by
  have hc := hS.cl
  have hu := pu_cu_le (S := S)
  unfold pu_am
  cases hs : pu_so (pu_dn S) (pu_bh T t) (pu_nt T) with
  | none => show pu_cu S ≤ 999; omega
  | some s => exact hS.dn (pu_so_lt _ _ hs).1
theorem pu_cAhead {T : pu_T} {S : pu_S} {f : am_M} {p e : Nat} (hT : pu_Tok T) (hS : pu_Sok T S) (h3 : pu_Tc T (f 3) (f 4) (f 5) (f 6)) (hF : pu_Sf S f p) {t : Nat} (ht : t < pu_nt T) : D_X4_hasAhead p e (nI t) f = some (if pu_dn S t < pu_am T S t then 1 else 0, f) := by
  have hn := hT.2.2.1
  have h1 := hS.dn ht
  have h2 := pu_am_le hS t
  unfold D_X4_hasAhead
  rw [pu_chk (by omega) (by decide), pu_cAtMost hT hS h3 hF ht, pu_bI, nI_clamp (by omega), hF.2.2.2.1 t (by omega)]
  by_cases hq : pu_dn S t < pu_am T S t
  · rw [if_pos hq, if_pos (pu_lt hq (by omega))]
  · rw [if_neg hq, if_neg (pu_nlt (by omega) (by omega))]
theorem pu_bl {T : pu_T} {S : pu_S} {f : am_M} (hT : pu_Tok T) (hS : pu_Sok T S) (h3 : pu_Tc T (f 3) (f 4) (f 5) (f 6)) (hF : pu_Sf S f 11) (hE : pu_Ec S (f 17)) (hTm : pu_Tm T (f 91) (f 92) (f 93) (f 94)) (hM : pu_Sm S (f 95)) : ∀ n n' t c, t < pu_nt T → t + c ≤ 5 → t < n → t < n' → pu_Eq (D_X4_toBlame_27 11 999 n (nI t) (nI c) f) (D_X8_blamed_33 n' (nI t) f) f
  | 0, n', t, c, _, _, h, _ => absurd h (Nat.not_lt_zero _)
  | n + 1, 0, t, c, _, _, _, h => absurd h (Nat.not_lt_zero _)
  | n + 1, n' + 1, t, c, ht, h5, h1, h2 => by
    have hn := hT.2.2.1
    have hc := hS.cl
    have hu := pu_cu_le (S := S)
    have hd := hS.dn ht
    have hle := pu_dn_am hT hS ht
    have ha := pu_am_le hS t
    have e1 : (1 : Int32) + nI t = nI (1 + t) := nI_add 1 t
    have e2 : (26 : Int32) + nI (pu_cu S) = nI (26 + pu_cu S) := nI_add 26 _
    have ec : nI c < 6 := pu_lt (b := 6) (by omega) (by decide)
    have hb := pu_nz hT ht
    unfold D_X4_toBlame_27 D_X8_blamed_33
    rw [if_pos ec, pu_cAhead hT hS h3 hF ht, pu_bI, e1, pu_chk (show 1 + t < 1026 by omega) (by decide), pu_mAtMost hT hS hTm hM ht, pu_bI, nI_clamp (show 1 + t < 2 ^ 31 by omega), hM.2.2.1 t (by omega)]
    by_cases hq : pu_dn S t < pu_am T S t
    · refine ⟨nI t, by rw [if_pos hq, pu_i10], by rw [if_neg (pu_ne (by omega) (by omega) (by omega))]⟩
    · rw [if_neg hq, pu_i00, if_pos (show nI (pu_dn S t) = nI (pu_am T S t) by congr 1; omega), pu_chk (show t < 6 by omega) (by decide), pu_chk (show t < 6 by omega) (by decide), pu_chk (show t < 6 by omega) (by decide), nI_clamp (show t < 2 ^ 31 by omega), h3.2.2.2.2.2 t ht, hTm.2.2.2.2.2 t ht, pu_cSlow hT hS h3 hF hb, pu_mSlow hT hS hTm hM hb, pu_bI, pu_bI, pu_mCursor hS hM, pu_bI]
      by_cases hz : pu_bh T t = 0
      · rw [hz, pu_so_zero, if_pos (show pu_cd none = -9 from rfl), if_pos nI_0, show f 11 3 = nI (pu_cu S) from hF.2.1, hM.1]
        by_cases hcc : pu_cu S < pu_cl S
        · obtain ⟨c1, c2, c3, c4⟩ := hS.2.1 _ hcc
          rw [if_pos (pu_lt hcc (by omega)), pu_hasEvent hF.1 hcc hc, pu_bI, pu_i10, show f 11 3 = nI (pu_cu S) from hF.2.1, pu_cMaker (p := 11) hc hS.2.1 hE hcc, pu_bI, e2, pu_chk (by omega) (by decide), nI_clamp (by omega), hM.2.2.2.2.2.2 _ hcc]
          unfold pu_me
          rw [(pu_mes _ (show (pu_ev S (pu_cu S)).1 < 3 by omega) _ c2 _ (show (pu_ev S (pu_cu S)).2.2 < 100 by omega)).2.1]
          exact ⟨_, rfl, rfl⟩
        · rw [if_neg (pu_nlt (by omega) (by omega)), pu_hasNoEvent hF.1 (Or.inr ⟨pu_cu S, by omega, by omega, rfl⟩), pu_bI, pu_i00]
          exact ⟨_, rfl, rfl⟩
      · obtain ⟨i, hi, hbi⟩ := pu_some t (by omega) _ (hT.2.2.2.2 t ht).2.2 hz
        rw [if_neg (show ¬ nI (pu_bh T t) = 0 from nI_ne0 (by omega) (by omega))]
        cases hs : pu_so (pu_dn S) (pu_bh T t) (pu_nt T) with
        | none => exact absurd hs (pu_so_ex hbi _ (by omega))
        | some s =>
          obtain ⟨s1, s2⟩ := pu_so_lt _ _ hs
          have s3 := pu_bit_lt (hT.2.2.2.2 t ht).2.2 s2
          have hx : ¬ pu_cd (some s) = -9 := pu_neg9 (a := s) (by omega)
          rw [if_neg hx, nI_1]
          exact pu_bl hT hS h3 hF hE hTm hM n n' s (c + 1) s1 (by omega) (by omega) (by omega)
theorem pu_shl : ∀ k, k < 7 → ((1 : Int32) <<< (nI k &&& 31)) - 1 = nI (2 ^ k - 1) := by decide +kernel
theorem pu_odd : ∀ k, k < 7 → k ≠ 0 → (2 ^ k - 1) / 2 ^ 0 % 2 = 1 ∧ 2 ^ k - 1 < 64 := by decide +kernel
theorem pu_blamed {f : am_M} (h : pu_R f) : pu_Go D_X7_blamed D_X8_blamed f := by
  refine pu_Eq.go ?_ h
  obtain ⟨T, X, N, P, I0, I1, Z, hV, hC, hM⟩ := h
  obtain ⟨hT, hX, hS, hP, hI0, hI1, hZ⟩ := hV
  obtain ⟨a1, a2, a3, a4, a5, a7⟩ := hC
  obtain ⟨b1, b2, b3, b4, b5, b7⟩ := hM
  have hnt := hT.2.2.1
  have hl := hS.len hT
  unfold D_X7_blamed D_X8_blamed D_X4_toBlame
  rw [show f 11 9 = _ from a3.1.2.2.1, b3.2.1, a1.2.2.1, b1.2.2.1]
  by_cases h0 : (pu_rw N).length = 0
  · rw [h0]
    exact ⟨-9, by rw [if_pos nI_0, pu_bI], by rw [if_pos nI_0]⟩
  · have h0' : ¬ nI (pu_rw N).length = 0 := nI_ne0 (by omega) (by omega)
    by_cases hz : pu_nt T = 0
    · rw [hz]
      exact ⟨-9, by rw [if_neg h0', if_pos nI_0, pu_bI], by rw [if_neg h0', if_pos nI_0]⟩
    · have hz' : ¬ nI (pu_nt T) = 0 := nI_ne0 (by omega) (by omega)
      obtain ⟨o1, o2⟩ := pu_odd _ (show pu_nt T < 7 by omega) hz
      unfold D_X4_slowest
      rw [if_neg h0', if_neg hz', if_neg h0', if_neg hz', a1.2.2.1, pu_shl _ (by omega), pu_cSlow hT hS a1 a3.1 o2, pu_mSlow hT hS b1 b3 o2]
      cases hs : pu_so (pu_dn N) (2 ^ pu_nt T - 1) (pu_nt T) with
      | none => exact absurd hs (pu_so_ex o1 _ (by omega))
      | some s =>
        obtain ⟨s1, s2⟩ := pu_so_lt _ _ hs
        obtain ⟨r, x1, x2⟩ := pu_bl hT hS a1 a3.1 a3.2 b1 b3 am_fu am_fu s 0 s1 (by omega) (by show s < 6000; omega) (by show s < 6000; omega)
        refine ⟨r, ?_, ?_⟩
        · show am_bI (am_bI (am_bI (some (nI s, f)) fun v1 f1 => some (v1, f1)) fun v1 f1 => D_X4_toBlame_27 11 999 am_fu v1 0 f1) _ = _
          rw [pu_bI, pu_bI, show D_X4_toBlame_27 11 999 am_fu (nI s) 0 f = _ from x1, pu_bI]
        · show am_bI (some (nI s, f)) (fun v1 f1 => D_X8_blamed_33 am_fu v1 f1) = _
          rw [pu_bI, x2]
