/-! the classes: their words, types, kinds of fields -/
def am_ty (ci k : Nat) : FieldType := match ci with
  | 0 => tyX0 k
  | 1 => tyX1 k
  | 2 => tyX2 k
  | 3 => tyX3 k
  | 4 => tyX4 k
  | 5 => tyX5 k
  | 6 => tyX6 k
  | 7 => tyX7 k
  | _ => tyX8 k
def am_kd (t : FieldType) : Nat := match t with
  | .int => 0
  | .boolean => 1
  | _ => 2
def am_rk (t : FieldType) : Bool := match t with
  | .object _ => true
  | .array _ => true
  | _ => false
def am_CF (ci : Nat) (q : vw_C) : Prop := (∀ w ∈ u_ws q.1 q.2.1 q.2.2, w ∈ am_tb) ∧ (∀ k, k < q.2.2 → parseFieldDescriptor (q.2.1 k).2.2.1 = some (am_ty ci k)) ∧ (∀ a, a < q.2.2 → ∀ b, b < q.2.2 → a ≠ b → (q.2.1 a).2.1 ≠ (q.2.1 b).2.1) ∧ (am_ks ci).length = q.2.2 ∧
  (∀ k, k < q.2.2 → am_nth (am_ks ci) k = some (am_kd (am_ty ci k)) ∧ (q.2.1 k).2.2.2 = decide (am_kd (am_ty ci k) = 2)) ∧ Cond.instantiable q.1 q.2.2 ∈ am_tb ∧ Cond.initialized q.1 ∈ am_tb ∧ q.1 = am_rn ci ∧ (∀ k, k < q.2.2 → am_kd (am_ty ci k) = 2 → am_rk (am_ty ci k) = true)
theorem am_uw {C : String} {T : u_T} {N : Nat} (h : ∀ k, k < N → u_lay C T k ∈ am_tb) : ∀ w ∈ u_ws C T N, w ∈ am_tb := by
  intro w hw
  obtain ⟨k, hk, e⟩ := List.mem_map.mp hw
  rw [← e]
  exact h k (List.mem_range.mp hk)
theorem am_ul_0 : ∀ k, k < 3 → u_lay RX0 TX0 k ∈ am_tb
  | 0, _ => am_word_of (i := 260) (by decide +kernel)
  | 1, _ => am_word_of (i := 262) (by decide +kernel)
  | 2, _ => am_word_of (i := 264) (by decide +kernel)
  | n + 3, h => absurd h (by omega)
theorem am_cf_0 : am_CF 0 (RX0, TX0, 3) := ⟨am_uw am_ul_0, tyX0_ok, nmX0, by decide +kernel, by decide +kernel, am_word_of (i := 249) (by decide +kernel), am_word_of (i := 68) (by decide +kernel), by decide +kernel, by decide +kernel⟩
theorem am_ul_1 : ∀ k, k < 2 → u_lay RX1 TX1 k ∈ am_tb
  | 0, _ => am_word_of (i := 243) (by decide +kernel)
  | 1, _ => am_word_of (i := 245) (by decide +kernel)
  | n + 2, h => absurd h (by omega)
theorem am_cf_1 : am_CF 1 (RX1, TX1, 2) := ⟨am_uw am_ul_1, tyX1_ok, nmX1, by decide +kernel, by decide +kernel, am_word_of (i := 233) (by decide +kernel), am_word_of (i := 67) (by decide +kernel), by decide +kernel, by decide +kernel⟩
theorem am_ul_2 : ∀ k, k < 4 → u_lay RX2 TX2 k ∈ am_tb
  | 0, _ => am_word_of (i := 223) (by decide +kernel)
  | 1, _ => am_word_of (i := 225) (by decide +kernel)
  | 2, _ => am_word_of (i := 227) (by decide +kernel)
  | 3, _ => am_word_of (i := 229) (by decide +kernel)
  | n + 4, h => absurd h (by omega)
theorem am_cf_2 : am_CF 2 (RX2, TX2, 4) := ⟨am_uw am_ul_2, tyX2_ok, nmX2, by decide +kernel, by decide +kernel, am_word_of (i := 210) (by decide +kernel), am_word_of (i := 66) (by decide +kernel), by decide +kernel, by decide +kernel⟩
theorem am_ul_3 : ∀ k, k < 3 → u_lay RX3 TX3 k ∈ am_tb
  | 0, _ => am_word_of (i := 277) (by decide +kernel)
  | 1, _ => am_word_of (i := 279) (by decide +kernel)
  | 2, _ => am_word_of (i := 281) (by decide +kernel)
  | n + 3, h => absurd h (by omega)
theorem am_cf_3 : am_CF 3 (RX3, TX3, 3) := ⟨am_uw am_ul_3, tyX3_ok, nmX3, by decide +kernel, by decide +kernel, am_word_of (i := 268) (by decide +kernel), am_word_of (i := 69) (by decide +kernel), by decide +kernel, by decide +kernel⟩
theorem am_ul_4 : ∀ k, k < 10 → u_lay RX4 TX4 k ∈ am_tb
  | 0, _ => am_word_of (i := 188) (by decide +kernel)
  | 1, _ => am_word_of (i := 190) (by decide +kernel)
  | 2, _ => am_word_of (i := 192) (by decide +kernel)
  | 3, _ => am_word_of (i := 194) (by decide +kernel)
  | 4, _ => am_word_of (i := 196) (by decide +kernel)
  | 5, _ => am_word_of (i := 198) (by decide +kernel)
  | 6, _ => am_word_of (i := 200) (by decide +kernel)
  | 7, _ => am_word_of (i := 202) (by decide +kernel)
  | 8, _ => am_word_of (i := 204) (by decide +kernel)
  | 9, _ => am_word_of (i := 206) (by decide +kernel)
  | n + 10, h => absurd h (by omega)
theorem am_cf_4 : am_CF 4 (RX4, TX4, 10) := ⟨am_uw am_ul_4, tyX4_ok, nmX4, by decide +kernel, by decide +kernel, am_word_of (i := 161) (by decide +kernel), am_word_of (i := 64) (by decide +kernel), by decide +kernel, by decide +kernel⟩
theorem am_ul_5 : ∀ k, k < 8 → u_lay RX5 TX5 k ∈ am_tb
  | 0, _ => am_word_of (i := 100) (by decide +kernel)
  | 1, _ => am_word_of (i := 102) (by decide +kernel)
  | 2, _ => am_word_of (i := 104) (by decide +kernel)
  | 3, _ => am_word_of (i := 106) (by decide +kernel)
  | 4, _ => am_word_of (i := 108) (by decide +kernel)
  | 5, _ => am_word_of (i := 110) (by decide +kernel)
  | 6, _ => am_word_of (i := 112) (by decide +kernel)
  | 7, _ => am_word_of (i := 114) (by decide +kernel)
  | n + 8, h => absurd h (by omega)
theorem am_cf_5 : am_CF 5 (RX5, TX5, 8) := ⟨am_uw am_ul_5, tyX5_ok, nmX5, by decide +kernel, by decide +kernel, am_word_of (i := 86) (by decide +kernel), am_word_of (i := 62) (by decide +kernel), by decide +kernel, by decide +kernel⟩
theorem am_ul_6 : ∀ k, k < 6 → u_lay RX6 TX6 k ∈ am_tb
  | 0, _ => am_word_of (i := 147) (by decide +kernel)
  | 1, _ => am_word_of (i := 149) (by decide +kernel)
  | 2, _ => am_word_of (i := 151) (by decide +kernel)
  | 3, _ => am_word_of (i := 153) (by decide +kernel)
  | 4, _ => am_word_of (i := 155) (by decide +kernel)
  | 5, _ => am_word_of (i := 157) (by decide +kernel)
  | n + 6, h => absurd h (by omega)
theorem am_cf_6 : am_CF 6 (RX6, TX6, 6) := ⟨am_uw am_ul_6, tyX6_ok, nmX6, by decide +kernel, by decide +kernel, am_word_of (i := 119) (by decide +kernel), am_word_of (i := 63) (by decide +kernel), by decide +kernel, by decide +kernel⟩
theorem am_ul_7 : ∀ k, k < 9 → u_lay RX7 TX7 k ∈ am_tb
  | 0, _ => am_word_of (i := 293) (by decide +kernel)
  | 1, _ => am_word_of (i := 295) (by decide +kernel)
  | 2, _ => am_word_of (i := 297) (by decide +kernel)
  | 3, _ => am_word_of (i := 299) (by decide +kernel)
  | 4, _ => am_word_of (i := 301) (by decide +kernel)
  | 5, _ => am_word_of (i := 303) (by decide +kernel)
  | 6, _ => am_word_of (i := 305) (by decide +kernel)
  | 7, _ => am_word_of (i := 307) (by decide +kernel)
  | 8, _ => am_word_of (i := 309) (by decide +kernel)
  | n + 9, h => absurd h (by omega)
theorem am_cf_7 : am_CF 7 (RX7, TX7, 9) := ⟨am_uw am_ul_7, tyX7_ok, nmX7, by decide +kernel, by decide +kernel, am_word_of (i := 78) (by decide +kernel), am_word_of (i := 61) (by decide +kernel), by decide +kernel, by decide +kernel⟩
theorem am_ul_8 : ∀ k, k < 34 → u_lay RX8 TX8 k ∈ am_tb
  | 0, _ => am_word_of (i := 762) (by decide +kernel)
  | 1, _ => am_word_of (i := 764) (by decide +kernel)
  | 2, _ => am_word_of (i := 766) (by decide +kernel)
  | 3, _ => am_word_of (i := 768) (by decide +kernel)
  | 4, _ => am_word_of (i := 770) (by decide +kernel)
  | 5, _ => am_word_of (i := 772) (by decide +kernel)
  | 6, _ => am_word_of (i := 774) (by decide +kernel)
  | 7, _ => am_word_of (i := 776) (by decide +kernel)
  | 8, _ => am_word_of (i := 778) (by decide +kernel)
  | 9, _ => am_word_of (i := 780) (by decide +kernel)
  | 10, _ => am_word_of (i := 782) (by decide +kernel)
  | 11, _ => am_word_of (i := 784) (by decide +kernel)
  | 12, _ => am_word_of (i := 786) (by decide +kernel)
  | 13, _ => am_word_of (i := 788) (by decide +kernel)
  | 14, _ => am_word_of (i := 790) (by decide +kernel)
  | 15, _ => am_word_of (i := 792) (by decide +kernel)
  | 16, _ => am_word_of (i := 794) (by decide +kernel)
  | 17, _ => am_word_of (i := 796) (by decide +kernel)
  | 18, _ => am_word_of (i := 798) (by decide +kernel)
  | 19, _ => am_word_of (i := 800) (by decide +kernel)
  | 20, _ => am_word_of (i := 802) (by decide +kernel)
  | 21, _ => am_word_of (i := 804) (by decide +kernel)
  | 22, _ => am_word_of (i := 806) (by decide +kernel)
  | 23, _ => am_word_of (i := 808) (by decide +kernel)
  | 24, _ => am_word_of (i := 810) (by decide +kernel)
  | 25, _ => am_word_of (i := 812) (by decide +kernel)
  | 26, _ => am_word_of (i := 814) (by decide +kernel)
  | 27, _ => am_word_of (i := 816) (by decide +kernel)
  | 28, _ => am_word_of (i := 818) (by decide +kernel)
  | 29, _ => am_word_of (i := 820) (by decide +kernel)
  | 30, _ => am_word_of (i := 822) (by decide +kernel)
  | 31, _ => am_word_of (i := 824) (by decide +kernel)
  | 32, _ => am_word_of (i := 826) (by decide +kernel)
  | 33, _ => am_word_of (i := 828) (by decide +kernel)
  | n + 34, h => absurd h (by omega)
theorem am_cf_8 : am_CF 8 (RX8, TX8, 34) := ⟨am_uw am_ul_8, tyX8_ok, nmX8, by decide +kernel, by decide +kernel, am_word_of (i := 723) (by decide +kernel), am_word_of (i := 70) (by decide +kernel), by decide +kernel, by decide +kernel⟩
theorem am_cf {ci : Nat} {q : vw_C} (h : vwCl[ci]? = some q) : am_CF ci q := by
  match ci, h with
  | 0, h => cases h; exact am_cf_0
  | 1, h => cases h; exact am_cf_1
  | 2, h => cases h; exact am_cf_2
  | 3, h => cases h; exact am_cf_3
  | 4, h => cases h; exact am_cf_4
  | 5, h => cases h; exact am_cf_5
  | 6, h => cases h; exact am_cf_6
  | 7, h => cases h; exact am_cf_7
  | 8, h => cases h; exact am_cf_8
  | n + 9, h => simp [vwCl] at h
/-- a field's row, used -/
theorem am_fl {o idx ci k pl : Nat} (h : am_own am_FL o idx = some (ci, k, pl)) : ∃ q : vw_C, vwCl[ci]? = some q ∧ k < q.2.2 ∧ (q.2.1 k).1 = q.1 ∧ Cond.fieldLink (am_rn o) idx q.1 (q.2.1 k).2.1 (q.2.1 k).2.2.1 ∈ am_tb := by
  obtain ⟨l, h1, h2⟩ := am_own_mem h
  have h3 := List.all_eq_true.mp am_FL_ok (l, o) (List.mem_zipIdx_iff_getElem?.mpr h1)
  have h4 := List.all_eq_true.mp h3 _ h2
  unfold am_flk at h4
  dsimp only at h4
  cases hq : vwCl[ci]? with
  | none => simp [hq] at h4
  | some q =>
    obtain ⟨C, T, N⟩ := q
    simp only [hq, Bool.and_eq_true, decide_eq_true_eq] at h4
    exact ⟨(C, T, N), rfl, Nat.le_of_ble_eq_true h4.1.2, h4.2, am_word_of h4.1.1⟩
theorem am_nl {o idx ci pl : Nat} (h : am_own am_NL o idx = some (ci, pl)) : ∃ q : vw_C, vwCl[ci]? = some q ∧ Cond.classLink (am_rn o) idx q.1 ∈ am_tb := by
  obtain ⟨l, h1, h2⟩ := am_own_mem h
  have h3 := List.all_eq_true.mp am_NL_ok (l, o) (List.mem_zipIdx_iff_getElem?.mpr h1)
  have h4 := List.all_eq_true.mp h3 _ h2
  unfold am_nlk at h4
  dsimp only at h4
  cases hq : vwCl[ci]? with
  | none => simp [hq] at h4
  | some q =>
    obtain ⟨C, T, N⟩ := q
    simp only [hq] at h4
    exact ⟨(C, T, N), rfl, am_word_of h4⟩
/-- a call's row, used -/
theorem am_cl9 {o idx kd j pl : Nat} (h : am_own am_CL o idx = some (kd, j, pl)) : am_clk o (idx, kd, j, pl) = true ∧ am_ckk (idx, kd, j, pl) = true := by
  obtain ⟨l, h1, h2⟩ := am_own_mem h
  have h3 := List.all_eq_true.mp am_CL_ok (l, o) (List.mem_zipIdx_iff_getElem?.mpr h1)
  have h4 := List.all_eq_true.mp am_CL_kind l (List.mem_of_getElem? h1)
  exact ⟨List.all_eq_true.mp h3 _ h2, List.all_eq_true.mp h4 _ h2⟩
