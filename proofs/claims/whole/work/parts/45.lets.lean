/-! leaving and admitting, on standings -/
def pu_So0 (T : pu_T) (S : pu_S) : Prop := pu_cl S + pu_sw (pu_rw S) ≤ 999 ∧ pu_Eok (pu_ev S) (pu_cl S) ∧ pu_Rok T (pu_rw S) ∧ (∀ t, t < pu_nt T → pu_dn S t ≤ pu_cu S ∧ ∀ u, u < t → pu_bit (pu_bh T t) u → pu_dn S t ≤ pu_dn S u) ∧ pu_cl S ≤ pu_sl T + pu_lst T S
theorem pu_Sok.s0 {T : pu_T} {S : pu_S} (h : pu_Sok T S) : pu_So0 T S := ⟨h.1, h.2.1, h.2.2.1, h.2.2.2.1, h.2.2.2.2.2⟩
section A0
variable {T : pu_T} {S : pu_S} {f : am_M} {p e : Nat}
theorem pu_So0.cl (h : pu_So0 T S) : pu_cl S ≤ 999 := by have := h.1; omega
theorem pu_So0.dn (h : pu_So0 T S) {t : Nat} (ht : t < pu_nt T) : pu_dn S t ≤ 999 := by
  have h1 := (h.2.2.2.1 t ht).1
  have h2 := pu_cu_le (S := S)
  have h3 := h.1
  omega
theorem pu_So0.len (hT : pu_Tok T) (h : pu_So0 T S) : (pu_rw S).length ≤ 3 := pu_len hT.2.1 (fun q hq => (h.2.2.1.1 q hq).1) h.2.2.1.2
theorem pu_cRoom0 (hT : pu_Tok T) (hS : pu_So0 T S) (h3 : pu_Tc T (f 3) (f 4) (f 5) (f 6)) (hF : pu_Sf S f p) : D_X4_room p e f = some (nI (pu_ro T S), f) := by
  have hn := hT.2.2.1
  have hc := hS.cl
  have hx : D_X4_least p e f = some (nI (pu_lst T S), f) := by
    unfold D_X4_least
    rw [hF.1]
    exact pu_cleast (c := pu_cl S) hn h3.2.2.1 (fun t ht => hF.2.2.2.1 t (by omega)) (fun t ht => by have := hS.dn ht; omega) (by omega) am_fu 0 (Nat.zero_le _) (by show _ < 0 + 6000; omega)
  unfold D_X4_room
  rw [hx, pu_bI, h3.1, hF.1, nI_add, pu_subN hS.2.2.2.2]
  rfl
theorem pu_mRoom0 (hT : pu_Tok T) (hS : pu_So0 T S) (h3 : pu_Tm T (f 91) (f 92) (f 93) (f 94)) (hF : pu_Sm S (f 95)) : D_X8_room f = some (nI (pu_ro T S), f) := by
  have hn := hT.2.2.1
  have hc := hS.cl
  have hx : D_X8_least f = some (nI (pu_lst T S), f) := by
    unfold D_X8_least
    rw [hF.1]
    exact pu_mleast (c := pu_cl S) hn h3.2.2.1 (fun t ht => hF.2.2.1 t (by omega)) (fun t ht => by have := hS.dn ht; omega) (by omega) am_fu 0 (Nat.zero_le _) (by show _ < 0 + 6000; omega)
  unfold D_X8_room
  rw [hx, pu_bI, h3.1, hF.1, nI_add, pu_subN hS.2.2.2.2]
  rfl
theorem pu_cPlace0 (hT : pu_Tok T) (hS : pu_So0 T S) (hF : pu_Sf S f p) {m : Nat} (hm : m < 3) : D_X4_placeInRow p e (nI m) f = some (pu_cd (pu_ix (pu_rw S) m), f) := by
  have hl := hS.len hT
  have hx := pu_cplace (e := e) hl hm hF.2.2.1 (pu_rw S) 0 am_fu (Nat.zero_add _) (fun j q hq => ⟨by rw [Nat.zero_add]; exact hF.2.2.2.2.2.2.1 j q hq, by have := (hS.2.2.1.1 q (List.mem_of_getElem? hq)).1; have := hT.2.1; omega⟩) (by show _ < 0 + 6000; omega)
  have e0 : (pu_ix (pu_rw S) m).map (0 + ·) = pu_ix (pu_rw S) m := by
    cases pu_ix (pu_rw S) m <;> simp
  rw [e0] at hx
  exact hx
theorem pu_lt_len {α : Type} {r : List α} {i : Nat} {q : α} (h : r[i]? = some q) : i < r.length := by
  rcases Nat.lt_or_ge i r.length with h1 | h1
  · exact h1
  · rw [List.getElem?_eq_none h1] at h; simp at h
theorem pu_len_er {r : List (Nat × Nat)} {i : Nat} {q : Nat × Nat} (h : r[i]? = some q) : (r.eraseIdx i).length = r.length - 1 := by
  rw [List.length_eraseIdx, if_pos (pu_lt_len h)]
theorem pu_cLeave (hT : pu_Tok T) (hS : pu_So0 T S) (hF : pu_Sf S f p) {m n i : Nat} (hi : (pu_rw S)[i]? = some (m, n)) (hx : pu_ix (pu_rw S) m = some i) : ∃ f', D_X4_leaveRow p e (nI m) f = some f' ∧ (∀ q, q < p ∨ p + 5 < q → f' q = f q) ∧ pu_Sf (pu_sr S ((pu_rw S).eraseIdx i)) f' p := by
  have hl := hS.len hT
  have hil := pu_lt_len hi
  have hm : m < 3 := by have := (hS.2.2.1.1 (m, n) (List.mem_of_getElem? hi)).1; have := hT.2.1; simp at *; omega
  obtain ⟨d1, d2, d3, d4, d5, d6, d7, d8⟩ := id hF
  obtain ⟨f', y1, y2, y3, y4, y5, y6⟩ := pu_cleave17 (p := p) (e := e) hl hm ((pu_rw S).length - (i + 1)) am_fu (i + 1) f d3 (by omega) (by omega) (by show _ < 6000; omega)
  refine ⟨f', ?_, fun q hq => y2 q (by omega) (by omega) (by omega), ?_, ?_, ?_, ?_, ?_, ?_, ?_, ?_⟩
  · unfold D_X4_leaveRow
    rw [pu_cPlace0 hT hS hF hm, hx, pu_bI]
    show (if nI i = -9 then some f else D_X4_leaveRow_17 p e am_fu (nI m) (nI i + 1) f) = _
    rw [if_neg (pu_neg9 (by omega)), nI_1]
    exact y1
  · rw [y3 2 (by decide)]; exact d1
  · rw [y3 3 (by decide)]; exact d2
  · rw [y4]
    show _ = nI ((pu_rw S).eraseIdx i).length
    rw [pu_len_er hi]
    have := nI_pred ((pu_rw S).length - 1)
    rw [show (pu_rw S).length - 1 + 1 = (pu_rw S).length by omega] at this
    exact this
  · intro t ht; rw [y2 _ (by omega) (by omega) (by omega)]; exact d4 t ht
  · intro t ht; rw [y2 _ (by omega) (by omega) (by omega)]; exact d5 t ht
  · intro t ht; rw [y2 _ (by omega) (by omega) (by omega)]; exact d6 t ht
  · intro j q hq
    have hq' : ((pu_rw S).eraseIdx i)[j]? = some q := hq
    have hjl := pu_lt_len hq'
    rw [pu_len_er hi] at hjl
    rw [List.getElem?_eraseIdx] at hq'
    rw [y5 j]
    by_cases h : j < i
    · rw [if_pos h] at hq'
      rw [if_neg (by omega)]; exact d7 j q hq'
    · rw [if_neg h] at hq'
      rw [if_pos (by omega)]; exact d7 (j + 1) q hq'
  · intro k hk
    rw [y6 k]
    show _ = nI (pu_wa ((pu_rw S).eraseIdx i) k)
    rw [pu_wa_er _ i m n k hi hS.2.2.1.2]
    by_cases h : k = m
    · rw [if_pos h, if_pos h]; rfl
    · rw [if_neg h, if_neg h]; exact d8 k hk
theorem pu_mLeave (hT : pu_Tok T) (hR : (pu_rw S).length ≤ 3) (hc : pu_cl S ≤ 999) (hF : pu_Sm S (f 95)) {m n i : Nat} (hi : (pu_rw S)[i]? = some (m, n)) : ∃ f', D_X8_leavesRow (nI i) f = some f' ∧ (∀ q, q ≠ 95 → f' q = f q) ∧ pu_Sm (pu_sr S ((pu_rw S).eraseIdx i)) (f' 95) := by
  have hil := pu_lt_len hi
  obtain ⟨d1, d2, d3, d4, d5, d6, d7⟩ := hF
  have e1 : nI (pu_rw S).length - 1 = nI ((pu_rw S).length - 1) := by
    have := nI_pred ((pu_rw S).length - 1)
    rw [show (pu_rw S).length - 1 + 1 = (pu_rw S).length by omega] at this
    exact this
  obtain ⟨f', y1, y2, y3⟩ := pu_mleave13 (L := (pu_rw S).length - 1) (by omega) ((pu_rw S).length - 1 - i) am_fu i (am_wr f 95 19 (nI ((pu_rw S).length - 1))) pu_wr_eq (by omega) (by show _ < 6000; omega)
  refine ⟨f', ?_, fun q hq => by rw [y2 q hq, am_wr_ne q hq], ?_, ?_, ?_, ?_, ?_, ?_, ?_⟩
  · unfold D_X8_leavesRow
    rw [d2, e1]
    exact y1
  · rw [y3, if_neg (by omega), pu_wr_n2 (by decide)]; exact d1
  · rw [y3, if_neg (by omega), pu_wr_eq]
    show _ = nI ((pu_rw S).eraseIdx i).length
    rw [pu_len_er hi]
  · intro t ht; rw [y3, if_neg (by omega), pu_wr_n2 (by omega)]; exact d3 t ht
  · intro t ht; rw [y3, if_neg (by omega), pu_wr_n2 (by omega)]; exact d4 t ht
  · intro t ht; rw [y3, if_neg (by omega), pu_wr_n2 (by omega)]; exact d5 t ht
  · intro j q hq
    have hq' : ((pu_rw S).eraseIdx i)[j]? = some q := hq
    have hjl := pu_lt_len hq'
    rw [pu_len_er hi] at hjl
    rw [List.getElem?_eraseIdx] at hq'
    rw [y3, y3]
    by_cases h : j < i
    · rw [if_pos h] at hq'
      rw [if_neg (by omega), if_neg (by omega), pu_wr_n2 (by omega), pu_wr_n2 (by omega)]; exact d6 j q hq'
    · rw [if_neg h] at hq'
      rw [if_pos (by omega), if_pos (by omega), pu_wr_n2 (by omega), pu_wr_n2 (by omega)]; exact d6 (j + 1) q hq'
  · intro k hk
    have hk' : k < pu_cl S := hk
    rw [y3, if_neg (by omega), pu_wr_n2 (by omega)]; exact d7 k hk
end A0
theorem pu_le_mono {dn : Nat → Nat} {c c' : Nat} (h : c ≤ c') : ∀ k, pu_le dn c k ≤ pu_le dn c' k
  | 0 => h
  | k + 1 => by
    have ih := pu_le_mono (dn := dn) h k
    show (if dn k < pu_le dn c k then dn k else pu_le dn c k) ≤ (if dn k < pu_le dn c' k then dn k else pu_le dn c' k)
    split <;> split <;> omega
/-- those who wait are let in, first come first -/
def pu_ad (T : pu_T) : Nat → pu_S → pu_S
  | 0, S => S
  | k + 1, S => match pu_rw S with
    | [] => S
    | (m, n) :: r => if pu_ro T S < n then S else pu_ad T k (pu_cm (pu_sr S r) m n)
theorem pu_ad_nil {T : pu_T} {S : pu_S} (k : Nat) (h : pu_rw S = []) : pu_ad T k S = S := by
  cases k with
  | zero => rfl
  | succ k => unfold pu_ad; rw [h]
theorem pu_ad_lt {T : pu_T} {S : pu_S} {m n : Nat} {r : List (Nat × Nat)} (k : Nat) (h : pu_rw S = (m, n) :: r) (h2 : pu_ro T S < n) : pu_ad T k S = S := by
  cases k with
  | zero => rfl
  | succ k => unfold pu_ad; rw [h]; exact if_pos h2
theorem pu_ad_go {T : pu_T} {S : pu_S} {m n : Nat} {r : List (Nat × Nat)} (k : Nat) (h : pu_rw S = (m, n) :: r) (h2 : ¬ pu_ro T S < n) : pu_ad T (k + 1) S = pu_ad T k (pu_cm (pu_sr S r) m n) := by
  show (match pu_rw S with
    | [] => S
    | (m, n) :: r => if pu_ro T S < n then S else pu_ad T k (pu_cm (pu_sr S r) m n)) = _
  rw [h]; exact if_neg h2
theorem pu_So0.cm {T : pu_T} {S : pu_S} (hT : pu_Tok T) (hS : pu_So0 T S) {m n : Nat} {r : List (Nat × Nat)} (hr : pu_rw S = (m, n) :: r) (hn : n ≤ pu_ro T S) : pu_So0 T (pu_cm (pu_sr S r) m n) := by
  obtain ⟨s1, s2, s3, s4, s5⟩ := hS
  have hq := s3.1 (m, n) (by rw [hr]; simp)
  simp at hq
  have hnm := hT.2.1
  rw [hr, pu_sw_c] at s1
  have hcu : pu_cu (pu_cm (pu_sr S r) m n) = pu_cu S := pu_cm_cu (S := pu_sr S r) hq.2.1
  refine ⟨by show pu_cl S + n + pu_sw r ≤ 999; omega, fun k hk => ?_, ⟨fun q hq => s3.1 q (by rw [hr]; exact List.mem_cons_of_mem _ hq), by have := s3.2; rw [hr] at this; simp at this; exact this.2⟩, fun t ht => ⟨by rw [hcu]; exact (s4 t ht).1, (s4 t ht).2⟩, ?_⟩
  · have hk' : k < pu_cl S + n := hk
    rw [pu_cm_ev, show pu_cl (pu_sr S r) = pu_cl S from rfl]
    by_cases h : pu_cl S ≤ k ∧ k < pu_cl S + n
    · rw [if_pos h]; exact ⟨Nat.zero_le _, by show m < 3; omega, Nat.zero_le _, fun _ => rfl⟩
    · rw [if_neg h]; exact s2 k (by omega)
  · have h1 : pu_lst T S ≤ pu_lst T (pu_cm (pu_sr S r) m n) := pu_le_mono (dn := pu_dn S) (show pu_cl S ≤ pu_cl S + n by omega) (pu_nt T)
    unfold pu_ro at hn
    show pu_cl S + n ≤ _
    omega
theorem pu_ad_ok {T : pu_T} (hT : pu_Tok T) : ∀ (k : Nat) (S : pu_S), (pu_rw S).length ≤ k → pu_So0 T S → pu_Sok T (pu_ad T k S) ∧ pu_cl S ≤ pu_cl (pu_ad T k S) ∧ ∀ j, j < pu_cl S → pu_ev (pu_ad T k S) j = pu_ev S j
  | k, S, hk, hS => by
    obtain ⟨s1, s2, s3, s4, s5⟩ := id hS
    cases hr : pu_rw S with
    | nil =>
      rw [pu_ad_nil k hr]
      exact ⟨⟨s1, s2, s3, s4, fun m n r h => by rw [hr] at h; simp at h, s5⟩, Nat.le_refl _, fun _ _ => rfl⟩
    | cons x r =>
      obtain ⟨m, n⟩ := x
      by_cases hlt : pu_ro T S < n
      · rw [pu_ad_lt k hr hlt]
        refine ⟨⟨s1, s2, s3, s4, fun m' n' r' h => ?_, s5⟩, Nat.le_refl _, fun _ _ => rfl⟩
        rw [hr] at h
        simp at h
        unfold pu_ro at hlt
        omega
      · cases k with
        | zero => rw [hr] at hk; simp at hk
        | succ k =>
          rw [pu_ad_go k hr hlt]
          obtain ⟨i1, i2, i3⟩ := pu_ad_ok hT k (pu_cm (pu_sr S r) m n) (by rw [hr] at hk; show r.length ≤ k; simpa using hk) (hS.cm hT hr (by omega))
          have i2' : pu_cl S + n ≤ _ := i2
          refine ⟨i1, by omega, fun j hj => ?_⟩
          rw [i3 j (show j < pu_cl S + n by omega), pu_cm_ev, if_neg (by show ¬ (pu_cl S ≤ j ∧ j < pu_cl S + n); omega)]
          rfl
theorem pu_cAdmit {T : pu_T} {p : Nat} (hp : 6 < p) (hT : pu_Tok T) : ∀ (fu k x : Nat) (S : pu_S) (f : am_M), (pu_rw S).length ≤ k → x + k ≤ 3 → k < fu → pu_So0 T S → pu_Tc T (f 3) (f 4) (f 5) (f 6) → pu_Sf S f p → pu_Ec S (f (p + 6)) → ∃ f', D_X4_admit_2 p 999 fu (nI x) f = some f' ∧ (∀ q, q < p ∨ p + 6 < q → f' q = f q) ∧ pu_Sf (pu_ad T k S) f' p ∧ pu_Ec (pu_ad T k S) (f' (p + 6))
  | 0, k, x, S, f, _, _, h, _, _, _, _ => absurd h (by omega)
  | fu + 1, k, x, S, f, hk, hx, hf, hS, h3, hF, hE => by
    cases hr : pu_rw S with
    | nil =>
      rw [pu_ad_nil k hr]
      refine ⟨f, ?_, fun _ _ => rfl, hF, hE⟩
      unfold D_X4_admit_2
      rw [hF.2.2.1, hr]
      by_cases h : nI x < 3
      · rw [if_pos h]; rfl
      · rw [if_neg h]
    | cons y r =>
      obtain ⟨m, n⟩ := y
      have hq := hS.2.2.1.1 (m, n) (by rw [hr]; simp)
      simp at hq
      have hnm := hT.2.1
      have hl := hS.len hT
      have hc := hS.cl
      have hs1 := hS.1
      have hsl := hT.1
      rw [hr] at hk
      simp at hk
      have ex : nI x < 3 := pu_lt (b := 3) (by omega) (by decide)
      have el : 0 < nI (pu_rw S).length := pu_lt (a := 0) (by rw [hr]; simp) (by omega)
      have k4 : f (p + 4) 0 = nI m := hF.2.2.2.2.2.2.1 0 (m, n) (by rw [hr]; rfl)
      have k5 : f (p + 5) m = nI n := by
        have := hF.2.2.2.2.2.2.2 m (by omega)
        rw [hr, pu_wa_c, if_pos rfl] at this
        exact this
      by_cases hlt : pu_ro T S < n
      · rw [pu_ad_lt k hr hlt]
        refine ⟨f, ?_, fun _ _ => rfl, hF, hE⟩
        unfold D_X4_admit_2
        rw [if_pos ex, hF.2.2.1, if_pos el, k4, pu_chk (by omega) (by decide), pu_cRoom0 hT hS h3 hF, pu_bI, nI_clamp (by omega), k5, if_pos (pu_lt hlt (by omega))]
      · have hro : pu_ro T S ≤ 2000 := by have h1 : pu_lst T S ≤ pu_cl S := pu_le_le _; unfold pu_ro; omega
        obtain ⟨k, rfl⟩ : ∃ k', k = k' + 1 := ⟨k - 1, by omega⟩
        rw [pu_ad_go k hr hlt]
        have hi : (pu_rw S)[0]? = some (m, n) := by rw [hr]; rfl
        have hix : pu_ix (pu_rw S) m = some 0 := by rw [hr]; simp [pu_ix]
        have her : (pu_rw S).eraseIdx 0 = r := by rw [hr]; rfl
        obtain ⟨f1, x1, x2, x3⟩ := pu_cLeave (e := 999) hT hS hF hi hix
        rw [her] at x3
        have hE1 : pu_Ec (pu_sr S r) (f1 (p + 6)) := by rw [x2 (p + 6) (by omega)]; exact hE
        rw [hr, pu_sw_c] at hs1
        obtain ⟨f2, y1, y2, y3, y4⟩ := pu_cClaim (m := m) (n := n) x3 hE1 (by omega) hq.2.1 (by show pu_cl S + n ≤ 999; omega)
        have fr : ∀ q, q < p ∨ p + 6 < q → f2 q = f q := fun q hq => by rw [y2 q hq, x2 q (by omega)]
        obtain ⟨f3, z1, z2, z3, z4⟩ := pu_cAdmit hp hT fu k (x + 1) (pu_cm (pu_sr S r) m n) f2 (by show r.length ≤ k; omega) (by omega) (by omega) (hS.cm hT hr (by omega)) (pu_frT (fun q h1 h2 => fr q (by omega)) h3) y3 y4
        refine ⟨f3, ?_, fun q hq => by rw [z2 q hq, fr q hq], z3, z4⟩
        unfold D_X4_admit_2
        rw [if_pos ex, hF.2.2.1, if_pos el, k4, pu_chk (by omega) (by decide), pu_cRoom0 hT hS h3 hF, pu_bI, nI_clamp (by omega), k5, if_neg (pu_nlt (by omega) (by omega)), x1, pu_bV, y1, pu_bI, nI_1]
        exact z1
theorem pu_mLets {T : pu_T} (hT : pu_Tok T) : ∀ (fu k : Nat) (S : pu_S) (f : am_M), (pu_rw S).length ≤ k → k < fu → pu_So0 T S → pu_Tm T (f 91) (f 92) (f 93) (f 94) → pu_Sm S (f 95) → ∃ f', D_X8_lets_0 fu f = some f' ∧ (∀ q, q ≠ 95 → f' q = f q) ∧ pu_Sm (pu_ad T k S) (f' 95)
  | 0, k, S, f, _, h, _, _, _ => absurd h (by omega)
  | fu + 1, k, S, f, hk, hf, hS, h3, hF => by
    cases hr : pu_rw S with
    | nil =>
      rw [pu_ad_nil k hr]
      refine ⟨f, ?_, fun _ _ => rfl, hF⟩
      unfold D_X8_lets_0
      rw [hF.2.1, hr]
      rfl
    | cons y r =>
      obtain ⟨m, n⟩ := y
      have hq := hS.2.2.1.1 (m, n) (by rw [hr]; simp)
      simp at hq
      have hnm := hT.2.1
      have hl := hS.len hT
      have hc := hS.cl
      have hs1 := hS.1
      have hsl := hT.1
      rw [hr] at hk
      simp at hk
      have el : 0 < nI (pu_rw S).length := pu_lt (a := 0) (by rw [hr]; simp) (by omega)
      obtain ⟨k4, k5⟩ := hF.2.2.2.2.2.1 0 (m, n) (by rw [hr]; rfl)
      have k4 : f 95 20 = nI m := k4
      have k5 : f 95 23 = nI n := k5
      by_cases hlt : pu_ro T S < n
      · rw [pu_ad_lt k hr hlt]
        refine ⟨f, ?_, fun _ _ => rfl, hF⟩
        unfold D_X8_lets_0
        rw [hF.2.1, if_pos el, pu_mRoom0 hT hS h3 hF, pu_bI, k5, if_pos (pu_lt hlt (by omega))]
      · have hro : pu_ro T S ≤ 2000 := by have h1 : pu_lst T S ≤ pu_cl S := pu_le_le _; unfold pu_ro; omega
        obtain ⟨k, rfl⟩ : ∃ k', k = k' + 1 := ⟨k - 1, by omega⟩
        rw [pu_ad_go k hr hlt]
        rw [hr, pu_sw_c] at hs1
        obtain ⟨f1, x1, x2, x3⟩ := pu_mClaim (m := m) (n := n) hF ⟨hc, hl⟩ (by omega) (by omega)
        have hi : (pu_rw (pu_cm S m n))[0]? = some (m, n) := by show (pu_rw S)[0]? = _; rw [hr]; rfl
        obtain ⟨f2, y1, y2, y3⟩ := pu_mLeave hT (S := pu_cm S m n) hl (by show pu_cl S + n ≤ 999; omega) x3 hi
        have her : pu_sr (pu_cm S m n) ((pu_rw (pu_cm S m n)).eraseIdx 0) = pu_cm (pu_sr S r) m n := by
          show pu_sr (pu_cm S m n) ((pu_rw S).eraseIdx 0) = _
          rw [hr]
          rfl
        rw [her] at y3
        have fr : ∀ q, q ≠ 95 → f2 q = f q := fun q hq => by rw [y2 q hq, x2 q hq]
        obtain ⟨f3, z1, z2, z3⟩ := pu_mLets hT fu k (pu_cm (pu_sr S r) m n) f2 (by show r.length ≤ k; omega) (by omega) (hS.cm hT hr (by omega)) (by rw [fr 91 (by decide), fr 92 (by decide), fr 93 (by decide), fr 94 (by decide)]; exact h3) y3
        refine ⟨f3, ?_, fun q hq => by rw [z2 q hq, fr q hq], z3⟩
        unfold D_X8_lets_0
        rw [hF.2.1, if_pos el, pu_mRoom0 hT hS h3 hF, pu_bI, k5, if_neg (pu_nlt (by omega) (by omega)), k4, x1, pu_bV, show D_X8_leavesRow 0 f1 = _ from y1, pu_bV]
        exact z1
