/-! claiming, leaving the row, admitting -/
def pu_fl (g : am_M) (p a b : Nat) (v : Int32) : am_M := fun q j => if q = p then (if a ≤ j ∧ j < b then v else g q j) else g q j
theorem pu_fl_step {g : am_M} {p a j : Nat} {v : Int32} (h : a ≤ j) : am_wr (pu_fl g p a j v) p j v = pu_fl g p a (j + 1) v := by
  funext q i
  unfold am_wr pu_fl
  by_cases hq : q = p
  · rw [if_pos hq, if_pos hq, if_pos hq]
    by_cases hi : i = j
    · rw [if_pos hi, if_pos (by omega)]
    · rw [if_neg hi]
      by_cases h2 : a ≤ i ∧ i < j
      · rw [if_pos h2, if_pos (by omega)]
      · rw [if_neg h2, if_neg (by omega)]
  · rw [if_neg hq, if_neg hq, if_neg hq]
theorem pu_fl_0 {g : am_M} {p a : Nat} {v : Int32} : pu_fl g p a a v = g := by
  funext q i
  unfold pu_fl
  by_cases hq : q = p
  · rw [if_pos hq, if_neg (by omega)]
  · rw [if_neg hq]
theorem pu_fl_ne {g : am_M} {p a b q : Nat} {v : Int32} (h : q ≠ p) : pu_fl g p a b v q = g q := by
  funext i
  unfold pu_fl
  rw [if_neg h]
theorem pu_fl_eq {g : am_M} {p a b i : Nat} {v : Int32} : pu_fl g p a b v p i = if a ≤ i ∧ i < b then v else g p i := by
  unfold pu_fl
  rw [if_pos rfl]
theorem pu_claim18 {p c n : Nat} {x1 x3 : Int32} {g : am_M} (hp : g p 2 = nI (c + n)) (hc : c + n ≤ 999) : ∀ d fu j, c ≤ j → j + d = c + n → d < fu → D_X4_claim_18 p 999 fu x1 x3 (nI j) (pu_fl g (p + 6) c j x1) = some (x3, pu_fl g (p + 6) c (c + n) x1)
  | d, 0, j, _, _, h => absurd h (by omega)
  | 0, fu + 1, j, h1, h2, h3 => by
    have : j = c + n := by omega
    subst this
    unfold D_X4_claim_18
    rw [pu_fl_ne (by omega), hp, if_neg (pu_nlt (Nat.le_refl _) (by omega))]
  | d + 1, fu + 1, j, h1, h2, h3 => by
    have e9 : nI j < Int32.ofNat 999 := pu_lt (b := 999) (by omega) (by decide)
    have ih := pu_claim18 (x1 := x1) (x3 := x3) hp hc d fu (j + 1) (by omega) (by omega) (by omega)
    unfold D_X4_claim_18
    rw [pu_fl_ne (show p ≠ p + 6 by omega), hp, if_pos (pu_lt (by omega) (by omega)), if_pos e9, pu_chk (by omega) (by decide), nI_clamp (by omega), pu_fl_step h1, nI_1]
    exact ih
/-- a claim -/
def pu_cm (S : pu_S) (m n : Nat) : pu_S := (S.1 + n, (fun j => if S.1 ≤ j ∧ j < S.1 + n then (0, m, 0) else pu_ev S j), S.2.2)
/-- another row -/
def pu_sr (S : pu_S) (r : List (Nat × Nat)) : pu_S := (S.1, S.2.1, S.2.2.1, S.2.2.2.1, S.2.2.2.2.1, r)
theorem pu_cm_ev (S : pu_S) (m n j : Nat) : pu_ev (pu_cm S m n) j = if pu_cl S ≤ j ∧ j < pu_cl S + n then (0, m, 0) else pu_ev S j := rfl
theorem pu_cm_cu {S : pu_S} {m n : Nat} (hn : 1 ≤ n) : pu_cu (pu_cm S m n) = pu_cu S := by
  have hu := pu_cu_le (S := S)
  have hz : (pu_ev (pu_cm S m n) (pu_cu S)).1 = 0 := by
    rw [pu_cm_ev]
    by_cases h : pu_cl S ≤ pu_cu S ∧ pu_cu S < pu_cl S + n
    · rw [if_pos h]
    · rw [if_neg h]
      exact pu_cur_eq (ev := pu_ev S) (pu_cl S) 0 (by show pu_cu S < 0 + pu_cl S; omega)
  have h1 := pu_cur_skip (ev := pu_ev (pu_cm S m n)) (d := pu_cl S + n - pu_cu S) (pu_cu S) 0 (fun j h1 h2 => by
    rw [pu_cm_ev, if_neg (by omega)]
    exact pu_cur_ne (pu_cl S) 0 j h1 (by rw [Nat.zero_add] at h2; exact h2))
  rw [Nat.zero_add, show pu_cu S + (pu_cl S + n - pu_cu S) = pu_cl S + n by omega] at h1
  show pu_cur (pu_ev (pu_cm S m n)) (pu_cl S + n) 0 = _
  rw [h1, show pu_cl S + n - pu_cu S = (pu_cl S + n - pu_cu S - 1) + 1 by omega]
  show (if (pu_ev (pu_cm S m n) (pu_cu S)).1 = 0 then pu_cu S else _) = _
  rw [if_pos hz]
theorem pu_cClaim {S : pu_S} {f : am_M} {p m n : Nat} (hF : pu_Sf S f p) (hE : pu_Ec S (f (p + 6))) (hm : m < 3) (hn : 1 ≤ n) (hc : pu_cl S + n ≤ 999) : ∃ f', D_X4_claim p 999 (nI m) (nI n) f = some (nI (pu_cl S), f') ∧ (∀ q, q < p ∨ p + 6 < q → f' q = f q) ∧ pu_Sf (pu_cm S m n) f' p ∧ pu_Ec (pu_cm S m n) (f' (p + 6)) := by
  have hx := pu_claim18 (p := p) (c := pu_cl S) (n := n) (x1 := nI m) (x3 := nI (pu_cl S)) (g := am_wr f p 2 (nI (pu_cl S + n))) pu_wr_eq hc n am_fu (pu_cl S) (Nat.le_refl _) rfl (by show n < 6000; omega)
  rw [pu_fl_0] at hx
  refine ⟨pu_fl (am_wr f p 2 (nI (pu_cl S + n))) (p + 6) (pu_cl S) (pu_cl S + n) (nI m), ?_, fun q hq => ?_, ?_, fun k hk => ?_⟩
  · unfold D_X4_claim
    rw [hF.1, nI_add]
    exact hx
  · rw [pu_fl_ne (by omega), am_wr_ne q (by omega)]
  · obtain ⟨d1, d2, d3, d4, d5, d6, d7, d8⟩ := hF
    refine ⟨?_, ?_, ?_, ?_, ?_, ?_, ?_, ?_⟩
    · rw [pu_fl_ne (by omega), pu_wr_eq]; rfl
    · rw [pu_fl_ne (by omega), pu_wr_n2 (by decide), d2, pu_cm_cu hn]
    · rw [pu_fl_ne (by omega), pu_wr_n2 (by decide)]; exact d3
    · intro t ht; rw [pu_fl_ne (by omega), pu_wr_n1 (by omega)]; exact d4 t ht
    · intro t ht; rw [pu_fl_ne (by omega), pu_wr_n1 (by omega)]; exact d5 t ht
    · intro t ht; rw [pu_fl_ne (by omega), pu_wr_n1 (by omega)]; exact d6 t ht
    · intro i q hq; rw [pu_fl_ne (by omega), pu_wr_n1 (by omega)]; exact d7 i q hq
    · intro t ht; rw [pu_fl_ne (by omega), pu_wr_n1 (by omega)]; exact d8 t ht
  · rw [pu_fl_eq, pu_cm_ev]
    by_cases h : pu_cl S ≤ k ∧ k < pu_cl S + n
    · rw [if_pos h, if_pos h]; rfl
    · rw [if_neg h, if_neg h, pu_wr_n1 (by omega)]
      have hk' : k < pu_cl S + n := hk
      exact hE k (by omega)
theorem pu_wr_sw {F : am_M} {p k l : Nat} {a b v : Int32} (h : k ≠ l) : am_wr (am_wr (am_wr F p k a) p l v) p k b = am_wr (am_wr F p l v) p k b := by
  funext q j
  unfold am_wr
  by_cases hq : q = p
  · simp only [if_pos hq]
    by_cases hj : j = k
    · simp only [if_pos hj]
    · simp only [if_neg hj]
  · simp only [if_neg hq]
theorem pu_mclaim2 {c n m : Nat} {f : am_M} (hm : m < 3) (hc : c + n ≤ 999) : ∀ d fu i, i + d = n → d < fu → D_X8_claimsNow_2 fu (nI m) (nI n) (nI i) (am_wr (pu_fl f 95 (26 + c) (26 + c + i) (nI (4 * m))) 95 0 (nI (c + i))) = some (am_wr (pu_fl f 95 (26 + c) (26 + c + n) (nI (4 * m))) 95 0 (nI (c + n)))
  | d, 0, i, _, h => absurd h (by omega)
  | 0, fu + 1, i, h1, h2 => by
    have : i = n := by omega
    subst this
    unfold D_X8_claimsNow_2
    rw [if_neg (pu_nlt (Nat.le_refl _) (by omega))]
  | d + 1, fu + 1, i, h1, h2 => by
    have ih := pu_mclaim2 (f := f) hm hc d fu (i + 1) (by omega) (by omega)
    have e1 : (26 : Int32) + nI (c + i) = nI (26 + c + i) := by rw [Nat.add_assoc]; exact nI_add 26 (c + i)
    unfold D_X8_claimsNow_2
    rw [if_pos (pu_lt (by omega) (by omega)), pu_wr_eq, e1, pu_chk (by omega) (by decide), nI_clamp (by omega), pu_4m m hm, pu_wr_n2 (by omega), pu_wr_eq, pu_wr_sw (by omega), pu_fl_step (by omega), nI_1, nI_1]
    exact ih
theorem pu_mClaim {S : pu_S} {f : am_M} {m n : Nat} (hF : pu_Sm S (f 95)) (hB : pu_B S) (hm : m < 3) (hc : pu_cl S + n ≤ 999) : ∃ f', D_X8_claimsNow (nI m) (nI n) f = some f' ∧ (∀ q, q ≠ 95 → f' q = f q) ∧ pu_Sm (pu_cm S m n) (f' 95) := by
  have hx := pu_mclaim2 (c := pu_cl S) (n := n) (f := f) hm hc n am_fu 0 (by omega) (by show n < 6000; omega)
  rw [Nat.add_zero, Nat.add_zero, pu_fl_0, pu_wr_id hF.1] at hx
  obtain ⟨d1, d2, d3, d4, d5, d6, d7⟩ := hF
  refine ⟨_, hx, fun q hq => by rw [am_wr_ne q hq, pu_fl_ne hq], pu_wr_eq, ?_, ?_, ?_, ?_, ?_, ?_⟩
  · rw [pu_wr_n2 (by decide), pu_fl_eq, if_neg (by omega)]; exact d2
  · intro t ht; rw [pu_wr_n2 (by omega), pu_fl_eq, if_neg (by omega)]; exact d3 t ht
  · intro t ht; rw [pu_wr_n2 (by omega), pu_fl_eq, if_neg (by omega)]; exact d4 t ht
  · intro t ht; rw [pu_wr_n2 (by omega), pu_fl_eq, if_neg (by omega)]; exact d5 t ht
  · intro i q hq
    have hi : i < 3 := by
      have := hB.2
      rcases Nat.lt_or_ge i (pu_rw S).length with h | h
      · omega
      · rw [show pu_rw (pu_cm S m n) = pu_rw S from rfl, List.getElem?_eq_none h] at hq; simp at hq
    rw [pu_wr_n2 (by omega), pu_fl_eq, if_neg (by omega), pu_wr_n2 (by omega), pu_fl_eq, if_neg (by omega)]
    exact d6 i q hq
  · intro k hk
    have hk' : k < pu_cl S + n := hk
    rw [pu_wr_n2 (by omega), pu_fl_eq, pu_cm_ev]
    by_cases h : pu_cl S ≤ k ∧ k < pu_cl S + n
    · rw [if_pos (by omega), if_pos h]
      show nI (4 * m) = nI (0 + 4 * m + 16 * 0)
      congr 1
      omega
    · rw [if_neg (by omega), if_neg h]
      exact d7 k (by omega)
/-! leaving the row -/
theorem pu_cleave17 {p e L m : Nat} (hL : L ≤ 3) (hm : m < 3) : ∀ d fu x (f : am_M), f p 9 = nI L → x + d = L → 1 ≤ x → d < fu → ∃ f', D_X4_leaveRow_17 p e fu (nI m) (nI x) f = some f' ∧ (∀ q, q ≠ p → q ≠ p + 4 → q ≠ p + 5 → f' q = f q) ∧ (∀ j, j ≠ 9 → f' p j = f p j) ∧ f' p 9 = nI L - 1 ∧ (∀ j, f' (p + 4) j = if x - 1 ≤ j ∧ j < L - 1 then f (p + 4) (j + 1) else f (p + 4) j) ∧ (∀ j, f' (p + 5) j = if j = m then 0 else f (p + 5) j)
  | d, 0, x, f, _, _, _, h => absurd h (by omega)
  | 0, fu + 1, x, f, h9, h1, hx, h2 => by
    have : x = L := by omega
    subst this
    refine ⟨am_wr (am_wr f (p + 5) m 0) p 9 (nI x - 1), ?_, fun q a b c => by rw [am_wr_ne q a, am_wr_ne q c], fun j hj => by rw [pu_wr_n2 hj, pu_wr_n1 (by omega)], pu_wr_eq, fun j => ?_, fun j => ?_⟩
    · unfold D_X4_leaveRow_17
      rw [h9, if_neg (pu_nlt (Nat.le_refl _) (by omega)), pu_chk hm (by decide), nI_clamp (by omega)]
    · rw [pu_wr_n1 (by omega), pu_wr_n1 (by omega), if_neg (by omega)]
    · rw [pu_wr_n1 (by omega), pu_wr_u]; rfl
  | d + 1, fu + 1, x, f, h9, h1, hx, h2 => by
    have e1 : nI x - 1 = nI (x - 1) := by
      have := nI_pred (x - 1)
      rw [show x - 1 + 1 = x by omega] at this
      exact this
    obtain ⟨f', y1, y2, y3, y4, y5, y6⟩ := pu_cleave17 (p := p) (e := e) hL hm d fu (x + 1) (am_wr f (p + 4) (x - 1) (f (p + 4) x)) (by rw [pu_wr_n1 (by omega)]; exact h9) (by omega) (by omega) (by omega)
    refine ⟨f', ?_, fun q a b c => by rw [y2 q a b c, am_wr_ne q b], fun j hj => by rw [y3 j hj, pu_wr_n1 (by omega)], y4, fun j => ?_, fun j => by rw [y6 j, pu_wr_n1 (by omega)]⟩
    · unfold D_X4_leaveRow_17
      rw [h9, if_pos (pu_lt (by omega) (by omega)), pu_chk (by omega) (by decide), e1, pu_chk (by omega) (by decide), nI_clamp (by omega), nI_clamp (by omega), nI_1]
      exact y1
    · rw [y5 j]
      by_cases h : x + 1 - 1 ≤ j ∧ j < L - 1
      · rw [if_pos h, if_pos (by omega), pu_wr_n2 (by omega)]
      · rw [if_neg h]
        by_cases hj : j = x - 1
        · rw [if_pos (by omega), hj, pu_wr_eq, show x - 1 + 1 = x by omega]
        · rw [if_neg (by omega), pu_wr_n2 hj]
theorem pu_mleave13 {L : Nat} (hL : L ≤ 2) : ∀ d fu x (f : am_M), f 95 19 = nI L → x + d = L → d < fu → ∃ f', D_X8_leavesRow_13 fu (nI x) f = some f' ∧ (∀ q, q ≠ 95 → f' q = f q) ∧ ∀ j, f' 95 j = if (20 + x ≤ j ∧ j < 20 + L) ∨ (23 + x ≤ j ∧ j < 23 + L) then f 95 (j + 1) else f 95 j
  | d, 0, x, f, _, _, h => absurd h (by omega)
  | 0, fu + 1, x, f, h9, h1, h2 => by
    have : x = L := by omega
    subst this
    refine ⟨f, ?_, fun _ _ => rfl, fun j => by rw [if_neg (by omega)]⟩
    unfold D_X8_leavesRow_13
    rw [h9, if_neg (pu_nlt (Nat.le_refl _) (by omega))]
  | d + 1, fu + 1, x, f, h9, h1, h2 => by
    have e1 : (20 : Int32) + nI x = nI (20 + x) := nI_add 20 x
    have e2 : (23 : Int32) + nI x = nI (23 + x) := nI_add 23 x
    obtain ⟨f', y1, y2, y3⟩ := pu_mleave13 hL d fu (x + 1) (am_wr (am_wr f 95 (20 + x) (f 95 (20 + x + 1))) 95 (23 + x) (f 95 (23 + x + 1))) (by rw [pu_wr_n2 (by omega), pu_wr_n2 (by omega)]; exact h9) (by omega) (by omega)
    refine ⟨f', ?_, fun q a => by rw [y2 q a, am_wr_ne q a, am_wr_ne q a], fun j => ?_⟩
    · unfold D_X8_leavesRow_13
      rw [h9, if_pos (pu_lt (by omega) (by omega)), e1, e2, nI_1, nI_1, nI_1, pu_chk (by omega) (by decide), pu_chk (by omega) (by decide), pu_chk (by omega) (by decide), pu_chk (by omega) (by decide), nI_clamp (by omega), nI_clamp (by omega), nI_clamp (by omega), nI_clamp (by omega), pu_wr_n2 (show 23 + x + 1 ≠ 20 + x by omega)]
      exact y1
    · rw [y3 j]
      by_cases h : (20 + (x + 1) ≤ j ∧ j < 20 + L) ∨ (23 + (x + 1) ≤ j ∧ j < 23 + L)
      · rw [if_pos h, if_pos (by omega), pu_wr_n2 (by omega), pu_wr_n2 (by omega)]
      · rw [if_neg h]
        by_cases hj : j = 23 + x
        · rw [if_pos (by omega), hj, pu_wr_eq]
        · rw [pu_wr_n2 hj]
          by_cases hj2 : j = 20 + x
          · rw [if_pos (by omega), hj2, pu_wr_eq]
          · rw [if_neg (by omega), pu_wr_n2 hj2]
theorem pu_wa_er : ∀ (r : List (Nat × Nat)) (i m n k : Nat), r[i]? = some (m, n) → (r.map Prod.fst).Nodup → pu_wa (r.eraseIdx i) k = if k = m then 0 else pu_wa r k
  | [], i, m, n, k, h, _ => by simp at h
  | (a, b) :: r, 0, m, n, k, h, hn => by
    simp at h
    obtain ⟨rfl, rfl⟩ := h
    have hn1 : a ∉ r.map Prod.fst := by simp at hn ⊢; exact hn.1
    show pu_wa r k = _
    rw [pu_wa_c]
    by_cases e : k = a
    · rw [if_pos e, e]; exact (pu_ix_none r a (pu_ix_no r a hn1)).1
    · rw [if_neg e, if_neg (fun q => e q.symm)]
  | (a, b) :: r, i + 1, m, n, k, h, hn => by
    simp at h
    have hn2 : (r.map Prod.fst).Nodup := by simp at hn; exact hn.2
    have hn1 : a ∉ r.map Prod.fst := by simp at hn ⊢; exact hn.1
    have ha : a ≠ m := fun q => hn1 (by rw [q]; exact List.mem_map.mpr ⟨(m, n), List.mem_of_getElem? h, rfl⟩)
    show pu_wa ((a, b) :: r.eraseIdx i) k = _
    rw [pu_wa_c, pu_wa_c, pu_wa_er r i m n k h hn2]
    by_cases e : a = k
    · rw [if_pos e, if_neg (by omega), if_pos e]
    · rw [if_neg e, if_neg e]
theorem pu_sw_er : ∀ (r : List (Nat × Nat)) (i m n : Nat), r[i]? = some (m, n) → pu_sw (r.eraseIdx i) + n = pu_sw r
  | [], i, m, n, h => by simp at h
  | (a, b) :: r, 0, m, n, h => by
    simp at h
    obtain ⟨rfl, rfl⟩ := h
    show pu_sw r + b = b + pu_sw r
    omega
  | (a, b) :: r, i + 1, m, n, h => by
    simp at h
    show pu_sw ((a, b) :: r.eraseIdx i) + n = _
    rw [pu_sw_c, pu_sw_c]
    have := pu_sw_er r i m n h
    omega
theorem pu_Rok.er {T : pu_T} {r : List (Nat × Nat)} (h : pu_Rok T r) (i : Nat) : pu_Rok T (r.eraseIdx i) := ⟨fun q hq => h.1 q (List.mem_of_mem_eraseIdx hq), List.Nodup.sublist ((List.eraseIdx_sublist r i).map Prod.fst) h.2⟩
