/-! sees, count, event, maker, taker, steps -/
section RD
variable {T : pu_T} {S : pu_S} {f : am_M} {p e : Nat}
theorem pu_Sok.dn (hS : pu_Sok T S) {t : Nat} (ht : t < pu_nt T) : pu_dn S t ≤ 999 := by
  have h1 := (hS.2.2.2.1 t ht).1
  have h2 := pu_cu_le (S := S)
  have h3 := hS.1
  omega
theorem pu_Sok.cl (hS : pu_Sok T S) : pu_cl S ≤ 999 := by
  have h3 := hS.1
  omega
theorem pu_Sok.len (hT : pu_Tok T) (hS : pu_Sok T S) : (pu_rw S).length ≤ 3 := pu_len hT.2.1 (fun q hq => (hS.2.2.1.1 q hq).1) hS.2.2.1.2
theorem pu_cLeast (hT : pu_Tok T) (hS : pu_Sok T S) (h3 : pu_Tc T (f 3) (f 4) (f 5) (f 6)) (hF : pu_Sf S f p) : D_X4_least p e f = some (nI (pu_lst T S), f) := by
  have hn := hT.2.2.1
  have hc := hS.cl
  unfold D_X4_least
  rw [hF.1]
  exact pu_cleast (c := pu_cl S) hn h3.2.2.1 (fun t ht => hF.2.2.2.1 t (by omega)) (fun t ht => by have := hS.dn ht; omega) (by omega) am_fu 0 (Nat.zero_le _) (by show _ < 0 + 6000; omega)
theorem pu_mLeast (hT : pu_Tok T) (hS : pu_Sok T S) (h3 : pu_Tm T (f 91) (f 92) (f 93) (f 94)) (hF : pu_Sm S (f 95)) : D_X8_least f = some (nI (pu_lst T S), f) := by
  have hn := hT.2.2.1
  have hc := hS.cl
  unfold D_X8_least
  rw [hF.1]
  exact pu_mleast (c := pu_cl S) hn h3.2.2.1 (fun t ht => hF.2.2.1 t (by omega)) (fun t ht => by have := hS.dn ht; omega) (by omega) am_fu 0 (Nat.zero_le _) (by show _ < 0 + 6000; omega)
theorem pu_Sok.lst (hS : pu_Sok T S) : pu_lst T S ≤ pu_cl S := pu_le_le _
/-- the room -/
def pu_ro (T : pu_T) (S : pu_S) : Nat := pu_sl T + pu_lst T S - pu_cl S
theorem pu_cRoom (hT : pu_Tok T) (hS : pu_Sok T S) (h3 : pu_Tc T (f 3) (f 4) (f 5) (f 6)) (hF : pu_Sf S f p) : D_X4_room p e f = some (nI (pu_ro T S), f) := by
  unfold D_X4_room
  rw [pu_cLeast hT hS h3 hF, pu_bI, h3.1, hF.1, nI_add, pu_subN hS.2.2.2.2.2]
  rfl
theorem pu_mRoom (hT : pu_Tok T) (hS : pu_Sok T S) (h3 : pu_Tm T (f 91) (f 92) (f 93) (f 94)) (hF : pu_Sm S (f 95)) : D_X8_room f = some (nI (pu_ro T S), f) := by
  unfold D_X8_room
  rw [pu_mLeast hT hS h3 hF, pu_bI, h3.1, hF.1, nI_add, pu_subN hS.2.2.2.2.2]
  rfl
theorem pu_mCursor (hS : pu_Sok T S) (hF : pu_Sm S (f 95)) : D_X8_cursor f = some (nI (pu_cu S), f) := by
  have hc := hS.cl
  exact pu_mcursor hc hF.1 hS.2.1 hF.2.2.2.2.2.2 (pu_cl S) am_fu 0 (Nat.zero_add _) (by show _ < 6000; omega)
theorem pu_nz (hT : pu_Tok T) {t : Nat} (ht : t < pu_nt T) : pu_bh T t < 64 := by
  have h1 := (hT.2.2.2.2 t ht).2.2
  have h2 := hT.2.2.1
  have : 2 ^ t ≤ 2 ^ 6 := Nat.pow_le_pow_right (by decide) (by omega)
  omega
/-- how far a taker may go -/
def pu_am (T : pu_T) (S : pu_S) (t : Nat) : Nat := match pu_so (pu_dn S) (pu_bh T t) (pu_nt T) with
  | none => pu_cu S
  | some s => pu_dn S s
theorem pu_cSlow (hT : pu_Tok T) (hS : pu_Sok T S) (h3 : pu_Tc T (f 3) (f 4) (f 5) (f 6)) (hF : pu_Sf S f p) {b : Nat} (hb : b < 64) : D_X4_slowestOf p e (nI b) f = some (pu_cd (pu_so (pu_dn S) b (pu_nt T)), f) := by
  have hn := hT.2.2.1
  exact pu_cslow hn hb h3.2.2.1 (fun t ht => hF.2.2.2.1 t (by omega)) (fun t ht => by have := hS.dn ht; omega) am_fu 0 (Nat.zero_le _) (by show _ < 0 + 6000; omega)
theorem pu_mSlow (hT : pu_Tok T) (hS : pu_Sok T S) (h3 : pu_Tm T (f 91) (f 92) (f 93) (f 94)) (hF : pu_Sm S (f 95)) {b : Nat} (hb : b < 64) : D_X8_slowest (nI b) f = some (pu_cd (pu_so (pu_dn S) b (pu_nt T)), f) := by
  have hn := hT.2.2.1
  exact pu_mslow hn hb h3.2.2.1 (fun t ht => hF.2.2.1 t (by omega)) (fun t ht => by have := hS.dn ht; omega) am_fu 0 (Nat.zero_le _) (by show _ < 0 + 6000; omega)
theorem pu_cAtMost (hT : pu_Tok T) (hS : pu_Sok T S) (h3 : pu_Tc T (f 3) (f 4) (f 5) (f 6)) (hF : pu_Sf S f p) {t : Nat} (ht : t < pu_nt T) : D_X4_atMost p e (nI t) f = some (nI (pu_am T S t), f) := by
  have hn := hT.2.2.1
  unfold D_X4_atMost
  rw [pu_chk (by omega) (by decide), nI_clamp (by omega), h3.2.2.2.2.2 t ht, pu_cSlow hT hS h3 hF (pu_nz hT ht), pu_bI]
  unfold pu_am
  cases hs : pu_so (pu_dn S) (pu_bh T t) (pu_nt T) with
  | none => rw [if_pos (show pu_cd none = -9 from rfl), hF.2.1]
  | some s =>
    have hsl := (pu_so_lt _ _ hs).1
    show (if nI s = -9 then _ else am_chk (nI s) 6 (some (f (p + 1) (nI s).toNatClampNeg, f))) = _
    rw [if_neg (pu_neg9 (by omega)), pu_chk (by omega) (by decide), nI_clamp (by omega), hF.2.2.2.1 s (by omega)]
theorem pu_so_zero {dn : Nat → Nat} : ∀ i, pu_so dn 0 i = none
  | 0 => rfl
  | i + 1 => by rw [pu_so_0 (by simp), pu_so_zero i]
theorem pu_some : ∀ t, t < 6 → ∀ b, b < 2 ^ t → b ≠ 0 → ∃ i, i < t ∧ b / 2 ^ i % 2 = 1 := by decide +kernel
theorem pu_so_ex {dn : Nat → Nat} {b j : Nat} (hb : b / 2 ^ j % 2 = 1) : ∀ i, j < i → pu_so dn b i ≠ none
  | 0, h => absurd h (Nat.not_lt_zero _)
  | i + 1, h => by
    by_cases e : j = i
    · subst e
      cases hs : pu_so dn b j with
      | none => rw [pu_so_n hb hs]; simp
      | some s => by_cases hq : dn j < dn s
                  · rw [pu_so_a hb hs hq]; simp
                  · rw [pu_so_b hb hs hq]; simp
    · have ih := pu_so_ex (dn := dn) hb i (by omega)
      by_cases hbi : b / 2 ^ i % 2 = 1
      · cases hs : pu_so dn b i with
        | none => exact absurd hs ih
        | some s => by_cases hq : dn i < dn s
                    · rw [pu_so_a hbi hs hq]; simp
                    · rw [pu_so_b hbi hs hq]; simp
      · rw [pu_so_0 hbi]; exact ih
theorem pu_mAtMost (hT : pu_Tok T) (hS : pu_Sok T S) (h3 : pu_Tm T (f 91) (f 92) (f 93) (f 94)) (hF : pu_Sm S (f 95)) {t : Nat} (ht : t < pu_nt T) : D_X8_atMost (nI t) f = some (nI (pu_am T S t), f) := by
  have hn := hT.2.2.1
  have hb := pu_nz hT ht
  have h94 := h3.2.2.2.2.2 t ht
  unfold D_X8_atMost
  rw [pu_chk (by omega) (by decide), nI_clamp (by omega), h94]
  unfold pu_am
  by_cases hz : pu_bh T t = 0
  · rw [hz, if_pos nI_0, pu_mCursor hS hF, pu_bI, pu_so_zero]
  · rw [if_neg (nI_ne0 (by omega) (by omega))]
    obtain ⟨i, hi, hbi⟩ := pu_some t (by omega) _ (hT.2.2.2.2 t ht).2.2 hz
    have hx := pu_matm hn hb (by omega) h3.2.2.1 h94 (fun t ht => hF.2.2.1 t (by omega)) (fun t ht => by have := hS.dn ht; omega) am_fu 0 (Nat.zero_le _) (by show _ < 0 + 6000; omega)
    rw [pu_ml_so (dn := pu_dn S) (b := pu_bh T t) (pu_nt T) (fun t ht => by have := hS.dn ht; omega)] at hx
    cases hs : pu_so (pu_dn S) (pu_bh T t) (pu_nt T) with
    | none => exact absurd hs (pu_so_ex hbi _ (by omega))
    | some s => rw [hs] at hx; exact hx
theorem pu_cPlace (hT : pu_Tok T) (hS : pu_Sok T S) (hF : pu_Sf S f p) {m : Nat} (hm : m < 3) : D_X4_placeInRow p e (nI m) f = some (pu_cd (pu_ix (pu_rw S) m), f) := by
  have hl := hS.len hT
  have hx := pu_cplace (e := e) hl hm hF.2.2.1 (pu_rw S) 0 am_fu (Nat.zero_add _) (fun j q hq => ⟨by rw [Nat.zero_add]; exact hF.2.2.2.2.2.2.1 j q hq, by have := (hS.2.2.1.1 q (List.mem_of_getElem? hq)).1; have := hT.2.1; omega⟩) (by show _ < 0 + 6000; omega)
  have e0 : (pu_ix (pu_rw S) m).map (0 + ·) = pu_ix (pu_rw S) m := by
    cases pu_ix (pu_rw S) m <;> simp
  rw [e0] at hx
  exact hx
theorem pu_mPlace (hT : pu_Tok T) (hS : pu_Sok T S) (hF : pu_Sm S (f 95)) {m : Nat} (hm : m < 3) : D_X8_placeOf (nI m) f = some (pu_cd (pu_ix (pu_rw S) m), f) := by
  have hl := hS.len hT
  have hx := pu_mplace hl hm hF.2.1 (pu_rw S) 0 am_fu (-9) (Nat.zero_add _) (fun j q hq => ⟨by rw [Nat.zero_add]; exact (hF.2.2.2.2.2.1 j q hq).1, by have := (hS.2.2.1.1 q (List.mem_of_getElem? hq)).1; have := hT.2.1; omega⟩) hS.2.2.1.2 (by show _ < 0 + 6000; omega)
  unfold D_X8_placeOf
  rw [show (0 : Int32) = nI 0 from rfl, hx]
  cases pu_ix (pu_rw S) m <;> simp [pu_cd]
theorem pu_cOpen (hS : pu_Sok T S) (hF : pu_Sf S f p) (hE : pu_Ec S (f (p + 6))) {m : Nat} (hm : m < 3) : D_X4_openOf p 999 (nI m) f = some (nI (pu_oc (pu_ev S) m (pu_cl S) 0), f) := by
  have hc := hS.cl
  have hu := pu_cu_le (S := S)
  unfold D_X4_openOf
  rw [hF.2.1, show (0 : Int32) = nI 0 from rfl, pu_copen hm hc hF.1 hS.2.1 hE (pu_cl S - pu_cu S) am_fu (pu_cu S) 0 (by omega) (by show _ < 6000; omega), Nat.zero_add]
  have := pu_oc_skip (ev := pu_ev S) (m := m) (d := pu_cl S - pu_cu S) (pu_cu S) 0 (fun j h1 h2 => pu_cur_ne (pu_cl S) 0 j h1 (by rw [Nat.zero_add] at h2; exact h2))
  rw [Nat.zero_add, show pu_cu S + (pu_cl S - pu_cu S) = pu_cl S by omega] at this
  rw [this]
theorem pu_mOpen (hS : pu_Sok T S) (hF : pu_Sm S (f 95)) {m : Nat} (hm : m < 3) : D_X8_openOf (nI m) f = some (nI (pu_oc (pu_ev S) m (pu_cl S) 0), f) := by
  have hc := hS.cl
  have := pu_mopen hm hc hF.1 hS.2.1 hF.2.2.2.2.2.2 (pu_cl S) am_fu 0 0 (by omega) (by show _ < 6000; omega)
  rw [Nat.zero_add] at this
  exact this
theorem pu_cWanted (hT : pu_Tok T) (hS : pu_Sok T S) (h3 : pu_Tc T (f 3) (f 4) (f 5) (f 6)) (hF : pu_Sf S f p) : D_X4_wantedByAll p e f = some (nI (pu_sw (pu_rw S)), f) := by
  have hx := pu_cwanted (e := e) hT.2.1 h3.2.1 hF.2.2.2.2.2.2.2 am_fu 0 (Nat.zero_le _) (by have := hT.2.1; show _ < 0 + 6000; omega)
  rw [pu_swk_all (pu_rw S) (fun q hq => (hS.2.2.1.1 q hq).1) hS.2.2.1.2] at hx
  exact hx
theorem pu_mWanted (hT : pu_Tok T) (hS : pu_Sok T S) (hF : pu_Sm S (f 95)) : D_X8_wanted f = some (nI (pu_sw (pu_rw S)), f) := by
  have hl := hS.len hT
  have hx := pu_mwanted hl hF.2.1 (pu_rw S) 0 am_fu 0 (Nat.zero_add _) (fun j q hq => by rw [Nat.zero_add]; exact (hF.2.2.2.2.2.1 j q hq).2) (by show _ < 0 + 6000; omega)
  rw [Nat.zero_add] at hx
  exact hx
end RD
/-! what an int may be -/
theorem pu_in (a : Int32) (c : Nat) : (∃ j, j < c ∧ a = nI j) ∨ (a < 0 ∨ ∃ j, c ≤ j ∧ j < 2 ^ 31 ∧ a = nI j) := by
  by_cases h : a < 0
  · exact Or.inr (Or.inl h)
  · obtain ⟨j, h1, h2⟩ := nI_of h
    by_cases hj : j < c
    · exact Or.inl ⟨j, hj, h2⟩
    · exact Or.inr (Or.inr ⟨j, by omega, h1, h2⟩)
theorem pu_w1 {j c : Nat} {f : am_M} (h : j < c) (hc : c < 2 ^ 30) : D_X8_within (nI j) 0 (nI c - 1) f = some (1, f) := by
  unfold D_X8_within
  rw [if_neg (nI_pos (by omega)), if_neg (fun q => by have := (pu_sublt (a := c) (b := 1) (c := j) (by omega) (by decide) (by omega)).mp q; omega)]
theorem pu_w0 {a : Int32} {c : Nat} {f : am_M} (h : a < 0 ∨ ∃ j, c ≤ j ∧ j < 2 ^ 31 ∧ a = nI j) (hc : c < 2 ^ 30) : D_X8_within a 0 (nI c - 1) f = some (0, f) := by
  unfold D_X8_within
  rcases h with h | ⟨j, h1, h2, rfl⟩
  · rw [if_pos h]
  · have hh : nI c - 1 < nI j := (pu_sublt (a := c) (b := 1) (c := j) (by omega) (by decide) (by omega)).mpr (by omega)
    rw [if_neg (nI_pos (by omega)), if_pos hh]
theorem pu_wl (k : Nat) (hk : k < 2 ^ 31) (a : Int32) (f : am_M) : (∃ j, j ≤ k ∧ a = nI j ∧ D_X8_within a 0 (nI k) f = some (1, f)) ∨ (D_X8_within a 0 (nI k) f = some (0, f) ∧ ∀ j, j ≤ k → a ≠ nI j) := by
  unfold D_X8_within
  by_cases h : a < 0
  · refine Or.inr ⟨by rw [if_pos h], fun j hj q => ?_⟩
    rw [q] at h
    exact nI_pos (by omega) h
  · obtain ⟨j, h1, rfl⟩ := nI_of h
    by_cases hj : j ≤ k
    · exact Or.inl ⟨j, hj, rfl, by rw [if_neg h, if_neg (pu_nlt hj (by omega))]⟩
    · exact Or.inr ⟨by rw [if_neg h, if_pos (pu_lt (by omega) h1)], fun i hi q => by have := (nI_eq h1 (by omega)).mp q; omega⟩
