/-! the course by rule: the component -/
def pu_Kf (S : pu_S) (u : Nat) (f : am_M) : Prop := f 81 2 = nI (pu_cl S) ∧ f 81 3 = nI u ∧ f 81 9 = nI (pu_rw S).length ∧ (∀ t, t < 6 → f 82 t = nI (pu_dn S t)) ∧ (∀ (i : Nat) (q : Nat × Nat), (pu_rw S)[i]? = some q → f 85 i = nI q.1) ∧ (∀ m, m < 3 → f 86 m = nI (pu_wa (pu_rw S) m))
section KC
variable {T : pu_T} {B u : Nat} {S : pu_S} {f : am_M}
theorem pu_Ko0.cl (h : pu_Ko0 T B u S) : pu_cl S ≤ B := by have := h.1; omega
theorem pu_Ko0.dn (h : pu_Ko0 T B u S) {t : Nat} (ht : t < pu_nt T) : pu_dn S t ≤ B := by
  have := (h.2.2.1 t ht).1
  have := h.2.2.2.1
  have := h.1
  omega
theorem pu_Ko0.ro (hT : pu_Tok T) (h : pu_Ko0 T B u S) : pu_ro T S ≤ B + 16 := by
  have h1 : pu_lst T S ≤ pu_cl S := pu_le_le _
  have := hT.1
  have := h.1
  unfold pu_ro
  omega
theorem pu_cKleast (hT : pu_Tok T) (hB : B ≤ 100000) (h : pu_Ko0 T B u S) (h3 : pu_Tc T (f 3) (f 4) (f 5) (f 6)) (hF : pu_Kf S u f) : D_X4_least 81 0 f = some (nI (pu_lst T S), f) := by
  have hn := hT.2.2.1
  have hc := h.cl
  unfold D_X4_least
  rw [hF.1]
  exact pu_cleast (c := pu_cl S) hn h3.2.2.1 (fun t ht => hF.2.2.2.1 t (by omega)) (fun t ht => by have := h.dn ht; omega) (by omega) am_fu 0 (Nat.zero_le _) (by show _ < 0 + 6000; omega)
theorem pu_cKroom (hT : pu_Tok T) (hB : B ≤ 100000) (h : pu_Ko0 T B u S) (h3 : pu_Tc T (f 3) (f 4) (f 5) (f 6)) (hF : pu_Kf S u f) : D_X4_room 81 0 f = some (nI (pu_ro T S), f) := by
  unfold D_X4_room
  rw [pu_cKleast hT hB h h3 hF, pu_bI, h3.1, hF.1, nI_add, pu_subN h.2.2.2.2]
  rfl
theorem pu_cKslow (hT : pu_Tok T) (hB : B ≤ 100000) (h : pu_Ko0 T B u S) (h3 : pu_Tc T (f 3) (f 4) (f 5) (f 6)) (hF : pu_Kf S u f) {b : Nat} (hb : b < 64) : D_X4_slowestOf 81 0 (nI b) f = some (pu_cd (pu_so (pu_dn S) b (pu_nt T)), f) := by
  have hn := hT.2.2.1
  exact pu_cslow hn hb h3.2.2.1 (fun t ht => hF.2.2.2.1 t (by omega)) (fun t ht => by have := h.dn ht; omega) am_fu 0 (Nat.zero_le _) (by show _ < 0 + 6000; omega)
theorem pu_cKam (hT : pu_Tok T) (hB : B ≤ 100000) (h : pu_Ko0 T B u S) (h3 : pu_Tc T (f 3) (f 4) (f 5) (f 6)) (hF : pu_Kf S u f) {t : Nat} (ht : t < pu_nt T) : D_X4_atMost 81 0 (nI t) f = some (nI (pu_Kam T u S t), f) := by
  have hn := hT.2.2.1
  unfold D_X4_atMost
  rw [pu_chk (by omega) (by decide), nI_clamp (by omega), h3.2.2.2.2.2 t ht, pu_cKslow hT hB h h3 hF (pu_nz hT ht), pu_bI]
  unfold pu_Kam
  cases hs : pu_so (pu_dn S) (pu_bh T t) (pu_nt T) with
  | none => rw [if_pos (show pu_cd none = -9 from rfl), hF.2.1]
  | some s =>
    have hsl := (pu_so_lt _ _ hs).1
    show (if nI s = -9 then _ else am_chk (nI s) 6 (some (f (81 + 1) (nI s).toNatClampNeg, f))) = _
    rw [if_neg (pu_neg9 (by omega)), pu_chk (by omega) (by decide), nI_clamp (by omega), show f (81 + 1) s = _ from hF.2.2.2.1 s (by omega)]
theorem pu_cKclaim (hB : B ≤ 100000) (hc : pu_cl S ≤ B) (hF : pu_Kf S u f) {m n : Nat} (hn : n ≤ 9) : D_X4_claim 81 0 (nI m) (nI n) f = some (nI (pu_cl S), am_wr f 81 2 (nI (pu_cl S + n))) ∧ pu_Kf (pu_cm S m n) u (am_wr f 81 2 (nI (pu_cl S + n))) := by
  refine ⟨?_, pu_wr_eq, by rw [pu_wr_n2 (by decide)]; exact hF.2.1, by rw [pu_wr_n2 (by decide)]; exact hF.2.2.1, fun t ht => by rw [pu_wr_n1 (by decide)]; exact hF.2.2.2.1 t ht, fun i q hq => by rw [pu_wr_n1 (by decide)]; exact hF.2.2.2.2.1 i q hq, fun m hm => by rw [pu_wr_n1 (by decide)]; exact hF.2.2.2.2.2 m hm⟩
  unfold D_X4_claim
  rw [hF.1, nI_add]
  show D_X4_claim_18 81 0 (5999 + 1) _ _ _ _ = _
  unfold D_X4_claim_18
  rw [pu_wr_eq]
  have e9 : ¬ nI (pu_cl S) < Int32.ofNat 0 := nI_pos (by omega)
  by_cases h0 : nI (pu_cl S) < nI (pu_cl S + n)
  · rw [if_pos h0, if_neg e9]
  · rw [if_neg h0]
theorem pu_cKleave (hT : pu_Tok T) (h : pu_Ko0 T B u S) (hF : pu_Kf S u f) {m n i : Nat} (hi : (pu_rw S)[i]? = some (m, n)) (hx : pu_ix (pu_rw S) m = some i) : ∃ f', D_X4_leaveRow 81 0 (nI m) f = some f' ∧ (∀ q, q < 81 ∨ 87 < q → f' q = f q) ∧ pu_Kf (pu_sr S ((pu_rw S).eraseIdx i)) u f' := by
  have hl := pu_Kok.len hT h
  have hil := pu_lt_len hi
  have hm : m < 3 := by have := (h.2.1.1 (m, n) (List.mem_of_getElem? hi)).1; have := hT.2.1; simp at *; omega
  obtain ⟨d1, d2, d3, d4, d7, d8⟩ := id hF
  obtain ⟨f', y1, y2, y3, y4, y5, y6⟩ := pu_cleave17 (p := 81) (e := 0) hl hm ((pu_rw S).length - (i + 1)) am_fu (i + 1) f d3 (by omega) (by omega) (by show _ < 6000; omega)
  have hpl := pu_cplace (p := 81) (e := 0) hl hm d3 (pu_rw S) 0 am_fu (Nat.zero_add _) (fun j q hq => ⟨by rw [Nat.zero_add]; exact d7 j q hq, by have := (h.2.1.1 q (List.mem_of_getElem? hq)).1; have := hT.2.1; omega⟩) (by show _ < 0 + 6000; omega)
  rw [hx] at hpl
  refine ⟨f', ?_, fun q hq => y2 q (by omega) (by omega) (by omega), ?_, ?_, ?_, ?_, ?_, ?_⟩
  · unfold D_X4_leaveRow D_X4_placeInRow
    rw [show D_X4_placeInRow_2 81 0 am_fu (nI m) 0 f = some (nI (0 + i), f) from hpl, pu_bI, Nat.zero_add, if_neg (pu_neg9 (by omega)), nI_1]
    exact y1
  · rw [y3 2 (by decide)]; exact d1
  · rw [y3 3 (by decide)]; exact d2
  · rw [y4]
    show _ = nI ((pu_rw S).eraseIdx i).length
    rw [pu_len_er hi]
    have := nI_pred ((pu_rw S).length - 1)
    rw [show (pu_rw S).length - 1 + 1 = (pu_rw S).length by omega] at this
    exact this
  · intro t ht; rw [y2 82 (by decide) (by decide) (by decide)]; exact d4 t ht
  · intro j q hq
    have hq' : ((pu_rw S).eraseIdx i)[j]? = some q := hq
    have hjl := pu_lt_len hq'
    rw [pu_len_er hi] at hjl
    rw [List.getElem?_eraseIdx] at hq'
    rw [show f' 85 j = _ from y5 j]
    by_cases hh : j < i
    · rw [if_pos hh] at hq'
      rw [if_neg (by omega)]; exact d7 j q hq'
    · rw [if_neg hh] at hq'
      rw [if_pos (by omega)]; exact d7 (j + 1) q hq'
  · intro k hk
    rw [show f' 86 k = _ from y6 k]
    show _ = nI (pu_wa ((pu_rw S).eraseIdx i) k)
    rw [pu_wa_er _ i m n k hi h.2.1.2]
    by_cases hh : k = m
    · rw [if_pos hh, if_pos hh]; rfl
    · rw [if_neg hh, if_neg hh]; exact d8 k hk
end KC
theorem pu_cKadmit {T : pu_T} {B u : Nat} (hT : pu_Tok T) (hB : B ≤ 100000) : ∀ (fu k x : Nat) (S : pu_S) (f : am_M), (pu_rw S).length ≤ k → x + k ≤ 3 → k < fu → pu_Ko0 T B u S → pu_Tc T (f 3) (f 4) (f 5) (f 6) → pu_Kf S u f → ∃ f', D_X4_admit_2 81 0 fu (nI x) f = some f' ∧ (∀ q, q < 81 ∨ 87 < q → f' q = f q) ∧ pu_Kf (pu_ad T k S) u f'
  | 0, k, x, S, f, _, _, h, _, _, _ => absurd h (by omega)
  | fu + 1, k, x, S, f, hk, hx, hf, hS, h3, hF => by
    cases hr : pu_rw S with
    | nil =>
      rw [pu_ad_nil k hr]
      refine ⟨f, ?_, fun _ _ => rfl, hF⟩
      unfold D_X4_admit_2
      rw [hF.2.2.1, hr]
      by_cases h : nI x < 3
      · rw [if_pos h]; rfl
      · rw [if_neg h]
    | cons y r =>
      obtain ⟨m, n⟩ := y
      have hq := hS.2.1.1 (m, n) (by rw [hr]; simp)
      simp at hq
      have hnm := hT.2.1
      have hl := pu_Kok.len hT hS
      have hro := hS.ro hT
      rw [hr] at hk
      simp at hk
      have ex : nI x < 3 := pu_lt (b := 3) (by omega) (by decide)
      have el : 0 < nI (pu_rw S).length := pu_lt (a := 0) (by rw [hr]; simp) (by omega)
      have k4 : f (81 + 4) 0 = nI m := hF.2.2.2.2.1 0 (m, n) (by rw [hr]; rfl)
      have k5 : f (81 + 5) m = nI n := by
        have := hF.2.2.2.2.2 m (by omega)
        rw [hr, pu_wa_c, if_pos rfl] at this
        exact this
      by_cases hlt : pu_ro T S < n
      · rw [pu_ad_lt k hr hlt]
        refine ⟨f, ?_, fun _ _ => rfl, hF⟩
        unfold D_X4_admit_2
        rw [if_pos ex, hF.2.2.1, if_pos el, k4, pu_chk (by omega) (by decide), pu_cKroom hT hB hS h3 hF, pu_bI, nI_clamp (by omega), k5, if_pos (pu_lt hlt (by omega))]
      · obtain ⟨k, rfl⟩ : ∃ k', k = k' + 1 := ⟨k - 1, by omega⟩
        rw [pu_ad_go k hr hlt]
        have hi : (pu_rw S)[0]? = some (m, n) := by rw [hr]; rfl
        have hix : pu_ix (pu_rw S) m = some 0 := by rw [hr]; simp [pu_ix]
        have her : (pu_rw S).eraseIdx 0 = r := by rw [hr]; rfl
        obtain ⟨f1, x1, x2, x3⟩ := pu_cKleave hT hS hF hi hix
        rw [her] at x3
        obtain ⟨y1, y3⟩ := pu_cKclaim (B := B) (m := m) (n := n) hB (show pu_cl (pu_sr S r) ≤ B from hS.cl) x3 hq.2.2
        have fr : ∀ q, q < 81 ∨ 87 < q → am_wr f1 81 2 (nI (pu_cl (pu_sr S r) + n)) q = f q := fun q hq => by rw [am_wr_ne q (by omega), x2 q (by omega)]
        obtain ⟨f3, z1, z2, z3⟩ := pu_cKadmit hT hB fu k (x + 1) (pu_cm (pu_sr S r) m n) _ (by show r.length ≤ k; omega) (by omega) (by omega) (hS.cm hr (by omega)) (pu_frT (fun q h1 h2 => fr q (by omega)) h3) y3
        refine ⟨f3, ?_, fun q hq => by rw [z2 q hq, fr q hq], z3⟩
        unfold D_X4_admit_2
        rw [if_pos ex, hF.2.2.1, if_pos el, k4, pu_chk (by omega) (by decide), pu_cKroom hT hB hS h3 hF, pu_bI, nI_clamp (by omega), k5, if_neg (pu_nlt (by omega) (by omega)), x1, pu_bV, y1, pu_bI, nI_1]
        exact z1
