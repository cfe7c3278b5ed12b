/-! the model's course: its turns -/
section MW
variable {T : pu_T} {B u : Nat} {S : pu_S} {f : am_M}
theorem pu_mKwait (hT : pu_Tok T) (h : pu_Ko0 T B u S) (hF : pu_Km S f) {m : Nat} (hm : m < 3) : D_X8_doesWait (nI m) f = some (nI (if pu_ix (pu_rw S) m ≠ none then 1 else 0), f) := by
  have hl := pu_Kok.len hT h
  have hx := pu_mwait4 hl hm hF.2.1 (pu_rw S) 0 am_fu 0 (by decide) (Nat.zero_add _) (fun j q hq => ⟨by rw [Nat.zero_add]; exact (hF.2.2.2 j q hq).1, by have := (h.2.1.1 q (List.mem_of_getElem? hq)).1; have := hT.2.1; omega⟩) (by show _ < 0 + 6000; omega)
  have e : (if (0 = 1 ∨ pu_ix (pu_rw S) m ≠ none) then 1 else 0) = (if pu_ix (pu_rw S) m ≠ none then 1 else 0) := by simp
  rw [e] at hx
  exact hx
end MW
theorem pu_m57 {K : am_M → Option am_M} {L : Nat} (hL : L ≤ 2) : ∀ d fu x (f : am_M), f 91 30 = nI L → x + d = L → d < fu → ∃ f', D_X8_letsByRule_57 K fu (nI x) f = K f' ∧ (∀ q, q ≠ 109 → q ≠ 110 → f' q = f q) ∧ (∀ j, f' 109 j = if x ≤ j ∧ j < L then f 109 (j + 1) else f 109 j) ∧ (∀ j, f' 110 j = if x ≤ j ∧ j < L then f 110 (j + 1) else f 110 j)
  | d, 0, x, f, _, _, h => absurd h (by omega)
  | 0, fu + 1, x, f, h9, h1, h2 => by
    have : x = L := by omega
    subst this
    refine ⟨f, ?_, fun _ _ _ => rfl, fun j => by rw [if_neg (by omega)], fun j => by rw [if_neg (by omega)]⟩
    rw [D_X8_letsByRule_57, h9, if_neg (pu_nlt (Nat.le_refl _) (by omega))]
  | d + 1, fu + 1, x, f, h9, h1, h2 => by
    obtain ⟨f', y1, y2, y3, y4⟩ := pu_m57 (K := K) hL d fu (x + 1) (am_wr (am_wr f 109 x (f 109 (x + 1))) 110 x (f 110 (x + 1))) (by rw [pu_wr_n1 (by decide), pu_wr_n1 (by decide)]; exact h9) (by omega) (by omega)
    refine ⟨f', ?_, fun q a b => by rw [y2 q a b, am_wr_ne q b, am_wr_ne q a], fun j => ?_, fun j => ?_⟩
    · rw [D_X8_letsByRule_57, h9, if_pos (pu_lt (by omega) (by omega)), nI_1, pu_chk (by omega) (by decide), pu_chk (by omega) (by decide), pu_chk (by omega) (by decide), pu_chk (by omega) (by decide), nI_clamp (by omega), nI_clamp (by omega)]
      exact y1
    · rw [y3 j]
      by_cases h : x + 1 ≤ j ∧ j < L
      · rw [if_pos h, if_pos (by omega), pu_wr_n1 (by decide), pu_wr_n2 (by omega)]
      · rw [if_neg h, pu_wr_n1 (by decide)]
        by_cases hj : j = x
        · rw [if_pos (by omega), hj, pu_wr_eq]
        · rw [if_neg (by omega), pu_wr_n2 hj]
    · rw [y4 j]
      by_cases h : x + 1 ≤ j ∧ j < L
      · rw [if_pos h, if_pos (by omega), pu_wr_n2 (by omega), pu_wr_n1 (by decide)]
      · rw [if_neg h]
        by_cases hj : j = x
        · rw [if_pos (by omega), hj, pu_wr_eq]
        · rw [if_neg (by omega), pu_wr_n2 hj, pu_wr_n1 (by decide)]
theorem pu_mKlets {T : pu_T} {B u : Nat} (hT : pu_Tok T) (hB : B ≤ 100000) : ∀ (fu k : Nat) (S : pu_S) (f : am_M), (pu_rw S).length ≤ k → k < fu → pu_Ko0 T B u S → pu_Tm T (f 91) (f 92) (f 93) (f 94) → pu_Km S f → ∃ f', D_X8_letsByRule_0 fu f = some f' ∧ (∀ q, q ≠ 91 → q ≠ 109 → q ≠ 110 → f' q = f q) ∧ (∀ j, j ≠ 29 → j ≠ 30 → f' 91 j = f 91 j) ∧ pu_Km (pu_ad T k S) f'
  | 0, k, S, f, _, h, _, _, _ => absurd h (by omega)
  | fu + 1, k, S, f, hk, hf, hS, h3, hF => by
    cases hr : pu_rw S with
    | nil =>
      rw [pu_ad_nil k hr]
      refine ⟨f, ?_, fun _ _ _ _ => rfl, fun _ _ _ => rfl, hF⟩
      rw [D_X8_letsByRule_0, hF.2.1, hr]
      rfl
    | cons y r =>
      obtain ⟨m, n⟩ := y
      have hq := hS.2.1.1 (m, n) (by rw [hr]; simp)
      simp at hq
      have hnm := hT.2.1
      have hl := pu_Kok.len hT hS
      have hc := hS.cl
      have hro := hS.ro hT
      have hlen : (pu_rw S).length = r.length + 1 := by rw [hr]; rfl
      rw [hr] at hk
      simp at hk
      have el : 0 < nI (pu_rw S).length := pu_lt (a := 0) (by omega) (by omega)
      obtain ⟨k4, k5⟩ := hF.2.2.2 0 (m, n) (by rw [hr]; rfl)
      have k5 : f 110 0 = nI n := k5
      have room : f 91 0 + nI (pu_lst T S) - f 91 29 = nI (pu_ro T S) := by
        rw [h3.1, hF.1, nI_add, pu_subN hS.2.2.2.2]; rfl
      by_cases hlt : pu_ro T S < n
      · rw [pu_ad_lt k hr hlt]
        refine ⟨f, ?_, fun _ _ _ _ => rfl, fun _ _ _ => rfl, hF⟩
        rw [D_X8_letsByRule_0, hF.2.1, if_pos el, pu_mKleast hT hB hS h3 hF, pu_bI, room, k5, if_pos (pu_lt hlt (by omega))]
      · obtain ⟨k, rfl⟩ : ∃ k', k = k' + 1 := ⟨k - 1, by omega⟩
        rw [pu_ad_go k hr hlt]
        obtain ⟨g, hg⟩ : ∃ g, g = am_wr (am_wr f 91 29 (nI (pu_cl S + n))) 91 30 (nI r.length) := ⟨_, rfl⟩
        have g30 : g 91 30 = nI r.length := by rw [hg, pu_wr_eq]
        have g29 : g 91 29 = nI (pu_cl S + n) := by rw [hg, pu_wr_n2 (by decide), pu_wr_eq]
        have go : ∀ q, q ≠ 91 → g q = f q := fun q hq => by rw [hg, am_wr_ne q hq, am_wr_ne q hq]
        have go1 : ∀ j, j ≠ 29 → j ≠ 30 → g 91 j = f 91 j := fun j a b => by rw [hg, pu_wr_n2 b, pu_wr_n2 a]
        obtain ⟨f1, x1, x2, x3, x4⟩ := pu_m57 (K := fun f9 => D_X8_letsByRule_0 fu f9) (L := r.length) (by omega) r.length am_fu 0 g g30 (Nat.zero_add _) (by show _ < 6000; omega)
        have hF1 : pu_Km (pu_cm (pu_sr S r) m n) f1 := by
          refine ⟨?_, ?_, fun t ht => ?_, fun i q hq => ?_⟩
          · rw [x2 91 (by decide) (by decide), g29]; rfl
          · rw [x2 91 (by decide) (by decide), g30]; rfl
          · rw [x2 111 (by decide) (by decide), go 111 (by decide)]; exact hF.2.2.1 t ht
          · have hq' : r[i]? = some q := hq
            have hil := pu_lt_len hq'
            rw [x3 i, x4 i, if_pos (by omega), if_pos (by omega), go 109 (by decide), go 110 (by decide)]
            exact hF.2.2.2 (i + 1) q (by rw [hr]; simpa using hq')
        have h3' : pu_Tm T (f1 91) (f1 92) (f1 93) (f1 94) := by
          refine pu_fmT ?_ ?_ ?_ (fun q a b => ?_) h3
          · rw [x2 91 (by decide) (by decide), go1 0 (by decide) (by decide)]
          · rw [x2 91 (by decide) (by decide), go1 1 (by decide) (by decide)]
          · rw [x2 91 (by decide) (by decide), go1 3 (by decide) (by decide)]
          · rw [x2 q (by omega) (by omega), go q (by omega)]
        obtain ⟨f3, z1, z2, z3, z4⟩ := pu_mKlets hT hB fu k (pu_cm (pu_sr S r) m n) f1 (by show r.length ≤ k; omega) (by omega) (hS.cm hr (by omega)) h3' hF1
        refine ⟨f3, ?_, fun q a b c => by rw [z2 q a b c, x2 q b c, go q a], fun j a b => by rw [z3 j a b, x2 91 (by decide) (by decide), go1 j a b], z4⟩
        have e1 : nI (pu_rw S).length - 1 = nI r.length := by rw [hlen]; exact nI_pred _
        rw [D_X8_letsByRule_0, hF.2.1, if_pos el, pu_mKleast hT hB hS h3 hF, pu_bI, room, k5, if_neg (pu_nlt (by omega) (by omega)), hF.1, hF.2.1, nI_add, e1, ← hg]
        exact x1.trans z1
section MC
variable {T : pu_T} {B u : Nat} {S : pu_S} {f : am_M}
theorem pu_mKmk (hT : pu_Tok T) (hB : B ≤ 90000) (h : pu_Kok T B u S) (h3 : pu_Tm T (f 91) (f 92) (f 93) (f 94)) (hF : pu_Km S f) {m : Nat} (hm : m < pu_nm T) : ∃ f', D_X8_claimsByRule (nI m) f = some f' ∧ (∀ q, q ≠ 91 → q ≠ 109 → q ≠ 110 → f' q = f q) ∧ (∀ j, j ≠ 29 → j ≠ 30 → f' 91 j = f 91 j) ∧ pu_Km (pu_Kmk T S m) f' := by
  have hnm := hT.2.1
  have hr9 := hT.2.2.2.1 m hm
  have hl := pu_Kok.len hT h.1
  have hro := h.1.ro hT
  have hc := h.1.cl
  have hk := h.mk hT hm
  have hra := h3.2.2.2.1 m hm
  unfold D_X8_claimsByRule
  rw [pu_chk (by omega) (by decide), nI_clamp (by omega), hra]
  by_cases h0 : pu_ra T m = 0
  · refine ⟨f, by rw [h0, if_pos nI_0], fun _ _ _ _ => rfl, fun _ _ _ => rfl, ?_⟩
    unfold pu_Kmk; rw [if_pos h0]; exact hF
  rw [if_neg (nI_ne0 (by omega) (by omega)), pu_mKwait hT h.1 hF (by omega), pu_bI]
  by_cases hx' : pu_ix (pu_rw S) m ≠ none
  · refine ⟨f, by rw [if_pos hx', if_neg (show ¬ nI 1 = 0 by decide)], fun _ _ _ _ => rfl, fun _ _ _ => rfl, ?_⟩
    unfold pu_Kmk; rw [if_neg h0, if_pos hx']; exact hF
  have hx : pu_ix (pu_rw S) m = none := Classical.not_not.mp hx'
  have ek : pu_Kmk T S m = if pu_rw S = [] ∧ pu_ra T m ≤ pu_ro T S then pu_cm S m (pu_ra T m) else pu_sr S (pu_rw S ++ [(m, pu_ra T m)]) := by
    unfold pu_Kmk
    rw [if_neg h0, if_neg hx']
  rw [if_neg hx', if_pos nI_0, hF.2.1]
  have room : f 91 0 + nI (pu_lst T S) - f 91 29 = nI (pu_ro T S) := by
    rw [h3.1, hF.1, nI_add, pu_subN h.1.2.2.2.2]; rfl
  by_cases hc2 : pu_rw S = [] ∧ pu_ra T m ≤ pu_ro T S
  · rw [ek, if_pos hc2]
    obtain ⟨hr, hle⟩ := hc2
    refine ⟨am_wr f 91 29 (nI (pu_cl S + pu_ra T m)), ?_, fun q a _ _ => am_wr_ne q a, fun j a _ => pu_wr_n2 a, pu_wr_eq, by rw [pu_wr_n2 (by decide)]; exact hF.2.1, fun t ht => by rw [pu_wr_n1 (by decide)]; exact hF.2.2.1 t ht, fun i q hq => by rw [pu_wr_n1 (by decide), pu_wr_n1 (by decide)]; exact hF.2.2.2 i q hq⟩
    rw [if_pos (by rw [hr]; rfl), pu_chk (by omega) (by decide), pu_mKleast hT (by omega) h.1 h3 hF, pu_bI, room, hra, if_neg (pu_nlt (by omega) (by omega)), pu_chk (by omega) (by decide), hF.1, nI_add]
  · rw [ek, if_neg hc2] at hk
    rw [ek, if_neg hc2]
    have hl3 : (pu_rw S).length < 3 := by
      have := pu_Kok.len hT hk.1
      have e : (pu_rw (pu_sr S (pu_rw S ++ [(m, pu_ra T m)]))).length = (pu_rw S).length + 1 := by
        show (pu_rw S ++ [(m, pu_ra T m)]).length = _
        simp
      omega
    refine ⟨am_wr (am_wr (am_wr f 109 (pu_rw S).length (nI m)) 110 (pu_rw S).length (nI (pu_ra T m))) 91 30 (nI ((pu_rw S).length + 1)), ?_, fun q a b c => by rw [am_wr_ne q a, am_wr_ne q c, am_wr_ne q b], fun j a b => by rw [pu_wr_n2 b, pu_wr_n1 (by decide), pu_wr_n1 (by decide)], ?_, ?_, fun t ht => ?_, fun i q hq => ?_⟩
    · by_cases hr : pu_rw S = []
      · have : pu_ro T S < pu_ra T m := by
          rcases Nat.lt_or_ge (pu_ro T S) (pu_ra T m) with q | q
          · exact q
          · exact absurd ⟨hr, q⟩ hc2
        rw [if_pos (by rw [hr]; rfl), pu_chk (by omega) (by decide), pu_mKleast hT (by omega) h.1 h3 hF, pu_bI, room, hra, if_pos (pu_lt this (by omega)), hF.2.1, pu_chk hl3 (by decide), pu_chk (by omega) (by decide), pu_chk hl3 (by decide), nI_clamp (by omega), nI_1]
      · have hz : ¬ nI (pu_rw S).length = 0 := nI_ne0 (by cases hr2 : pu_rw S with | nil => exact absurd hr2 hr | cons x r => simp) (by omega)
        rw [if_neg hz, pu_chk hl3 (by decide), pu_chk (by omega) (by decide), pu_chk hl3 (by decide), nI_clamp (by omega), nI_1, hra]
    · rw [pu_wr_n2 (by decide), pu_wr_n1 (by decide), pu_wr_n1 (by decide)]; exact hF.1
    · rw [pu_wr_eq]
      show _ = nI (pu_rw S ++ [(m, pu_ra T m)]).length
      simp
    · rw [pu_wr_n1 (by decide), pu_wr_n1 (by decide), pu_wr_n1 (by decide)]; exact hF.2.2.1 t ht
    · have hq' : (pu_rw S ++ [(m, pu_ra T m)])[i]? = some q := hq
      have hil := pu_lt_len hq'
      simp at hil
      rw [show am_wr (am_wr (am_wr f 109 (pu_rw S).length (nI m)) 110 (pu_rw S).length (nI (pu_ra T m))) 91 30 (nI ((pu_rw S).length + 1)) 109 i = upd (f 109) (pu_rw S).length (nI m) i by rw [pu_wr_n1 (by decide), pu_wr_n1 (by decide), pu_wr_u],
        show am_wr (am_wr (am_wr f 109 (pu_rw S).length (nI m)) 110 (pu_rw S).length (nI (pu_ra T m))) 91 30 (nI ((pu_rw S).length + 1)) 110 i = upd (f 110) (pu_rw S).length (nI (pu_ra T m)) i by rw [pu_wr_n1 (by decide), pu_wr_u, am_wr_ne _ (by decide)]]
      by_cases e : i = (pu_rw S).length
      · rw [e] at hq' ⊢
        simp at hq'
        subst hq'
        simp [upd]
      · rw [List.getElem?_append_left (by omega)] at hq'
        simp [upd, e]
        exact hF.2.2.2 i q hq'
end MC
