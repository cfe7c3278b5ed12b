/-! the component's tick -/
def pu_Kms (T : pu_T) (S : pu_S) : Nat → pu_S
  | 0 => S
  | i + 1 => pu_Kmk T (pu_Kms T S i) i
def pu_Kts (T : pu_T) (u : Nat) (S : pu_S) : Nat → pu_S
  | 0 => S
  | i + 1 => pu_Ktk T u (pu_Kts T u S i) i
def pu_Kw (r : List (Nat × Nat)) (w : Nat → Nat) (i : Nat) : Nat → Nat := fun m => if m < i ∧ 0 < pu_wa r m then w m + 1 else w m
def pu_Ktick (T : pu_T) (x : pu_S × (Nat → Nat)) : pu_S × (Nat → Nat) := (pu_Kts T (pu_cl x.1) (pu_Kms T x.1 (pu_nm T)) (pu_nt T), pu_Kw (pu_rw (pu_Kts T (pu_cl x.1) (pu_Kms T x.1 (pu_nm T)) (pu_nt T))) x.2 (pu_nm T))
theorem pu_Kms_ok {T : pu_T} {B u : Nat} {S : pu_S} (hT : pu_Tok T) (h : pu_Kok T B u S) : ∀ i, i ≤ pu_nm T → pu_Kok T (B + 9 * i) u (pu_Kms T S i)
  | 0, _ => h
  | i + 1, hi => by
    have := (pu_Kms_ok hT h i (by omega)).mk hT (m := i) (by omega)
    rw [show B + 9 * (i + 1) = B + 9 * i + 9 by omega]
    exact this
theorem pu_Kts_ok {T : pu_T} {B u : Nat} {S : pu_S} (hT : pu_Tok T) (h : pu_Kok T B u S) : ∀ i, i ≤ pu_nt T → pu_Kok T B u (pu_Kts T u S i)
  | 0, _ => h
  | i + 1, hi => (pu_Kts_ok hT h i (by omega)).tk hT (t := i) (by omega)
section CT
variable {T : pu_T} {B u : Nat} {S : pu_S} {f : am_M}
theorem pu_cKmk (hT : pu_Tok T) (hB : B ≤ 90000) (h : pu_Kok T B u S) (h3 : pu_Tc T (f 3) (f 4) (f 5) (f 6)) (hF : pu_Kf S u f) {m : Nat} (hm : m < pu_nm T) (h0 : ¬ pu_ra T m = 0) (hx : pu_ix (pu_rw S) m = none) : ∃ r f', D_X4_claimOrWait 81 0 (nI m) (nI (pu_ra T m)) f = some (r, f') ∧ (∀ q, q < 81 ∨ 87 < q → f' q = f q) ∧ pu_Kf (pu_Kmk T S m) u f' := by
  have hne := (pu_ix_none _ _ hx).2
  have hnm := hT.2.1
  have hr9 := hT.2.2.2.1 m hm
  have hl := pu_Kok.len hT h.1
  have hro := h.1.ro hT
  have hk := h.mk hT hm
  have ek : pu_Kmk T S m = if pu_rw S = [] ∧ pu_ra T m ≤ pu_ro T S then pu_cm S m (pu_ra T m) else pu_sr S (pu_rw S ++ [(m, pu_ra T m)]) := by
    unfold pu_Kmk
    rw [if_neg h0, if_neg (fun q => q hx)]
  by_cases hc : pu_rw S = [] ∧ pu_ra T m ≤ pu_ro T S
  · rw [ek, if_pos hc]
    obtain ⟨hr, hle⟩ := hc
    obtain ⟨y1, y2⟩ := pu_cKclaim (B := B) (m := m) (n := pu_ra T m) (by omega) h.1.cl hF hr9
    refine ⟨nI (pu_cl S), am_wr f 81 2 (nI (pu_cl S + pu_ra T m)), ?_, fun q hq => am_wr_ne q (by omega), y2⟩
    unfold D_X4_claimOrWait
    rw [hF.2.2.1, if_pos (by rw [hr]; rfl), pu_cKroom hT (by omega) h.1 h3 hF, pu_bI, if_neg (pu_nlt (by omega) (by omega)), y1, pu_bI]
  · rw [ek, if_neg hc] at hk
    rw [ek, if_neg hc]
    have hl3 : (pu_rw S).length < 3 := by
      have := pu_Kok.len hT hk.1
      have e : (pu_rw (pu_sr S (pu_rw S ++ [(m, pu_ra T m)]))).length = (pu_rw S).length + 1 := by
        show (pu_rw S ++ [(m, pu_ra T m)]).length = _
        simp
      omega
    have e3 : nI (pu_rw S).length < 3 := pu_lt (b := 3) hl3 (by decide)
    obtain ⟨d1, d2, d3, d4, d7, d8⟩ := id hF
    refine ⟨-9, am_wr (am_wr (am_wr f (81 + 4) (pu_rw S).length (nI m)) (81 + 5) m (nI (pu_ra T m))) 81 9 (nI ((pu_rw S).length + 1)), ?_, fun q hq => by rw [am_wr_ne q (by omega), am_wr_ne q (by omega), am_wr_ne q (by omega)], ?_, ?_, ?_, ?_, ?_, ?_⟩
    · unfold D_X4_claimOrWait
      rw [d3]
      by_cases hr : pu_rw S = []
      · have : pu_ro T S < pu_ra T m := by
          rcases Nat.lt_or_ge (pu_ro T S) (pu_ra T m) with q | q
          · exact q
          · exact absurd ⟨hr, q⟩ hc
        rw [if_pos (by rw [hr]; rfl), pu_cKroom hT (by omega) h.1 h3 hF, pu_bI, if_pos (pu_lt this (by omega)), d3, if_pos e3, pu_chk hl3 (by decide), pu_chk (by omega) (by decide), nI_clamp (by omega), nI_clamp (by omega), nI_1]
      · have hz : ¬ nI (pu_rw S).length = 0 := nI_ne0 (by cases hr2 : pu_rw S with | nil => exact absurd hr2 hr | cons x r => simp) (by omega)
        rw [if_neg hz, if_pos e3, pu_chk hl3 (by decide), pu_chk (by omega) (by decide), nI_clamp (by omega), nI_clamp (by omega), nI_1]
    · rw [pu_wr_n2 (by decide), pu_wr_n1 (by decide), pu_wr_n1 (by decide)]; exact d1
    · rw [pu_wr_n2 (by decide), pu_wr_n1 (by decide), pu_wr_n1 (by decide)]; exact d2
    · rw [pu_wr_eq]
      show _ = nI (pu_rw S ++ [(m, pu_ra T m)]).length
      simp
    · intro t ht; rw [pu_wr_n1 (by decide), pu_wr_n1 (by decide), pu_wr_n1 (by decide)]; exact d4 t ht
    · intro i q hq
      have hq' : (pu_rw S ++ [(m, pu_ra T m)])[i]? = some q := hq
      have hil := pu_lt_len hq'
      simp at hil
      rw [pu_wr_n1 (by decide), pu_wr_n1 (by decide), show (85 : Nat) = 81 + 4 from rfl, pu_wr_u]
      by_cases e : i = (pu_rw S).length
      · rw [e] at hq' ⊢
        simp at hq'
        subst hq'
        simp [upd]
      · rw [List.getElem?_append_left (by omega)] at hq'
        simp [upd, e]
        exact d7 i q hq'
    · intro k hk
      rw [pu_wr_n1 (by decide), show (86 : Nat) = 81 + 5 from rfl, pu_wr_u, am_wr_ne _ (by decide)]
      show _ = nI (pu_wa (pu_rw S ++ [(m, pu_ra T m)]) k)
      rw [pu_wa_ap _ _ _ _ hne]
      by_cases e : k = m
      · rw [if_pos e]; simp [upd, e]
      · rw [if_neg e]; simp [upd, e]; exact d8 k hk
theorem pu_cKtk (hT : pu_Tok T) (hB : B ≤ 90000) (h : pu_Kok T B u S) (h3 : pu_Tc T (f 3) (f 4) (f 5) (f 6)) (hF : pu_Kf S u f) {t : Nat} (ht : t < pu_nt T) : ∃ r f', D_X4_goOver 81 0 (nI t) (nI (pu_sp T t)) f = some (r, f') ∧ (∀ q, q < 81 ∨ 87 < q → f' q = f q) ∧ pu_Kf (pu_Ktk T u S t) u f' := by
  have hn := hT.2.2.1
  have hd := h.1.dn ht
  have ha := pu_Kam_u h.1 t
  have hu := h.1.2.2.2.1
  have hc := h.1.cl
  have hs := (hT.2.2.2.2 t ht).2.1
  have hdt := hF.2.2.2.1 t (by omega)
  unfold D_X4_goOver
  rw [pu_chk (by omega) (by decide), pu_cKam hT (by omega) h.1 h3 hF ht, pu_bI, nI_clamp (by omega), show f (81 + 1) t = _ from hdt, nI_add, pu_min (by omega) (by omega), pu_bI]
  show ∃ r f', (if nI (pu_dn S t) < nI (pu_Kv T u S t) then D_X4_goOver_31 81 0 am_fu (nI t) (nI (pu_dn S t)) (nI (pu_Kv T u S t)) (nI (pu_dn S t)) f else some (0, f)) = some (r, f') ∧ _
  have hvu : pu_Kv T u S t ≤ u := by unfold pu_Kv; omega
  by_cases hv : pu_dn S t < pu_Kv T u S t
  · have e1 : pu_Ktk T u S t = pu_ad T 3 (pu_td S t (pu_Kv T u S t)) := by unfold pu_Ktk; rw [if_pos hv]
    rw [e1, if_pos (pu_lt hv (by omega))]
    obtain ⟨d1, d2, d3, d4, d7, d8⟩ := id hF
    have hF' : pu_Kf (pu_td S t (pu_Kv T u S t)) u (am_wr f (81 + 1) t (nI (pu_Kv T u S t))) := by
      refine ⟨?_, ?_, ?_, ?_, ?_, ?_⟩
      · rw [pu_wr_n1 (by decide)]; exact d1
      · rw [pu_wr_n1 (by decide)]; exact d2
      · rw [pu_wr_n1 (by decide)]; exact d3
      · intro w hw
        rw [show (82 : Nat) = 81 + 1 from rfl, pu_wr_u]
        show _ = nI (pu_un (pu_dn S) t (pu_Kv T u S t) w)
        by_cases e : w = t
        · simp [upd, pu_un, e]
        · simp [upd, pu_un, e]; exact d4 w hw
      · intro i q hq; rw [pu_wr_n1 (by decide)]; exact d7 i q hq
      · intro k hk; rw [pu_wr_n1 (by decide)]; exact d8 k hk
    obtain ⟨f3, z1, z2, z3⟩ := pu_cKadmit (B := B) (u := u) hT (by omega) am_fu 3 0 (pu_td S t (pu_Kv T u S t)) (am_wr f (81 + 1) t (nI (pu_Kv T u S t))) (show (pu_rw S).length ≤ 3 from pu_Kok.len hT h.1) (by decide) (by decide) (h.1.td ht (by omega) (by unfold pu_Kv; omega)) (pu_frT (fun q h1 h2 => am_wr_ne q (by omega)) h3) hF'
    have e9 : ¬ nI (pu_dn S t) < Int32.ofNat 0 := nI_pos (by omega)
    refine ⟨nI (pu_Kv T u S t) - nI (pu_dn S t), f3, ?_, fun q hq => by rw [z2 q hq, am_wr_ne q (by omega)], z3⟩
    show D_X4_goOver_31 81 0 (5999 + 1) _ _ _ _ _ = _
    unfold D_X4_goOver_31
    rw [if_pos (pu_lt hv (by omega)), if_neg e9, pu_chk (by omega) (by decide), nI_clamp (by omega), show D_X4_admit 81 0 (am_wr f (81 + 1) t (nI (pu_Kv T u S t))) = _ from z1, pu_bV]
  · have e1 : pu_Ktk T u S t = S := by unfold pu_Ktk; rw [if_neg hv]
    rw [e1, if_neg (pu_nlt (by omega) (by omega))]
    exact ⟨0, f, rfl, fun _ _ => rfl, hF⟩
end CT
theorem pu_ct107 {T : pu_T} {S : pu_S} {u : Nat} {w : Nat → Nat} (hT : pu_Tok T) (hR : pu_Rok T (pu_rw S)) (hw : ∀ m, w m ≤ 1000) : ∀ d fu i (f : am_M), i + d = pu_nm T → d < fu → f 3 1 = nI (pu_nm T) → pu_Kf S u f → (∀ m, m < 3 → f 80 m = nI (pu_Kw (pu_rw S) w i m)) → ∃ f', D_X0_tick_107 fu (nI i) f = some f' ∧ (∀ q, q ≠ 80 → f' q = f q) ∧ (∀ m, m < 3 → f' 80 m = nI (pu_Kw (pu_rw S) w (pu_nm T) m))
  | d, 0, i, f, _, h, _, _, _ => absurd h (by omega)
  | 0, fu + 1, i, f, h1, h2, h3, hF, h80 => by
    have : i = pu_nm T := by omega
    subst this
    refine ⟨f, ?_, fun _ _ => rfl, h80⟩
    unfold D_X0_tick_107
    rw [h3, if_neg (pu_nlt (Nat.le_refl _) (by have := hT.2.1; omega))]
  | d + 1, fu + 1, i, f, h1, h2, h3, hF, h80 => by
    have hnm := hT.2.1
    have hi3 : i < 3 := by omega
    have h86 := hF.2.2.2.2.2 i hi3
    have hwa : pu_wa (pu_rw S) i ≤ 9 := by
      cases hx : pu_ix (pu_rw S) i with
      | none => rw [(pu_ix_none _ _ hx).1]; omega
      | some j =>
        obtain ⟨q, q1, q2, q3⟩ := pu_ix_some _ _ _ hx
        rw [← q3]; exact (hR.1 q (List.mem_of_getElem? q1)).2.2
    have h8i := h80 i hi3
    have e8 : pu_Kw (pu_rw S) w i i = w i := by unfold pu_Kw; rw [if_neg (by omega)]
    rw [e8] at h8i
    by_cases hp : 0 < pu_wa (pu_rw S) i
    · obtain ⟨f', y1, y2, y3⟩ := pu_ct107 hT hR hw d fu (i + 1) (am_wr f 80 i (nI (w i + 1))) (by omega) (by omega) (by rw [pu_wr_n1 (by decide)]; exact h3) (by
        obtain ⟨d1, d2, d3, d4, d7, d8⟩ := hF
        exact ⟨by rw [pu_wr_n1 (by decide)]; exact d1, by rw [pu_wr_n1 (by decide)]; exact d2, by rw [pu_wr_n1 (by decide)]; exact d3, fun t ht => by rw [pu_wr_n1 (by decide)]; exact d4 t ht, fun t q hq => by rw [pu_wr_n1 (by decide)]; exact d7 t q hq, fun t ht => by rw [pu_wr_n1 (by decide)]; exact d8 t ht⟩) (fun m hm => by
        rw [pu_wr_u]
        by_cases e : m = i
        · subst e
          simp [upd, pu_Kw, hp]
        · simp [upd, e]
          rw [h80 m hm]
          unfold pu_Kw
          by_cases hh : m < i ∧ 0 < pu_wa (pu_rw S) m
          · rw [if_pos hh, if_pos (by omega)]
          · rw [if_neg hh, if_neg (by omega)])
      refine ⟨f', ?_, fun q hq => by rw [y2 q hq, am_wr_ne q hq], y3⟩
      unfold D_X0_tick_107
      rw [h3, if_pos (pu_lt (by omega) (by omega)), pu_chk hi3 (by decide), nI_clamp (by omega), h86, if_pos (show 0 < nI (pu_wa (pu_rw S) i) from pu_lt (a := 0) hp (by omega)), pu_chk hi3 (by decide), pu_chk hi3 (by decide), h8i, nI_1, nI_1]
      exact y1
    · obtain ⟨f', y1, y2, y3⟩ := pu_ct107 hT hR hw d fu (i + 1) f (by omega) (by omega) h3 hF (fun m hm => by
        rw [h80 m hm]
        unfold pu_Kw
        by_cases e : m = i
        · subst e
          rw [if_neg (by omega), if_neg (by omega)]
        · by_cases hh : m < i ∧ 0 < pu_wa (pu_rw S) m
          · rw [if_pos hh, if_pos (by omega)]
          · rw [if_neg hh, if_neg (by omega)])
      refine ⟨f', ?_, y2, y3⟩
      unfold D_X0_tick_107
      rw [h3, if_pos (pu_lt (by omega) (by omega)), pu_chk hi3 (by decide), nI_clamp (by omega), h86, if_neg (show ¬ 0 < nI (pu_wa (pu_rw S) i) from pu_nlt (b := pu_wa (pu_rw S) i) (a := 0) (by omega) (by decide)), nI_1]
      exact y1
