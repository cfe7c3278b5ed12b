/-! the component's ticks, one after another -/
theorem pu_wa_ix {T : pu_T} {r : List (Nat × Nat)} (hR : pu_Rok T r) (m : Nat) : pu_ix r m = none ↔ pu_wa r m = 0 := by
  constructor
  · exact fun h => (pu_ix_none _ _ h).1
  · intro h
    cases hx : pu_ix r m with
    | none => rfl
    | some j =>
      obtain ⟨q, q1, q2, q3⟩ := pu_ix_some _ _ _ hx
      have := (hR.1 q (List.mem_of_getElem? q1)).2.1
      omega
theorem pu_wa9 {T : pu_T} {r : List (Nat × Nat)} (hR : pu_Rok T r) (m : Nat) : pu_wa r m ≤ 9 := by
  cases hx : pu_ix r m with
  | none => rw [(pu_ix_none _ _ hx).1]; omega
  | some j =>
    obtain ⟨q, q1, q2, q3⟩ := pu_ix_some _ _ _ hx
    rw [← q3]; exact (hR.1 q (List.mem_of_getElem? q1)).2.2
theorem pu_ct9 {T : pu_T} {B u : Nat} {S : pu_S} (hT : pu_Tok T) (hB : B ≤ 80000) (h : pu_Kok T B u S) : ∀ d fu i (f : am_M), i + d = pu_nm T → d < fu → pu_Tc T (f 3) (f 4) (f 5) (f 6) → pu_Kf (pu_Kms T S i) u f → ∃ f', D_X0_tick_9 fu (nI i) f = D_X0_tick_70 am_fu 0 f' ∧ (∀ q, q < 81 ∨ 87 < q → f' q = f q) ∧ pu_Kf (pu_Kms T S (pu_nm T)) u f'
  | d, 0, i, f, _, h, _, _ => absurd h (by omega)
  | 0, fu + 1, i, f, h1, h2, h3, hF => by
    have hnm := hT.2.1
    have : i = pu_nm T := by omega
    subst this
    refine ⟨f, ?_, fun _ _ => rfl, hF⟩
    show D_X0_tick_9 (fu + 1) _ f = _
    rw [D_X0_tick_9, h3.2.1, if_neg (pu_nlt (Nat.le_refl _) (by omega))]
  | d + 1, fu + 1, i, f, h1, h2, h3, hF => by
    have hnm := hT.2.1
    have hi : i < pu_nm T := by omega
    have hk := pu_Kms_ok hT h i (by omega)
    have hr9 := hT.2.2.2.1 i hi
    have h86 := hF.2.2.2.2.2 i (by omega)
    have hw9 := pu_wa9 hk.1.2.1 i
    have skip : pu_Kmk T (pu_Kms T S i) i = pu_Kms T S i → D_X0_tick_9 (fu + 1) (nI i) f = D_X0_tick_9 fu (nI (i + 1)) f → ∃ f', D_X0_tick_9 (fu + 1) (nI i) f = D_X0_tick_70 am_fu 0 f' ∧ (∀ q, q < 81 ∨ 87 < q → f' q = f q) ∧ pu_Kf (pu_Kms T S (pu_nm T)) u f' := fun e1 e2 => by
      obtain ⟨f', y1, y2, y3⟩ := pu_ct9 hT hB h d fu (i + 1) f (by omega) (by omega) h3 (by show pu_Kf (pu_Kmk T (pu_Kms T S i) i) u f; rw [e1]; exact hF)
      exact ⟨f', e2.trans y1, y2, y3⟩
    by_cases h0 : pu_ra T i = 0
    · refine skip (by unfold pu_Kmk; rw [if_pos h0]) ?_
      rw [D_X0_tick_9, h3.2.1, if_pos (pu_lt hi (by omega)), pu_chk (by omega) (by decide), nI_clamp (by omega), h3.2.2.2.1 i hi, if_neg (show ¬ 0 < nI (pu_ra T i) from pu_nlt (a := 0) (by omega) (by decide)), nI_1]
    · have hp : 0 < nI (pu_ra T i) := pu_lt (a := 0) (by omega) (by omega)
      cases hx : pu_ix (pu_rw (pu_Kms T S i)) i with
      | some j =>
        have hz : ¬ pu_wa (pu_rw (pu_Kms T S i)) i = 0 := fun q => by rw [(pu_wa_ix hk.1.2.1 i).mpr q] at hx; simp at hx
        refine skip (by unfold pu_Kmk; rw [if_neg h0, if_pos (by rw [hx]; simp)]) ?_
        rw [D_X0_tick_9, h3.2.1, if_pos (pu_lt hi (by omega)), pu_chk (by omega) (by decide), nI_clamp (by omega), h3.2.2.2.1 i hi, if_pos hp, pu_chk (by omega) (by decide), h86, if_neg (nI_ne0 (by omega) (by omega)), nI_1]
      | none =>
        have hz : pu_wa (pu_rw (pu_Kms T S i)) i = 0 := (pu_wa_ix hk.1.2.1 i).mp hx
        obtain ⟨r, f1, x1, x2, x3⟩ := pu_cKmk hT (by omega) hk h3 hF hi h0 hx
        obtain ⟨f', y1, y2, y3⟩ := pu_ct9 hT hB h d fu (i + 1) f1 (by omega) (by omega) (pu_frT (fun q h1 h2 => x2 q (by omega)) h3) x3
        refine ⟨f', ?_, fun q hq => by rw [y2 q hq, x2 q hq], y3⟩
        rw [D_X0_tick_9, h3.2.1, if_pos (pu_lt hi (by omega)), pu_chk (by omega) (by decide), nI_clamp (by omega), h3.2.2.2.1 i hi, if_pos hp, pu_chk (by omega) (by decide), h86, hz, if_pos nI_0, pu_chk (by omega) (by decide), x1, pu_bI, nI_1]
        exact y1
theorem pu_ct70 {T : pu_T} {B u : Nat} {S : pu_S} (hT : pu_Tok T) (hB : B ≤ 80000) (h : pu_Kok T B u S) : ∀ d fu i (f : am_M), i + d = pu_nt T → d < fu → pu_Tc T (f 3) (f 4) (f 5) (f 6) → pu_Kf (pu_Kts T u S i) u f → ∃ f', D_X0_tick_70 fu (nI i) f = D_X0_tick_107 am_fu 0 f' ∧ (∀ q, q < 81 ∨ 87 < q → f' q = f q) ∧ pu_Kf (pu_Kts T u S (pu_nt T)) u f'
  | d, 0, i, f, _, h, _, _ => absurd h (by omega)
  | 0, fu + 1, i, f, h1, h2, h3, hF => by
    have hnt := hT.2.2.1
    have : i = pu_nt T := by omega
    subst this
    refine ⟨f, ?_, fun _ _ => rfl, hF⟩
    rw [D_X0_tick_70, h3.2.2.1, if_neg (pu_nlt (Nat.le_refl _) (by omega))]
  | d + 1, fu + 1, i, f, h1, h2, h3, hF => by
    have hnt := hT.2.2.1
    have hi : i < pu_nt T := by omega
    have hk := pu_Kts_ok hT h i (by omega)
    obtain ⟨r, f1, x1, x2, x3⟩ := pu_cKtk hT (by omega) hk h3 hF hi
    obtain ⟨f', y1, y2, y3⟩ := pu_ct70 hT hB h d fu (i + 1) f1 (by omega) (by omega) (pu_frT (fun q h1 h2 => x2 q (by omega)) h3) x3
    refine ⟨f', ?_, fun q hq => by rw [y2 q hq, x2 q hq], y3⟩
    rw [D_X0_tick_70, h3.2.2.1, if_pos (pu_lt hi (by omega)), pu_chk (by omega) (by decide), nI_clamp (by omega), h3.2.2.2.2.1 i hi, x1, pu_bI, nI_1]
    exact y1
/-- the course after k ticks -/
def pu_Kn (T : pu_T) (N : pu_S) : Nat → pu_S × (Nat → Nat)
  | 0 => (N, fun _ => 0)
  | k + 1 => pu_Ktick T (pu_Kn T N k)
theorem pu_Kn_w {T : pu_T} {N : pu_S} : ∀ k m, (pu_Kn T N k).2 m ≤ k
  | 0, m => Nat.le_refl _
  | k + 1, m => by
    have := pu_Kn_w (T := T) (N := N) k m
    show pu_Kw _ (pu_Kn T N k).2 _ m ≤ k + 1
    unfold pu_Kw
    split <;> omega
theorem pu_Kn_ok {T : pu_T} {N : pu_S} (hT : pu_Tok T) (hS : pu_Sok T N) : ∀ k, ∃ u, pu_Kok T (999 + 27 * k) u (pu_Kn T N k).1
  | 0 => ⟨pu_cu N, ⟨hS.1, hS.2.2.1, hS.2.2.2.1, pu_cu_le, hS.2.2.2.2.2⟩, hS.2.2.2.2.1⟩
  | k + 1 => by
    obtain ⟨u, ⟨s1, s2, s3, s4, s5⟩, s6⟩ := pu_Kn_ok hT hS k
    have h' : pu_Kok T (999 + 27 * k) (pu_cl (pu_Kn T N k).1) (pu_Kn T N k).1 := ⟨⟨s1, s2, fun t ht => ⟨by have := (s3 t ht).1; omega, (s3 t ht).2⟩, Nat.le_refl _, s5⟩, s6⟩
    have hnm := hT.2.1
    have h1 := pu_Kms_ok hT h' (pu_nm T) (Nat.le_refl _)
    have h2 := pu_Kts_ok hT h1 (pu_nt T) (Nat.le_refl _)
    refine ⟨pu_cl (pu_Kn T N k).1, ⟨by have := h2.1.1; show _ ≤ 999 + 27 * (k + 1); exact Nat.le_trans this (by omega), h2.1.2⟩, h2.2⟩
/-- what the component holds after k ticks -/
def pu_KC (T : pu_T) (N : pu_S) (k : Nat) (f : am_M) : Prop := ∃ u, pu_Kok T (999 + 27 * k) u (pu_Kn T N k).1 ∧ pu_Kf (pu_Kn T N k).1 u f ∧ ∀ m, m < 3 → f 80 m = nI ((pu_Kn T N k).2 m)
theorem pu_Kf.u {S : pu_S} {u : Nat} {f : am_M} (h : pu_Kf S u f) : pu_Kf S (pu_cl S) (am_wr f 81 3 (nI (pu_cl S))) := by
  obtain ⟨d1, d2, d3, d4, d7, d8⟩ := h
  exact ⟨by rw [pu_wr_n2 (by decide)]; exact d1, pu_wr_eq, by rw [pu_wr_n2 (by decide)]; exact d3, fun t ht => by rw [pu_wr_n1 (by decide)]; exact d4 t ht, fun t q hq => by rw [pu_wr_n1 (by decide)]; exact d7 t q hq, fun t ht => by rw [pu_wr_n1 (by decide)]; exact d8 t ht⟩
theorem pu_cTick {T : pu_T} {N : pu_S} {k : Nat} {f : am_M} (hT : pu_Tok T) (hk : k ≤ 60) (h3 : pu_Tc T (f 3) (f 4) (f 5) (f 6)) (h : pu_KC T N k f) : ∃ f', D_X0_tick f = some f' ∧ (∀ q, q < 80 ∨ 87 < q → f' q = f q) ∧ pu_KC T N (k + 1) f' := by
  obtain ⟨u, ⟨⟨s1, s2, s3, s4, s5⟩, s6⟩, hF, h80⟩ := h
  have h' : pu_Kok T (999 + 27 * k) (pu_cl (pu_Kn T N k).1) (pu_Kn T N k).1 := ⟨⟨s1, s2, fun t ht => ⟨by have := (s3 t ht).1; omega, (s3 t ht).2⟩, Nat.le_refl _, s5⟩, s6⟩
  have hnm := hT.2.1
  have hnt := hT.2.2.1
  have h1 := pu_Kms_ok hT h' (pu_nm T) (Nat.le_refl _)
  have h2 := pu_Kts_ok hT h1 (pu_nt T) (Nat.le_refl _)
  have e3 : pu_Tc T (am_wr f 81 3 (nI (pu_cl (pu_Kn T N k).1)) 3) (am_wr f 81 3 (nI (pu_cl (pu_Kn T N k).1)) 4) (am_wr f 81 3 (nI (pu_cl (pu_Kn T N k).1)) 5) (am_wr f 81 3 (nI (pu_cl (pu_Kn T N k).1)) 6) := pu_frT (fun q h1 h2 => am_wr_ne q (by omega)) h3
  obtain ⟨f1, x1, x2, x3⟩ := pu_ct9 hT (by omega) h' (pu_nm T) am_fu 0 _ (Nat.zero_add _) (by show pu_nm T < 6000; omega) e3 hF.u
  have e4 : pu_Tc T (f1 3) (f1 4) (f1 5) (f1 6) := pu_frT (fun q h1 h2 => x2 q (by omega)) e3
  obtain ⟨f2, y1, y2, y3⟩ := pu_ct70 hT (by omega) h1 (pu_nt T) am_fu 0 f1 (Nat.zero_add _) (by show pu_nt T < 6000; omega) e4 x3
  have e5 : pu_Tc T (f2 3) (f2 4) (f2 5) (f2 6) := pu_frT (fun q h1 h2 => y2 q (by omega)) e4
  obtain ⟨f3, z1, z2, z3⟩ := pu_ct107 (w := (pu_Kn T N k).2) hT h2.1.2.1 (fun m => by have := pu_Kn_w (T := T) (N := N) k m; omega) (pu_nm T) am_fu 0 f2 (Nat.zero_add _) (by show pu_nm T < 6000; omega) e5.2.1 y3 (fun m hm => by
    rw [y2 80 (by omega), x2 80 (by omega), am_wr_ne 80 (by decide), h80 m hm]
    unfold pu_Kw
    rw [if_neg (by omega)])
  refine ⟨f3, ?_, fun q hq => by rw [z2 q (by omega), y2 q (by omega), x2 q (by omega), am_wr_ne q (by omega)], pu_cl (pu_Kn T N k).1, ⟨⟨by have := h2.1.1; show _ ≤ 999 + 27 * (k + 1); exact Nat.le_trans this (by omega), h2.1.2⟩, h2.2⟩, ?_, z3⟩
  · unfold D_X0_tick D_X4_closeAllByRule
    rw [hF.1, pu_bV, show D_X0_tick_9 am_fu 0 _ = _ from x1, show D_X0_tick_70 am_fu 0 f1 = _ from y1]
    exact z1
  · obtain ⟨d1, d2, d3, d4, d7, d8⟩ := y3
    exact ⟨by rw [z2 81 (by decide)]; exact d1, by rw [z2 81 (by decide)]; exact d2, by rw [z2 81 (by decide)]; exact d3, fun t ht => by rw [z2 82 (by decide)]; exact d4 t ht, fun t q hq => by rw [z2 85 (by decide)]; exact d7 t q hq, fun t ht => by rw [z2 86 (by decide)]; exact d8 t ht⟩
