/-! the model's tick: its loops -/
def pu_Kfr (f f' : am_M) : Prop := (∀ q, q ≠ 91 → q ≠ 109 → q ≠ 110 → q ≠ 111 → f' q = f q) ∧ ∀ j, j ≠ 29 → j ≠ 30 → f' 91 j = f 91 j
theorem pu_Kfr.refl {f : am_M} : pu_Kfr f f := ⟨fun _ _ _ _ _ => rfl, fun _ _ _ => rfl⟩
theorem pu_Kfr.trans {f g h : am_M} (a : pu_Kfr f g) (b : pu_Kfr g h) : pu_Kfr f h := ⟨fun q h1 h2 h3 h4 => (b.1 q h1 h2 h3 h4).trans (a.1 q h1 h2 h3 h4), fun j h1 h2 => (b.2 j h1 h2).trans (a.2 j h1 h2)⟩
theorem pu_Kfr.T {T : pu_T} {f f' : am_M} (a : pu_Kfr f f') (h : pu_Tm T (f 91) (f 92) (f 93) (f 94)) : pu_Tm T (f' 91) (f' 92) (f' 93) (f' 94) := pu_fmT (a.2 0 (by decide) (by decide)) (a.2 1 (by decide) (by decide)) (a.2 3 (by decide) (by decide)) (fun q h1 h2 => a.1 q (by omega) (by omega) (by omega) (by omega)) h
theorem pu_mt28 {T : pu_T} {B u : Nat} {S : pu_S} (hT : pu_Tok T) (hB : B ≤ 80000) (h : pu_Kok T B u S) : ∀ d fu i (f : am_M), i + d = pu_nt T → d < fu → pu_Tm T (f 91) (f 92) (f 93) (f 94) → pu_Km (pu_Kts T u S i) f → ∃ f', D_X8_ticks_28 fu (nI u) (nI i) f = some f' ∧ pu_Kfr f f' ∧ pu_Km (pu_Kts T u S (pu_nt T)) f'
  | d, 0, i, f, _, h, _, _ => absurd h (by omega)
  | 0, fu + 1, i, f, h1, h2, h3, hF => by
    have hnt := hT.2.2.1
    have : i = pu_nt T := by omega
    subst this
    refine ⟨f, ?_, pu_Kfr.refl, hF⟩
    rw [D_X8_ticks_28, h3.2.2.1, if_neg (pu_nlt (Nat.le_refl _) (by omega))]
  | d + 1, fu + 1, i, f, h1, h2, h3, hF => by
    have hnt := hT.2.2.1
    have hi : i < pu_nt T := by omega
    have hk := pu_Kts_ok hT h i (by omega)
    have hd := hk.1.dn hi
    have hs := (hT.2.2.2.2 i hi).2.1
    have hle := pu_Kam_dn hT hk.1 hi
    obtain ⟨v, x1, x2, x3⟩ := pu_mKtk hT (by omega) hk h3 hF hi
    have key : ∃ f1, D_X8_letsByRule (am_wr f 111 i (nI (pu_Kv T u (pu_Kts T u S i) i))) = some f1 ∧ pu_Kfr f f1 ∧ pu_Km (pu_Kts T u S (i + 1)) f1 := by
      have hF' : pu_Km (pu_td (pu_Kts T u S i) i (pu_Kv T u (pu_Kts T u S i) i)) (am_wr f 111 i (nI (pu_Kv T u (pu_Kts T u S i) i))) := by
        refine ⟨by rw [pu_wr_n1 (by decide)]; exact hF.1, by rw [pu_wr_n1 (by decide)]; exact hF.2.1, fun w hw => ?_, fun j q hq => by rw [pu_wr_n1 (by decide), pu_wr_n1 (by decide)]; exact hF.2.2.2 j q hq⟩
        rw [pu_wr_u]
        show _ = nI (pu_un (pu_dn (pu_Kts T u S i)) i (pu_Kv T u (pu_Kts T u S i) i) w)
        by_cases e : w = i
        · simp [upd, pu_un, e]
        · simp [upd, pu_un, e]; exact hF.2.2.1 w hw
      have h3' : pu_Tm T (am_wr f 111 i (nI (pu_Kv T u (pu_Kts T u S i) i)) 91) (am_wr f 111 i (nI (pu_Kv T u (pu_Kts T u S i) i)) 92) (am_wr f 111 i (nI (pu_Kv T u (pu_Kts T u S i) i)) 93) (am_wr f 111 i (nI (pu_Kv T u (pu_Kts T u S i) i)) 94) := by
        rw [am_wr_ne 91 (by decide), am_wr_ne 92 (by decide), am_wr_ne 93 (by decide), am_wr_ne 94 (by decide)]; exact h3
      obtain ⟨f1, z1, z2, z3, z4⟩ := pu_mKlets (B := B) (u := u) hT (by omega) am_fu 3 (pu_td (pu_Kts T u S i) i (pu_Kv T u (pu_Kts T u S i) i)) (am_wr f 111 i (nI (pu_Kv T u (pu_Kts T u S i) i))) (show (pu_rw (pu_Kts T u S i)).length ≤ 3 from pu_Kok.len hT hk.1) (by decide) (hk.1.td hi (by unfold pu_Kv; omega) (by unfold pu_Kv; omega)) h3' hF'
      refine ⟨f1, z1, ⟨fun q a b c e => by rw [z2 q a b c, am_wr_ne q e], fun j a b => by rw [z3 j a b, pu_wr_n1 (by decide)]⟩, ?_⟩
      show pu_Km (pu_Ktk T u (pu_Kts T u S i) i) f1
      rw [pu_Ktk_eq hT hk hi]
      exact z4
    obtain ⟨f1, k1, k2, k3⟩ := key
    obtain ⟨f', y1, y2, y3⟩ := pu_mt28 hT hB h d fu (i + 1) f1 (by omega) (by omega) (k2.T h3) k3
    refine ⟨f', ?_, k2.trans y2, y3⟩
    rw [D_X8_ticks_28, h3.2.2.1, if_pos (pu_lt hi (by omega)), x1, pu_bI, pu_chk (by omega) (by decide), pu_chk (by omega) (by decide), nI_clamp (by omega), hF.2.2.1 i (by omega), h3.2.2.2.2.1 i hi, nI_add, nI_1]
    by_cases hq : pu_dn (pu_Kts T u S i) i + pu_sp T i < v
    · rw [if_pos hq] at x3
      rw [if_pos (pu_lt hq (by omega)), pu_chk (by omega) (by decide), x3, k1, pu_bV]
      exact y1
    · rw [if_neg hq] at x3
      rw [if_neg (pu_nlt (by omega) (by omega)), pu_chk (by omega) (by decide), x3, k1, pu_bV]
      exact y1
theorem pu_mt7 {T : pu_T} {B u : Nat} {S : pu_S} (hT : pu_Tok T) (hB : B ≤ 80000) (h : pu_Kok T B u S) : ∀ d fu i (f : am_M), i + d = pu_nm T → d < fu → pu_Tm T (f 91) (f 92) (f 93) (f 94) → pu_Km (pu_Kms T S i) f → ∃ f', D_X8_ticks_7 fu (nI u) (nI i) f = D_X8_ticks_28 am_fu (nI u) 0 f' ∧ pu_Kfr f f' ∧ pu_Km (pu_Kms T S (pu_nm T)) f'
  | d, 0, i, f, _, h, _, _ => absurd h (by omega)
  | 0, fu + 1, i, f, h1, h2, h3, hF => by
    have hnm := hT.2.1
    have : i = pu_nm T := by omega
    subst this
    refine ⟨f, ?_, pu_Kfr.refl, hF⟩
    rw [D_X8_ticks_7, h3.2.1, if_neg (pu_nlt (Nat.le_refl _) (by omega))]
  | d + 1, fu + 1, i, f, h1, h2, h3, hF => by
    have hnm := hT.2.1
    have hi : i < pu_nm T := by omega
    have hk := pu_Kms_ok hT h i (by omega)
    obtain ⟨f1, x1, x2, x3, x4⟩ := pu_mKmk hT (by omega) hk h3 hF hi
    have k2 : pu_Kfr f f1 := ⟨fun q a b c _ => x2 q a b c, x3⟩
    obtain ⟨f', y1, y2, y3⟩ := pu_mt7 hT hB h d fu (i + 1) f1 (by omega) (by omega) (k2.T h3) x4
    refine ⟨f', ?_, k2.trans y2, y3⟩
    rw [D_X8_ticks_7, h3.2.1, if_pos (pu_lt hi (by omega)), x1, pu_bV, nI_1]
    exact y1
theorem pu_mTick {T : pu_T} {N : pu_S} {k u : Nat} {f : am_M} (hT : pu_Tok T) (hk : k ≤ 60) (h : pu_Kok T (999 + 27 * k) u (pu_Kn T N k).1) (h3 : pu_Tm T (f 91) (f 92) (f 93) (f 94)) (hF : pu_Km (pu_Kn T N k).1 f) : ∃ f', D_X8_ticks f = some f' ∧ pu_Kfr f f' ∧ pu_Km (pu_Kn T N (k + 1)).1 f' := by
  obtain ⟨⟨s1, s2, s3, s4, s5⟩, s6⟩ := h
  have h' : pu_Kok T (999 + 27 * k) (pu_cl (pu_Kn T N k).1) (pu_Kn T N k).1 := ⟨⟨s1, s2, fun t ht => ⟨by have := (s3 t ht).1; omega, (s3 t ht).2⟩, Nat.le_refl _, s5⟩, s6⟩
  have hnm := hT.2.1
  have hnt := hT.2.2.1
  have h1 := pu_Kms_ok hT h' (pu_nm T) (Nat.le_refl _)
  obtain ⟨f1, x1, x2, x3⟩ := pu_mt7 hT (by omega) h' (pu_nm T) am_fu 0 f (Nat.zero_add _) (by show pu_nm T < 6000; omega) h3 hF
  obtain ⟨f2, y1, y2, y3⟩ := pu_mt28 hT (by omega) h1 (pu_nt T) am_fu 0 f1 (Nat.zero_add _) (by show pu_nt T < 6000; omega) (x2.T h3) x3
  refine ⟨f2, ?_, x2.trans y2, y3⟩
  unfold D_X8_ticks
  rw [hF.1]
  exact x1.trans y1
