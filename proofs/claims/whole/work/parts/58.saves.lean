/-! the model's history -/
theorem pu_ms22 {T : pu_T} {x : Nat} (hT : pu_Tok T) (hx : x ≤ 60) : ∀ d fu i (f : am_M), i + d = pu_nt T → d < fu → f 91 3 = nI (pu_nt T) → ∃ f', D_X8_saves_22 fu (nI x) (nI i) f = D_X8_saves_55 am_fu (nI x) 0 f' ∧ (∀ q, q ≠ 107 → f' q = f q) ∧ (∀ t, i ≤ t → t < pu_nt T → f' 107 (6 * x + t) = f 111 t) ∧ (∀ j, j < 6 * x + i → f' 107 j = f 107 j)
  | d, 0, i, f, _, h, _ => absurd h (by omega)
  | 0, fu + 1, i, f, h1, h2, h3 => by
    have hnt := hT.2.2.1
    have : i = pu_nt T := by omega
    subst this
    refine ⟨f, ?_, fun _ _ => rfl, fun t a b => absurd b (by omega), fun _ _ => rfl⟩
    rw [D_X8_saves_22, h3, if_neg (pu_nlt (Nat.le_refl _) (by omega))]
  | d + 1, fu + 1, i, f, h1, h2, h3 => by
    have hnt := hT.2.2.1
    have e1 : (6 : Int32) * nI x + nI i = nI (6 * x + i) := by rw [← nI_add, ← pu_mul]; rfl
    obtain ⟨f', y1, y2, y3, y4⟩ := pu_ms22 hT hx d fu (i + 1) (am_wr f 107 (6 * x + i) (f 111 i)) (by omega) (by omega) (by rw [pu_wr_n1 (by decide)]; exact h3)
    refine ⟨f', ?_, fun q a => by rw [y2 q a, am_wr_ne q a], fun t a b => ?_, fun j hj => by rw [y4 j (by omega), pu_wr_n2 (by omega)]⟩
    · rw [D_X8_saves_22, h3, if_pos (pu_lt (by omega) (by omega)), pu_chk (by omega) (by decide), e1, pu_chk (by omega) (by decide), nI_clamp (by omega), nI_clamp (by omega), nI_1]
      exact y1
    · by_cases e : t = i
      · subst e; rw [y4 _ (by omega), pu_wr_eq]
      · rw [y3 t (by omega) b, am_wr_ne _ (by decide)]
theorem pu_ms55 {T : pu_T} {B u x : Nat} {S : pu_S} {w : Nat → Nat} (hT : pu_Tok T) (hx : x ≤ 60) (h : pu_Ko0 T B u S) : ∀ d fu i (f : am_M), i + d = pu_nm T → d < fu → f 91 1 = nI (pu_nm T) → pu_Km S f → (x = 0 ∧ (∀ m, w m = 0) ∨ 0 < x ∧ ∀ m, m < pu_nm T → ∃ v, f 108 (3 * (x - 1) + m) = nI v ∧ w m = v + (if pu_ix (pu_rw S) m ≠ none then 1 else 0)) → ∃ f', D_X8_saves_55 fu (nI x) (nI i) f = some f' ∧ (∀ q, q ≠ 108 → f' q = f q) ∧ (∀ m, i ≤ m → m < pu_nm T → f' 108 (3 * x + m) = nI (w m)) ∧ (∀ j, j < 3 * x + i → f' 108 j = f 108 j)
  | d, 0, i, f, _, h, _, _, _ => absurd h (by omega)
  | 0, fu + 1, i, f, h1, h2, h3, hF, hw => by
    have hnm := hT.2.1
    have : i = pu_nm T := by omega
    subst this
    refine ⟨f, ?_, fun _ _ => rfl, fun t a b => absurd b (by omega), fun _ _ => rfl⟩
    rw [D_X8_saves_55, h3, if_neg (pu_nlt (Nat.le_refl _) (by omega))]
  | d + 1, fu + 1, i, f, h1, h2, h3, hF, hw => by
    have hnm := hT.2.1
    have e1 : (3 : Int32) * nI x + nI i = nI (3 * x + i) := by rw [← nI_add, ← pu_mul]; rfl
    have go : ∀ y, y = nI (w i) → ∃ f', D_X8_saves_55 fu (nI x) (nI (i + 1)) (am_wr f 108 (3 * x + i) y) = some f' ∧ (∀ q, q ≠ 108 → f' q = f q) ∧ (∀ m, i ≤ m → m < pu_nm T → f' 108 (3 * x + m) = nI (w m)) ∧ (∀ j, j < 3 * x + i → f' 108 j = f 108 j) := fun y hy => by
      obtain ⟨f', y1, y2, y3, y4⟩ := pu_ms55 (w := w) hT hx h d fu (i + 1) (am_wr f 108 (3 * x + i) y) (by omega) (by omega) (by rw [pu_wr_n1 (by decide)]; exact h3) ⟨by rw [pu_wr_n1 (by decide)]; exact hF.1, by rw [pu_wr_n1 (by decide)]; exact hF.2.1, fun t ht => by rw [pu_wr_n1 (by decide)]; exact hF.2.2.1 t ht, fun j q hq => by rw [pu_wr_n1 (by decide), pu_wr_n1 (by decide)]; exact hF.2.2.2 j q hq⟩ (by
        rcases hw with hw | ⟨hw, hv⟩
        · exact Or.inl hw
        · refine Or.inr ⟨hw, fun m hm => ?_⟩
          obtain ⟨v, v1, v2⟩ := hv m hm
          exact ⟨v, by rw [pu_wr_n2 (by omega)]; exact v1, v2⟩)
      refine ⟨f', y1, fun q a => by rw [y2 q a, am_wr_ne q a], fun t a b => ?_, fun j hj => by rw [y4 j (by omega), pu_wr_n2 (by omega)]⟩
      by_cases e : t = i
      · subst e; rw [y4 _ (by omega), pu_wr_eq, hy]
      · exact y3 t (by omega) b
    rcases hw with ⟨hx0, hv⟩ | ⟨hx0, hv⟩
    · obtain ⟨f', y1, y2, y3, y4⟩ := go 0 (by rw [hv]; rfl)
      refine ⟨f', ?_, y2, y3, y4⟩
      rw [D_X8_saves_55, h3, if_pos (pu_lt (by omega) (by omega)), if_pos (by rw [hx0]; rfl), e1, pu_chk (by omega) (by decide), nI_clamp (by omega), nI_1]
      exact y1
    · obtain ⟨v, v1, v2⟩ := hv i (by omega)
      have ep : nI x - 1 = nI (x - 1) := by
        have := nI_pred (x - 1)
        rw [show x - 1 + 1 = x by omega] at this
        exact this
      have e2 : (3 : Int32) * nI (x - 1) + nI i = nI (3 * (x - 1) + i) := by rw [← nI_add, ← pu_mul]; rfl
      have ez : nI v + 0 = nI v := nI_add v 0
      by_cases hix : pu_ix (pu_rw S) i ≠ none
      · rw [if_pos hix] at v2
        obtain ⟨f', y1, y2, y3, y4⟩ := go (nI (v + 1)) (by rw [v2])
        refine ⟨f', ?_, y2, y3, y4⟩
        rw [D_X8_saves_55, h3, if_pos (pu_lt (by omega) (by omega)), if_neg (nI_ne0 hx0 (by omega)), ep, e2, pu_chk (by omega) (by decide), pu_mKwait hT h hF (by omega), pu_bI, if_pos hix, if_neg (show ¬ nI 1 = 0 by decide), e1, pu_chk (by omega) (by decide), nI_clamp (by omega), nI_clamp (by omega), v1, nI_1, nI_1]
        exact y1
      · rw [if_neg hix] at v2
        obtain ⟨f', y1, y2, y3, y4⟩ := go (nI v) (by rw [v2]; rfl)
        refine ⟨f', ?_, y2, y3, y4⟩
        rw [D_X8_saves_55, h3, if_pos (pu_lt (by omega) (by omega)), if_neg (nI_ne0 hx0 (by omega)), ep, e2, pu_chk (by omega) (by decide), pu_mKwait hT h hF (by omega), pu_bI, if_neg hix, if_pos nI_0, e1, pu_chk (by omega) (by decide), nI_clamp (by omega), nI_clamp (by omega), v1, ez, nI_1]
        exact y1
