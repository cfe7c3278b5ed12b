/-! the model's saves -/
/-- what tick j left in the history -/
def pu_KH1 (T : pu_T) (N : pu_S) (j : Nat) (f : am_M) : Prop := f 105 j = nI (pu_cl (pu_Kn T N j).1) ∧ f 106 j = nI (pu_rw (pu_Kn T N j).1).length ∧ (∀ t, t < pu_nt T → f 107 (6 * j + t) = nI (pu_dn (pu_Kn T N j).1 t)) ∧ (∀ m, m < pu_nm T → f 108 (3 * j + m) = nI ((pu_Kn T N j).2 m))
def pu_KH (T : pu_T) (N : pu_S) (k : Nat) (f : am_M) : Prop := ∀ j, j < k → pu_KH1 T N j f
theorem pu_mSave {T : pu_T} {N : pu_S} {k u : Nat} {f : am_M} (hT : pu_Tok T) (hk : k ≤ 60) (h : pu_Kok T (999 + 27 * k) u (pu_Kn T N k).1) (h3 : pu_Tm T (f 91) (f 92) (f 93) (f 94)) (hF : pu_Km (pu_Kn T N k).1 f) (hH : pu_KH T N k f) : ∃ f', D_X8_saves (nI k) f = some f' ∧ (∀ q, q < 105 ∨ 108 < q → f' q = f q) ∧ pu_KH T N (k + 1) f' := by
  have hnt := hT.2.2.1
  have hnm := hT.2.1
  obtain ⟨g, hg⟩ : ∃ g, g = am_wr (am_wr f 105 k (f 91 29)) 106 k (f 91 30) := ⟨_, rfl⟩
  have go : ∀ q, q ≠ 105 → q ≠ 106 → g q = f q := fun q a b => by rw [hg, am_wr_ne q b, am_wr_ne q a]
  obtain ⟨f1, x1, x2, x3, x4⟩ := pu_ms22 hT hk (pu_nt T) am_fu 0 g (Nat.zero_add _) (by show pu_nt T < 6000; omega) (by rw [go 91 (by decide) (by decide)]; exact h3.2.2.1)
  have fo : ∀ q, q ≠ 105 → q ≠ 106 → q ≠ 107 → f1 q = f q := fun q a b c => by rw [x2 q c, go q a b]
  have hF1 : pu_Km (pu_Kn T N k).1 f1 := ⟨by rw [fo 91 (by decide) (by decide) (by decide)]; exact hF.1, by rw [fo 91 (by decide) (by decide) (by decide)]; exact hF.2.1, fun t ht => by rw [fo 111 (by decide) (by decide) (by decide)]; exact hF.2.2.1 t ht, fun j q hq => by rw [fo 109 (by decide) (by decide) (by decide), fo 110 (by decide) (by decide) (by decide)]; exact hF.2.2.2 j q hq⟩
  obtain ⟨f2, y1, y2, y3, y4⟩ := pu_ms55 (w := (pu_Kn T N k).2) hT hk h.1 (pu_nm T) am_fu 0 f1 (Nat.zero_add _) (by show pu_nm T < 6000; omega) (by rw [fo 91 (by decide) (by decide) (by decide)]; exact h3.2.1) hF1 (by
    cases k with
    | zero => exact Or.inl ⟨rfl, fun m => rfl⟩
    | succ k =>
      refine Or.inr ⟨by omega, fun m hm => ⟨(pu_Kn T N k).2 m, ?_, ?_⟩⟩
      · rw [fo 108 (by decide) (by decide) (by decide)]
        exact (hH k (by omega)).2.2.2 m hm
      · show pu_Kw (pu_rw (pu_Kn T N (k + 1)).1) (pu_Kn T N k).2 (pu_nm T) m = _
        unfold pu_Kw
        have hi := pu_wa_ix h.1.2.1 m
        by_cases hx : pu_ix (pu_rw (pu_Kn T N (k + 1)).1) m ≠ none
        · have : 0 < pu_wa (pu_rw (pu_Kn T N (k + 1)).1) m := by
            rcases Nat.eq_zero_or_pos (pu_wa (pu_rw (pu_Kn T N (k + 1)).1) m) with q | q
            · exact absurd (hi.mpr q) hx
            · exact q
          rw [if_pos ⟨hm, this⟩, if_pos hx]
        · have := hi.mp (Classical.not_not.mp hx)
          rw [if_neg (by omega), if_neg hx]
          rfl)
  refine ⟨f2, ?_, fun q hq => by rw [y2 q (by omega), fo q (by omega) (by omega) (by omega)], fun j hj => ?_⟩
  · unfold D_X8_saves
    rw [pu_chk (by omega) (by decide), pu_chk (by omega) (by decide), nI_clamp (by omega), ← hg, show D_X8_saves_22 am_fu (nI k) 0 g = _ from x1]
    exact y1
  · have e105 : f2 105 = g 105 := by rw [y2 105 (by decide), x2 105 (by decide)]
    have e106 : f2 106 = g 106 := by rw [y2 106 (by decide), x2 106 (by decide)]
    by_cases e : j = k
    · subst e
      refine ⟨?_, ?_, fun t ht => ?_, fun m hm => y3 m (Nat.zero_le _) hm⟩
      · rw [e105, hg, pu_wr_n1 (by decide), pu_wr_eq]; exact hF.1
      · rw [e106, hg, pu_wr_eq]; exact hF.2.1
      · rw [y2 107 (by decide), x3 t (Nat.zero_le _) ht, go 111 (by decide) (by decide)]; exact hF.2.2.1 t (by omega)
    · obtain ⟨a1, a2, a3, a4⟩ := hH j (by omega)
      refine ⟨?_, ?_, fun t ht => ?_, fun m hm => ?_⟩
      · rw [e105, hg, pu_wr_n1 (by decide), pu_wr_n2 e]; exact a1
      · rw [e106, hg, pu_wr_n2 e, pu_wr_n1 (by decide)]; exact a2
      · rw [y2 107 (by decide), x4 _ (by omega), go 107 (by decide) (by decide)]; exact a3 t ht
      · rw [y4 _ (by omega), fo 108 (by decide) (by decide) (by decide)]; exact a4 m hm
