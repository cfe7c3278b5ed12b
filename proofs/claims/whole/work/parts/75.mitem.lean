/-! the model's reading of items, and of the text -/
section MI
variable {n : Nat} {L : Nat → Int32}
def px_Dm (hs : Nat) (T : pu_T) (f : am_M) : Prop := f 91 18 = nI hs ∧ f 91 19 = nI (pu_sl T) ∧ f 91 20 = nI (pu_nm T) ∧ f 91 21 = nI (pu_nt T) ∧ (∀ m, m < pu_nm T → f 102 m = nI (pu_ra T m)) ∧ (∀ t, t < pu_nt T → f 103 t = nI (pu_sp T t)) ∧ (∀ t, t < pu_nt T → f 104 t = nI (pu_bh T t))
def px_Qf (f f' : am_M) : Prop := (∀ q, q ≠ 91 → q < 102 ∨ 104 < q → f' q = f q) ∧ ∀ j, j < 16 ∨ 21 < j → f' 91 j = f 91 j
theorem px_Mf.Q {f f' : am_M} (h : px_Mf f f') : px_Qf f f' := ⟨fun q a _ => h.1 q a, fun j hj => h.2 j (by omega) (by omega)⟩
theorem px_Qf.trans {f g h : am_M} (a : px_Qf f g) (b : px_Qf g h) : px_Qf f h := ⟨fun q h1 h2 => (b.1 q h1 h2).trans (a.1 q h1 h2), fun j h1 => (b.2 j h1).trans (a.2 j h1)⟩
theorem px_Qf.X {f f' : am_M} (h : px_Qf f f') (hX : px_Xm n L f) : px_Xm n L f' := ⟨by rw [h.2 15 (by decide)]; exact hX.1, fun i hi => by rw [h.1 101 (by decide) (by decide)]; exact hX.2 i hi⟩
theorem px_Mf.D {hs : Nat} {T : pu_T} {f f' : am_M} (h : px_Mf f f') (hD : px_Dm hs T f) : px_Dm hs T f' := by
  unfold px_Dm at hD ⊢
  rw [h.2 18 (by decide) (by decide), h.2 19 (by decide) (by decide), h.2 20 (by decide) (by decide), h.2 21 (by decide) (by decide), h.1 102 (by decide), h.1 103 (by decide), h.1 104 (by decide)]
  exact hD
def px_MR (n : Nat) (L : Nat → Int32) (x : Option (Int32 × am_M)) (f : am_M) (o : px_O) : Prop := ∃ f', px_Qf f f' ∧ match o with
  | Sum.inl p => x = some (0, f') ∧ f' 91 17 = nI p
  | Sum.inr r => x = some (1, f') ∧ (∃ a, a ≤ n ∧ f' 91 16 = nI a ∧ px_sk n L a = r.1) ∧ px_Dm r.2.1 r.2.2 f'
theorem px_neg1 : (-1 : Int32) < 0 ∧ ¬ (0 : Int32) < -1 := by decide
section MI2
variable {f : am_M} {s hs : Nat} {T : pu_T}
theorem px_mS (hn : n ≤ 120) (hs' : s ≤ n) (hX : px_Xm n L f) (h16 : f 91 16 = nI (px_te n L s)) (hh : hs = 0) (hD : px_Dm hs T f) : px_MR n L (D_X8_readsSlots f) f (px_iS n L s hs T) := by
  have hte := px_te_le (L := L) hs'
  have hl1 := px_nx_le (L := L) hs'
  obtain ⟨f1, x1, x2, x3, x4⟩ := px_mNum (L := L) (lo := 2) (hi := 16) hn hX h16 hte (by decide) (by decide)
  have x1 : D_X8_number 2 16 f = some (if px_ac n L (px_nx n L s) 2 16 = true then nI (px_tv n L (px_nx n L s)) else -1, f1) := x1
  have x3 : f1 91 17 = nI (px_nx n L s) := x3
  have x4 : px_ac n L (px_nx n L s) 2 16 = true → f1 91 16 = nI (px_te n L (px_nx n L s)) := x4
  unfold D_X8_readsSlots px_iS
  rw [if_pos hh, x1, pu_bI]
  by_cases ha : px_ac n L (px_nx n L s) 2 16 = true
  · have hv := (of_decide_eq_true ha).2
    have hv9 := px_tv_le (n := n) (L := L) (s := px_nx n L s)
    obtain ⟨g, hg⟩ : ∃ g, g = am_wr (am_wr f1 91 19 (nI (px_tv n L (px_nx n L s)))) 91 18 1 := ⟨_, rfl⟩
    have qg : px_Qf f g := ⟨fun q a b => by rw [hg, am_wr_ne q a, am_wr_ne q a]; exact x2.1 q a, fun j hj => by rw [hg, pu_wr_n2 (by omega), pu_wr_n2 (by omega)]; exact x2.2 j (by omega) (by omega)⟩
    have hD1 := x2.D hD
    obtain ⟨f2, y1, y2, y3, y4⟩ := px_mEnd (L := L) (f := g) (i := px_te n L (px_nx n L s)) hn (qg.X hX) (by rw [hg, pu_wr_n2 (by decide), pu_wr_n2 (by decide)]; exact x4 ha) (px_te_le hl1)
    have y1 : D_X8_passesEnd g = some (if px_tk n L (px_nx n L (px_nx n L s)) = 5 then 1 else 0, f2) := y1
    have hDg : px_Dm 1 (px_tS T (px_tv n L (px_nx n L s))) g := by
      refine ⟨by rw [hg, pu_wr_eq]; rfl, by rw [hg, pu_wr_n2 (by decide), pu_wr_eq]; rfl, by rw [hg, pu_wr_n2 (by decide), pu_wr_n2 (by decide)]; exact hD1.2.2.1, by rw [hg, pu_wr_n2 (by decide), pu_wr_n2 (by decide)]; exact hD1.2.2.2.1, fun m hm => by rw [hg, pu_wr_n1 (by decide), pu_wr_n1 (by decide)]; exact hD1.2.2.2.2.1 m hm, fun m hm => by rw [hg, pu_wr_n1 (by decide), pu_wr_n1 (by decide)]; exact hD1.2.2.2.2.2.1 m hm, fun m hm => by rw [hg, pu_wr_n1 (by decide), pu_wr_n1 (by decide)]; exact hD1.2.2.2.2.2.2 m hm⟩
    rw [if_pos ha, if_pos ha, if_pos (show 0 < nI (px_tv n L (px_nx n L s)) from pu_lt (a := 0) (by omega) (by omega)), ← hg, y1, pu_bI]
    unfold px_end
    refine ⟨f2, qg.trans y2.Q, ?_⟩
    by_cases h5 : px_tk n L (px_nx n L (px_nx n L s)) = 5
    · rw [if_pos h5, if_pos h5, pu_i10]
      exact ⟨rfl, ⟨_, px_te_le (px_nx_le hl1), y4 h5, rfl⟩, y2.D hDg⟩
    · rw [if_neg h5, if_neg h5, pu_i00]
      exact ⟨rfl, y3⟩
  · rw [if_neg ha, if_neg ha, if_neg px_neg1.2]
    exact ⟨_, ⟨fun q a b => by rw [am_wr_ne q a, am_wr_ne q a]; exact x2.1 q a, fun j hj => by rw [pu_wr_n2 (by omega), pu_wr_n2 (by omega)]; exact x2.2 j (by omega) (by omega)⟩, rfl, by rw [pu_wr_n2 (by decide), pu_wr_n2 (by decide)]; exact x3⟩
theorem px_mM (hn : n ≤ 120) (hs' : s ≤ n) (hX : px_Xm n L f) (h16 : f 91 16 = nI (px_te n L s)) (hm3 : pu_nm T < 3) (hD : px_Dm hs T f) : px_MR n L (D_X8_readsMaker f) f (px_iM n L s hs T) := by
  have hte := px_te_le (L := L) hs'
  have hl1 := px_nx_le (L := L) hs'
  obtain ⟨f1, x1, x2, x3, x4⟩ := px_mNum (L := L) (lo := 0) (hi := 9) hn hX h16 hte (by decide) (by decide)
  have x1 : D_X8_number 0 9 f = some (if px_ac n L (px_nx n L s) 0 9 = true then nI (px_tv n L (px_nx n L s)) else -1, f1) := x1
  have x3 : f1 91 17 = nI (px_nx n L s) := x3
  have x4 : px_ac n L (px_nx n L s) 0 9 = true → f1 91 16 = nI (px_te n L (px_nx n L s)) := x4
  have hD1 := x2.D hD
  unfold D_X8_readsMaker px_iM
  rw [if_pos hm3, x1, pu_bI, hD.2.2.1, hD1.2.2.1, pu_chk hm3 (by decide), pu_chk hm3 (by decide), nI_clamp (by omega), pu_wr_eq]
  by_cases ha : px_ac n L (px_nx n L s) 0 9 = true
  · have hv9 := px_tv_le (n := n) (L := L) (s := px_nx n L s)
    obtain ⟨g, hg⟩ : ∃ g, g = am_wr f1 102 (pu_nm T) (nI (px_tv n L (px_nx n L s))) := ⟨_, rfl⟩
    have qg : px_Qf f g := ⟨fun q a b => by rw [hg, am_wr_ne q (by omega)]; exact x2.1 q a, fun j hj => by rw [hg, pu_wr_n1 (by decide)]; exact x2.2 j (by omega) (by omega)⟩
    obtain ⟨f2, y1, y2, y3, y4⟩ := px_mEnd (L := L) (f := g) (i := px_te n L (px_nx n L s)) hn (qg.X hX) (by rw [hg, pu_wr_n1 (by decide)]; exact x4 ha) (px_te_le hl1)
    have y1 : D_X8_passesEnd g = some (if px_tk n L (px_nx n L (px_nx n L s)) = 5 then 1 else 0, f2) := y1
    rw [if_pos ha, if_pos ha, if_neg (nI_pos (by omega)), ← hg, y1, pu_bI]
    unfold px_end
    by_cases h5 : px_tk n L (px_nx n L (px_nx n L s)) = 5
    · have k20 : f2 91 20 = nI (pu_nm T) := by rw [y2.2 20 (by decide) (by decide), hg, pu_wr_n1 (by decide)]; exact hD1.2.2.1
      rw [if_pos h5, if_pos h5, pu_i10, k20, nI_1]
      refine ⟨am_wr f2 91 20 (nI (pu_nm T + 1)), ⟨fun q a b => by rw [am_wr_ne q a]; exact (qg.trans y2.Q).1 q a b, fun j hj => by rw [pu_wr_n2 (by omega)]; exact (qg.trans y2.Q).2 j hj⟩, rfl, ⟨_, px_te_le (px_nx_le hl1), by rw [pu_wr_n2 (by decide)]; exact y4 h5, rfl⟩, ?_⟩
      have o : ∀ j, 18 ≤ j → f2 91 j = f1 91 j := fun j hj => by rw [y2.2 j (by omega) (by omega), hg, pu_wr_n1 (by decide)]
      refine ⟨by rw [pu_wr_n2 (by decide), o 18 (by decide)]; exact hD1.1, by rw [pu_wr_n2 (by decide), o 19 (by decide)]; exact hD1.2.1, by rw [pu_wr_eq]; rfl, by rw [pu_wr_n2 (by decide), o 21 (by decide)]; exact hD1.2.2.2.1, fun m hm => ?_, fun m hm => by rw [pu_wr_n1 (by decide), y2.1 103 (by decide), hg, pu_wr_n1 (by decide)]; exact hD1.2.2.2.2.2.1 m hm, fun m hm => by rw [pu_wr_n1 (by decide), y2.1 104 (by decide), hg, pu_wr_n1 (by decide)]; exact hD1.2.2.2.2.2.2 m hm⟩
      have hm : m < pu_nm T + 1 := hm
      rw [pu_wr_n1 (by decide), y2.1 102 (by decide), hg, pu_wr_u]
      show _ = nI (pu_un (pu_ra T) (pu_nm T) _ m)
      by_cases e : m = pu_nm T
      · simp [upd, pu_un, e]
      · simp [upd, pu_un, e]; exact hD1.2.2.2.2.1 m (by omega)
    · rw [if_neg h5, if_neg h5, pu_i00]
      exact ⟨f2, qg.trans y2.Q, rfl, y3⟩
  · rw [if_neg ha, if_neg ha, if_pos px_neg1.1]
    exact ⟨_, ⟨fun q a b => by rw [am_wr_ne q (by omega)]; exact x2.1 q a, fun j hj => by rw [pu_wr_n1 (by decide)]; exact x2.2 j (by omega) (by omega)⟩, rfl, by rw [pu_wr_n1 (by decide)]; exact x3⟩
theorem px_mT (hn : n ≤ 120) (hs' : s ≤ n) (hX : px_Xm n L f) (h16 : f 91 16 = nI (px_te n L s)) (ht6 : pu_nt T < 6) (hD : px_Dm hs T f) : px_MR n L (D_X8_readsTaker f) f (px_iT n L s hs T) := by
  have hte := px_te_le (L := L) hs'
  have hl1 := px_nx_le (L := L) hs'
  have hl2 := px_nx_le (L := L) hl1
  have h64 := pu_full64 (pu_nt T) (by omega)
  obtain ⟨f1, x1, x2, x3, x4⟩ := px_mNum (L := L) (lo := 1) (hi := 9) hn hX h16 hte (by decide) (by decide)
  have x1 : D_X8_number 1 9 f = some (if px_ac n L (px_nx n L s) 1 9 = true then nI (px_tv n L (px_nx n L s)) else -1, f1) := x1
  have x3 : f1 91 17 = nI (px_nx n L s) := x3
  have x4 : px_ac n L (px_nx n L s) 1 9 = true → f1 91 16 = nI (px_te n L (px_nx n L s)) := x4
  have hD1 := x2.D hD
  unfold D_X8_readsTaker px_iT
  rw [if_pos ht6, x1, pu_bI, hD.2.2.2.1, hD1.2.2.2.1, pu_chk ht6 (by decide), pu_chk ht6 (by decide), nI_clamp (by omega), pu_wr_eq]
  by_cases ha : px_ac n L (px_nx n L s) 1 9 = true
  · have hv9 := px_tv_le (n := n) (L := L) (s := px_nx n L s)
    obtain ⟨g, hg⟩ : ∃ g, g = am_wr f1 103 (pu_nt T) (nI (px_tv n L (px_nx n L s))) := ⟨_, rfl⟩
    have qg : px_Qf f g := ⟨fun q a b => by rw [hg, am_wr_ne q (by omega)]; exact x2.1 q a, fun j hj => by rw [hg, pu_wr_n1 (by decide)]; exact x2.2 j (by omega) (by omega)⟩
    obtain ⟨f3, w1, w2, w3, w4⟩ := px_mNum (L := L) (f := g) (i := px_te n L (px_nx n L s)) (lo := 0) (hi := 2 ^ pu_nt T - 1) hn (qg.X hX) (by rw [hg, pu_wr_n1 (by decide)]; exact x4 ha) (px_te_le hl1) (by decide) (by omega)
    have w1 : D_X8_number 0 (nI (2 ^ pu_nt T - 1)) g = some (if px_ac n L (px_nx n L (px_nx n L s)) 0 (2 ^ pu_nt T - 1) = true then nI (px_tv n L (px_nx n L (px_nx n L s))) else -1, f3) := w1
    have w3 : f3 91 17 = nI (px_nx n L (px_nx n L s)) := w3
    have w4 : px_ac n L (px_nx n L (px_nx n L s)) 0 (2 ^ pu_nt T - 1) = true → f3 91 16 = nI (px_te n L (px_nx n L (px_nx n L s))) := w4
    have k21 : f3 91 21 = nI (pu_nt T) := by rw [w2.2 21 (by decide) (by decide), hg, pu_wr_n1 (by decide)]; exact hD1.2.2.2.1
    have q3 : px_Qf f f3 := qg.trans w2.Q
    rw [if_pos ha, if_pos ha, if_neg (nI_pos (by omega)), ← hg, pu_shl _ (by omega), w1, pu_bI, k21, pu_chk ht6 (by decide), pu_chk ht6 (by decide), nI_clamp (by omega), pu_wr_eq]
    by_cases hb : px_ac n L (px_nx n L (px_nx n L s)) 0 (2 ^ pu_nt T - 1) = true
    · have hw9 := px_tv_le (n := n) (L := L) (s := px_nx n L (px_nx n L s))
      obtain ⟨e, he⟩ : ∃ e, e = am_wr f3 104 (pu_nt T) (nI (px_tv n L (px_nx n L (px_nx n L s)))) := ⟨_, rfl⟩
      have qe : px_Qf f e := ⟨fun q a b => by rw [he, am_wr_ne q (by omega)]; exact q3.1 q a b, fun j hj => by rw [he, pu_wr_n1 (by decide)]; exact q3.2 j hj⟩
      obtain ⟨f2, y1, y2, y3, y4⟩ := px_mEnd (L := L) (f := e) (i := px_te n L (px_nx n L (px_nx n L s))) hn (qe.X hX) (by rw [he, pu_wr_n1 (by decide)]; exact w4 hb) (px_te_le hl2)
      have y1 : D_X8_passesEnd e = some (if px_tk n L (px_nx n L (px_nx n L (px_nx n L s))) = 5 then 1 else 0, f2) := y1
      rw [if_pos hb, if_pos hb, if_neg (nI_pos (by omega)), ← he, y1, pu_bI]
      unfold px_end
      by_cases h5 : px_tk n L (px_nx n L (px_nx n L (px_nx n L s))) = 5
      · have k20 : f2 91 21 = nI (pu_nt T) := by rw [y2.2 21 (by decide) (by decide), he, pu_wr_n1 (by decide)]; exact k21
        rw [if_pos h5, if_pos h5, pu_i10, k20, nI_1]
        refine ⟨am_wr f2 91 21 (nI (pu_nt T + 1)), ⟨fun q a b => by rw [am_wr_ne q a]; exact (qe.trans y2.Q).1 q a b, fun j hj => by rw [pu_wr_n2 (by omega)]; exact (qe.trans y2.Q).2 j hj⟩, rfl, ⟨_, px_te_le (px_nx_le hl2), by rw [pu_wr_n2 (by decide)]; exact y4 h5, rfl⟩, ?_⟩
        have o : ∀ j, 18 ≤ j → f2 91 j = f1 91 j := fun j hj => by rw [y2.2 j (by omega) (by omega), he, pu_wr_n1 (by decide), w2.2 j (by omega) (by omega), hg, pu_wr_n1 (by decide)]
        refine ⟨by rw [pu_wr_n2 (by decide), o 18 (by decide)]; exact hD1.1, by rw [pu_wr_n2 (by decide), o 19 (by decide)]; exact hD1.2.1, by rw [pu_wr_n2 (by decide), o 20 (by decide)]; exact hD1.2.2.1, by rw [pu_wr_eq]; rfl, fun m hm => by rw [pu_wr_n1 (by decide), y2.1 102 (by decide), he, pu_wr_n1 (by decide), w2.1 102 (by decide), hg, pu_wr_n1 (by decide)]; exact hD1.2.2.2.2.1 m hm, fun m hm => ?_, fun m hm => ?_⟩
        · have hm : m < pu_nt T + 1 := hm
          rw [pu_wr_n1 (by decide), y2.1 103 (by decide), he, pu_wr_n1 (by decide), w2.1 103 (by decide), hg, pu_wr_u]
          show _ = nI (pu_un (pu_sp T) (pu_nt T) _ m)
          by_cases e : m = pu_nt T
          · simp [upd, pu_un, e]
          · simp [upd, pu_un, e]; exact hD1.2.2.2.2.2.1 m (by omega)
        · have hm : m < pu_nt T + 1 := hm
          rw [pu_wr_n1 (by decide), y2.1 104 (by decide), he, pu_wr_u, w2.1 104 (by decide), hg, am_wr_ne _ (by decide)]
          show _ = nI (pu_un (pu_bh T) (pu_nt T) _ m)
          by_cases e : m = pu_nt T
          · simp [upd, pu_un, e]
          · simp [upd, pu_un, e]; exact hD1.2.2.2.2.2.2 m (by omega)
      · rw [if_neg h5, if_neg h5, pu_i00]
        exact ⟨f2, qe.trans y2.Q, rfl, y3⟩
    · rw [if_neg hb, if_neg hb, if_pos px_neg1.1]
      exact ⟨_, ⟨fun q a b => by rw [am_wr_ne q (by omega)]; exact q3.1 q a b, fun j hj => by rw [pu_wr_n1 (by decide)]; exact q3.2 j hj⟩, rfl, by rw [pu_wr_n1 (by decide)]; exact w3⟩
  · rw [if_neg ha, if_neg ha, if_pos px_neg1.1, pu_chk ht6 (by decide), pu_chk ht6 (by decide), pu_wr_eq, if_pos px_neg1.1]
    exact ⟨_, ⟨fun q a b => by rw [am_wr_ne q (by omega), am_wr_ne q (by omega)]; exact x2.1 q a, fun j hj => by rw [pu_wr_n1 (by decide), pu_wr_n1 (by decide)]; exact x2.2 j (by omega) (by omega)⟩, rfl, by rw [pu_wr_n1 (by decide), pu_wr_n1 (by decide)]; exact x3⟩
theorem px_mWord (hn : n ≤ 120) (hs' : s ≤ n) (hX : px_Xm n L f) (h16 : f 91 16 = nI s) (hid : px_sk n L s = s) : ∃ f', D_X8_wordPassed f = some (if px_tk n L s = 1 then (if f 91 18 = 0 then 0 else -9) else if px_tk n L s = 2 then (if f 91 20 < 3 then 1 else -9) else if px_tk n L s = 3 then (if f 91 21 < 6 then 2 else -9) else -9, f') ∧ px_Mf f f' ∧ f' 91 17 = nI s ∧ (px_tk n L s = 1 ∨ px_tk n L s = 2 ∨ px_tk n L s = 3 → f' 91 16 = nI (px_te n L s)) := by
  obtain ⟨f1, x1, x2, x3, x4⟩ := px_mSkip' hn hX h16 hs'
  rw [hid] at x3 x4
  have hX1 := x2.X hX
  have v3 := px_mw4 (L := L) hn (n - s) am_fu s f1 (by omega) (by show n - s < 6000; omega) hX1
  rw [pu_wr_id x3] at v3
  have hge := px_ru_ge (P := px_pW) (L := L) (n - s) s
  have hle := px_ru_le (P := px_pW) (L := L) (n - s) s
  have mf : px_Mf f (am_wr f1 91 16 (nI (px_ru px_pW L (n - s) s))) := ⟨fun q hq => by rw [am_wr_ne q hq]; exact x2.1 q hq, fun j a b => by rw [pu_wr_n2 a]; exact x2.2 j a b⟩
  have y := px_mwv (L := L) (f := am_wr f1 91 16 (nI (px_ru px_pW L (n - s) s))) (s := s) (e := px_ru px_pW L (n - s) s) hn (mf.X hX) (by rw [pu_wr_n2 (by decide)]; exact x4) pu_wr_eq hge (by omega)
  rw [mf.2 18 (by decide) (by decide), mf.2 20 (by decide) (by decide), mf.2 21 (by decide) (by decide)] at y
  refine ⟨am_wr f1 91 16 (nI (px_ru px_pW L (n - s) s)), ?_, mf, by rw [pu_wr_n2 (by decide)]; exact x4, fun hk => by rw [pu_wr_eq, (px_tk_w hk).2.2.1]⟩
  unfold D_X8_wordPassed
  rw [x1, pu_bV, v3, y]
  by_cases hw : s < n ∧ px_pW (L s) = true
  · obtain ⟨k1, k2⟩ := px_tkW hw.1 hw.2
    rw [← k1, ← k2]
  · have hru : px_ru px_pW L (n - s) s = s := by
      by_cases hlt : s < n
      · exact px_ru_no (fun q => hw ⟨hlt, q⟩)
      · rw [show n - s = 0 by omega]; rfl
    have hk : ¬ (px_tk n L s = 1 ∨ px_tk n L s = 2 ∨ px_tk n L s = 3) := fun q => by
      have := px_tk_w q
      exact hw ⟨this.1, this.2.1⟩
    have hwk : px_wk L s s = 6 := by
      unfold px_wk px_s5
      simp
    rw [hru, hwk, if_neg (show ¬ (6 : Nat) = 1 by decide), if_neg (show ¬ (6 : Nat) = 2 by decide), if_neg (show ¬ (6 : Nat) = 3 by decide), if_neg (fun q => hk (Or.inl q)), if_neg (fun q => hk (Or.inr (Or.inl q))), if_neg (fun q => hk (Or.inr (Or.inr q)))]
end MI2
def px_ME (x : Option (Int32 × am_M)) (f : am_M) (o : Nat ⊕ (Nat × pu_T)) : Prop := ∃ f', px_Qf f f' ∧ match o with
  | Sum.inl p => x = some (-1, f') ∧ f' 91 17 = nI p
  | Sum.inr r => x = some (nI r.1, f') ∧ ∃ hs, px_Dm hs r.2 f'
theorem px_ME.fr {x : Option (Int32 × am_M)} {f g : am_M} {o : Nat ⊕ (Nat × pu_T)} (a : px_Qf f g) (h : px_ME x g o) : px_ME x f o := by
  obtain ⟨f', h1, h2⟩ := h
  exact ⟨f', a.trans h1, h2⟩
theorem px_m9 : ¬ (-9 : Int32) = 0 ∧ ¬ (-9 : Int32) = 1 ∧ ¬ (-9 : Int32) = 2 := by decide
theorem px_mRd (hn : n ≤ 120) : ∀ d fu c s hs (T : pu_T) (f : am_M), n < s + d → d ≤ fu → s ≤ n → px_sk n L s = s → hs ≤ 1 → pu_Tok T → px_Xm n L f → f 91 16 = nI s → px_Dm hs T f → px_ME (D_X8_reads_32 fu (nI c) f) f (px_rd n L d c s hs T)
  | 0, fu, c, s, hs, T, f, h, _, h2, _, _, _, _, _, _ => absurd h (by omega)
  | d + 1, 0, c, s, hs, T, f, _, h, _, _, _, _, _, _, _ => absurd h (by omega)
  | d + 1, fu + 1, c, s, hs, T, f, h1, h2, hs', hid, hh, hT, hX, h16, hD => by
    by_cases k0 : px_tk n L s = 0
    · have e : px_rd n L (d + 1) c s hs T = Sum.inr (c, T) := by rw [px_rd, if_pos k0]
      have := px_tk_0.mp k0
      rw [e]
      refine ⟨f, ⟨fun _ _ _ => rfl, fun _ _ => rfl⟩, ?_, hs, hD⟩
      rw [D_X8_reads_32, h16, hX.1, if_neg (pu_nlt (by omega) (by omega))]
    have hlt : s < n := Classical.byContradiction (fun q => k0 (px_tk_0.mpr q))
    have hnm := hT.2.1
    have hnt := hT.2.2.1
    have hg := px_it_good (L := L) (hs := hs) (T := T) hlt hh hT
    obtain ⟨f2, x1, x2, x3, x4⟩ := px_mWord (L := L) hn hs' hX h16 hid
    have hX2 := x2.X hX
    have hD2 := x2.D hD
    rw [px_rd_s k0]
    have main : ∀ x : Option (Int32 × am_M), px_MR n L x f2 (px_it n L s hs T) → px_ME (am_bI x fun v3 f3 => if v3 = 0 then some ((-1), f3) else am_bV (D_X8_skips f3) fun f4 => D_X8_reads_32 fu (nI (c + 1)) f4) f (match px_it n L s hs T with
        | Sum.inl p => Sum.inl p
        | Sum.inr r => px_rd n L d (c + 1) r.1 r.2.1 r.2.2) := fun x hx => by
      obtain ⟨f', p1, p2⟩ := hx
      have q1 := x2.Q.trans p1
      cases ho : px_it n L s hs T with
      | inl p =>
        rw [ho] at p2
        exact ⟨f', q1, by rw [p2.1, pu_bI, pu_i00], p2.2⟩
      | inr r =>
        rw [ho] at p2 hg
        obtain ⟨g1, g2, g3, g4⟩ : s < r.1 ∧ r.1 ≤ n ∧ r.2.1 ≤ 1 ∧ pu_Tok r.2.2 := hg
        obtain ⟨p3, ⟨a, a1, a2, a3⟩, p4⟩ := p2
        obtain ⟨f4, y1, y2, y3, y4⟩ := px_mSkip' hn (q1.X hX) a2 a1
        have q2 := q1.trans y2.Q
        have ih := px_mRd hn d fu (c + 1) r.1 r.2.1 r.2.2 f4 (by omega) (by omega) g2 (by rw [← a3]; exact px_sk_id a1) g3 g4 (q2.X hX) (by rw [y3, a3]) (y2.D p4)
        rw [p3, pu_bI, pu_i10, y1, pu_bV]
        exact ih.fr q2
    have stop : px_it n L s hs T = Sum.inl s → px_ME (some ((-1), f2)) f (match px_it n L s hs T with
        | Sum.inl p => Sum.inl p
        | Sum.inr r => px_rd n L d (c + 1) r.1 r.2.1 r.2.2) := fun e => by
      rw [e]
      exact ⟨f2, x2.Q, rfl, x3⟩
    rw [D_X8_reads_32, h16, hX.1, if_pos (pu_lt hlt (by omega)), x1, pu_bI, nI_1, hD.1, hD.2.2.1, hD.2.2.2.1]
    by_cases k1 : px_tk n L s = 1
    · rw [if_pos k1]
      by_cases c1 : hs = 0
      · rw [if_pos (by rw [c1]; rfl)]
        refine main _ ?_
        rw [px_it, if_pos k1]
        exact px_mS hn hs' hX2 (x4 (Or.inl k1)) c1 hD2
      · rw [if_neg (nI_ne0 (by omega) (by omega)), if_neg px_m9.1, if_neg px_m9.2.1, if_neg px_m9.2.2]
        exact stop (by rw [px_it, if_pos k1, px_iS, if_neg c1])
    rw [if_neg k1]
    by_cases k2 : px_tk n L s = 2
    · rw [if_pos k2]
      by_cases c1 : pu_nm T < 3
      · rw [if_pos (show nI (pu_nm T) < 3 from pu_lt (b := 3) c1 (by decide)), if_neg (show ¬ (1 : Int32) = 0 by decide), if_pos rfl]
        refine main _ ?_
        rw [px_it, if_neg k1, if_pos k2]
        exact px_mM hn hs' hX2 (x4 (Or.inr (Or.inl k2))) c1 hD2
      · rw [if_neg (show ¬ nI (pu_nm T) < 3 from pu_nlt (b := 3) (by omega) (by omega)), if_neg px_m9.1, if_neg px_m9.2.1, if_neg px_m9.2.2]
        exact stop (by rw [px_it, if_neg k1, if_pos k2, px_iM, if_neg c1])
    rw [if_neg k2]
    by_cases k3 : px_tk n L s = 3
    · rw [if_pos k3]
      by_cases c1 : pu_nt T < 6
      · rw [if_pos (show nI (pu_nt T) < 6 from pu_lt (b := 6) c1 (by decide)), if_neg (show ¬ (2 : Int32) = 0 by decide), if_neg (show ¬ (2 : Int32) = 1 by decide), if_pos rfl]
        refine main _ ?_
        rw [px_it, if_neg k1, if_neg k2, if_pos k3]
        exact px_mT hn hs' hX2 (x4 (Or.inr (Or.inr k3))) c1 hD2
      · rw [if_neg (show ¬ nI (pu_nt T) < 6 from pu_nlt (b := 6) (by omega) (by omega)), if_neg px_m9.1, if_neg px_m9.2.1, if_neg px_m9.2.2]
        exact stop (by rw [px_it, if_neg k1, if_neg k2, if_pos k3, px_iT, if_neg c1])
    rw [if_neg k3, if_neg px_m9.1, if_neg px_m9.2.1, if_neg px_m9.2.2]
    exact stop (by rw [px_it, if_neg k1, if_neg k2, if_neg k3])
theorem px_mRead (hn : n ≤ 120) {f : am_M} (hX : px_Xm n L f) : px_ME (D_X8_reads f) f (px_rd n L (n + 1) 0 (px_sk n L 0) 0 px_t0) := by
  obtain ⟨g, hg⟩ : ∃ g, g = am_wr (am_wr (am_wr (am_wr (am_wr f 91 16 0) 91 18 0) 91 19 8) 91 20 0) 91 21 0 := ⟨_, rfl⟩
  have qg : px_Qf f g := ⟨fun q a b => by rw [hg, am_wr_ne q a, am_wr_ne q a, am_wr_ne q a, am_wr_ne q a, am_wr_ne q a], fun j hj => by rw [hg, pu_wr_n2 (by omega), pu_wr_n2 (by omega), pu_wr_n2 (by omega), pu_wr_n2 (by omega), pu_wr_n2 (by omega)]⟩
  have g16 : g 91 16 = nI 0 := by rw [hg, pu_wr_n2 (by decide), pu_wr_n2 (by decide), pu_wr_n2 (by decide), pu_wr_n2 (by decide), pu_wr_eq]; rfl
  have hD : px_Dm 0 px_t0 g := by
    refine ⟨?_, ?_, ?_, ?_, fun m hm => absurd hm (Nat.not_lt_zero _), fun m hm => absurd hm (Nat.not_lt_zero _), fun m hm => absurd hm (Nat.not_lt_zero _)⟩
    · rw [hg, pu_wr_n2 (by decide), pu_wr_n2 (by decide), pu_wr_n2 (by decide), pu_wr_eq]; rfl
    · rw [hg, pu_wr_n2 (by decide), pu_wr_n2 (by decide), pu_wr_eq]; rfl
    · rw [hg, pu_wr_n2 (by decide), pu_wr_eq]; rfl
    · rw [hg, pu_wr_eq]; rfl
  obtain ⟨f1, y1, y2, y3, y4⟩ := px_mSkip' (L := L) hn (qg.X hX) g16 (Nat.zero_le _)
  have q2 := qg.trans y2.Q
  have r := px_mRd (L := L) hn (n + 1) am_fu 0 (px_sk n L 0) 0 px_t0 f1 (by omega) (by show n + 1 ≤ 6000; omega) (px_sk_le (Nat.zero_le n)) (px_sk_id (Nat.zero_le n)) (by decide) px_t0_ok (q2.X hX) y3 (y2.D hD)
  unfold D_X8_reads
  rw [← hg, y1, pu_bV]
  exact r.fr q2
end MI
