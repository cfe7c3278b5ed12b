/-! the component reads the text -/
section CRD
variable {n : Nat} {L : Nat → Int32}
theorem px_rd_s {d c s hs : Nat} {T : pu_T} (h : ¬ px_tk n L s = 0) : px_rd n L (d + 1) c s hs T = match px_it n L s hs T with
    | Sum.inl p => Sum.inl p
    | Sum.inr r => px_rd n L d (c + 1) r.1 r.2.1 r.2.2 := by
  rw [px_rd, if_neg h]
  cases px_it n L s hs T <;> rfl
def px_CE (x : Option (Int32 × am_M)) (n : Nat) (f : am_M) (o : Nat ⊕ (Nat × pu_T)) : Prop := ∃ f', px_Pf f f' ∧ match o with
  | Sum.inl p => x = some ((-10 : Int32) - nI p, f') ∧ p ≤ n
  | Sum.inr r => x = some (nI r.1, f') ∧ r.1 ≤ n ∧ pu_Tok r.2 ∧ ∃ hs, px_Dc hs r.2 f'
theorem px_CE.fr {x : Option (Int32 × am_M)} {f g : am_M} {o : Nat ⊕ (Nat × pu_T)} (a : px_Pf f g) (h : px_CE x n g o) : px_CE x n f o := by
  obtain ⟨f', h1, h2⟩ := h
  exact ⟨f', a.trans h1, h2⟩
theorem px_cRd (hn : n ≤ 120) : ∀ d fu c s hs (T : pu_T) (f : am_M), n < s + d → d ≤ fu → c ≤ s → s ≤ n → hs ≤ 1 → pu_Tok T → px_Xc n L f → px_Tok n L s f → px_Dc hs T f → px_CE (D_X5_readInto_20 fu (nI c) f) n f (px_rd n L d c s hs T)
  | 0, fu, c, s, hs, T, f, h, _, _, h2, _, _, _, _, _ => absurd h (by omega)
  | d + 1, 0, c, s, hs, T, f, _, h, _, _, _, _, _, _, _ => absurd h (by omega)
  | d + 1, fu + 1, c, s, hs, T, f, h1, h2, hc, hs', hh, hT, hX, hK, hD => by
    have hk6 := px_tk_le (n := n) (L := L) (s := s)
    by_cases k0 : px_tk n L s = 0
    · have e : px_rd n L (d + 1) c s hs T = Sum.inr (c, T) := by rw [px_rd, if_pos k0]
      rw [e]
      refine ⟨f, ⟨fun _ _ _ => rfl, rfl⟩, ?_, by show c ≤ n; omega, hT, hs, hD⟩
      rw [D_X5_readInto_20, hK.2.2.1, if_pos (by rw [k0]; rfl)]
    have hlt : s < n := Classical.byContradiction (fun q => k0 (px_tk_0.mpr q))
    have e0 : ¬ nI (px_tk n L s) = 0 := nI_ne0 (by omega) (by omega)
    have ec : nI c < 120 := pu_lt (b := 120) (by omega) (by decide)
    have hg := px_it_good (L := L) (hs := hs) (T := T) hlt hh hT
    rw [px_rd_s k0]
    have main : ∀ x : Option (Int32 × am_M), px_CR n L x f (px_it n L s hs T) → px_CE (am_bI x fun v3 f3 => if v3 = 0 then some ((((-10) : Int32) - (f3 1 3)), f3) else D_X5_readInto_20 fu (nI (c + 1)) f3) n f (match px_it n L s hs T with
        | Sum.inl p => Sum.inl p
        | Sum.inr r => px_rd n L d (c + 1) r.1 r.2.1 r.2.2) := fun x hx => by
      obtain ⟨f', p1, p2⟩ := hx
      cases ho : px_it n L s hs T with
      | inl p =>
        rw [ho] at p2 hg
        have hg : p ≤ n := hg
        exact ⟨f', p1, by rw [p2.1, pu_bI, pu_i00, p2.2], hg⟩
      | inr r =>
        rw [ho] at p2 hg
        obtain ⟨g1, g2, g3, g4⟩ : s < r.1 ∧ r.1 ≤ n ∧ r.2.1 ≤ 1 ∧ pu_Tok r.2.2 := hg
        have ih := px_cRd hn d fu (c + 1) r.1 r.2.1 r.2.2 f' (by omega) (by omega) (by omega) g2 g3 g4 (p1.X hX) p2.2.1 p2.2.2
        rw [p2.1, pu_bI, pu_i10]
        exact ih.fr p1
    rw [D_X5_readInto_20, hK.2.2.1, if_neg e0, if_pos ec, nI_1]
    by_cases k1 : px_tk n L s = 1
    · rw [if_pos (by rw [k1]; rfl)]
      refine main _ ?_
      rw [px_it, if_pos k1]
      exact px_cS hn hs' hh hX hK hD
    rw [if_neg (show ¬ nI (px_tk n L s) = 1 from pu_ne (b := 1) k1 (by omega) (by decide))]
    by_cases k2 : px_tk n L s = 2
    · rw [if_pos (by rw [k2]; rfl)]
      refine main _ ?_
      rw [px_it, if_neg k1, if_pos k2]
      exact px_cM hn hs' hT hX hK hD
    rw [if_neg (show ¬ nI (px_tk n L s) = 2 from pu_ne (b := 2) k2 (by omega) (by decide))]
    by_cases k3 : px_tk n L s = 3
    · rw [if_pos (by rw [k3]; rfl)]
      refine main _ ?_
      rw [px_it, if_neg k1, if_neg k2, if_pos k3]
      exact px_cT hn hs' hT hX hK hD
    rw [if_neg (show ¬ nI (px_tk n L s) = 3 from pu_ne (b := 3) k3 (by omega) (by decide))]
    have e : px_it n L s hs T = Sum.inl s := by rw [px_it, if_neg k1, if_neg k2, if_neg k3]
    rw [e]
    exact ⟨f, ⟨fun _ _ _ => rfl, rfl⟩, by rw [hK.1], hs'⟩
def px_t0 : pu_T := (8, 0, 0, (fun _ => 0), (fun _ => 0), (fun _ => 0))
theorem px_t0_ok : pu_Tok px_t0 := ⟨by decide, by decide, by decide, fun m hm => absurd hm (Nat.not_lt_zero _), fun t ht => absurd ht (Nat.not_lt_zero _)⟩
theorem px_cRead (hn : n ≤ 120) {f : am_M} (hX : px_Xc n L f) : px_CE (D_X5_readInto f) n f (px_rd n L (n + 1) 0 (px_sk n L 0) 0 px_t0) := by
  obtain ⟨g, hg⟩ : ∃ g, g = am_wr (am_wr (am_wr (am_wr (am_wr f 7 0 8) 7 1 0) 7 2 0) 1 7 0) 1 4 0 := ⟨_, rfl⟩
  have go : ∀ q, q ≠ 1 → q ≠ 7 → g q = f q := fun q a b => by rw [hg, am_wr_ne q a, am_wr_ne q a, am_wr_ne q b, am_wr_ne q b, am_wr_ne q b]
  have g1 : g 1 1 = f 1 1 := by rw [hg, pu_wr_n2 (by decide), pu_wr_n2 (by decide), pu_wr_n1 (by decide), pu_wr_n1 (by decide), pu_wr_n1 (by decide)]
  have pg : px_Pf f g := ⟨fun q a b => go q a (by omega), g1⟩
  obtain ⟨f1, x1, x2, x3⟩ := px_cNext (L := L) (f := g) (i := 0) hn (pg.X hX) (by rw [hg, pu_wr_eq]; rfl) (Nat.zero_le _)
  have hs := px_sk_le (L := L) (Nat.zero_le n)
  have hD : px_Dc 0 px_t0 g := by
    refine ⟨?_, ?_, ?_, ?_, fun m hm => absurd hm (Nat.not_lt_zero _), fun m hm => absurd hm (Nat.not_lt_zero _), fun m hm => absurd hm (Nat.not_lt_zero _)⟩
    · rw [hg, pu_wr_n2 (by decide), pu_wr_eq]; rfl
    · rw [hg, pu_wr_n1 (by decide), pu_wr_n1 (by decide), pu_wr_n2 (by decide), pu_wr_n2 (by decide), pu_wr_eq]; rfl
    · rw [hg, pu_wr_n1 (by decide), pu_wr_n1 (by decide), pu_wr_n2 (by decide), pu_wr_eq]; rfl
    · rw [hg, pu_wr_n1 (by decide), pu_wr_n1 (by decide), pu_wr_eq]; rfl
  have pf := pg.trans x2.A.P
  have r := px_cRd (L := L) hn (n + 1) am_fu 0 (px_sk n L 0) 0 px_t0 f1 (by omega) (by show n + 1 ≤ 6000; omega) (Nat.zero_le _) hs (by decide) px_t0_ok (pf.X hX) x3 (x2.A.D hD)
  unfold D_X5_readInto D_X6_reset
  rw [pu_bV, ← hg, x1, pu_bV]
  exact r.fr pf
end CRD
