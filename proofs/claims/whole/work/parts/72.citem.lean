/-! items: what they are, and the component's reading of them -/
def px_nx (n : Nat) (L : Nat → Int32) (s : Nat) : Nat := px_sk n L (px_te n L s)
def px_ac (n : Nat) (L : Nat → Int32) (s lo hi : Nat) : Bool := decide (px_tk n L s = 4 ∧ lo ≤ px_tv n L s ∧ px_tv n L s ≤ hi)
abbrev px_O : Type := Nat ⊕ (Nat × Nat × pu_T)
def px_tS (T : pu_T) (v : Nat) : pu_T := (v, pu_nm T, pu_nt T, pu_ra T, pu_sp T, pu_bh T)
def px_tM (T : pu_T) (v : Nat) : pu_T := (pu_sl T, pu_nm T + 1, pu_nt T, pu_un (pu_ra T) (pu_nm T) v, pu_sp T, pu_bh T)
def px_tT (T : pu_T) (v w : Nat) : pu_T := (pu_sl T, pu_nm T, pu_nt T + 1, pu_ra T, pu_un (pu_sp T) (pu_nt T) v, pu_un (pu_bh T) (pu_nt T) w)
def px_end (n : Nat) (L : Nat → Int32) (s hs : Nat) (T : pu_T) : px_O := if px_tk n L s = 5 then Sum.inr (px_nx n L s, hs, T) else Sum.inl s
def px_iS (n : Nat) (L : Nat → Int32) (s hs : Nat) (T : pu_T) : px_O := if hs = 0 then (if px_ac n L (px_nx n L s) 2 16 = true then px_end n L (px_nx n L (px_nx n L s)) 1 (px_tS T (px_tv n L (px_nx n L s))) else Sum.inl (px_nx n L s)) else Sum.inl s
def px_iM (n : Nat) (L : Nat → Int32) (s hs : Nat) (T : pu_T) : px_O := if pu_nm T < 3 then (if px_ac n L (px_nx n L s) 0 9 = true then px_end n L (px_nx n L (px_nx n L s)) hs (px_tM T (px_tv n L (px_nx n L s))) else Sum.inl (px_nx n L s)) else Sum.inl s
def px_iT (n : Nat) (L : Nat → Int32) (s hs : Nat) (T : pu_T) : px_O := if pu_nt T < 6 then (if px_ac n L (px_nx n L s) 1 9 = true then (if px_ac n L (px_nx n L (px_nx n L s)) 0 (2 ^ pu_nt T - 1) = true then px_end n L (px_nx n L (px_nx n L (px_nx n L s))) hs (px_tT T (px_tv n L (px_nx n L s)) (px_tv n L (px_nx n L (px_nx n L s)))) else Sum.inl (px_nx n L (px_nx n L s))) else Sum.inl (px_nx n L s)) else Sum.inl s
def px_it (n : Nat) (L : Nat → Int32) (s hs : Nat) (T : pu_T) : px_O := if px_tk n L s = 1 then px_iS n L s hs T else if px_tk n L s = 2 then px_iM n L s hs T else if px_tk n L s = 3 then px_iT n L s hs T else Sum.inl s
def px_rd (n : Nat) (L : Nat → Int32) : Nat → Nat → Nat → Nat → pu_T → Nat ⊕ (Nat × pu_T)
  | 0, _, _, _, _ => Sum.inl 0
  | d + 1, c, s, hs, T => if px_tk n L s = 0 then Sum.inr (c, T) else match px_it n L s hs T with
    | Sum.inl p => Sum.inl p
    | Sum.inr r => px_rd n L d (c + 1) r.1 r.2.1 r.2.2
section IT
variable {n : Nat} {L : Nat → Int32}
theorem px_nx_le {s : Nat} (h : s ≤ n) : px_nx n L s ≤ n := px_sk_le (px_te_le h)
theorem px_nx_ge {s : Nat} (h : s ≤ n) : s ≤ px_nx n L s := by
  have h1 := px_sk_ge (n := n) (L := L) (i := px_te n L s)
  by_cases hs : s < n
  · have := px_te_gt (L := L) hs
    unfold px_nx; omega
  · have : px_te n L s = s := by unfold px_te; rw [if_neg hs]
    unfold px_nx; omega
theorem px_nx_gt {s : Nat} (h : s < n) : s < px_nx n L s := by
  have h1 := px_sk_ge (n := n) (L := L) (i := px_te n L s)
  have := px_te_gt (L := L) h
  unfold px_nx; omega
theorem px_tv_le {s : Nat} : px_tv n L s ≤ 100 := px_va_le _ _ _ (by decide)
/-- what an item's reading must give -/
def px_good (n s : Nat) (o : px_O) : Prop := match o with
  | Sum.inl p => p ≤ n
  | Sum.inr r => s < r.1 ∧ r.1 ≤ n ∧ r.2.1 ≤ 1 ∧ pu_Tok r.2.2
theorem px_end_good {s s0 hs : Nat} {T : pu_T} (h0 : s0 < s) (h : s ≤ n) (hh : hs ≤ 1) (hT : pu_Tok T) : px_good n s0 (px_end n L s hs T) := by
  unfold px_end
  by_cases h5 : px_tk n L s = 5
  · rw [if_pos h5]
    have := px_nx_ge (L := L) h
    exact ⟨by show s0 < px_nx n L s; omega, px_nx_le h, hh, hT⟩
  · rw [if_neg h5]; exact h
theorem px_it_good {s hs : Nat} {T : pu_T} (h : s < n) (hh : hs ≤ 1) (hT : pu_Tok T) : px_good n s (px_it n L s hs T) := by
  have hn1 := px_nx_gt (L := L) h
  have hl1 := px_nx_le (L := L) (show s ≤ n by omega)
  have hn2 := px_nx_ge (L := L) hl1
  have hl2 := px_nx_le (L := L) hl1
  have hn3 := px_nx_ge (L := L) hl2
  have hl3 := px_nx_le (L := L) hl2
  have hle : s ≤ n := by omega
  obtain ⟨t1, t2, t3, t4, t5⟩ := id hT
  unfold px_it
  by_cases k1 : px_tk n L s = 1
  · rw [if_pos k1]
    unfold px_iS
    by_cases c1 : hs = 0
    · rw [if_pos c1]
      by_cases c2 : px_ac n L (px_nx n L s) 2 16 = true
      · rw [if_pos c2]
        obtain ⟨_, a2, a3⟩ := of_decide_eq_true c2
        exact px_end_good (by omega) hl2 (by decide) ⟨⟨a2, a3⟩, t2, t3, t4, t5⟩
      · rw [if_neg c2]; exact hl1
    · rw [if_neg c1]; exact hle
  rw [if_neg k1]
  by_cases k2 : px_tk n L s = 2
  · rw [if_pos k2]
    unfold px_iM
    by_cases c1 : pu_nm T < 3
    · rw [if_pos c1]
      by_cases c2 : px_ac n L (px_nx n L s) 0 9 = true
      · rw [if_pos c2]
        obtain ⟨_, a2, a3⟩ := of_decide_eq_true c2
        refine px_end_good (by omega) hl2 hh ⟨t1, c1, t3, fun m hm => ?_, t5⟩
        have hm : m < pu_nm T + 1 := hm
        show pu_un (pu_ra T) (pu_nm T) _ m ≤ 9
        unfold pu_un
        by_cases e : m = pu_nm T
        · rw [if_pos e]; exact a3
        · rw [if_neg e]; exact t4 m (by omega)
      · rw [if_neg c2]; exact hl1
    · rw [if_neg c1]; exact hle
  rw [if_neg k2]
  by_cases k3 : px_tk n L s = 3
  · rw [if_pos k3]
    unfold px_iT
    by_cases c1 : pu_nt T < 6
    · rw [if_pos c1]
      by_cases c2 : px_ac n L (px_nx n L s) 1 9 = true
      · rw [if_pos c2]
        by_cases c3 : px_ac n L (px_nx n L (px_nx n L s)) 0 (2 ^ pu_nt T - 1) = true
        · rw [if_pos c3]
          obtain ⟨_, a2, a3⟩ := of_decide_eq_true c2
          obtain ⟨_, _, b3⟩ := of_decide_eq_true c3
          have hp : 0 < 2 ^ pu_nt T := Nat.pow_pos (by decide)
          refine px_end_good (by omega) hl3 hh ⟨t1, t2, c1, t4, fun t ht => ?_⟩
          have ht : t < pu_nt T + 1 := ht
          show 1 ≤ pu_un (pu_sp T) (pu_nt T) _ t ∧ pu_un (pu_sp T) (pu_nt T) _ t ≤ 9 ∧ pu_un (pu_bh T) (pu_nt T) _ t < 2 ^ t
          unfold pu_un
          by_cases e : t = pu_nt T
          · rw [if_pos e, if_pos e, e]; exact ⟨a2, a3, by omega⟩
          · rw [if_neg e, if_neg e]; exact t5 t (by omega)
        · rw [if_neg c3]; exact hl2
      · rw [if_neg c2]; exact hl1
    · rw [if_neg c1]; exact hle
  rw [if_neg k3]; exact hle
/-- the component's draft -/
def px_Dc (hs : Nat) (T : pu_T) (f : am_M) : Prop := f 1 7 = nI hs ∧ f 7 0 = nI (pu_sl T) ∧ f 7 1 = nI (pu_nm T) ∧ f 7 2 = nI (pu_nt T) ∧ (∀ m, m < pu_nm T → f 8 m = nI (pu_ra T m)) ∧ (∀ t, t < pu_nt T → f 9 t = nI (pu_sp T t)) ∧ (∀ t, t < pu_nt T → f 10 t = nI (pu_bh T t))
def px_Af (f f' : am_M) : Prop := (∀ q, q ≠ 1 → f' q = f q) ∧ ∀ j, j < 2 ∨ 6 < j → f' 1 j = f 1 j
def px_Pf (f f' : am_M) : Prop := (∀ q, q ≠ 1 → q < 7 ∨ 10 < q → f' q = f q) ∧ f' 1 1 = f 1 1
theorem px_Nf.A {f f' : am_M} (h : px_Nf f f') : px_Af f f' := ⟨h.1, fun j hj => h.2 j (by omega)⟩
theorem px_Af.P {f f' : am_M} (h : px_Af f f') : px_Pf f f' := ⟨fun q a _ => h.1 q a, h.2 1 (by decide)⟩
theorem px_Af.trans {f g h : am_M} (a : px_Af f g) (b : px_Af g h) : px_Af f h := ⟨fun q hq => (b.1 q hq).trans (a.1 q hq), fun j hj => (b.2 j hj).trans (a.2 j hj)⟩
theorem px_Pf.trans {f g h : am_M} (a : px_Pf f g) (b : px_Pf g h) : px_Pf f h := ⟨fun q hq h2 => (b.1 q hq h2).trans (a.1 q hq h2), b.2.trans a.2⟩
theorem px_Pf.X {f f' : am_M} (h : px_Pf f f') (hX : px_Xc n L f) : px_Xc n L f' := ⟨by rw [h.2]; exact hX.1, fun i hi => by rw [h.1 2 (by decide) (by decide)]; exact hX.2 i hi⟩
theorem px_Af.D {hs : Nat} {T : pu_T} {f f' : am_M} (h : px_Af f f') (hD : px_Dc hs T f) : px_Dc hs T f' := by
  unfold px_Dc at hD ⊢
  rw [h.2 7 (by decide), h.1 7 (by decide), h.1 8 (by decide), h.1 9 (by decide), h.1 10 (by decide)]
  exact hD
theorem px_Tok.fr {s : Nat} {f f' : am_M} (h : px_Tok n L s f) (e : ∀ j, j < 6 → f' 1 j = f 1 j) : px_Tok n L s f' := by
  unfold px_Tok at h ⊢
  rw [e 3 (by decide), e 4 (by decide), e 2 (by decide), e 5 (by decide)]
  exact h
def px_CR (n : Nat) (L : Nat → Int32) (x : Option (Int32 × am_M)) (f : am_M) (o : px_O) : Prop := ∃ f', px_Pf f f' ∧ match o with
  | Sum.inl p => x = some (0, f') ∧ f' 1 3 = nI p
  | Sum.inr r => x = some (1, f') ∧ px_Tok n L r.1 f' ∧ px_Dc r.2.1 r.2.2 f'
theorem px_CR.fr {x : Option (Int32 × am_M)} {f g : am_M} {o : px_O} (a : px_Pf f g) (h : px_CR n L x g o) : px_CR n L x f o := by
  obtain ⟨f', h1, h2⟩ := h
  exact ⟨f', a.trans h1, h2⟩
theorem px_CR.w1 {x : Option (Int32 × am_M)} {f : am_M} {o : px_O} (h : px_CR n L x f o) : (am_bI x fun v f3 => if v = 0 ∨ v = 1 then some (v, f3) else none) = x := by
  obtain ⟨f', h1, h2⟩ := h
  cases o with
  | inl p => rw [h2.1, pu_bI, if_pos (Or.inl rfl)]
  | inr r => rw [h2.1, pu_bI, if_pos (Or.inr rfl)]
theorem px_CR.w2 {x : Option (Int32 × am_M)} {f : am_M} {o : px_O} (h : px_CR n L x f o) : (am_bI x fun v f3 => if v = 0 then some (0, f3) else some (1, f3)) = x := by
  obtain ⟨f', h1, h2⟩ := h
  cases o with
  | inl p => rw [h2.1, pu_bI, pu_i00]
  | inr r => rw [h2.1, pu_bI, pu_i10]
theorem px_cAccept {f : am_M} {s lo hi : Nat} (hn : n ≤ 120) (hs : s ≤ n) (hlo : lo < 2 ^ 31) (hhi : hi < 2 ^ 31) (hX : px_Xc n L f) (hK : px_Tok n L s f) : (px_ac n L s lo hi = true ∧ ∃ f', D_X5_accept (nI lo) (nI hi) f = some (1, f') ∧ px_Af f f' ∧ f' 1 6 = nI (px_tv n L s) ∧ px_Tok n L (px_nx n L s) f') ∨ (¬ px_ac n L s lo hi = true ∧ D_X5_accept (nI lo) (nI hi) f = some (0, f)) := by
  have hv := px_tv_le (n := n) (L := L) (s := s)
  have hk := px_tk_le (n := n) (L := L) (s := s)
  unfold D_X5_accept
  rw [hK.2.2.1]
  by_cases h4 : px_tk n L s = 4
  · rw [hK.2.2.2 h4, if_pos (by rw [h4]; rfl)]
    by_cases h1 : px_tv n L s < lo
    · exact Or.inr ⟨fun q => by have := (of_decide_eq_true q).2.1; omega, by rw [if_pos (pu_lt h1 hlo)]⟩
    rw [if_neg (pu_nlt (by omega) (by omega))]
    by_cases h2 : hi < px_tv n L s
    · exact Or.inr ⟨fun q => by have := (of_decide_eq_true q).2.2; omega, by rw [if_pos (pu_lt h2 (by omega))]⟩
    rw [if_neg (pu_nlt (by omega) hhi)]
    obtain ⟨f', x1, x2, x3⟩ := px_cNext (L := L) (f := am_wr f 1 6 (nI (px_tv n L s))) (i := px_te n L s) hn ⟨by rw [pu_wr_n2 (by decide)]; exact hX.1, fun i hi => by rw [pu_wr_n1 (by decide)]; exact hX.2 i hi⟩ (by rw [pu_wr_n2 (by decide)]; exact hK.2.1) (px_te_le hs)
    refine Or.inl ⟨decide_eq_true ⟨h4, by omega, by omega⟩, f', by rw [x1, pu_bV], ⟨fun q hq => by rw [x2.1 q hq, am_wr_ne q hq], fun j hj => by rw [x2.2 j (by omega), pu_wr_n2 (by omega)]⟩, by rw [x2.2 6 (by decide), pu_wr_eq], x3⟩
  · exact Or.inr ⟨fun q => h4 (of_decide_eq_true q).1, by rw [if_neg (show ¬ nI (px_tk n L s) = 4 from pu_ne (b := 4) h4 (by omega) (by decide))]⟩
theorem px_cEnd {f : am_M} {s hs : Nat} {T : pu_T} (hn : n ≤ 120) (hs' : s ≤ n) (hX : px_Xc n L f) (hK : px_Tok n L s f) (hD : px_Dc hs T f) : px_CR n L (D_X5_acceptSemicolon f) f (px_end n L s hs T) := by
  have hk := px_tk_le (n := n) (L := L) (s := s)
  unfold D_X5_acceptSemicolon px_end
  rw [hK.2.2.1]
  by_cases h5 : px_tk n L s = 5
  · obtain ⟨f', x1, x2, x3⟩ := px_cNext (L := L) hn hX hK.2.1 (px_te_le hs')
    rw [if_pos h5, if_pos (by rw [h5]; rfl)]
    exact ⟨f', x2.A.P, by rw [x1, pu_bV], x3, x2.A.D hD⟩
  · rw [if_neg h5, if_neg (show ¬ nI (px_tk n L s) = 5 from pu_ne (b := 5) h5 (by omega) (by decide))]
    exact ⟨f, ⟨fun _ _ _ => rfl, rfl⟩, rfl, hK.1⟩
section IC
variable {f : am_M} {s hs : Nat} {T : pu_T}
theorem px_cS (hn : n ≤ 120) (hs' : s ≤ n) (hh : hs ≤ 1) (hX : px_Xc n L f) (hK : px_Tok n L s f) (hD : px_Dc hs T f) : px_CR n L (D_X5_readSlots f) f (px_iS n L s hs T) := by
  unfold D_X5_readSlots px_iS
  rw [hD.1]
  by_cases c1 : hs = 0
  · obtain ⟨f1, x1, x2, x3⟩ := px_cNext (L := L) hn hX hK.2.1 (px_te_le hs')
    have hX1 := x2.A.P.X hX
    have hl1 := px_nx_le (L := L) hs'
    rw [if_pos c1, if_pos (by rw [c1]; rfl), x1, pu_bV]
    rcases px_cAccept (lo := 2) (hi := 16) hn hl1 (by decide) (by decide) hX1 x3 with ⟨y0, f2, y1, y2, y3, y4⟩ | ⟨y0, y1⟩
    · rw [if_pos y0, show D_X5_accept 2 16 f1 = _ from y1, pu_bI, pu_i10, y3]
      have a2 := x2.A.trans y2
      have hD2 := a2.D hD
      have pf : px_Pf f (am_wr (am_wr f2 7 0 (nI (px_tv n L (px_nx n L s)))) 1 7 1) := ⟨fun q a b => by rw [am_wr_ne q a, am_wr_ne q (by omega)]; exact a2.1 q a, by rw [pu_wr_n2 (by decide), pu_wr_n1 (by decide)]; exact a2.2 1 (by decide)⟩
      have z := px_cEnd (L := L) (f := am_wr (am_wr f2 7 0 (nI (px_tv n L (px_nx n L s)))) 1 7 1) (s := px_nx n L (px_nx n L s)) (hs := 1) (T := px_tS T (px_tv n L (px_nx n L s))) hn (px_nx_le hl1) (pf.X hX) (y4.fr (fun j hj => by rw [pu_wr_n2 (by omega), pu_wr_n1 (by decide)])) ⟨pu_wr_eq, by rw [pu_wr_n1 (by decide), pu_wr_eq]; rfl, by rw [pu_wr_n1 (by decide), pu_wr_n2 (by decide)]; exact hD2.2.2.1, by rw [pu_wr_n1 (by decide), pu_wr_n2 (by decide)]; exact hD2.2.2.2.1, fun m hm => by rw [pu_wr_n1 (by decide), pu_wr_n1 (by decide)]; exact hD2.2.2.2.2.1 m hm, fun m hm => by rw [pu_wr_n1 (by decide), pu_wr_n1 (by decide)]; exact hD2.2.2.2.2.2.1 m hm, fun m hm => by rw [pu_wr_n1 (by decide), pu_wr_n1 (by decide)]; exact hD2.2.2.2.2.2.2 m hm⟩
      rw [z.w1]
      exact z.fr pf
    · rw [if_neg y0, show D_X5_accept 2 16 f1 = _ from y1, pu_bI, pu_i00]
      exact ⟨f1, x2.A.P, rfl, x3.1⟩
  · rw [if_neg c1, if_neg (nI_ne0 (by omega) (by omega))]
    exact ⟨f, ⟨fun _ _ _ => rfl, rfl⟩, rfl, hK.1⟩
theorem px_cM (hn : n ≤ 120) (hs' : s ≤ n) (hT : pu_Tok T) (hX : px_Xc n L f) (hK : px_Tok n L s f) (hD : px_Dc hs T f) : px_CR n L (D_X5_readMaker f) f (px_iM n L s hs T) := by
  have hnm := hT.2.1
  unfold D_X5_readMaker px_iM
  rw [hD.2.2.1]
  by_cases c1 : pu_nm T < 3
  · obtain ⟨f1, x1, x2, x3⟩ := px_cNext (L := L) hn hX hK.2.1 (px_te_le hs')
    have hX1 := x2.A.P.X hX
    have hl1 := px_nx_le (L := L) hs'
    have e1 : nI (pu_nm T) < 3 := pu_lt (b := 3) c1 (by decide)
    rw [if_pos c1, if_pos e1, x1, pu_bV]
    rcases px_cAccept (lo := 0) (hi := 9) hn hl1 (by decide) (by decide) hX1 x3 with ⟨y0, f2, y1, y2, y3, y4⟩ | ⟨y0, y1⟩
    · have a2 := x2.A.trans y2
      have hD2 := a2.D hD
      unfold D_X6_addMaker
      rw [if_pos y0, show D_X5_accept 0 9 f1 = _ from y1, pu_bI, pu_i10, y3, hD2.2.2.1, if_pos e1, pu_chk c1 (by decide), nI_clamp (by omega), pu_bI, pu_i10, nI_1]
      have pf : px_Pf f (am_wr (am_wr f2 8 (pu_nm T) (nI (px_tv n L (px_nx n L s)))) 7 1 (nI (pu_nm T + 1))) := ⟨fun q a b => by rw [am_wr_ne q (by omega), am_wr_ne q (by omega)]; exact a2.1 q a, by rw [pu_wr_n1 (by decide), pu_wr_n1 (by decide)]; exact a2.2 1 (by decide)⟩
      have z := px_cEnd (L := L) (f := am_wr (am_wr f2 8 (pu_nm T) (nI (px_tv n L (px_nx n L s)))) 7 1 (nI (pu_nm T + 1))) (s := px_nx n L (px_nx n L s)) (hs := hs) (T := px_tM T (px_tv n L (px_nx n L s))) hn (px_nx_le hl1) (pf.X hX) (y4.fr (fun j hj => by rw [pu_wr_n1 (by decide), pu_wr_n1 (by decide)])) ⟨by rw [pu_wr_n1 (by decide), pu_wr_n1 (by decide)]; exact hD2.1, by rw [pu_wr_n2 (by decide), pu_wr_n1 (by decide)]; exact hD2.2.1, by rw [pu_wr_eq]; rfl, by rw [pu_wr_n2 (by decide), pu_wr_n1 (by decide)]; exact hD2.2.2.2.1, fun m hm => by
        have hm : m < pu_nm T + 1 := hm
        rw [pu_wr_n1 (by decide), pu_wr_u]
        show _ = nI (pu_un (pu_ra T) (pu_nm T) _ m)
        by_cases e : m = pu_nm T
        · simp [upd, pu_un, e]
        · simp [upd, pu_un, e]; exact hD2.2.2.2.2.1 m (by omega), fun m hm => by rw [pu_wr_n1 (by decide), pu_wr_n1 (by decide)]; exact hD2.2.2.2.2.2.1 m hm, fun m hm => by rw [pu_wr_n1 (by decide), pu_wr_n1 (by decide)]; exact hD2.2.2.2.2.2.2 m hm⟩
      rw [z.w2]
      exact z.fr pf
    · rw [if_neg y0, show D_X5_accept 0 9 f1 = _ from y1, pu_bI, pu_i00]
      exact ⟨f1, x2.A.P, rfl, x3.1⟩
  · have e1 : ¬ nI (pu_nm T) < 3 := pu_nlt (b := 3) (by omega) (by omega)
    rw [if_neg c1, if_neg e1]
    exact ⟨f, ⟨fun _ _ _ => rfl, rfl⟩, rfl, hK.1⟩
theorem px_cT (hn : n ≤ 120) (hs' : s ≤ n) (hT : pu_Tok T) (hX : px_Xc n L f) (hK : px_Tok n L s f) (hD : px_Dc hs T f) : px_CR n L (D_X5_readTaker f) f (px_iT n L s hs T) := by
  have hnt := hT.2.2.1
  unfold D_X5_readTaker px_iT
  rw [hD.2.2.2.1]
  by_cases c1 : pu_nt T < 6
  · obtain ⟨f1, x1, x2, x3⟩ := px_cNext (L := L) hn hX hK.2.1 (px_te_le hs')
    have hX1 := x2.A.P.X hX
    have hl1 := px_nx_le (L := L) hs'
    have hl2 := px_nx_le (L := L) hl1
    have e1 : nI (pu_nt T) < 6 := pu_lt (b := 6) c1 (by decide)
    have h64 := pu_full64 (pu_nt T) (by omega)
    rw [if_pos c1, if_pos e1, x1, pu_bV]
    rcases px_cAccept (lo := 1) (hi := 9) hn hl1 (by decide) (by decide) hX1 x3 with ⟨y0, f2, y1, y2, y3, y4⟩ | ⟨y0, y1⟩
    · have a2 := x2.A.trans y2
      have hD2 := a2.D hD
      have hX2 := a2.P.X hX
      rw [if_pos y0, show D_X5_accept 1 9 f1 = _ from y1, pu_bI, pu_i10, hD2.2.2.2.1, pu_shl _ (by omega), y3]
      rcases px_cAccept (lo := 0) (hi := 2 ^ pu_nt T - 1) hn hl2 (by decide) (by omega) hX2 y4 with ⟨w0, f3, w1, w2, w3, w4⟩ | ⟨w0, w1⟩
      · have a3 := a2.trans w2
        have hD3 := a3.D hD
        unfold D_X6_addTaker
        rw [if_pos w0, show D_X5_accept 0 (nI (2 ^ pu_nt T - 1)) f2 = _ from w1, pu_bI, pu_i10, w3, hD3.2.2.2.1, if_pos e1, pu_chk c1 (by decide), pu_chk c1 (by decide), nI_clamp (by omega), pu_bI, pu_i10, nI_1]
        have pf : px_Pf f (am_wr (am_wr (am_wr f3 9 (pu_nt T) (nI (px_tv n L (px_nx n L s)))) 10 (pu_nt T) (nI (px_tv n L (px_nx n L (px_nx n L s))))) 7 2 (nI (pu_nt T + 1))) := ⟨fun q a b => by rw [am_wr_ne q (by omega), am_wr_ne q (by omega), am_wr_ne q (by omega)]; exact a3.1 q a, by rw [pu_wr_n1 (by decide), pu_wr_n1 (by decide), pu_wr_n1 (by decide)]; exact a3.2 1 (by decide)⟩
        have z := px_cEnd (L := L) (f := am_wr (am_wr (am_wr f3 9 (pu_nt T) (nI (px_tv n L (px_nx n L s)))) 10 (pu_nt T) (nI (px_tv n L (px_nx n L (px_nx n L s))))) 7 2 (nI (pu_nt T + 1))) (s := px_nx n L (px_nx n L (px_nx n L s))) (hs := hs) (T := px_tT T (px_tv n L (px_nx n L s)) (px_tv n L (px_nx n L (px_nx n L s)))) hn (px_nx_le hl2) (pf.X hX) (w4.fr (fun j hj => by rw [pu_wr_n1 (by decide), pu_wr_n1 (by decide), pu_wr_n1 (by decide)])) ⟨by rw [pu_wr_n1 (by decide), pu_wr_n1 (by decide), pu_wr_n1 (by decide)]; exact hD3.1, by rw [pu_wr_n2 (by decide), pu_wr_n1 (by decide), pu_wr_n1 (by decide)]; exact hD3.2.1, by rw [pu_wr_n2 (by decide), pu_wr_n1 (by decide), pu_wr_n1 (by decide)]; exact hD3.2.2.1, by rw [pu_wr_eq]; rfl, fun m hm => by rw [pu_wr_n1 (by decide), pu_wr_n1 (by decide), pu_wr_n1 (by decide)]; exact hD3.2.2.2.2.1 m hm, fun m hm => by
          have hm : m < pu_nt T + 1 := hm
          rw [pu_wr_n1 (by decide), pu_wr_n1 (by decide), pu_wr_u]
          show _ = nI (pu_un (pu_sp T) (pu_nt T) _ m)
          by_cases e : m = pu_nt T
          · simp [upd, pu_un, e]
          · simp [upd, pu_un, e]; exact hD3.2.2.2.2.2.1 m (by omega), fun m hm => by
          have hm : m < pu_nt T + 1 := hm
          rw [pu_wr_n1 (by decide), pu_wr_u, am_wr_ne _ (by decide)]
          show _ = nI (pu_un (pu_bh T) (pu_nt T) _ m)
          by_cases e : m = pu_nt T
          · simp [upd, pu_un, e]
          · simp [upd, pu_un, e]; exact hD3.2.2.2.2.2.2 m (by omega)⟩
        rw [z.w2]
        exact z.fr pf
      · rw [if_neg w0, show D_X5_accept 0 (nI (2 ^ pu_nt T - 1)) f2 = _ from w1, pu_bI, pu_i00]
        exact ⟨f2, a2.P, rfl, y4.1⟩
    · rw [if_neg y0, show D_X5_accept 1 9 f1 = _ from y1, pu_bI, pu_i00]
      exact ⟨f1, x2.A.P, rfl, x3.1⟩
  · have e1 : ¬ nI (pu_nt T) < 6 := pu_nlt (b := 6) (by omega) (by omega)
    rw [if_neg c1, if_neg e1]
    exact ⟨f, ⟨fun _ _ _ => rfl, rfl⟩, rfl, hK.1⟩
end IC
end IT
