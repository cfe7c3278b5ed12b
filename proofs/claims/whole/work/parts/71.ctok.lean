/-! the component's tokens -/
def px_Xc (n : Nat) (L : Nat → Int32) (f : am_M) : Prop := f 1 1 = nI n ∧ ∀ i, i < n → f 2 i = L i
theorem px_isW (a : Int32) (f : am_M) : D_X5_isWordLetter a f = some (if px_pW a = true then 1 else 0, f) := by
  unfold D_X5_isWordLetter px_pW
  by_cases h1 : a < 97
  · rw [if_pos h1, if_neg (by simp [h1])]
  · rw [if_neg h1]
    by_cases h2 : 122 < a
    · rw [if_pos h2, if_neg (by simp [h2])]
    · rw [if_neg h2, if_pos (by simp [h1, h2])]
theorem px_isF (a : Int32) (f : am_M) : D_X5_isFigure a f = some (if px_pF a = true then 1 else 0, f) := by
  unfold D_X5_isFigure px_pF
  by_cases h1 : a < 48
  · rw [if_pos h1, if_neg (by simp [h1])]
  · rw [if_neg h1]
    by_cases h2 : 57 < a
    · rw [if_pos h2, if_neg (by simp [h2])]
    · rw [if_neg h2, if_pos (by simp [h1, h2])]
section CW
variable {n : Nat} {L : Nat → Int32} {f : am_M} {s e : Nat}
theorem px_isW0 (hn : n ≤ 120) (hX : px_Xc n L f) (h3 : f 1 3 = nI s) (h4 : f 1 4 = nI e) (hse : s ≤ e) (he : e ≤ n) : D_X5_isWord_0 f = some (if px_s5 L s e 115 108 111 116 115 = true then 1 else 0, f) := by
  unfold D_X5_isWord_0
  rw [h3, h4, pu_subN hse]
  by_cases h0 : e = s + 5
  · have e0 : nI (e - s) = 5 := by rw [h0, Nat.add_sub_cancel_left]; rfl
    have p0 : nI s + 0 = nI s := nI_add s 0
    have p1 : nI s + 1 = nI (s + 1) := nI_add s 1
    have p2 : nI s + 2 = nI (s + 2) := nI_add s 2
    have p3 : nI s + 3 = nI (s + 3) := nI_add s 3
    have p4 : nI s + 4 = nI (s + 4) := nI_add s 4
    rw [if_pos e0, p0, p1, p2, p3, p4, pu_chk (k := s) (by omega) (by decide), pu_chk (k := s + 1) (by omega) (by decide), pu_chk (k := s + 2) (by omega) (by decide), pu_chk (k := s + 3) (by omega) (by decide), pu_chk (k := s + 4) (by omega) (by decide), nI_clamp (n := s) (by omega), nI_clamp (n := s + 1) (by omega), nI_clamp (n := s + 2) (by omega), nI_clamp (n := s + 3) (by omega), nI_clamp (n := s + 4) (by omega), hX.2 s (by omega), hX.2 (s + 1) (by omega), hX.2 (s + 2) (by omega), hX.2 (s + 3) (by omega), hX.2 (s + 4) (by omega)]
    unfold px_s5
    by_cases h1 : L s = 115 <;> by_cases h2 : L (s + 1) = 108 <;> by_cases h3 : L (s + 2) = 111 <;> by_cases h4 : L (s + 3) = 116 <;> by_cases h5 : L (s + 4) = 115 <;> simp [h0, h1, h2, h3, h4, h5]
  · have e0 : ¬ nI (e - s) = 5 := pu_ne (b := 5) (by omega) (by omega) (by decide)
    rw [if_neg e0]
    unfold px_s5
    simp [h0]
theorem px_isW1 (hn : n ≤ 120) (hX : px_Xc n L f) (h3 : f 1 3 = nI s) (h4 : f 1 4 = nI e) (hse : s ≤ e) (he : e ≤ n) : D_X5_isWord_1 f = some (if px_s5 L s e 109 97 107 101 114 = true then 1 else 0, f) := by
  unfold D_X5_isWord_1
  rw [h3, h4, pu_subN hse]
  by_cases h0 : e = s + 5
  · have e0 : nI (e - s) = 5 := by rw [h0, Nat.add_sub_cancel_left]; rfl
    have p0 : nI s + 0 = nI s := nI_add s 0
    have p1 : nI s + 1 = nI (s + 1) := nI_add s 1
    have p2 : nI s + 2 = nI (s + 2) := nI_add s 2
    have p3 : nI s + 3 = nI (s + 3) := nI_add s 3
    have p4 : nI s + 4 = nI (s + 4) := nI_add s 4
    rw [if_pos e0, p0, p1, p2, p3, p4, pu_chk (k := s) (by omega) (by decide), pu_chk (k := s + 1) (by omega) (by decide), pu_chk (k := s + 2) (by omega) (by decide), pu_chk (k := s + 3) (by omega) (by decide), pu_chk (k := s + 4) (by omega) (by decide), nI_clamp (n := s) (by omega), nI_clamp (n := s + 1) (by omega), nI_clamp (n := s + 2) (by omega), nI_clamp (n := s + 3) (by omega), nI_clamp (n := s + 4) (by omega), hX.2 s (by omega), hX.2 (s + 1) (by omega), hX.2 (s + 2) (by omega), hX.2 (s + 3) (by omega), hX.2 (s + 4) (by omega)]
    unfold px_s5
    by_cases h1 : L s = 109 <;> by_cases h2 : L (s + 1) = 97 <;> by_cases h3 : L (s + 2) = 107 <;> by_cases h4 : L (s + 3) = 101 <;> by_cases h5 : L (s + 4) = 114 <;> simp [h0, h1, h2, h3, h4, h5]
  · have e0 : ¬ nI (e - s) = 5 := pu_ne (b := 5) (by omega) (by omega) (by decide)
    rw [if_neg e0]
    unfold px_s5
    simp [h0]
theorem px_isW2 (hn : n ≤ 120) (hX : px_Xc n L f) (h3 : f 1 3 = nI s) (h4 : f 1 4 = nI e) (hse : s ≤ e) (he : e ≤ n) : D_X5_isWord_2 f = some (if px_s5 L s e 116 97 107 101 114 = true then 1 else 0, f) := by
  unfold D_X5_isWord_2
  rw [h3, h4, pu_subN hse]
  by_cases h0 : e = s + 5
  · have e0 : nI (e - s) = 5 := by rw [h0, Nat.add_sub_cancel_left]; rfl
    have p0 : nI s + 0 = nI s := nI_add s 0
    have p1 : nI s + 1 = nI (s + 1) := nI_add s 1
    have p2 : nI s + 2 = nI (s + 2) := nI_add s 2
    have p3 : nI s + 3 = nI (s + 3) := nI_add s 3
    have p4 : nI s + 4 = nI (s + 4) := nI_add s 4
    rw [if_pos e0, p0, p1, p2, p3, p4, pu_chk (k := s) (by omega) (by decide), pu_chk (k := s + 1) (by omega) (by decide), pu_chk (k := s + 2) (by omega) (by decide), pu_chk (k := s + 3) (by omega) (by decide), pu_chk (k := s + 4) (by omega) (by decide), nI_clamp (n := s) (by omega), nI_clamp (n := s + 1) (by omega), nI_clamp (n := s + 2) (by omega), nI_clamp (n := s + 3) (by omega), nI_clamp (n := s + 4) (by omega), hX.2 s (by omega), hX.2 (s + 1) (by omega), hX.2 (s + 2) (by omega), hX.2 (s + 3) (by omega), hX.2 (s + 4) (by omega)]
    unfold px_s5
    by_cases h1 : L s = 116 <;> by_cases h2 : L (s + 1) = 97 <;> by_cases h3 : L (s + 2) = 107 <;> by_cases h4 : L (s + 3) = 101 <;> by_cases h5 : L (s + 4) = 114 <;> simp [h0, h1, h2, h3, h4, h5]
  · have e0 : ¬ nI (e - s) = 5 := pu_ne (b := 5) (by omega) (by omega) (by decide)
    rw [if_neg e0]
    unfold px_s5
    simp [h0]
def px_cw (f : am_M) : Option am_M := am_bI (D_X5_isWord_0 f) fun v5 f5 => if v5 = 0 then am_bI (D_X5_isWord_1 f5) fun v6 f6 => if v6 = 0 then am_bI (D_X5_isWord_2 f6) fun v7 f7 => if v7 = 0 then some (am_wr f7 1 2 6) else some (am_wr f7 1 2 3) else some (am_wr f6 1 2 2) else some (am_wr f5 1 2 1)
theorem px_cw_eq (m : Nat) (f : am_M) : D_X5_readWord_8 (m + 1) f = if f 1 4 < f 1 1 then am_chk (f 1 4) 120 (am_bI (D_X5_isWordLetter (f 2 (f 1 4).toNatClampNeg) f) fun v1 f1 => if v1 = 0 then px_cw f1 else D_X5_readWord_8 m (am_wr f1 1 4 (f1 1 4 + 1))) else px_cw f := rfl
theorem px_cwv (hn : n ≤ 120) (hX : px_Xc n L f) (h3 : f 1 3 = nI s) (h4 : f 1 4 = nI e) (hse : s ≤ e) (he : e ≤ n) : px_cw f = some (am_wr f 1 2 (nI (px_wk L s e))) := by
  unfold px_cw px_wk
  rw [px_isW0 hn hX h3 h4 hse he, pu_bI]
  by_cases a1 : px_s5 L s e 115 108 111 116 115 = true
  · rw [if_pos a1, if_pos a1, pu_i10]; rfl
  rw [if_neg a1, if_neg a1, pu_i00, px_isW1 hn hX h3 h4 hse he, pu_bI]
  by_cases a2 : px_s5 L s e 109 97 107 101 114 = true
  · rw [if_pos a2, if_pos a2, pu_i10]; rfl
  rw [if_neg a2, if_neg a2, pu_i00, px_isW2 hn hX h3 h4 hse he, pu_bI]
  by_cases a3 : px_s5 L s e 116 97 107 101 114 = true
  · rw [if_pos a3, if_pos a3, pu_i10]; rfl
  rw [if_neg a3, if_neg a3, pu_i00]; rfl
end CW
theorem px_cw8 {n : Nat} {L : Nat → Int32} (hn : n ≤ 120) : ∀ d fu e (f : am_M), e + d = n → d < fu → px_Xc n L f → D_X5_readWord_8 fu (am_wr f 1 4 (nI e)) = px_cw (am_wr f 1 4 (nI (px_ru px_pW L d e)))
  | d, 0, e, f, _, h, _ => absurd h (by omega)
  | 0, fu + 1, e, f, h1, h2, hX => by
    rw [px_cw_eq, pu_wr_eq, pu_wr_n2 (by decide), hX.1, if_neg (pu_nlt (by omega) (by omega))]
    rfl
  | d + 1, fu + 1, e, f, h1, h2, hX => by
    have ih := px_cw8 hn d fu (e + 1) f (by omega) (by omega) hX
    rw [px_cw_eq, pu_wr_eq, pu_wr_n2 (by decide), hX.1, if_pos (pu_lt (by omega) (by omega)), pu_chk (by omega) (by decide), nI_clamp (by omega), pu_wr_n1 (by decide), hX.2 e (by omega), px_isW, pu_bI]
    show _ = px_cw (am_wr f 1 4 (nI (if px_pW (L e) = true then px_ru px_pW L d (e + 1) else e)))
    by_cases hp : px_pW (L e) = true
    · rw [if_pos hp, if_pos hp, pu_i10, pu_wr_eq, nI_1, pu_wr_wr]
      exact ih
    · rw [if_neg hp, if_neg hp, pu_i00]
def px_cn (f : am_M) : Option am_M := am_chk (f 1 3) 120 (if f 2 (f 1 3).toNatClampNeg = 48 then if f 1 3 + 1 < f 1 4 then some (am_wr f 1 2 6) else if 99 < f 1 5 then some (am_wr f 1 2 6) else some (am_wr f 1 2 4) else if 99 < f 1 5 then some (am_wr f 1 2 6) else some (am_wr f 1 2 4))
theorem px_cn_eq (m : Nat) (f : am_M) : D_X5_readNumber_13 (m + 1) f = if f 1 4 < f 1 1 then am_chk (f 1 4) 120 (am_bI (D_X5_isFigure (f 2 (f 1 4).toNatClampNeg) f) fun v1 f1 => if v1 = 0 then px_cn f1 else am_chk (f1 1 4) 120 (am_bI (D_J9_min_7cf53 ((((10 : Int32) * (f1 1 5)) + (f1 2 (f1 1 4).toNatClampNeg)) - 48) 100 f1) fun v2 f2 => D_X5_readNumber_13 m (am_wr (am_wr f2 1 5 v2) 1 4 ((f2 1 4) + 1)))) else px_cn f := rfl
theorem px_cnv {n : Nat} {L : Nat → Int32} {f : am_M} {s e v : Nat} (hn : n ≤ 120) (hX : px_Xc n L f) (h3 : f 1 3 = nI s) (h4 : f 1 4 = nI e) (h5 : f 1 5 = nI v) (hs : s < n) (he : e ≤ n) (hv : v ≤ 100) : px_cn f = some (am_wr f 1 2 (nI (px_nk L s e v))) := by
  unfold px_cn px_nk
  rw [h3, h4, h5, pu_chk (by omega) (by decide), nI_clamp (by omega), hX.2 s hs, nI_1]
  by_cases hv9 : 99 < v
  · have e9 : (99 : Int32) < nI v := pu_lt (a := 99) hv9 (by omega)
    rw [if_pos e9, if_pos (Or.inr hv9)]
    by_cases h8 : L s = 48
    · rw [if_pos h8]
      by_cases hh : s + 1 < e
      · rw [if_pos (pu_lt hh (by omega))]; rfl
      · rw [if_neg (pu_nlt (by omega) (by omega))]; rfl
    · rw [if_neg h8]; rfl
  · have e9 : ¬ (99 : Int32) < nI v := pu_nlt (a := 99) (by omega) (by decide)
    rw [if_neg e9]
    by_cases h8 : L s = 48
    · rw [if_pos h8]
      by_cases hh : s + 1 < e
      · rw [if_pos (pu_lt hh (by omega)), if_pos (Or.inl ⟨h8, hh⟩)]; rfl
      · rw [if_neg (pu_nlt (by omega) (by omega)), if_neg (by omega)]; rfl
    · rw [if_neg h8, if_neg (fun q => by rcases q with q | q; exact h8 q.1; exact hv9 q)]; rfl
theorem px_dig {v : Nat} {a : Int32} (h : px_pF a = true) : (((10 : Int32) * nI v) + a) - 48 = nI (10 * v + (a.toNatClampNeg - 48)) := by
  obtain ⟨c, c1, c2, c3⟩ := px_fig h
  rw [c3, c2]
  have e1 : (10 : Int32) * nI v = nI (10 * v) := pu_mul 10 v
  have e2 : nI (10 * v + (48 + c)) - 48 = nI (10 * v + (48 + c) - 48) := pu_subN (b := 48) (by omega)
  rw [e1, nI_add, e2]
  congr 1
  omega
theorem px_cn13 {n : Nat} {L : Nat → Int32} (hn : n ≤ 120) : ∀ d fu e v (f : am_M), e + d = n → d < fu → v ≤ 100 → px_Xc n L f → D_X5_readNumber_13 fu (am_wr (am_wr f 1 5 (nI v)) 1 4 (nI e)) = px_cn (am_wr (am_wr f 1 5 (nI (px_va L d e v))) 1 4 (nI (px_ru px_pF L d e)))
  | d, 0, e, v, f, _, h, _, _ => absurd h (by omega)
  | 0, fu + 1, e, v, f, h1, h2, hv, hX => by
    have k1 : am_wr (am_wr f 1 5 (nI v)) 1 4 (nI e) 1 1 = nI n := by rw [pu_wr_n2 (by decide), pu_wr_n2 (by decide)]; exact hX.1
    rw [px_cn_eq, pu_wr_eq, k1, if_neg (pu_nlt (by omega) (by omega))]
    rfl
  | d + 1, fu + 1, e, v, f, h1, h2, hv, hX => by
    have k1 : am_wr (am_wr f 1 5 (nI v)) 1 4 (nI e) 1 1 = nI n := by rw [pu_wr_n2 (by decide), pu_wr_n2 (by decide)]; exact hX.1
    have k2 : am_wr (am_wr f 1 5 (nI v)) 1 4 (nI e) 2 e = L e := by rw [pu_wr_n1 (by decide), pu_wr_n1 (by decide)]; exact hX.2 e (by omega)
    have k5 : am_wr (am_wr f 1 5 (nI v)) 1 4 (nI e) 1 5 = nI v := by rw [pu_wr_n2 (by decide), pu_wr_eq]
    rw [px_cn_eq, pu_wr_eq, k1, if_pos (pu_lt (by omega) (by omega)), pu_chk (by omega) (by decide), nI_clamp (by omega), k2, px_isF, pu_bI]
    show _ = px_cn (am_wr (am_wr f 1 5 (nI (if px_pF (L e) = true then px_va L d (e + 1) (min (10 * v + ((L e).toNatClampNeg - 48)) 100) else v))) 1 4 (nI (if px_pF (L e) = true then px_ru px_pF L d (e + 1) else e)))
    by_cases hp : px_pF (L e) = true
    · obtain ⟨c, c1, c2, c3⟩ := px_fig hp
      have ih := px_cn13 hn d fu (e + 1) (min (10 * v + ((L e).toNatClampNeg - 48)) 100) f (by omega) (by omega) (by omega) hX
      have hm : D_J9_min_7cf53 (nI (10 * v + ((L e).toNatClampNeg - 48))) 100 (am_wr (am_wr f 1 5 (nI v)) 1 4 (nI e)) = some (nI (min (10 * v + ((L e).toNatClampNeg - 48)) 100), _) := pu_min (b := 100) (by omega) (by decide)
      rw [if_pos hp, if_pos hp, if_pos hp, pu_i10, pu_wr_eq, pu_chk (by omega) (by decide), k5, nI_clamp (by omega), k2, px_dig hp, hm, pu_bI, pu_wr_eq, nI_1, pu_wr_sw (by decide), pu_wr_wr]
      exact ih
    · rw [if_neg hp, if_neg hp, if_neg hp, pu_i00]
def px_cx (f : am_M) : Option am_M := if f 1 3 < f 1 1 then am_chk (f 1 3) 120 (am_bI (D_X5_isWordLetter (f 2 (f 1 3).toNatClampNeg) f) fun v5 f5 => if v5 = 0 then am_chk (f5 1 3) 120 (am_bI (D_X5_isFigure (f5 2 (f5 1 3).toNatClampNeg) f5) fun v6 f6 => if v6 = 0 then am_chk (f6 1 3) 120 (if f6 2 (f6 1 3).toNatClampNeg = 59 then some (am_wr (am_wr f6 1 4 (f6 1 3 + 1)) 1 2 5) else some (am_wr (am_wr f6 1 4 (f6 1 3 + 1)) 1 2 6)) else am_bV (D_X5_readNumber f6) fun f7 => some f7) else am_bV (D_X5_readWord f5) fun f8 => some f8) else some (am_wr (am_wr f 1 4 (f 1 3)) 1 2 0)
theorem px_cx_eq (m : Nat) (f : am_M) : D_X5_next_8 (m + 1) f = if f 1 3 < f 1 1 then am_chk (f 1 3) 120 (if f 2 (f 1 3).toNatClampNeg = 32 then D_X5_next_8 m (am_wr f 1 3 (f 1 3 + 1)) else px_cx f) else px_cx f := rfl
theorem px_cx8 {n : Nat} {L : Nat → Int32} (hn : n ≤ 120) : ∀ d fu s (f : am_M), s + d = n → d < fu → px_Xc n L f → D_X5_next_8 fu (am_wr f 1 3 (nI s)) = px_cx (am_wr f 1 3 (nI (px_ru px_pS L d s)))
  | d, 0, e, f, _, h, _ => absurd h (by omega)
  | 0, fu + 1, e, f, h1, h2, hX => by
    rw [px_cx_eq, pu_wr_eq, pu_wr_n2 (by decide), hX.1, if_neg (pu_nlt (by omega) (by omega))]
    rfl
  | d + 1, fu + 1, e, f, h1, h2, hX => by
    have ih := px_cx8 hn d fu (e + 1) f (by omega) (by omega) hX
    rw [px_cx_eq, pu_wr_eq, pu_wr_n2 (by decide), hX.1, if_pos (pu_lt (by omega) (by omega)), pu_chk (by omega) (by decide), nI_clamp (by omega), pu_wr_n1 (by decide), hX.2 e (by omega)]
    show _ = px_cx (am_wr f 1 3 (nI (if px_pS (L e) = true then px_ru px_pS L d (e + 1) else e)))
    by_cases hp : L e = 32
    · rw [if_pos hp, if_pos (by simp [px_pS, hp]), nI_1, pu_wr_wr]
      exact ih
    · rw [if_neg hp, if_neg (by simp [px_pS, hp])]
/-- where a token is looked at -/
def px_Tok (n : Nat) (L : Nat → Int32) (s : Nat) (f : am_M) : Prop := f 1 3 = nI s ∧ f 1 4 = nI (px_te n L s) ∧ f 1 2 = nI (px_tk n L s) ∧ (px_tk n L s = 4 → f 1 5 = nI (px_tv n L s))
def px_Nf (f f' : am_M) : Prop := (∀ q, q ≠ 1 → f' q = f q) ∧ ∀ j, j < 2 ∨ 5 < j → f' 1 j = f 1 j
theorem px_Nf.X {n : Nat} {L : Nat → Int32} {f f' : am_M} (h : px_Nf f f') (hX : px_Xc n L f) : px_Xc n L f' := ⟨by rw [h.2 1 (by decide)]; exact hX.1, fun i hi => by rw [h.1 2 (by decide)]; exact hX.2 i hi⟩
theorem px_cxv {n : Nat} {L : Nat → Int32} {f : am_M} {s : Nat} (hn : n ≤ 120) (hX : px_Xc n L f) (h3 : f 1 3 = nI s) (hs : s ≤ n) : ∃ f', px_cx f = some f' ∧ px_Nf f f' ∧ px_Tok n L s f' := by
  unfold px_cx
  rw [h3, hX.1]
  by_cases hlt : s < n
  · have hte := px_te_le (L := L) hs
    have htg := px_te_gt (L := L) hlt
    rw [if_pos (pu_lt hlt (by omega)), pu_chk (by omega) (by decide), nI_clamp (by omega), hX.2 s hlt, px_isW, pu_bI]
    by_cases hw : px_pW (L s) = true
    · obtain ⟨t1, t2⟩ := px_tkW hlt hw
      have x := px_cw8 (L := L) hn (n - s) am_fu s f (by omega) (by show n - s < 6000; omega) hX
      rw [← t1] at x
      have y := px_cwv (L := L) (f := am_wr f 1 4 (nI (px_te n L s))) (s := s) (e := px_te n L s) hn ⟨by rw [pu_wr_n2 (by decide)]; exact hX.1, fun i hi => by rw [pu_wr_n1 (by decide)]; exact hX.2 i hi⟩ (by rw [pu_wr_n2 (by decide)]; exact h3) pu_wr_eq (by omega) hte
      rw [← t2] at y
      refine ⟨am_wr (am_wr f 1 4 (nI (px_te n L s))) 1 2 (nI (px_tk n L s)), ?_, ⟨fun q hq => by rw [am_wr_ne q hq, am_wr_ne q hq], fun j hj => by rw [pu_wr_n2 (by omega), pu_wr_n2 (by omega)]⟩, ?_, ?_, pu_wr_eq, fun h4 => ?_⟩
      · unfold D_X5_readWord
        rw [if_pos hw, pu_i10, h3, x, y, pu_bV]
      · rw [pu_wr_n2 (by decide), pu_wr_n2 (by decide)]; exact h3
      · rw [pu_wr_n2 (by decide), pu_wr_eq]
      · exfalso
        have := px_wk_in (L := L) (s := s) (e := px_te n L s)
        omega
    · rw [if_neg hw, pu_i00, h3, pu_chk (by omega) (by decide), nI_clamp (by omega), hX.2 s hlt, px_isF, pu_bI]
      by_cases hf : px_pF (L s) = true
      · obtain ⟨t1, t2⟩ := px_tkF hlt hw hf
        have x := px_cn13 (L := L) hn (n - s) am_fu s 0 f (by omega) (by show n - s < 6000; omega) (by decide) hX
        rw [← t1, show px_va L (n - s) s 0 = px_tv n L s from rfl] at x
        have y := px_cnv (L := L) (f := am_wr (am_wr f 1 5 (nI (px_tv n L s))) 1 4 (nI (px_te n L s))) (s := s) (e := px_te n L s) (v := px_tv n L s) hn ⟨by rw [pu_wr_n2 (by decide), pu_wr_n2 (by decide)]; exact hX.1, fun i hi => by rw [pu_wr_n1 (by decide), pu_wr_n1 (by decide)]; exact hX.2 i hi⟩ (by rw [pu_wr_n2 (by decide), pu_wr_n2 (by decide)]; exact h3) pu_wr_eq (by rw [pu_wr_n2 (by decide), pu_wr_eq]) hlt hte (px_va_le _ _ _ (by decide))
        rw [← t2] at y
        have h3' : am_wr f 1 5 0 1 3 = nI s := by rw [pu_wr_n2 (by decide)]; exact h3
        refine ⟨am_wr (am_wr (am_wr f 1 5 (nI (px_tv n L s))) 1 4 (nI (px_te n L s))) 1 2 (nI (px_tk n L s)), ?_, ⟨fun q hq => by rw [am_wr_ne q hq, am_wr_ne q hq, am_wr_ne q hq], fun j hj => by rw [pu_wr_n2 (by omega), pu_wr_n2 (by omega), pu_wr_n2 (by omega)]⟩, ?_, ?_, pu_wr_eq, fun h4 => ?_⟩
        · unfold D_X5_readNumber
          rw [if_pos hf, pu_i10, h3, show D_X5_readNumber_13 am_fu (am_wr (am_wr f 1 5 0) 1 4 (nI s)) = _ from x, y, pu_bV]
        · rw [pu_wr_n2 (by decide), pu_wr_n2 (by decide), pu_wr_n2 (by decide)]; exact h3
        · rw [pu_wr_n2 (by decide), pu_wr_eq]
        · rw [pu_wr_n2 (by decide), pu_wr_n2 (by decide), pu_wr_eq]
      · obtain ⟨t1, t2⟩ := px_tkO hlt hw hf
        refine ⟨am_wr (am_wr f 1 4 (nI (px_te n L s))) 1 2 (nI (px_tk n L s)), ?_, ⟨fun q hq => by rw [am_wr_ne q hq, am_wr_ne q hq], fun j hj => by rw [pu_wr_n2 (by omega), pu_wr_n2 (by omega)]⟩, ?_, ?_, pu_wr_eq, fun h4 => ?_⟩
        · rw [if_neg hf, pu_i00, h3, pu_chk (by omega) (by decide), nI_clamp (by omega), hX.2 s hlt, nI_1, t1, t2]
          by_cases h9 : L s = 59
          · rw [if_pos h9, if_pos h9]; rfl
          · rw [if_neg h9, if_neg h9]; rfl
        · rw [pu_wr_n2 (by decide), pu_wr_n2 (by decide)]; exact h3
        · rw [pu_wr_n2 (by decide), pu_wr_eq]
        · exfalso
          rw [t2] at h4
          revert h4
          split <;> omega
  · have t0 : px_tk n L s = 0 := px_tk_0.mpr hlt
    have t1 : px_te n L s = s := by unfold px_te; rw [if_neg hlt]
    refine ⟨am_wr (am_wr f 1 4 (nI s)) 1 2 0, by rw [if_neg (pu_nlt (by omega) (by omega))], ⟨fun q hq => by rw [am_wr_ne q hq, am_wr_ne q hq], fun j hj => by rw [pu_wr_n2 (by omega), pu_wr_n2 (by omega)]⟩, ?_, ?_, ?_, fun h4 => ?_⟩
    · rw [pu_wr_n2 (by decide), pu_wr_n2 (by decide)]; exact h3
    · rw [pu_wr_n2 (by decide), pu_wr_eq, t1]
    · rw [pu_wr_eq, t0]; rfl
    · rw [t0] at h4; exact absurd h4 (by decide)
theorem px_cNext {n : Nat} {L : Nat → Int32} {f : am_M} {i : Nat} (hn : n ≤ 120) (hX : px_Xc n L f) (h4 : f 1 4 = nI i) (hi : i ≤ n) : ∃ f', D_X5_next f = some f' ∧ px_Nf f f' ∧ px_Tok n L (px_sk n L i) f' := by
  have x := px_cx8 (L := L) hn (n - i) am_fu i f (by omega) (by show n - i < 6000; omega) hX
  obtain ⟨f', y1, y2, y3⟩ := px_cxv (L := L) (f := am_wr f 1 3 (nI (px_sk n L i))) (s := px_sk n L i) hn ⟨by rw [pu_wr_n2 (by decide)]; exact hX.1, fun i hi => by rw [pu_wr_n1 (by decide)]; exact hX.2 i hi⟩ pu_wr_eq (px_sk_le hi)
  refine ⟨f', ?_, ⟨fun q hq => by rw [y2.1 q hq, am_wr_ne q hq], fun j hj => by rw [y2.2 j hj, pu_wr_n2 (by omega)]⟩, y3⟩
  unfold D_X5_next
  rw [h4, x]
  exact y1
