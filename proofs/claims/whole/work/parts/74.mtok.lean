/-! the model's tokens -/
def px_Xm (n : Nat) (L : Nat → Int32) (f : am_M) : Prop := f 91 15 = nI n ∧ ∀ i, i < n → f 101 i = L i
theorem px_ms0 {n : Nat} {L : Nat → Int32} (hn : n ≤ 120) : ∀ d fu s (f : am_M), s + d = n → d < fu → px_Xm n L f → D_X8_skips_0 fu (am_wr f 91 16 (nI s)) = some (am_wr (am_wr f 91 16 (nI (px_ru px_pS L d s))) 91 17 (nI (px_ru px_pS L d s)))
  | d, 0, e, f, _, h, _ => absurd h (by omega)
  | 0, fu + 1, e, f, h1, h2, hX => by
    rw [D_X8_skips_0, pu_wr_eq, pu_wr_n2 (by decide), hX.1, if_neg (pu_nlt (by omega) (by omega))]
    rfl
  | d + 1, fu + 1, e, f, h1, h2, hX => by
    have ih := px_ms0 hn d fu (e + 1) f (by omega) (by omega) hX
    have er : px_ru px_pS L (d + 1) e = if px_pS (L e) = true then px_ru px_pS L d (e + 1) else e := rfl
    rw [D_X8_skips_0, pu_wr_eq, pu_wr_n2 (by decide), hX.1, if_pos (pu_lt (by omega) (by omega)), pu_chk (by omega) (by decide), nI_clamp (by omega), pu_wr_n1 (by decide), hX.2 e (by omega), er]
    by_cases hp : L e = 32
    · rw [if_pos hp, if_pos (by simp [px_pS, hp]), nI_1, pu_wr_wr]
      exact ih
    · rw [if_neg hp, if_neg (by simp [px_pS, hp])]
section MT
variable {n : Nat} {L : Nat → Int32} {f : am_M} {i : Nat}
theorem px_mSkip (hn : n ≤ 120) (hX : px_Xm n L f) (h : f 91 16 = nI i) (hi : i ≤ n) : D_X8_skips f = some (am_wr (am_wr f 91 16 (nI (px_sk n L i))) 91 17 (nI (px_sk n L i))) := by
  have x := px_ms0 (L := L) hn (n - i) am_fu i f (by omega) (by show n - i < 6000; omega) hX
  rw [pu_wr_id h] at x
  exact x
theorem px_mAt (hn : n ≤ 120) (hX : px_Xm n L f) (h : f 91 16 = nI i) (hi : i ≤ n) (lo hi : Int32) : D_X8_isAt lo hi f = some (if i < n ∧ (¬ L i < lo ∧ ¬ hi < L i) then 1 else 0, f) := by
  unfold D_X8_isAt D_X8_within
  rw [h, hX.1]
  by_cases hlt : i < n
  · rw [if_pos (pu_lt hlt (by omega)), pu_chk (by omega) (by decide), nI_clamp (by omega), hX.2 i hlt]
    by_cases h1 : L i < lo
    · rw [if_pos h1, pu_bI, pu_i00, if_neg (fun q => q.2.1 h1)]
    · rw [if_neg h1]
      by_cases h2 : hi < L i
      · rw [if_pos h2, pu_bI, pu_i00, if_neg (fun q => q.2.2 h2)]
      · rw [if_neg h2, pu_bI, pu_i10, if_pos ⟨hlt, h1, h2⟩]
  · rw [if_neg (pu_nlt (by omega) (by omega)), if_neg (fun q => hlt q.1)]
theorem px_mAtW (hn : n ≤ 120) (hX : px_Xm n L f) (h : f 91 16 = nI i) (hi : i ≤ n) : D_X8_isAt 97 122 f = some (if i < n ∧ px_pW (L i) = true then 1 else 0, f) := by
  rw [px_mAt hn hX h hi]
  simp only [px_pW, decide_eq_true_eq]
theorem px_mAtF (hn : n ≤ 120) (hX : px_Xm n L f) (h : f 91 16 = nI i) (hi : i ≤ n) : D_X8_isAt 48 57 f = some (if i < n ∧ px_pF (L i) = true then 1 else 0, f) := by
  rw [px_mAt hn hX h hi]
  simp only [px_pF, decide_eq_true_eq]
theorem px_eq59 {a : Int32} : (¬ a < 59 ∧ ¬ 59 < a) ↔ a = 59 := by
  constructor
  · intro q
    rw [Int32.lt_iff_toInt_lt, Int32.lt_iff_toInt_lt] at q
    exact Int32.toInt_inj.mp (by omega)
  · intro q
    subst q
    decide
theorem px_mAtE (hn : n ≤ 120) (hX : px_Xm n L f) (h : f 91 16 = nI i) (hi : i ≤ n) : D_X8_isAt 59 59 f = some (if px_tk n L i = 5 then 1 else 0, f) := by
  rw [px_mAt hn hX h hi]
  have e : (i < n ∧ (¬ L i < 59 ∧ ¬ 59 < L i)) ↔ px_tk n L i = 5 := by rw [px_eq59, px_tk_5]
  by_cases hc : px_tk n L i = 5
  · rw [if_pos hc, if_pos (e.mpr hc)]
  · rw [if_neg hc, if_neg (fun q => hc (e.mp q))]
/-- where the model reads -/
def px_Mf (f f' : am_M) : Prop := (∀ q, q ≠ 91 → f' q = f q) ∧ ∀ j, j ≠ 16 → j ≠ 17 → f' 91 j = f 91 j
theorem px_Mf.X {f f' : am_M} (h : px_Mf f f') (hX : px_Xm n L f) : px_Xm n L f' := ⟨by rw [h.2 15 (by decide) (by decide)]; exact hX.1, fun i hi => by rw [h.1 101 (by decide)]; exact hX.2 i hi⟩
theorem px_Mf.trans {f g h : am_M} (a : px_Mf f g) (b : px_Mf g h) : px_Mf f h := ⟨fun q h1 => (b.1 q h1).trans (a.1 q h1), fun j h1 h2 => (b.2 j h1 h2).trans (a.2 j h1 h2)⟩
theorem px_mSkip' (hn : n ≤ 120) (hX : px_Xm n L f) (h : f 91 16 = nI i) (hi : i ≤ n) : ∃ f', D_X8_skips f = some f' ∧ px_Mf f f' ∧ f' 91 16 = nI (px_sk n L i) ∧ f' 91 17 = nI (px_sk n L i) :=
  ⟨_, px_mSkip hn hX h hi, ⟨fun q hq => by rw [am_wr_ne q hq, am_wr_ne q hq], fun j a b => by rw [pu_wr_n2 b, pu_wr_n2 a]⟩, by rw [pu_wr_n2 (by decide), pu_wr_eq], pu_wr_eq⟩
theorem px_mEnd (hn : n ≤ 120) (hX : px_Xm n L f) (h : f 91 16 = nI i) (hi : i ≤ n) : ∃ f', D_X8_passesEnd f = some (if px_tk n L (px_sk n L i) = 5 then 1 else 0, f') ∧ px_Mf f f' ∧ f' 91 17 = nI (px_sk n L i) ∧ (px_tk n L (px_sk n L i) = 5 → f' 91 16 = nI (px_te n L (px_sk n L i))) := by
  obtain ⟨f1, x1, x2, x3, x4⟩ := px_mSkip' hn hX h hi
  have hs := px_sk_le (L := L) hi
  have hX1 := x2.X hX
  have e0 : nI (px_sk n L i) + 0 = nI (px_sk n L i) := nI_add _ 0
  unfold D_X8_passesEnd
  rw [x1, pu_bV, px_mAtE hn hX1 x3 hs, pu_bI]
  by_cases h5 : px_tk n L (px_sk n L i) = 5
  · rw [if_pos h5, pu_i10, if_pos (Or.inr rfl), x3, nI_1]
    refine ⟨_, rfl, ⟨fun q hq => by rw [am_wr_ne q hq]; exact x2.1 q hq, fun j a b => by rw [pu_wr_n2 a]; exact x2.2 j a b⟩, by rw [pu_wr_n2 (by decide)]; exact x4, fun _ => ?_⟩
    obtain ⟨k1, k2⟩ := px_tk_5.mp h5
    rw [pu_wr_eq, (px_tkO k1 (by rw [k2, px_59.1]; decide) (by rw [k2, px_59.2]; decide)).1]
  · rw [if_neg h5, pu_i00, if_pos (Or.inl rfl), x3, e0]
    exact ⟨_, rfl, ⟨fun q hq => by rw [am_wr_ne q hq]; exact x2.1 q hq, fun j a b => by rw [pu_wr_n2 a]; exact x2.2 j a b⟩, by rw [pu_wr_n2 (by decide)]; exact x4, fun q => absurd q h5⟩
end MT
section MS
variable {n : Nat} {L : Nat → Int32} {f : am_M} {s e : Nat}
theorem px_mSp (hn : n ≤ 120) (hX : px_Xm n L f) (h3 : f 91 17 = nI s) (h4 : f 91 16 = nI e) (hse : s ≤ e) (he : e ≤ n) (a b c d g : Int32) : D_X8_spells a b c d g f = some (if px_s5 L s e a b c d g = true then 1 else 0, f) := by
  unfold D_X8_spells
  rw [h3, h4, pu_subN hse]
  by_cases h0 : e = s + 5
  · have e0 : nI (e - s) = 5 := by rw [h0, Nat.add_sub_cancel_left]; rfl
    have p1 : nI s + 1 = nI (s + 1) := nI_add s 1
    have p2 : nI s + 2 = nI (s + 2) := nI_add s 2
    have p3 : nI s + 3 = nI (s + 3) := nI_add s 3
    have p4 : nI s + 4 = nI (s + 4) := nI_add s 4
    rw [if_pos e0, p1, p2, p3, p4, pu_chk (k := s) (by omega) (by decide), pu_chk (k := s + 1) (by omega) (by decide), pu_chk (k := s + 2) (by omega) (by decide), pu_chk (k := s + 3) (by omega) (by decide), pu_chk (k := s + 4) (by omega) (by decide), nI_clamp (n := s) (by omega), nI_clamp (n := s + 1) (by omega), nI_clamp (n := s + 2) (by omega), nI_clamp (n := s + 3) (by omega), nI_clamp (n := s + 4) (by omega), hX.2 s (by omega), hX.2 (s + 1) (by omega), hX.2 (s + 2) (by omega), hX.2 (s + 3) (by omega), hX.2 (s + 4) (by omega)]
    unfold px_s5
    by_cases h1 : L s = a <;> by_cases h2 : L (s + 1) = b <;> by_cases h3 : L (s + 2) = c <;> by_cases h4 : L (s + 3) = d <;> by_cases h5 : L (s + 4) = g <;> simp [h0, h1, h2, h3, h4, h5]
  · have e0 : ¬ nI (e - s) = 5 := pu_ne (b := 5) (by omega) (by omega) (by decide)
    rw [if_neg e0]
    unfold px_s5
    simp [h0]
def px_mw (f2 : am_M) : Option (Int32 × am_M) := am_bI (D_X8_spells 115 108 111 116 115 f2) fun v3 f3 => if v3 = 0 then am_bI (D_X8_spells 109 97 107 101 114 f3) fun v4 f4 => if v4 = 0 then am_bI (D_X8_spells 116 97 107 101 114 f4) fun v5 f5 => if v5 = 0 then some ((-9), f5) else if (f5 91 21) < 6 then some (2, f5) else some ((-9), f5) else if (f4 91 20) < 3 then some (1, f4) else some ((-9), f4) else if (f3 91 18) = 0 then some (0, f3) else some ((-9), f3)
theorem px_mw_eq (m : Nat) (f : am_M) : D_X8_wordPassed_4 (m + 1) f = am_bI (D_X8_isAt 97 122 f) fun v2 f2 => if v2 = 0 then px_mw f2 else D_X8_wordPassed_4 m (am_wr f2 91 16 ((f2 91 16) + 1)) := rfl
theorem px_mwv (hn : n ≤ 120) (hX : px_Xm n L f) (h3 : f 91 17 = nI s) (h4 : f 91 16 = nI e) (hse : s ≤ e) (he : e ≤ n) : px_mw f = some (if px_wk L s e = 1 then (if f 91 18 = 0 then 0 else -9) else if px_wk L s e = 2 then (if f 91 20 < 3 then 1 else -9) else if px_wk L s e = 3 then (if f 91 21 < 6 then 2 else -9) else -9, f) := by
  unfold px_mw px_wk
  rw [px_mSp hn hX h3 h4 hse he, pu_bI]
  by_cases a1 : px_s5 L s e 115 108 111 116 115 = true
  · rw [if_pos a1, if_pos a1, pu_i10, if_pos (show (1 : Nat) = 1 from rfl)]
    by_cases q : f 91 18 = 0
    · rw [if_pos q, if_pos q]
    · rw [if_neg q, if_neg q]
  rw [if_neg a1, if_neg a1, pu_i00, px_mSp hn hX h3 h4 hse he, pu_bI]
  by_cases a2 : px_s5 L s e 109 97 107 101 114 = true
  · rw [if_pos a2, if_pos a2, pu_i10, if_neg (show ¬ (2 : Nat) = 1 by decide), if_pos (show (2 : Nat) = 2 from rfl)]
    by_cases q : f 91 20 < 3
    · rw [if_pos q, if_pos q]
    · rw [if_neg q, if_neg q]
  rw [if_neg a2, if_neg a2, pu_i00, px_mSp hn hX h3 h4 hse he, pu_bI]
  by_cases a3 : px_s5 L s e 116 97 107 101 114 = true
  · rw [if_pos a3, if_pos a3, pu_i10, if_neg (show ¬ (3 : Nat) = 1 by decide), if_neg (show ¬ (3 : Nat) = 2 by decide), if_pos (show (3 : Nat) = 3 from rfl)]
    by_cases q : f 91 21 < 6
    · rw [if_pos q, if_pos q]
    · rw [if_neg q, if_neg q]
  rw [if_neg a3, if_neg a3, pu_i00, if_neg (show ¬ (6 : Nat) = 1 by decide), if_neg (show ¬ (6 : Nat) = 2 by decide), if_neg (show ¬ (6 : Nat) = 3 by decide)]
end MS
theorem px_mw4 {n : Nat} {L : Nat → Int32} (hn : n ≤ 120) : ∀ d fu e (f : am_M), e + d = n → d < fu → px_Xm n L f → D_X8_wordPassed_4 fu (am_wr f 91 16 (nI e)) = px_mw (am_wr f 91 16 (nI (px_ru px_pW L d e)))
  | d, 0, e, f, _, h, _ => absurd h (by omega)
  | d, fu + 1, e, f, h1, h2, hX => by
    have hX' : px_Xm n L (am_wr f 91 16 (nI e)) := ⟨by rw [pu_wr_n2 (by decide)]; exact hX.1, fun i hi => by rw [pu_wr_n1 (by decide)]; exact hX.2 i hi⟩
    rw [px_mw_eq, px_mAtW (i := e) hn hX' pu_wr_eq (by omega), pu_bI]
    cases d with
    | zero =>
      rw [if_neg (show ¬ (e < n ∧ px_pW (L e) = true) from fun q => by have := q.1; omega), pu_i00]
      rfl
    | succ d =>
      have ih := px_mw4 hn d fu (e + 1) f (by omega) (by omega) hX
      have er : px_ru px_pW L (d + 1) e = if px_pW (L e) = true then px_ru px_pW L d (e + 1) else e := rfl
      rw [er]
      by_cases hp : px_pW (L e) = true
      · rw [if_pos (show e < n ∧ px_pW (L e) = true from ⟨by omega, hp⟩), if_pos hp, pu_i10, pu_wr_eq, nI_1, pu_wr_wr]
        exact ih
      · rw [if_neg (show ¬ (e < n ∧ px_pW (L e) = true) from fun q => hp q.2), if_neg hp, pu_i00]
def px_mn (x1 x2 x3 x4 : Int32) (f2 : am_M) : Option (Int32 × am_M) := if 0 < x4 then if 99 < x3 then some ((-1), f2) else if x4 = 1 then am_bI (D_X8_within x3 x1 x2 f2) fun v3 f3 => if v3 = 0 then some ((-1), f3) else some (x3, f3) else am_chk (f2 91 17) 120 (if (f2 101 (f2 91 17).toNatClampNeg) = 48 then some ((-1), f2) else am_bI (D_X8_within x3 x1 x2 f2) fun v4 f4 => if v4 = 0 then some ((-1), f4) else some (x3, f4)) else some ((-1), f2)
theorem px_mn_eq (m : Nat) (x1 x2 x3 x4 : Int32) (f : am_M) : D_X8_number_9 (m + 1) x1 x2 x3 x4 f = am_bI (D_X8_isAt 48 57 f) fun v2 f2 => if v2 = 0 then px_mn x1 x2 x3 x4 f2 else if 99 < x3 then D_X8_number_9 m x1 x2 100 (x4 + 1) (am_wr f2 91 16 ((f2 91 16) + 1)) else am_chk (f2 91 16) 120 (D_X8_number_9 m x1 x2 ((((10 : Int32) * x3) + (f2 101 (f2 91 16).toNatClampNeg)) - 48) (x4 + 1) (am_wr f2 91 16 ((f2 91 16) + 1))) := rfl
theorem px_mn9 {n : Nat} {L : Nat → Int32} {x1 x2 : Int32} (hn : n ≤ 120) : ∀ d fu e v c (f : am_M), e + d = n → d < fu → v ≤ 999 → px_Xm n L f → ∃ v', v' ≤ 999 ∧ min v' 100 = px_va L d e (min v 100) ∧ D_X8_number_9 fu x1 x2 (nI v) (nI c) (am_wr f 91 16 (nI e)) = px_mn x1 x2 (nI v') (nI (c + (px_ru px_pF L d e - e))) (am_wr f 91 16 (nI (px_ru px_pF L d e)))
  | d, 0, e, v, c, f, _, h, _, _ => absurd h (by omega)
  | d, fu + 1, e, v, c, f, h1, h2, hv, hX => by
    have hX' : px_Xm n L (am_wr f 91 16 (nI e)) := ⟨by rw [pu_wr_n2 (by decide)]; exact hX.1, fun i hi => by rw [pu_wr_n1 (by decide)]; exact hX.2 i hi⟩
    rw [px_mn_eq, px_mAtF (i := e) hn hX' pu_wr_eq (by omega), pu_bI]
    cases d with
    | zero =>
      refine ⟨v, hv, rfl, ?_⟩
      rw [if_neg (show ¬ (e < n ∧ px_pF (L e) = true) from fun q => by have := q.1; omega), pu_i00]
      show _ = px_mn x1 x2 (nI v) (nI (c + (e - e))) _
      rw [Nat.sub_self]
      rfl
    | succ d =>
      have er : px_ru px_pF L (d + 1) e = if px_pF (L e) = true then px_ru px_pF L d (e + 1) else e := rfl
      have ev : px_va L (d + 1) e (min v 100) = if px_pF (L e) = true then px_va L d (e + 1) (min (10 * (min v 100) + ((L e).toNatClampNeg - 48)) 100) else min v 100 := rfl
      rw [er, ev]
      by_cases hp : px_pF (L e) = true
      · have hge := px_ru_ge (P := px_pF) (L := L) d (e + 1)
        obtain ⟨k, k1, k2, k3⟩ := px_fig hp
        rw [if_pos (show e < n ∧ px_pF (L e) = true from ⟨by omega, hp⟩), if_pos hp, if_pos hp, pu_i10]
        by_cases h9 : 99 < v
        · obtain ⟨v', z1, z2, z3⟩ := px_mn9 (x1 := x1) (x2 := x2) hn d fu (e + 1) 100 (c + 1) f (by omega) (by omega) (by omega) hX
          refine ⟨v', z1, by rw [z2]; congr 1; omega, ?_⟩
          rw [if_pos (show (99 : Int32) < nI v from pu_lt (a := 99) h9 (by omega)), pu_wr_eq, nI_1, nI_1, pu_wr_wr]
          rw [show c + 1 + (px_ru px_pF L d (e + 1) - (e + 1)) = c + (px_ru px_pF L d (e + 1) - e) by omega] at z3
          exact z3
        · obtain ⟨v', z1, z2, z3⟩ := px_mn9 (x1 := x1) (x2 := x2) hn d fu (e + 1) (10 * v + ((L e).toNatClampNeg - 48)) (c + 1) f (by omega) (by omega) (by omega) hX
          refine ⟨v', z1, by rw [z2]; congr 1; omega, ?_⟩
          rw [if_neg (show ¬ (99 : Int32) < nI v from pu_nlt (a := 99) (by omega) (by decide)), pu_wr_eq, pu_chk (by omega) (by decide), nI_clamp (by omega), pu_wr_n1 (by decide), hX.2 e (by omega), px_dig hp, nI_1, nI_1, pu_wr_wr]
          rw [show c + 1 + (px_ru px_pF L d (e + 1) - (e + 1)) = c + (px_ru px_pF L d (e + 1) - e) by omega] at z3
          exact z3
      · refine ⟨v, hv, by rw [if_neg hp], ?_⟩
        rw [if_neg (show ¬ (e < n ∧ px_pF (L e) = true) from fun q => hp q.2), if_neg hp, pu_i00, Nat.sub_self]
        rfl
section MN
variable {n : Nat} {L : Nat → Int32} {f : am_M}
theorem px_wi {v lo hi : Nat} (hv : v < 2 ^ 31) (hlo : lo < 2 ^ 31) (hhi : hi < 2 ^ 31) : D_X8_within (nI v) (nI lo) (nI hi) f = some (if lo ≤ v ∧ v ≤ hi then 1 else 0, f) := by
  unfold D_X8_within
  by_cases h1 : v < lo
  · rw [if_pos (pu_lt h1 hlo), if_neg (by omega)]
  · rw [if_neg (pu_nlt (by omega) hv)]
    by_cases h2 : hi < v
    · rw [if_pos (pu_lt h2 hv), if_neg (by omega)]
    · rw [if_neg (pu_nlt (by omega) hhi), if_pos (by omega)]
theorem px_mNum {i lo hi : Nat} (hn : n ≤ 120) (hX : px_Xm n L f) (h : f 91 16 = nI i) (hi' : i ≤ n) (hlo : lo < 2 ^ 31) (hhi : hi < 2 ^ 31) : ∃ f', D_X8_number (nI lo) (nI hi) f = some (if px_ac n L (px_sk n L i) lo hi = true then nI (px_tv n L (px_sk n L i)) else -1, f') ∧ px_Mf f f' ∧ f' 91 17 = nI (px_sk n L i) ∧ (px_ac n L (px_sk n L i) lo hi = true → f' 91 16 = nI (px_te n L (px_sk n L i))) := by
  obtain ⟨f1, x1, x2, x3, x4⟩ := px_mSkip' hn hX h hi'
  have hs := px_sk_le (L := L) hi'
  generalize px_sk n L i = s at x3 x4 hs ⊢
  have hX1 := x2.X hX
  obtain ⟨v, v1, v2, v3⟩ := px_mn9 (x1 := nI lo) (x2 := nI hi) (L := L) hn (n - s) am_fu s 0 0 f1 (by omega) (by show n - s < 6000; omega) (by decide) hX1
  rw [pu_wr_id x3, Nat.zero_add] at v3
  have v2 : min v 100 = px_tv n L s := v2
  have hge := px_ru_ge (P := px_pF) (L := L) (n - s) s
  have hle := px_ru_le (P := px_pF) (L := L) (n - s) s
  refine ⟨am_wr f1 91 16 (nI (px_ru px_pF L (n - s) s)), ?_, ⟨fun q hq => by rw [am_wr_ne q hq]; exact x2.1 q hq, fun j a b => by rw [pu_wr_n2 a]; exact x2.2 j a b⟩, by rw [pu_wr_n2 (by decide)]; exact x4, fun hac => ?_⟩
  · unfold D_X8_number
    rw [x1, pu_bV, show D_X8_number_9 am_fu (nI lo) (nI hi) 0 0 f1 = _ from v3]
    unfold px_mn
    have k17 : am_wr f1 91 16 (nI (px_ru px_pF L (n - s) s)) 91 17 = nI s := by rw [pu_wr_n2 (by decide)]; exact x4
    have k101 : s < n → am_wr f1 91 16 (nI (px_ru px_pF L (n - s) s)) 101 s = L s := fun q => by rw [pu_wr_n1 (by decide)]; exact hX1.2 s q
    generalize am_wr f1 91 16 (nI (px_ru px_pF L (n - s) s)) = g at k17 k101 ⊢
    by_cases hf : s < n ∧ px_pF (L s) = true
    · obtain ⟨hlt, hf⟩ := hf
      have hgt := px_ru_gt (L := L) hf (show 0 < n - s by omega)
      have hte := (px_tkF hlt (px_FW hf) hf).1
      have e4 : px_tk n L s = 4 ↔ ¬ ((L s = 48 ∧ s + 1 < px_te n L s) ∨ 99 < px_tv n L s) := by
        rw [px_tk_4]
        exact ⟨fun q => q.2.2, fun q => ⟨hlt, hf, q⟩⟩
      rw [hte] at e4
      rw [if_pos (show 0 < nI (px_ru px_pF L (n - s) s - s) from pu_lt (a := 0) (by omega) (by omega))]
      by_cases h9 : 99 < v
      · rw [if_pos (show (99 : Int32) < nI v from pu_lt (a := 99) h9 (by omega)), if_neg (fun q => by
          have := e4.mp (of_decide_eq_true q).1
          omega)]
      · rw [if_neg (show ¬ (99 : Int32) < nI v from pu_nlt (a := 99) (by omega) (by decide))]
        have hv : px_tv n L s = v := by omega
        have fin : px_tk n L s = 4 → (am_bI (D_X8_within (nI v) (nI lo) (nI hi) g) fun v3 f3 => if v3 = 0 then some ((-1 : Int32), f3) else some (nI v, f3)) = some (if px_ac n L s lo hi = true then nI (px_tv n L s) else -1, g) := fun k4 => by
          rw [px_wi (by omega) hlo hhi, pu_bI, hv]
          by_cases hb : lo ≤ v ∧ v ≤ hi
          · rw [if_pos hb, pu_i10, if_pos (show px_ac n L s lo hi = true from decide_eq_true ⟨k4, by rw [hv]; exact hb.1, by rw [hv]; exact hb.2⟩)]
          · rw [if_neg hb, pu_i00, if_neg (fun q => by have := (of_decide_eq_true q).2; omega)]
        by_cases h1 : px_ru px_pF L (n - s) s - s = 1
        · rw [if_pos (by rw [h1]; rfl)]
          exact fin (e4.mpr (by omega))
        · rw [if_neg (show ¬ nI (px_ru px_pF L (n - s) s - s) = 1 from pu_ne (b := 1) h1 (by omega) (by decide)), k17, pu_chk (by omega) (by decide), nI_clamp (by omega), k101 hlt]
          by_cases h8 : L s = 48
          · rw [if_pos h8, if_neg (fun q => by
              have := e4.mp (of_decide_eq_true q).1
              exact this (Or.inl ⟨h8, by omega⟩))]
          · rw [if_neg h8]
            exact fin (e4.mpr (fun q => by rcases q with q | q; exact h8 q.1; omega))
    · have hru : px_ru px_pF L (n - s) s = s := by
        by_cases hlt : s < n
        · exact px_ru_no (fun q => hf ⟨hlt, q⟩)
        · rw [show n - s = 0 by omega]; rfl
      rw [hru, Nat.sub_self, if_neg (show ¬ 0 < nI 0 by decide), if_neg (fun q => by
        have := px_tk_4.mp (of_decide_eq_true q).1
        exact hf ⟨this.1, this.2.1⟩)]
  · obtain ⟨k1, k2, _⟩ := px_tk_4.mp (of_decide_eq_true hac).1
    rw [pu_wr_eq, (px_tkF k1 (px_FW k2) k2).1]
end MN
