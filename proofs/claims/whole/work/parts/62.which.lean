/-! which -/
theorem pu_bitsEq : ∀ a, a < 64 → ∀ b, b < 64 → (∀ i, i < 6 → (a / 2 ^ i % 2 = 1 ↔ b / 2 ^ i % 2 = 1)) → a = b := by decide +kernel
theorem pu_clr : ∀ b, b < 64 → ∀ t, t < 6 → (nI b &&& (((1 : Int32) <<< (nI t &&& 31)) ^^^ (-1)) = nI (if b / 2 ^ t % 2 = 1 then b - 2 ^ t else b)) ∧ (if b / 2 ^ t % 2 = 1 then b - 2 ^ t else b) < 64 ∧ ∀ i, i < 6 → ((if b / 2 ^ t % 2 = 1 then b - 2 ^ t else b) / 2 ^ i % 2 = 1 ↔ b / 2 ^ i % 2 = 1 ∧ i ≠ t) := by decide +kernel
theorem pu_sbt : ∀ b, b < 64 → ∀ t, t < 6 → (nI b ||| ((1 : Int32) <<< (nI t &&& 31)) = nI (if b / 2 ^ t % 2 = 1 then b else b + 2 ^ t)) ∧ (if b / 2 ^ t % 2 = 1 then b else b + 2 ^ t) < 64 ∧ ∀ i, i < 6 → ((if b / 2 ^ t % 2 = 1 then b else b + 2 ^ t) / 2 ^ i % 2 = 1 ↔ b / 2 ^ i % 2 = 1 ∨ i = t) := by decide +kernel
theorem pu_or0 : ∀ b, b < 64 → nI b ||| 0 = nI b := by decide +kernel
theorem pu_fullbit : ∀ n, n < 7 → ∀ i, i < 6 → ((2 ^ n - 1) / 2 ^ i % 2 = 1 ↔ i < n) := by decide +kernel
theorem pu_max {a b : Nat} {f : am_M} (ha : a < 2 ^ 31) (hb : b < 2 ^ 31) : D_J9_max_7cf53 (nI a) (nI b) f = some (nI (max a b), f) := by
  unfold D_J9_max_7cf53
  by_cases h : a < b
  · rw [if_pos (pu_lt h hb), Nat.max_eq_right (by omega)]
  · rw [if_neg (pu_nlt (by omega) ha), Nat.max_eq_left (by omega)]
/-- what was seen, as the component holds it -/
def pu_Zc (Z : Nat × (Nat → Nat) × (Nat → Int32)) (f : am_M) : Prop := f 88 2 = nI Z.1 ∧ ∀ i, i < Z.1 → f 89 i = nI (Z.2.1 i) ∧ f 90 i = Z.2.2 i
def pu_Zm (Z : Nat × (Nat → Nat) × (Nat → Int32)) (f : am_M) : Prop := f 91 11 = nI Z.1 ∧ ∀ i, i < Z.1 → f 99 i = nI (Z.2.1 i) ∧ f 100 i = Z.2.2 i
def pu_Zok (Z : Nat × (Nat → Nat) × (Nat → Int32)) : Prop := Z.1 ≤ 6 ∧ ∀ i, i < Z.1 → Z.2.1 i ≤ 60
def pu_al (Z : Nat × (Nat → Nat) × (Nat → Int32)) (k : Nat) (v : Int32) (q : Nat) : Prop := ∀ s, q ≤ s → s < Z.1 → Z.2.1 s = k → Z.2.2 s = v
section WH
variable {Z : Nat × (Nat → Nat) × (Nat → Int32)} {f : am_M}
theorem pu_last4 (hZ : pu_Zok Z) (h : pu_Zc Z f) : ∀ d fu q a, q + d = Z.1 → d < fu → a ≤ 60 → (∀ s, s < q → Z.2.1 s ≤ a) → ∃ l, D_X3_lastTick_4 fu (nI a) (nI q) f = some (nI l, f) ∧ l ≤ 60 ∧ ∀ s, s < Z.1 → Z.2.1 s ≤ l
  | d, 0, q, a, _, h2, _, _ => absurd h2 (by omega)
  | 0, fu + 1, q, a, h1, h2, h3, h4 => by
    have hz := hZ.1
    have : q = Z.1 := by omega
    subst this
    refine ⟨a, ?_, h3, h4⟩
    rw [D_X3_lastTick_4, h.1, if_neg (pu_nlt (Nat.le_refl _) (by omega))]
  | d + 1, fu + 1, q, a, h1, h2, h3, h4 => by
    have hz := hZ.1
    have hq : q < Z.1 := by omega
    have h60 := hZ.2 q hq
    obtain ⟨l, x1, x2, x3⟩ := pu_last4 hZ h d fu (q + 1) (max a (Z.2.1 q)) (by omega) (by omega) (by omega) (fun s hs => by
      by_cases e : s = q
      · subst e; omega
      · have := h4 s (by omega); omega)
    refine ⟨l, ?_, x2, x3⟩
    rw [D_X3_lastTick_4, h.1, if_pos (pu_lt hq (by omega)), pu_chk (by omega) (by decide), nI_clamp (by omega), (h.2 q hq).1, pu_max (by omega) (by omega), pu_bI, nI_1]
    exact x1
theorem pu_allow2 (hZ : pu_Zok Z) (h : pu_Zc Z f) {k : Nat} (hk : k ≤ 60) (v : Int32) : ∀ d fu q, q + d = Z.1 → d < fu → (pu_al Z k v q ∧ D_X3_allows_2 fu (nI k) v (nI q) f = some (1, f)) ∨ (¬ pu_al Z k v q ∧ D_X3_allows_2 fu (nI k) v (nI q) f = some (0, f))
  | d, 0, q, _, h2 => absurd h2 (by omega)
  | 0, fu + 1, q, h1, h2 => by
    have hz := hZ.1
    have : q = Z.1 := by omega
    subst this
    refine Or.inl ⟨fun s a b => absurd b (by omega), ?_⟩
    rw [D_X3_allows_2, h.1, if_neg (pu_nlt (Nat.le_refl _) (by omega))]
  | d + 1, fu + 1, q, h1, h2 => by
    have hz := hZ.1
    have hq : q < Z.1 := by omega
    have h60 := hZ.2 q hq
    have ih := pu_allow2 hZ h hk v d fu (q + 1) (by omega) (by omega)
    have step : pu_al Z k v q ↔ (Z.2.1 q = k → Z.2.2 q = v) ∧ pu_al Z k v (q + 1) := by
      constructor
      · exact fun hh => ⟨fun e => hh q (Nat.le_refl _) hq e, fun s a b e => hh s (by omega) b e⟩
      · intro hh s a b e
        by_cases es : s = q
        · subst es; exact hh.1 e
        · exact hh.2 s (by omega) b e
    rw [D_X3_allows_2, h.1, if_pos (pu_lt hq (by omega)), pu_chk (by omega) (by decide), nI_clamp (by omega), (h.2 q hq).1, (h.2 q hq).2, nI_1]
    by_cases ek : Z.2.1 q = k
    · rw [if_pos (by rw [ek]), pu_chk (by omega) (by decide)]
      by_cases ev : Z.2.2 q = v
      · rw [if_pos ev]
        rcases ih with ⟨i1, i2⟩ | ⟨i1, i2⟩
        · exact Or.inl ⟨step.mpr ⟨fun _ => ev, i1⟩, i2⟩
        · exact Or.inr ⟨fun hh => i1 (step.mp hh).2, i2⟩
      · rw [if_neg ev]
        exact Or.inr ⟨fun hh => ev ((step.mp hh).1 ek), rfl⟩
    · rw [if_neg (pu_ne ek (by omega) (by omega))]
      rcases ih with ⟨i1, i2⟩ | ⟨i1, i2⟩
      · exact Or.inl ⟨step.mpr ⟨fun e => absurd e ek, i1⟩, i2⟩
      · exact Or.inr ⟨fun hh => i1 (step.mp hh).2, i2⟩
end WH
section WI
variable {Z : Nat × (Nat → Nat) × (Nat → Int32)} {T : pu_T} {N : pu_S}
theorem pu_c45 {f : am_M} {k : Nat} {x4 : Int32} {K : Int32 → Int32 → Int32 → am_M → Option (Int32 × am_M)} (hT : pu_Tok T) (hZ : pu_Zok Z) (h : pu_Zc Z f) (hk : k ≤ 60) (h3 : f 3 2 = nI (pu_nt T)) (hK : pu_KC T N k f) : ∀ d fu t b, t + d = pu_nt T → d < fu → b < 64 → ∃ b', b' < 64 ∧ D_X0_takersSeen_45 K fu (nI b) x4 (nI k) (nI t) f = K (nI b') x4 (nI (k + 1)) f ∧ ∀ s, s < 6 → (b' / 2 ^ s % 2 = 1 ↔ b / 2 ^ s % 2 = 1 ∧ (t ≤ s → s < pu_nt T → pu_al Z k (nI (pu_dn (pu_Kn T N k).1 s)) 0))
  | d, 0, t, b, _, h2, _ => absurd h2 (by omega)
  | 0, fu + 1, t, b, h1, h2, hb => by
    have hnt := hT.2.2.1
    have : t = pu_nt T := by omega
    subst this
    refine ⟨b, hb, ?_, fun s hs => ⟨fun q => ⟨q, fun a b => absurd b (by omega)⟩, fun q => q.1⟩⟩
    rw [D_X0_takersSeen_45, h3, if_neg (pu_nlt (Nat.le_refl _) (by omega)), nI_1]
  | d + 1, fu + 1, t, b, h1, h2, hb => by
    have hnt := hT.2.2.1
    have ht : t < pu_nt T := by omega
    obtain ⟨u, hu, hF, _⟩ := id hK
    have hz := hZ.1
    rcases pu_allow2 hZ h hk (nI (pu_dn (pu_Kn T N k).1 t)) Z.1 am_fu 0 (Nat.zero_add _) (by show Z.1 < 6000; omega) with ⟨i1, i2⟩ | ⟨i1, i2⟩
    · obtain ⟨b', y1, y2, y3⟩ := pu_c45 (x4 := x4) (K := K) hT hZ h hk h3 hK d fu (t + 1) b (by omega) (by omega) hb
      refine ⟨b', y1, ?_, fun s hs => (y3 s hs).trans ⟨fun q => ⟨q.1, fun a c => ?_⟩, fun q => ⟨q.1, fun a c => q.2 (by omega) c⟩⟩⟩
      · rw [D_X0_takersSeen_45, h3, if_pos (pu_lt ht (by omega)), pu_chk (by omega) (by decide), nI_clamp (by omega), hF.2.2.2.1 t (by omega)]
        unfold D_X3_allows
        rw [show D_X3_allows_2 am_fu (nI k) (nI (pu_dn (pu_Kn T N k).1 t)) 0 f = _ from i2, pu_bI, pu_i10, nI_1]
        exact y2
      · by_cases e : s = t
        · subst e; exact i1
        · exact q.2 (by omega) c
    · obtain ⟨c1, c2, c3⟩ := pu_clr b hb t (by omega)
      obtain ⟨b', y1, y2, y3⟩ := pu_c45 (x4 := x4) (K := K) hT hZ h hk h3 hK d fu (t + 1) _ (by omega) (by omega) c2
      refine ⟨b', y1, ?_, fun s hs => ?_⟩
      · rw [D_X0_takersSeen_45, h3, if_pos (pu_lt ht (by omega)), pu_chk (by omega) (by decide), nI_clamp (by omega), hF.2.2.2.1 t (by omega)]
        unfold D_X3_allows
        rw [show D_X3_allows_2 am_fu (nI k) (nI (pu_dn (pu_Kn T N k).1 t)) 0 f = _ from i2, pu_bI, pu_i00, nI_1, c1]
        exact y2
      · rw [y3 s hs, c3 s hs]
        constructor
        · exact fun q => ⟨q.1.1, fun a c => q.2 (by have := q.1.2; omega) c⟩
        · intro q
          refine ⟨⟨q.1, fun e => ?_⟩, fun a c => q.2 (by omega) c⟩
          subst e
          exact i1 (q.2 (Nat.le_refl _) ht)
/-- a course between two ticks: the tick is done at the next turn -/
def pu_Kst0 (T : pu_T) (N : pu_S) (i : Nat) (f : am_M) : Prop := (i = 0 ∧ pu_KC T N 0 f) ∨ ∃ j, i = j + 1 ∧ pu_KC T N j f
theorem pu_cNext {f : am_M} {i : Nat} (hT : pu_Tok T) (hi : i ≤ 60) (h3 : pu_Tc T (f 3) (f 4) (f 5) (f 6)) (h : pu_Kst0 T N i f) : ∃ f1, (∀ K : am_M → Option (Int32 × am_M), (if 0 < nI i then am_bV (D_X0_tick f) K else K f) = K f1) ∧ (∀ q, q < 80 ∨ 87 < q → f1 q = f q) ∧ pu_KC T N i f1 := by
  rcases h with ⟨rfl, h⟩ | ⟨j, rfl, h⟩
  · exact ⟨f, fun K => if_neg (by decide), fun _ _ => rfl, h⟩
  · obtain ⟨f1, x1, x2, x3⟩ := pu_cTick hT (by omega) h3 h
    refine ⟨f1, fun K => ?_, x2, x3⟩
    rw [if_pos (show 0 < nI (j + 1) from pu_lt (a := 0) (by omega) (by omega)), x1, pu_bV]
theorem pu_c26 {l : Nat} (hT : pu_Tok T) (hZ : pu_Zok Z) (hl : l ≤ 60) : ∀ d fu i b (f : am_M), i + d = l + 1 → d < fu → b < 64 → pu_Tc T (f 3) (f 4) (f 5) (f 6) → pu_Zc Z f → pu_Kst0 T N i f → (∀ s, s < 6 → (b / 2 ^ s % 2 = 1 ↔ s < pu_nt T ∧ ∀ k, k < i → pu_al Z k (nI (pu_dn (pu_Kn T N k).1 s)) 0)) → ∃ b' f', b' < 64 ∧ D_X0_takersSeen_26 fu (nI b) (nI l) (nI i) f = some (nI b', f') ∧ (∀ q, q < 80 ∨ 87 < q → f' q = f q) ∧ ∀ s, s < 6 → (b' / 2 ^ s % 2 = 1 ↔ s < pu_nt T ∧ ∀ k, k < l + 1 → pu_al Z k (nI (pu_dn (pu_Kn T N k).1 s)) 0)
  | d, 0, i, b, f, _, h, _, _, _, _, _ => absurd h (by omega)
  | 0, fu + 1, i, b, f, h1, h2, hb, h3, hz, hK, hB => by
    have : i = l + 1 := by omega
    subst this
    refine ⟨b, f, hb, ?_, fun _ _ => rfl, hB⟩
    rw [D_X0_takersSeen_26, if_pos (pu_lt (by omega) (by omega))]
  | d + 1, fu + 1, i, b, f, h1, h2, hb, h3, hz, hK, hB => by
    have hnt := hT.2.2.1
    obtain ⟨f1, x1, x2, x3⟩ := pu_cNext hT (by omega) h3 hK
    have h3' : pu_Tc T (f1 3) (f1 4) (f1 5) (f1 6) := pu_frT (fun q a b => x2 q (by omega)) h3
    have hz' : pu_Zc Z f1 := pu_fcZ (fun q a b => x2 q (by omega)) hz
    obtain ⟨b1, y1, y2, y3⟩ := pu_c45 (x4 := nI l) (K := fun y3 y4 y5 f9 => D_X0_takersSeen_26 fu y3 y4 y5 f9) hT hZ hz' (by omega) h3'.2.2.1 x3 (pu_nt T) am_fu 0 b (Nat.zero_add _) (by show pu_nt T < 6000; omega) hb
    obtain ⟨b', f', z1, z2, z3, z4⟩ := pu_c26 hT hZ hl d fu (i + 1) b1 f1 (by omega) (by omega) y1 h3' hz' (Or.inr ⟨i, rfl, x3⟩) (fun s hs => by
      rw [y3 s hs, hB s hs]
      constructor
      · intro q
        refine ⟨q.1.1, fun k hk => ?_⟩
        by_cases e : k = i
        · subst e; exact q.2 (Nat.zero_le _) q.1.1
        · exact q.1.2 k (by omega)
      · exact fun q => ⟨⟨q.1, fun k hk => q.2 k (by omega)⟩, fun _ _ => q.2 i (by omega)⟩)
    refine ⟨b', f', z1, ?_, fun q hq => by rw [z3 q hq, x2 q hq], z4⟩
    rw [D_X0_takersSeen_26, if_neg (pu_nlt (by omega) (by omega))]
    refine (x1 _).trans ?_
    exact y2.trans z2
/-- the takers that may have been seen -/
def pu_may (T : pu_T) (N : pu_S) (Z : Nat × (Nat → Nat) × (Nat → Int32)) (t : Nat) : Prop := t < pu_nt T ∧ ∀ s, s < Z.1 → nI (pu_dn (pu_Kn T N (Z.2.1 s)).1 t) = Z.2.2 s
theorem pu_cSeen {f : am_M} (hT : pu_Tok T) (hS : pu_Sok T N) (hZ : pu_Zok Z) (h3 : pu_Tc T (f 3) (f 4) (f 5) (f 6)) (hz : pu_Zc Z f) (hF : pu_Sf N f 11) : ∃ b f', b < 64 ∧ D_X0_takersSeen f = some (nI b, f') ∧ (∀ q, q < 80 ∨ 87 < q → f' q = f q) ∧ ∀ s, s < 6 → (b / 2 ^ s % 2 = 1 ↔ pu_may T N Z s) := by
  have hnt := hT.2.2.1
  have hz6 := hZ.1
  obtain ⟨l, w1, w2, w3⟩ := pu_last4 hZ hz Z.1 am_fu 0 0 (Nat.zero_add _) (by show Z.1 < 6000; omega) (by omega) (fun s hs => absurd hs (Nat.not_lt_zero _))
  obtain ⟨f1, x1, x2, x3⟩ := pu_cStart hT hS hF
  have h3' : pu_Tc T (f1 3) (f1 4) (f1 5) (f1 6) := pu_frT (fun q a b => x2 q (by omega)) h3
  have hz' : pu_Zc Z f1 := pu_fcZ (fun q a b => x2 q (by omega)) hz
  obtain ⟨b', f', z1, z2, z3, z4⟩ := pu_c26 (Z := Z) hT hZ w2 (l + 1) am_fu 0 (2 ^ pu_nt T - 1) f1 (Nat.zero_add _) (by show l + 1 < 6000; omega) (pu_full64 _ (by omega)) h3' hz' (Or.inl ⟨rfl, x3⟩) (fun s hs => by
    rw [pu_fullbit _ (show pu_nt T < 7 by omega) s hs]
    exact ⟨fun q => ⟨q, fun k hk => absurd hk (Nat.not_lt_zero _)⟩, fun q => q.1⟩)
  refine ⟨b', f', z1, ?_, fun q hq => by rw [z3 q hq, x2 q hq], fun s hs => (z4 s hs).trans ⟨fun q => ⟨q.1, fun i hi => ?_⟩, fun q => ⟨q.1, fun k hk i _ hi e => ?_⟩⟩⟩
  · unfold D_X0_takersSeen D_X3_lastTick
    rw [show D_X3_lastTick_4 am_fu 0 0 f = _ from w1, pu_bI, x1, pu_bV, h3.2.2.1, pu_shl _ (by omega)]
    exact z2
  · exact (q.2 (Z.2.1 i) (by have := w3 i hi; omega) i (Nat.zero_le _) hi rfl).symm
  · subst e
    exact (q.2 i hi).symm
end WI
section WM
variable {Z : Nat × (Nat → Nat) × (Nat → Int32)} {T : pu_T} {N : pu_S}
theorem pu_m23 {f : am_M} {b t : Nat} {K : Int32 → Int32 → am_M → Option (Int32 × am_M)} (hT : pu_Tok T) (hZ : pu_Zok Z) (h : pu_Zm Z f) (hS : pu_Sok T N) (ht : t < pu_nt T) (hH : pu_KH T N 61 f) : ∀ d fu q acc, q + d = Z.1 → d < fu → acc ≤ 1 → ((acc = 1 ∧ ∀ s, q ≤ s → s < Z.1 → nI (pu_dn (pu_Kn T N (Z.2.1 s)).1 t) = Z.2.2 s) ∧ D_X8_candidates_23 K fu (nI b) (nI t) (nI acc) (nI q) f = K (nI b ||| ((1 : Int32) <<< (nI t &&& 31))) (nI (t + 1)) f) ∨ ((¬ (acc = 1 ∧ ∀ s, q ≤ s → s < Z.1 → nI (pu_dn (pu_Kn T N (Z.2.1 s)).1 t) = Z.2.2 s)) ∧ D_X8_candidates_23 K fu (nI b) (nI t) (nI acc) (nI q) f = K (nI b ||| 0) (nI (t + 1)) f)
  | d, 0, q, acc, _, h2, _ => absurd h2 (by omega)
  | 0, fu + 1, q, acc, h1, h2, ha => by
    have hz := hZ.1
    have : q = Z.1 := by omega
    subst this
    rw [D_X8_candidates_23, h.1, if_neg (pu_nlt (Nat.le_refl _) (by omega)), nI_1]
    have : acc = 0 ∨ acc = 1 := by omega
    rcases this with rfl | rfl
    · exact Or.inr ⟨fun q => by have := q.1; omega, by rw [if_pos nI_0]⟩
    · exact Or.inl ⟨⟨rfl, fun s a b => absurd b (by omega)⟩, by rw [if_neg (show ¬ nI 1 = 0 by decide)]⟩
  | d + 1, fu + 1, q, acc, h1, h2, ha => by
    have hz := hZ.1
    have hnt := hT.2.2.1
    have hq : q < Z.1 := by omega
    have h60 := hZ.2 q hq
    have e0 := pu_m23 (b := b) (K := K) hT hZ h hS ht hH d fu (q + 1) 0 (by omega) (by omega) (by decide)
    have e1 := pu_m23 (b := b) (K := K) hT hZ h hS ht hH d fu (q + 1) 1 (by omega) (by omega) (by decide)
    have no : D_X8_candidates_23 K fu (nI b) (nI t) (nI 0) (nI (q + 1)) f = K (nI b ||| 0) (nI (t + 1)) f := by
      rcases e0 with ⟨⟨q1, _⟩, _⟩ | ⟨_, q2⟩
      · exact absurd q1 (by decide)
      · exact q2
    have : acc = 0 ∨ acc = 1 := by omega
    rcases this with rfl | rfl
    · refine Or.inr ⟨fun q => by have := q.1; omega, ?_⟩
      rw [D_X8_candidates_23, h.1, if_pos (pu_lt hq (by omega)), if_pos nI_0, nI_1]
      exact no
    · have em : (6 : Int32) * nI (Z.2.1 q) + nI t = nI (6 * Z.2.1 q + t) := by rw [← nI_add, ← pu_mul]; rfl
      have hd := (hH (Z.2.1 q) (by omega)).2.2.1 t ht
      rw [D_X8_candidates_23, h.1, if_pos (pu_lt hq (by omega)), if_neg (show ¬ nI 1 = 0 by decide), pu_chk (by omega) (by decide), nI_clamp (n := q) (by omega), (h.2 q hq).1, (h.2 q hq).2, em, pu_chk (by omega) (by decide), pu_chk (by omega) (by decide), nI_clamp (by omega), hd, nI_1]
      by_cases ev : nI (pu_dn (pu_Kn T N (Z.2.1 q)).1 t) = Z.2.2 q
      · rw [if_pos ev]
        rcases e1 with ⟨⟨_, q1⟩, q2⟩ | ⟨q1, q2⟩
        · refine Or.inl ⟨⟨rfl, fun s a c => ?_⟩, q2⟩
          by_cases es : s = q
          · subst es; exact ev
          · exact q1 s (by omega) c
        · exact Or.inr ⟨fun hh => q1 ⟨rfl, fun s a c => hh.2 s (by omega) c⟩, q2⟩
      · rw [if_neg ev]
        exact Or.inr ⟨fun hh => ev (hh.2 q (Nat.le_refl _) hq), no⟩
theorem pu_m10 {f : am_M} (hT : pu_Tok T) (hZ : pu_Zok Z) (h : pu_Zm Z f) (hS : pu_Sok T N) (h3 : f 91 3 = nI (pu_nt T)) (hH : pu_KH T N 61 f) : ∀ d fu t b, t + d = pu_nt T → d < fu → b < 64 → ∃ b', b' < 64 ∧ D_X8_candidates_10 fu (nI b) (nI t) f = some (nI b', f) ∧ ∀ s, s < 6 → (b' / 2 ^ s % 2 = 1 ↔ b / 2 ^ s % 2 = 1 ∨ (t ≤ s ∧ pu_may T N Z s))
  | d, 0, t, b, _, h2, _ => absurd h2 (by omega)
  | 0, fu + 1, t, b, h1, h2, hb => by
    have hnt := hT.2.2.1
    have : t = pu_nt T := by omega
    subst this
    refine ⟨b, hb, ?_, fun s hs => ⟨fun q => Or.inl q, fun q => ?_⟩⟩
    · rw [D_X8_candidates_10, h3, if_neg (pu_nlt (Nat.le_refl _) (by omega))]
    · rcases q with q | ⟨q1, q2⟩
      · exact q
      · exact absurd q2.1 (by omega)
  | d + 1, fu + 1, t, b, h1, h2, hb => by
    have hnt := hT.2.2.1
    have hz := hZ.1
    have ht : t < pu_nt T := by omega
    rcases pu_m23 (b := b) (K := fun y1 y2 f9 => D_X8_candidates_10 fu y1 y2 f9) hT hZ h hS ht hH Z.1 am_fu 0 1 (Nat.zero_add _) (by show Z.1 < 6000; omega) (by decide) with ⟨⟨_, i1⟩, i2⟩ | ⟨i1, i2⟩
    · obtain ⟨c1, c2, c3⟩ := pu_sbt b hb t (by omega)
      obtain ⟨b', y1, y2, y3⟩ := pu_m10 hT hZ h hS h3 hH d fu (t + 1) _ (by omega) (by omega) c2
      refine ⟨b', y1, ?_, fun s hs => ?_⟩
      · rw [D_X8_candidates_10, h3, if_pos (pu_lt ht (by omega))]
        refine (show D_X8_candidates_23 _ am_fu (nI b) (nI t) 1 0 f = _ from i2).trans ?_
        rw [c1]
        exact y2
      · rw [y3 s hs, c3 s hs]
        constructor
        · rintro ((q | q) | q)
          · exact Or.inl q
          · subst q; exact Or.inr ⟨Nat.le_refl _, ht, fun s hs => i1 s (Nat.zero_le _) hs⟩
          · exact Or.inr ⟨by omega, q.2⟩
        · rintro (q | q)
          · exact Or.inl (Or.inl q)
          · by_cases e : s = t
            · exact Or.inl (Or.inr e)
            · exact Or.inr ⟨by have := q.1; omega, q.2⟩
    · obtain ⟨b', y1, y2, y3⟩ := pu_m10 hT hZ h hS h3 hH d fu (t + 1) b (by omega) (by omega) hb
      refine ⟨b', y1, ?_, fun s hs => ?_⟩
      · rw [D_X8_candidates_10, h3, if_pos (pu_lt ht (by omega))]
        refine (show D_X8_candidates_23 _ am_fu (nI b) (nI t) 1 0 f = _ from i2).trans ?_
        rw [pu_or0 b hb]
        exact y2
      · rw [y3 s hs]
        constructor
        · rintro (q | q)
          · exact Or.inl q
          · exact Or.inr ⟨by omega, q.2⟩
        · rintro (q | q)
          · exact Or.inl q
          · by_cases e : s = t
            · subst e; exact absurd ⟨rfl, fun i _ hi => q.2.2 i hi⟩ i1
            · exact Or.inr ⟨by have := q.1; omega, q.2⟩
theorem pu_mSeen {f : am_M} (hT : pu_Tok T) (hS : pu_Sok T N) (hZ : pu_Zok Z) (h3 : pu_Tm T (f 91) (f 92) (f 93) (f 94)) (hF : pu_Sm N (f 95)) (hz : pu_Zm Z f) : ∃ b f', b < 64 ∧ D_X8_candidates f = some (nI b, f') ∧ pu_Lfr f f' ∧ pu_KH T N 61 f' ∧ ∀ s, s < 6 → (b / 2 ^ s % 2 = 1 ↔ pu_may T N Z s) := by
  have hnt := hT.2.2.1
  obtain ⟨f1, x1, x2, x3⟩ := pu_mLays (k := 60) hT hS (by decide) h3 hF
  have hz' : pu_Zm Z f1 := pu_fmZ (x2.2 11 (by decide) (by decide)) (x2.1 99 (by decide) (by decide)) (x2.1 100 (by decide) (by decide)) hz
  obtain ⟨b, y1, y2, y3⟩ := pu_m10 hT hZ hz' hS (x2.T h3).2.2.1 x3 (pu_nt T) am_fu 0 0 (Nat.zero_add _) (by show pu_nt T < 6000; omega) (by decide)
  refine ⟨b, f1, y1, ?_, x2, x3, fun s hs => (y3 s hs).trans ⟨fun q => ?_, fun q => Or.inr ⟨Nat.zero_le _, q⟩⟩⟩
  · unfold D_X8_candidates
    rw [show D_X8_laysRule 60 f = _ from x1, pu_bV]
    exact y2
  · rcases q with q | q
    · rw [Nat.zero_div] at q; exact absurd q (by decide)
    · exact q.2
end WM
theorem pu_which {f : am_M} (h : pu_R f) : pu_Go D_X7_which D_X8_which f := by
  obtain ⟨T, X, N, P, I0, I1, Z, hV, hC, hM⟩ := id h
  have hT := hV.1
  have hS := hV.2.2.1
  have hZ : pu_Zok Z := hV.2.2.2.2.2.2
  obtain ⟨b, f1, x0, x1, x2, x3⟩ := pu_cSeen hT hS hZ hC.1 hC.2.2.2.2.2 hC.2.2.1.1
  refine pu_join (r := nI b) hV (f1 := f1) ?_ (fun q hq => x2 q (by omega)) (hC.cs x2) hM (fun g hg => ?_)
  · unfold D_X7_which
    rw [x1, pu_bI]
  · obtain ⟨c, g1, y0, y1, y2, y3, y4⟩ := pu_mSeen hT hS hZ hg.1 hg.2.2.1 hg.2.2.2.2.2
    have e : b = c := pu_bitsEq b x0 c y0 (fun i hi => (x3 i hi).trans (y4 i hi).symm)
    refine ⟨g1, ?_, y2.hi, y2.M hg⟩
    unfold D_X8_which
    rw [y1, pu_bI, e]
