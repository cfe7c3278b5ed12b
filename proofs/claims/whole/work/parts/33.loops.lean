/-! the loops that only read -/
theorem pu_le_le {dn : Nat → Nat} {c : Nat} : ∀ k, pu_le dn c k ≤ c
  | 0 => Nat.le_refl _
  | k + 1 => by
    have := pu_le_le (dn := dn) (c := c) k
    unfold pu_le
    split <;> omega
theorem pu_le_dn {dn : Nat → Nat} {c : Nat} : ∀ k t, t < k → pu_le dn c k ≤ dn t
  | 0, t, h => absurd h (Nat.not_lt_zero _)
  | k + 1, t, h => by
    unfold pu_le
    by_cases e : t = k
    · subst e; split <;> omega
    · have := pu_le_dn (dn := dn) (c := c) k t (by omega)
      split <;> omega
theorem pu_cleast {p e nt c : Nat} {dn : Nat → Nat} {f : am_M} (hn : nt ≤ 6) (h3 : f 3 2 = nI nt) (hd : ∀ t, t < nt → f (p + 1) t = nI (dn t)) (hb : ∀ t, t < nt → dn t < 2 ^ 30) (hc : c < 2 ^ 30) : ∀ n i, i ≤ nt → nt < i + n → D_X4_least_7 p e n (nI (pu_le dn c i)) (nI i) f = some (nI (pu_le dn c nt), f)
  | 0, i, h1, h2 => absurd h2 (by omega)
  | n + 1, i, h1, h2 => by
    unfold D_X4_least_7
    rw [h3]
    by_cases hi : i < nt
    · have hl : pu_le dn c i < 2 ^ 30 := Nat.lt_of_le_of_lt (pu_le_le i) hc
      have hb' := hb i hi
      have ih := pu_cleast (e := e) hn h3 hd hb hc n (i + 1) (by omega) (by omega)
      rw [if_pos (pu_lt hi (by omega)), pu_chk (by omega) (by decide), nI_clamp (by omega), hd i hi, pu_chk (by omega) (by decide), nI_1]
      by_cases hlt : dn i < pu_le dn c i
      · rw [if_pos (pu_lt hlt (by omega))]
        rw [show pu_le dn c (i + 1) = dn i from if_pos hlt] at ih
        exact ih
      · rw [if_neg (pu_nlt (by omega) (by omega))]
        rw [show pu_le dn c (i + 1) = pu_le dn c i from if_neg hlt] at ih
        exact ih
    · have : i = nt := by omega
      subst this
      rw [if_neg (pu_nlt (Nat.le_refl _) (by omega))]
theorem pu_mleast {nt c : Nat} {dn : Nat → Nat} {f : am_M} (hn : nt ≤ 6) (h3 : f 91 3 = nI nt) (hd : ∀ t, t < nt → f 95 (1 + t) = nI (dn t)) (hb : ∀ t, t < nt → dn t < 2 ^ 30) (hc : c < 2 ^ 30) : ∀ n i, i ≤ nt → nt < i + n → D_X8_least_9 n (nI (pu_le dn c i)) (nI i) f = some (nI (pu_le dn c nt), f)
  | 0, i, h1, h2 => absurd h2 (by omega)
  | n + 1, i, h1, h2 => by
    unfold D_X8_least_9
    rw [h3]
    by_cases hi : i < nt
    · have hl : pu_le dn c i < 2 ^ 30 := Nat.lt_of_le_of_lt (pu_le_le i) hc
      have hb' := hb i hi
      have e1 : (1 : Int32) + nI i = nI (1 + i) := nI_add 1 i
      have ih := pu_mleast hn h3 hd hb hc n (i + 1) (by omega) (by omega)
      rw [if_pos (pu_lt hi (by omega)), e1, pu_chk (by omega) (by decide), nI_clamp (by omega), hd i hi, pu_chk (by omega) (by decide), nI_1]
      by_cases hlt : dn i < pu_le dn c i
      · rw [if_pos (pu_lt hlt (by omega))]
        rw [show pu_le dn c (i + 1) = dn i from if_pos hlt] at ih
        exact ih
      · rw [if_neg (pu_nlt (by omega) (by omega))]
        rw [show pu_le dn c (i + 1) = pu_le dn c i from if_neg hlt] at ih
        exact ih
    · have : i = nt := by omega
      subst this
      rw [if_neg (pu_nlt (Nat.le_refl _) (by omega))]
theorem pu_lleast {nt c : Nat} {dn : Nat → Nat} {f : am_M} (hn : nt ≤ 6) (h3 : f 91 3 = nI nt) (hd : ∀ t, t < nt → f 111 t = nI (dn t)) (hb : ∀ t, t < nt → dn t < 2 ^ 30) (hc : c < 2 ^ 30) : ∀ n i, i ≤ nt → nt < i + n → D_X8_leastOver_7 n (nI (pu_le dn c i)) (nI i) f = some (nI (pu_le dn c nt), f)
  | 0, i, h1, h2 => absurd h2 (by omega)
  | n + 1, i, h1, h2 => by
    unfold D_X8_leastOver_7
    rw [h3]
    by_cases hi : i < nt
    · have hl : pu_le dn c i < 2 ^ 30 := Nat.lt_of_le_of_lt (pu_le_le i) hc
      have hb' := hb i hi
      have ih := pu_lleast hn h3 hd hb hc n (i + 1) (by omega) (by omega)
      rw [if_pos (pu_lt hi (by omega)), pu_chk (by omega) (by decide), nI_clamp (by omega), hd i hi, pu_chk (by omega) (by decide), nI_1]
      by_cases hlt : dn i < pu_le dn c i
      · rw [if_pos (pu_lt hlt (by omega))]
        rw [show pu_le dn c (i + 1) = dn i from if_pos hlt] at ih
        exact ih
      · rw [if_neg (pu_nlt (by omega) (by omega))]
        rw [show pu_le dn c (i + 1) = pu_le dn c i from if_neg hlt] at ih
        exact ih
    · have : i = nt := by omega
      subst this
      rw [if_neg (pu_nlt (Nat.le_refl _) (by omega))]
/-! the words of an event -/
theorem pu_mes : ∀ a, a < 3 → ∀ b, b < 3 → ∀ c, c < 100 → nI (a + 4 * b + 16 * c) &&& 3 = nI a ∧ (nI (a + 4 * b + 16 * c) >>> ((2 : Int32) &&& 31)) &&& 3 = nI b ∧ nI (a + 4 * b + 16 * c) / 16 = nI c := by decide +kernel
theorem pu_ces : ∀ a, a < 3 → ∀ b, b < 3 → ∀ c, c < 100 → nI (b + 4 * a + 16 * c) &&& 3 = nI b ∧ (nI (b + 4 * a + 16 * c) >>> ((2 : Int32) &&& 31)) &&& 3 = nI a ∧ nI (b + 4 * a + 16 * c) >>> ((4 : Int32) &&& 31) = nI c ∧ (nI b ||| (nI a <<< ((2 : Int32) &&& 31))) ||| (nI c <<< ((4 : Int32) &&& 31)) = nI (b + 4 * a + 16 * c) := by decide +kernel
/-- what holds of the events of a standing -/
def pu_Eok (ev : Nat → Nat × Nat × Nat) (c : Nat) : Prop := ∀ k, k < c → (ev k).1 ≤ 2 ∧ (ev k).2.1 < 3 ∧ (ev k).2.2 ≤ 99 ∧ ((ev k).1 ≠ 1 → (ev k).2.2 = 0)
theorem pu_mcursor {ev : Nat → Nat × Nat × Nat} {c : Nat} {f : am_M} (hc : c ≤ 999) (h0 : f 95 0 = nI c) (hE : pu_Eok ev c) (hd : ∀ k, k < c → f 95 (26 + k) = pu_me (ev k)) : ∀ d n k, k + d = c → d < n → D_X8_cursor_2 n (nI k) f = some (nI (pu_cur ev d k), f)
  | d, 0, k, h1, h2 => absurd h2 (by omega)
  | 0, n + 1, k, h1, h2 => by
    have : k = c := by omega
    subst this
    unfold D_X8_cursor_2
    rw [h0, if_neg (pu_nlt (Nat.le_refl _) (by omega))]
    rfl
  | d + 1, n + 1, k, h1, h2 => by
    have hk : k < c := by omega
    obtain ⟨a1, a2, a3, _⟩ := hE k hk
    have e1 : (26 : Int32) + nI k = nI (26 + k) := nI_add 26 k
    have ih := pu_mcursor hc h0 hE hd d n (k + 1) (by omega) (by omega)
    unfold D_X8_cursor_2 D_X8_kindOf
    rw [h0, if_pos (pu_lt hk (by omega)), e1, pu_chk (by omega) (by decide), nI_clamp (by omega), hd k hk, pu_bI]
    unfold pu_me
    rw [(pu_mes _ (by omega) _ a2 _ (by omega)).1, nI_1]
    unfold pu_cur
    by_cases hz : (ev k).1 = 0
    · rw [if_pos (by rw [hz]; rfl), if_pos hz]
    · rw [if_neg (nI_ne0 (by omega) (by omega)), if_neg hz]
      exact ih
theorem pu_cur_le {ev : Nat → Nat × Nat × Nat} : ∀ d k, pu_cur ev d k ≤ k + d
  | 0, k => Nat.le_refl _
  | d + 1, k => by
    have := pu_cur_le (ev := ev) d (k + 1)
    unfold pu_cur
    split <;> omega
theorem pu_cur_ge {ev : Nat → Nat × Nat × Nat} : ∀ d k, k ≤ pu_cur ev d k
  | 0, k => Nat.le_refl _
  | d + 1, k => by
    have := pu_cur_ge (ev := ev) d (k + 1)
    unfold pu_cur
    split <;> omega
theorem pu_cur_ne {ev : Nat → Nat × Nat × Nat} : ∀ d k j, k ≤ j → j < pu_cur ev d k → (ev j).1 ≠ 0
  | 0, k, j, h1, h2 => absurd h2 (by unfold pu_cur; omega)
  | d + 1, k, j, h1, h2 => by
    unfold pu_cur at h2
    by_cases hz : (ev k).1 = 0
    · rw [if_pos hz] at h2; omega
    · rw [if_neg hz] at h2
      by_cases hj : j = k
      · subst hj; exact hz
      · exact pu_cur_ne d (k + 1) j (by omega) h2
theorem pu_cur_eq {ev : Nat → Nat × Nat × Nat} : ∀ d k, pu_cur ev d k < k + d → (ev (pu_cur ev d k)).1 = 0
  | 0, k, h => absurd h (by unfold pu_cur; omega)
  | d + 1, k, h => by
    unfold pu_cur at h ⊢
    by_cases hz : (ev k).1 = 0
    · rw [if_pos hz]; exact hz
    · rw [if_neg hz] at h ⊢
      exact pu_cur_eq d (k + 1) (by omega)
theorem pu_cu_le {S : pu_S} : pu_cu S ≤ pu_cl S := by
  have := pu_cur_le (ev := pu_ev S) (pu_cl S) 0
  unfold pu_cu
  omega
/-! the slowest of a set -/
theorem pu_bits : ∀ b, b < 64 → ∀ i, i < 6 → ((nI b >>> (nI i &&& 31)) &&& 1) = nI (b / 2 ^ i % 2) := by decide +kernel
theorem pu_bitC {b i : Nat} (hb : b < 64) (hi : i < 6) : (((nI b >>> (nI i &&& 31)) &&& 1) = 1) ↔ b / 2 ^ i % 2 = 1 := by
  rw [pu_bits b hb i hi]
  exact nI_eq (b := 1) (by omega) (by decide)
def pu_so (dn : Nat → Nat) (b : Nat) : Nat → Option Nat
  | 0 => none
  | i + 1 => if b / 2 ^ i % 2 = 1 then (match pu_so dn b i with
    | none => some i
    | some s => if dn i < dn s then some i else some s) else pu_so dn b i
theorem pu_so_lt {dn : Nat → Nat} {b : Nat} : ∀ i s, pu_so dn b i = some s → s < i ∧ b / 2 ^ s % 2 = 1
  | 0, s, h => by simp [pu_so] at h
  | i + 1, s, h => by
    unfold pu_so at h
    by_cases hb : b / 2 ^ i % 2 = 1
    · rw [if_pos hb] at h
      cases hs : pu_so dn b i with
      | none => rw [hs] at h; simp at h; subst h; exact ⟨by omega, hb⟩
      | some q =>
        rw [hs] at h
        have := pu_so_lt i q hs
        simp only at h
        by_cases hq : dn i < dn q
        · rw [if_pos hq] at h; simp at h; subst h; exact ⟨by omega, hb⟩
        · rw [if_neg hq] at h; simp at h; subst h; exact ⟨by omega, this.2⟩
    · rw [if_neg hb] at h
      have := pu_so_lt i s h
      exact ⟨by omega, this.2⟩
theorem pu_so_n {dn : Nat → Nat} {b i : Nat} (hb : b / 2 ^ i % 2 = 1) (hs : pu_so dn b i = none) : pu_so dn b (i + 1) = some i := by simp [pu_so, hb, hs]
theorem pu_so_a {dn : Nat → Nat} {b i s : Nat} (hb : b / 2 ^ i % 2 = 1) (hs : pu_so dn b i = some s) (hq : dn i < dn s) : pu_so dn b (i + 1) = some i := by simp [pu_so, hb, hs, hq]
theorem pu_so_b {dn : Nat → Nat} {b i s : Nat} (hb : b / 2 ^ i % 2 = 1) (hs : pu_so dn b i = some s) (hq : ¬ dn i < dn s) : pu_so dn b (i + 1) = some s := by simp [pu_so, hb, hs, hq]
theorem pu_so_0 {dn : Nat → Nat} {b i : Nat} (hb : ¬ b / 2 ^ i % 2 = 1) : pu_so dn b (i + 1) = pu_so dn b i := by simp [pu_so, hb]
theorem pu_cslow {p e nt b : Nat} {dn : Nat → Nat} {f : am_M} (hn : nt ≤ 6) (hb : b < 64) (h3 : f 3 2 = nI nt) (hd : ∀ t, t < nt → f (p + 1) t = nI (dn t)) (hdb : ∀ t, t < nt → dn t < 2 ^ 30) : ∀ n i, i ≤ nt → nt < i + n → D_X4_slowestOf_5 p e n (nI b) (pu_cd (pu_so dn b i)) (nI i) f = some (pu_cd (pu_so dn b nt), f)
  | 0, i, h1, h2 => absurd h2 (by omega)
  | n + 1, i, h1, h2 => by
    unfold D_X4_slowestOf_5
    rw [h3]
    by_cases hi : i < nt
    · have ih := pu_cslow (e := e) hn hb h3 hd hdb n (i + 1) (by omega) (by omega)
      have hdi := hdb i hi
      rw [if_pos (pu_lt hi (by omega)), nI_1]
      by_cases hbi : b / 2 ^ i % 2 = 1
      · rw [if_pos ((pu_bitC hb (by omega)).mpr hbi)]
        cases hs : pu_so dn b i with
        | none => rw [pu_so_n hbi hs] at ih; exact (if_pos rfl).trans ih
        | some s =>
          have hsl := (pu_so_lt i s hs).1
          have hds := hdb s (by omega)
          show (if nI s = -9 then _ else am_chk (nI i) 6 (am_chk (nI s) 6 _)) = _
          rw [if_neg (pu_neg9 (by omega)), pu_chk (by omega) (by decide), pu_chk (by omega) (by decide), nI_clamp (by omega), hd i hi]
          show (if nI (dn i) < f (p + 1) (nI s).toNatClampNeg then _ else _) = _
          rw [nI_clamp (by omega), hd s (by omega)]
          by_cases hq : dn i < dn s
          · rw [pu_so_a hbi hs hq] at ih
            rw [if_pos (pu_lt hq (by omega))]; exact ih
          · rw [pu_so_b hbi hs hq] at ih
            rw [if_neg (pu_nlt (by omega) (by omega))]; exact ih
      · rw [pu_so_0 hbi] at ih
        rw [if_neg (fun q => hbi ((pu_bitC hb (by omega)).mp q))]
        exact ih
    · have : i = nt := by omega
      subst this
      rw [if_neg (pu_nlt (Nat.le_refl _) (by omega))]
theorem pu_has {b i : Nat} {f : am_M} (hb : b < 64) (hi : i < 6) : D_X8_has (nI b) (nI i) f = some (nI (b / 2 ^ i % 2), f) := by
  unfold D_X8_has
  by_cases h : b / 2 ^ i % 2 = 1
  · rw [if_pos ((pu_bitC hb hi).mpr h), h]; rfl
  · rw [if_neg (fun q => h ((pu_bitC hb hi).mp q)), show b / 2 ^ i % 2 = 0 by omega]; rfl
theorem pu_mslow {nt b : Nat} {dn : Nat → Nat} {f : am_M} (hn : nt ≤ 6) (hb : b < 64) (h3 : f 91 3 = nI nt) (hd : ∀ t, t < nt → f 95 (1 + t) = nI (dn t)) (hdb : ∀ t, t < nt → dn t < 2 ^ 30) : ∀ n i, i ≤ nt → nt < i + n → D_X8_slowest_5 n (nI b) (pu_cd (pu_so dn b i)) (nI i) f = some (pu_cd (pu_so dn b nt), f)
  | 0, i, h1, h2 => absurd h2 (by omega)
  | n + 1, i, h1, h2 => by
    unfold D_X8_slowest_5
    rw [h3]
    by_cases hi : i < nt
    · have ih := pu_mslow hn hb h3 hd hdb n (i + 1) (by omega) (by omega)
      have hdi := hdb i hi
      rw [if_pos (pu_lt hi (by omega)), pu_has hb (by omega), pu_bI, nI_1]
      by_cases hbi : b / 2 ^ i % 2 = 1
      · rw [hbi, if_neg (by decide)]
        cases hs : pu_so dn b i with
        | none => rw [pu_so_n hbi hs] at ih; exact (if_pos rfl).trans ih
        | some s =>
          have hsl := (pu_so_lt i s hs).1
          have hds := hdb s (by omega)
          have e1 : (1 : Int32) + nI i = nI (1 + i) := nI_add 1 i
          have e2 : (1 : Int32) + nI s = nI (1 + s) := nI_add 1 s
          show (if nI s = -9 then _ else am_chk (1 + nI i) 1026 (am_chk (1 + nI s) 1026 (if f 95 (1 + nI i).toNatClampNeg < f 95 (1 + nI s).toNatClampNeg then _ else _))) = _
          rw [if_neg (pu_neg9 (by omega)), e1, e2, pu_chk (by omega) (by decide), pu_chk (by omega) (by decide), nI_clamp (by omega), nI_clamp (by omega), hd i hi, hd s (by omega)]
          by_cases hq : dn i < dn s
          · rw [pu_so_a hbi hs hq] at ih
            rw [if_pos (pu_lt hq (by omega))]; exact ih
          · rw [pu_so_b hbi hs hq] at ih
            rw [if_neg (pu_nlt (by omega) (by omega))]; exact ih
      · rw [pu_so_0 hbi] at ih
        rw [show b / 2 ^ i % 2 = 0 by omega, if_pos nI_0]
        exact ih
    · have : i = nt := by omega
      subst this
      rw [if_neg (pu_nlt (Nat.le_refl _) (by omega))]
/-- the least done of a set, from 1000 -/
def pu_ml (dn : Nat → Nat) (b : Nat) : Nat → Nat
  | 0 => 1000
  | i + 1 => if b / 2 ^ i % 2 = 1 then (if dn i < pu_ml dn b i then dn i else pu_ml dn b i) else pu_ml dn b i
theorem pu_ml_so {dn : Nat → Nat} {b : Nat} : ∀ i, (∀ t, t < i → dn t < 1000) → pu_ml dn b i = match pu_so dn b i with
    | none => 1000
    | some s => dn s
  | 0, _ => rfl
  | i + 1, h => by
    have ih := pu_ml_so (dn := dn) (b := b) i (fun t ht => h t (by omega))
    unfold pu_ml pu_so
    by_cases hb : b / 2 ^ i % 2 = 1
    · rw [if_pos hb, if_pos hb, ih]
      cases hs : pu_so dn b i with
      | none => simp only; rw [if_pos (h i (by omega))]
      | some s => simp only; by_cases hq : dn i < dn s
                  · rw [if_pos hq, if_pos hq]
                  · rw [if_neg hq, if_neg hq]
    · rw [if_neg hb, if_neg hb, ih]
theorem pu_matm {nt b t : Nat} {dn : Nat → Nat} {f : am_M} (hn : nt ≤ 6) (hb : b < 64) (ht : t < 6) (h3 : f 91 3 = nI nt) (h94 : f 94 t = nI b) (hd : ∀ t, t < nt → f 95 (1 + t) = nI (dn t)) (hdb : ∀ t, t < nt → dn t < 1000) : ∀ n i, i ≤ nt → nt < i + n → D_X8_atMost_20 n (nI t) (nI (pu_ml dn b i)) (nI i) f = some (nI (pu_ml dn b nt), f)
  | 0, i, h1, h2 => absurd h2 (by omega)
  | n + 1, i, h1, h2 => by
    unfold D_X8_atMost_20
    rw [h3]
    by_cases hi : i < nt
    · have ih := pu_matm hn hb ht h3 h94 hd hdb n (i + 1) (by omega) (by omega)
      have hdi := hdb i hi
      have e1 : (1 : Int32) + nI i = nI (1 + i) := nI_add 1 i
      have hml : pu_ml dn b i ≤ 1000 := by
        rw [pu_ml_so i (fun t ht => hdb t (by omega))]
        cases hs : pu_so dn b i with
        | none => exact Nat.le_refl _
        | some s => exact Nat.le_of_lt (hdb s (by have := (pu_so_lt i s hs).1; omega))
      rw [if_pos (pu_lt hi (by omega)), pu_chk ht (by decide), nI_clamp (by omega), h94, pu_has hb (by omega), pu_bI, nI_1, e1]
      by_cases hbi : b / 2 ^ i % 2 = 1
      · rw [hbi, if_neg (by decide), pu_chk (by omega) (by decide), nI_clamp (by omega), hd i hi, pu_chk (by omega) (by decide)]
        by_cases hq : dn i < pu_ml dn b i
        · rw [show pu_ml dn b (i + 1) = dn i by simp [pu_ml, hbi, hq]] at ih
          rw [if_pos (pu_lt hq (by omega))]; exact ih
        · rw [show pu_ml dn b (i + 1) = pu_ml dn b i by simp [pu_ml, hbi, hq]] at ih
          rw [if_neg (pu_nlt (by omega) (by omega))]; exact ih
      · rw [show pu_ml dn b (i + 1) = pu_ml dn b i by simp [pu_ml, hbi]] at ih
        rw [show b / 2 ^ i % 2 = 0 by omega, if_pos nI_0]
        exact ih
    · have : i = nt := by omega
      subst this
      rw [if_neg (pu_nlt (Nat.le_refl _) (by omega))]
