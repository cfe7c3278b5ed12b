/-! the row, the events of a maker -/
def pu_ix : List (Nat × Nat) → Nat → Option Nat
  | [], _ => none
  | (a, _) :: r, m => if a = m then some 0 else (pu_ix r m).map (· + 1)
theorem pu_ix_some : ∀ (r : List (Nat × Nat)) (m j : Nat), pu_ix r m = some j → ∃ q, r[j]? = some q ∧ q.1 = m ∧ q.2 = pu_wa r m
  | [], m, j, h => by simp [pu_ix] at h
  | (a, n) :: r, m, j, h => by
    unfold pu_ix at h
    by_cases e : a = m
    · rw [if_pos e] at h
      simp at h
      subst h
      exact ⟨(a, n), rfl, e, by simp [pu_wa, e]⟩
    · rw [if_neg e] at h
      cases hx : pu_ix r m with
      | none => rw [hx] at h; simp at h
      | some i =>
        rw [hx] at h
        simp at h
        subst h
        obtain ⟨q, h1, h2, h3⟩ := pu_ix_some r m i hx
        exact ⟨q, by simpa using h1, h2, by simp [pu_wa, e, h3]⟩
theorem pu_ix_none : ∀ (r : List (Nat × Nat)) (m : Nat), pu_ix r m = none → pu_wa r m = 0 ∧ ∀ q ∈ r, q.1 ≠ m
  | [], m, h => ⟨rfl, fun q hq => by simp at hq⟩
  | (a, n) :: r, m, h => by
    unfold pu_ix at h
    by_cases e : a = m
    · rw [if_pos e] at h; simp at h
    · rw [if_neg e] at h
      have h' : pu_ix r m = none := by
        cases hx : pu_ix r m with
        | none => rfl
        | some i => rw [hx] at h; simp at h
      obtain ⟨h1, h2⟩ := pu_ix_none r m h'
      refine ⟨by simp [pu_wa, e, h1], fun q hq => ?_⟩
      rcases List.mem_cons.mp hq with rfl | hq
      · exact e
      · exact h2 q hq
theorem pu_ix_no : ∀ (r : List (Nat × Nat)) (m : Nat), m ∉ r.map Prod.fst → pu_ix r m = none
  | [], m, h => rfl
  | (a, n) :: r, m, h => by
    have h1 : ¬ a = m := fun e => h (by simp [e])
    have h2 : m ∉ r.map Prod.fst := fun e => h (by simp at e ⊢; exact Or.inr e)
    unfold pu_ix
    rw [if_neg h1, pu_ix_no r m h2]
    rfl
theorem pu_cplace {p e m L : Nat} {f : am_M} (hL : L ≤ 3) (hm : m < 3) (h9 : f p 9 = nI L) : ∀ (s : List (Nat × Nat)) (i n : Nat), i + s.length = L → (∀ (j : Nat) (q : Nat × Nat), s[j]? = some q → f (p + 4) (i + j) = nI q.1 ∧ q.1 < 3) → L < i + n → D_X4_placeInRow_2 p e n (nI m) (nI i) f = some (pu_cd ((pu_ix s m).map (i + ·)), f)
  | s, i, 0, h1, h2, h3 => absurd h3 (by omega)
  | [], i, n + 1, h1, h2, h3 => by
    have : i = L := by simpa using h1
    subst this
    unfold D_X4_placeInRow_2
    rw [h9, if_neg (pu_nlt (Nat.le_refl _) (by omega))]
    rfl
  | (a, w) :: s, i, n + 1, h1, h2, h3 => by
    have hi : i < L := by simp at h1; omega
    obtain ⟨a1, a2⟩ := h2 0 (a, w) rfl
    have ih := pu_cplace (e := e) hL hm h9 s (i + 1) n (by simp at h1; omega) (fun j q hq => by
      have := h2 (j + 1) q (by simpa using hq)
      rw [show i + 1 + j = i + (j + 1) by omega]; exact this) (by omega)
    unfold D_X4_placeInRow_2
    rw [h9, if_pos (pu_lt hi (by omega)), pu_chk (by omega) (by decide), nI_clamp (by omega), show f (p + 4) i = nI a from a1, nI_1]
    unfold pu_ix
    by_cases e : a = m
    · rw [if_pos (by rw [e]), if_pos e]; rfl
    · rw [if_neg (pu_ne e (by simp at a2; omega) (by omega)), if_neg e, ih]
      cases pu_ix s m with
      | none => rfl
      | some j => simp [pu_cd]; congr 1; omega
theorem pu_mplace {m L : Nat} {f : am_M} (hL : L ≤ 3) (hm : m < 3) (h9 : f 95 19 = nI L) : ∀ (s : List (Nat × Nat)) (i n : Nat) (acc : Int32), i + s.length = L → (∀ (j : Nat) (q : Nat × Nat), s[j]? = some q → f 95 (20 + (i + j)) = nI q.1 ∧ q.1 < 3) → (s.map Prod.fst).Nodup → L < i + n → D_X8_placeOf_5 n (nI m) acc (nI i) f = some ((match pu_ix s m with
    | none => acc
    | some j => nI (i + j)), f)
  | s, i, 0, acc, h1, h2, hn, h3 => absurd h3 (by omega)
  | [], i, n + 1, acc, h1, h2, hn, h3 => by
    have : i = L := by simpa using h1
    subst this
    unfold D_X8_placeOf_5
    rw [h9, if_neg (pu_nlt (Nat.le_refl _) (by omega))]
    rfl
  | (a, w) :: s, i, n + 1, acc, h1, h2, hn, h3 => by
    have hi : i < L := by simp at h1; omega
    obtain ⟨a1, a2⟩ := h2 0 (a, w) rfl
    have hn2 : (s.map Prod.fst).Nodup := by simp at hn; exact hn.2
    have hn1 : a ∉ s.map Prod.fst := by simp at hn ⊢; exact hn.1
    have ih := fun acc => pu_mplace hL hm h9 s (i + 1) n acc (by simp at h1; omega) (fun j q hq => by
      have := h2 (j + 1) q (by simpa using hq)
      rw [show i + 1 + j = i + (j + 1) by omega]; exact this) hn2 (by omega)
    have e1 : (20 : Int32) + nI i = nI (20 + i) := nI_add 20 i
    unfold D_X8_placeOf_5
    rw [h9, if_pos (pu_lt hi (by omega)), e1, pu_chk (by omega) (by decide), nI_clamp (by omega), show f 95 (20 + i) = nI a from a1, nI_1]
    unfold pu_ix
    by_cases e : a = m
    · rw [if_pos (by rw [e]), if_pos e, ih, pu_ix_no s m (by rw [← e]; exact hn1)]; rfl
    · rw [if_neg (pu_ne e (by simp at a2; omega) (by omega)), if_neg e, ih]
      cases pu_ix s m with
      | none => rfl
      | some j => simp; congr 1; omega
theorem pu_wa_c (a n : Nat) (r : List (Nat × Nat)) (m : Nat) : pu_wa ((a, n) :: r) m = if a = m then n else pu_wa r m := rfl
theorem pu_sw_c (a n : Nat) (r : List (Nat × Nat)) : pu_sw ((a, n) :: r) = n + pu_sw r := rfl
theorem pu_mwanted {L : Nat} {f : am_M} (hL : L ≤ 3) (h9 : f 95 19 = nI L) : ∀ (s : List (Nat × Nat)) (i n acc : Nat), i + s.length = L → (∀ (j : Nat) (q : Nat × Nat), s[j]? = some q → f 95 (23 + (i + j)) = nI q.2) → L < i + n → D_X8_wanted_4 n (nI acc) (nI i) f = some (nI (acc + pu_sw s), f)
  | s, i, 0, acc, h1, h2, h3 => absurd h3 (by omega)
  | [], i, n + 1, acc, h1, h2, h3 => by
    have : i = L := by simpa using h1
    subst this
    unfold D_X8_wanted_4
    rw [h9, if_neg (pu_nlt (Nat.le_refl _) (by omega))]
    rfl
  | (a, w) :: s, i, n + 1, acc, h1, h2, h3 => by
    have hi : i < L := by simp at h1; omega
    have a1 := h2 0 (a, w) rfl
    have ih := pu_mwanted hL h9 s (i + 1) n (acc + w) (by simp at h1; omega) (fun j q hq => by
      have := h2 (j + 1) q (by simpa using hq)
      rw [show i + 1 + j = i + (j + 1) by omega]; exact this) (by omega)
    have e1 : (23 : Int32) + nI i = nI (23 + i) := nI_add 23 i
    unfold D_X8_wanted_4
    rw [h9, if_pos (pu_lt hi (by omega)), e1, pu_chk (by omega) (by decide), nI_clamp (by omega), show f 95 (23 + i) = nI w from a1, nI_1, nI_add, ih]
    rw [pu_sw_c, Nat.add_assoc]
def pu_swk (r : List (Nat × Nat)) : Nat → Nat
  | 0 => 0
  | k + 1 => pu_swk r k + pu_wa r k
theorem pu_cwanted {p e nm : Nat} {r : List (Nat × Nat)} {f : am_M} (hn : nm ≤ 3) (h3 : f 3 1 = nI nm) (hd : ∀ m, m < 3 → f (p + 5) m = nI (pu_wa r m)) : ∀ n i, i ≤ nm → nm < i + n → D_X4_wantedByAll_4 p e n (nI (pu_swk r i)) (nI i) f = some (nI (pu_swk r nm), f)
  | 0, i, h1, h2 => absurd h2 (by omega)
  | n + 1, i, h1, h2 => by
    unfold D_X4_wantedByAll_4
    rw [h3]
    by_cases hi : i < nm
    · rw [if_pos (pu_lt hi (by omega)), pu_chk (by omega) (by decide), nI_clamp (by omega), hd i (by omega), nI_add, nI_1]
      exact pu_cwanted (e := e) hn h3 hd n (i + 1) (by omega) (by omega)
    · have : i = nm := by omega
      subst this
      rw [if_neg (pu_nlt (Nat.le_refl _) (by omega))]
theorem pu_swk_cons {a n : Nat} {r : List (Nat × Nat)} (ha : pu_wa r a = 0) : ∀ k, pu_swk ((a, n) :: r) k = pu_swk r k + if a < k then n else 0
  | 0 => by simp [pu_swk]
  | k + 1 => by
    show pu_swk ((a, n) :: r) k + pu_wa ((a, n) :: r) k = pu_swk r k + pu_wa r k + _
    rw [pu_swk_cons ha k, pu_wa_c]
    by_cases e : a = k
    · subst e; rw [if_neg (by omega), if_pos rfl, if_pos (by omega), ha]
    · rw [if_neg e]
      by_cases h : a < k
      · rw [if_pos h, if_pos (by omega)]; omega
      · rw [if_neg h, if_neg (by omega)]; omega
theorem pu_swk_all {k : Nat} : ∀ (r : List (Nat × Nat)), (∀ q ∈ r, q.1 < k) → (r.map Prod.fst).Nodup → pu_swk r k = pu_sw r
  | [], _, _ => by
    have : ∀ k, pu_swk [] k = 0 := fun k => by
      induction k with
      | zero => rfl
      | succ k ih => unfold pu_swk; rw [ih]; rfl
    rw [this]; rfl
  | (a, n) :: r, h1, h2 => by
    have hn2 : (r.map Prod.fst).Nodup := by simp at h2; exact h2.2
    have hn1 : a ∉ r.map Prod.fst := by simp at h2 ⊢; exact h2.1
    rw [pu_swk_cons (pu_ix_none r a (pu_ix_no r a hn1)).1, if_pos (h1 (a, n) (by simp)), pu_swk_all r (fun q hq => h1 q (by simp [hq])) hn2, pu_sw_c]
    omega
theorem pu_len {k : Nat} (hk : k ≤ 3) {r : List (Nat × Nat)} (h1 : ∀ q ∈ r, q.1 < k) (h2 : (r.map Prod.fst).Nodup) : r.length ≤ 3 := by
  match r, h1, h2 with
  | [], _, _ => simp
  | [_], _, _ => simp
  | [_, _], _, _ => simp
  | [_, _, _], _, _ => simp
  | a :: b :: c :: d :: r, h1, h2 =>
    have ha := h1 a (by simp)
    have hb := h1 b (by simp)
    have hc := h1 c (by simp)
    have hd := h1 d (by simp)
    simp at h2
    omega
def pu_oc (ev : Nat → Nat × Nat × Nat) (m : Nat) : Nat → Nat → Nat
  | 0, _ => 0
  | d + 1, k => (if (ev k).1 = 0 ∧ (ev k).2.1 = m then 1 else 0) + pu_oc ev m d (k + 1)
theorem pu_oc_s (ev : Nat → Nat × Nat × Nat) (m d k : Nat) : pu_oc ev m (d + 1) k = (if (ev k).1 = 0 ∧ (ev k).2.1 = m then 1 else 0) + pu_oc ev m d (k + 1) := rfl
theorem pu_oc_skip {ev : Nat → Nat × Nat × Nat} {m d : Nat} : ∀ c k, (∀ j, k ≤ j → j < k + c → (ev j).1 ≠ 0) → pu_oc ev m (c + d) k = pu_oc ev m d (k + c)
  | 0, k, _ => by rw [Nat.zero_add, Nat.add_zero]
  | c + 1, k, h => by
    rw [show c + 1 + d = (c + d) + 1 by omega]
    rw [pu_oc_s, if_neg (fun q => h k (Nat.le_refl _) (by omega) q.1), pu_oc_skip c (k + 1) (fun j h1 h2 => h j (by omega) (by omega)), Nat.zero_add, show k + 1 + c = k + (c + 1) by omega]
theorem pu_copen {p m c : Nat} {ev : Nat → Nat × Nat × Nat} {f : am_M} (hm : m < 3) (hc : c ≤ 999) (h0 : f p 2 = nI c) (hE : pu_Eok ev c) (hd : ∀ k, k < c → f (p + 6) k = pu_ce (ev k)) : ∀ d n k acc, k + d = c → d < n → D_X4_openOf_7 p 999 n (nI m) (nI acc) (nI k) f = some (nI (acc + pu_oc ev m d k), f)
  | d, 0, k, acc, h1, h2 => absurd h2 (by omega)
  | 0, n + 1, k, acc, h1, h2 => by
    have : k = c := by omega
    subst this
    unfold D_X4_openOf_7
    rw [h0, if_neg (pu_nlt (Nat.le_refl _) (by omega))]
    rfl
  | d + 1, n + 1, k, acc, h1, h2 => by
    have hk : k < c := by omega
    obtain ⟨a1, a2, a3, _⟩ := hE k hk
    have ih := fun acc => pu_copen hm hc h0 hE hd d n (k + 1) acc (by omega) (by omega)
    have e9 : nI k < Int32.ofNat 999 := pu_lt (b := 999) (by omega) (by decide)
    unfold D_X4_openOf_7 D_X4_kindOf D_X4_makerOf
    rw [h0, if_pos (pu_lt hk (by omega)), if_pos e9, pu_chk (by omega) (by decide), nI_clamp (by omega), hd k hk, pu_bI, pu_chk (by omega) (by decide), hd k hk, pu_bI]
    unfold pu_ce
    obtain ⟨b1, b2, _⟩ := pu_ces _ (show (ev k).1 < 3 by omega) _ a2 _ (show (ev k).2.2 < 100 by omega)
    rw [b1, b2, nI_1, nI_1]
    rw [pu_oc_s]
    by_cases hz : (ev k).1 = 0
    · rw [hz, if_pos nI_0]
      by_cases hmm : (ev k).2.1 = m
      · rw [hmm, if_pos rfl, ih, if_pos ⟨rfl, rfl⟩, Nat.add_assoc]
      · rw [if_neg (pu_ne hmm (by omega) (by omega)), ih, if_neg (fun q => hmm q.2), Nat.zero_add]
    · rw [if_neg (nI_ne0 (by omega) (by omega)), ih, if_neg (fun q => hz q.1), Nat.zero_add]
theorem pu_4m : ∀ m, m < 3 → (0 : Int32) + (4 : Int32) * nI m = nI (4 * m) := by decide +kernel
theorem pu_mopen {m c : Nat} {ev : Nat → Nat × Nat × Nat} {f : am_M} (hm : m < 3) (hc : c ≤ 999) (h0 : f 95 0 = nI c) (hE : pu_Eok ev c) (hd : ∀ k, k < c → f 95 (26 + k) = pu_me (ev k)) : ∀ d n k acc, k + d = c → d < n → D_X8_openOf_4 n (nI m) (nI acc) (nI k) f = some (nI (acc + pu_oc ev m d k), f)
  | d, 0, k, acc, h1, h2 => absurd h2 (by omega)
  | 0, n + 1, k, acc, h1, h2 => by
    have : k = c := by omega
    subst this
    unfold D_X8_openOf_4
    rw [h0, if_neg (pu_nlt (Nat.le_refl _) (by omega))]
    rfl
  | d + 1, n + 1, k, acc, h1, h2 => by
    have hk : k < c := by omega
    obtain ⟨a1, a2, a3, a4⟩ := hE k hk
    have ih := fun acc => pu_mopen hm hc h0 hE hd d n (k + 1) acc (by omega) (by omega)
    have e1 : (26 : Int32) + nI k = nI (26 + k) := nI_add 26 k
    have e2 : nI acc + 0 = nI acc := nI_add acc 0
    unfold D_X8_openOf_4
    rw [h0, if_pos (pu_lt hk (by omega)), e1, pu_chk (by omega) (by decide), nI_clamp (by omega), hd k hk, pu_4m m hm, e2, nI_1, nI_1]
    rw [pu_oc_s]
    unfold pu_me
    by_cases hz : (ev k).1 = 0 ∧ (ev k).2.1 = m
    · have := a4 (by omega)
      rw [if_pos hz, if_pos (by rw [hz.1, hz.2, this]; congr 1; omega), ih, Nat.add_assoc]
    · rw [if_neg hz, if_neg (pu_ne (by omega) (by omega) (by omega)), ih, Nat.zero_add]
