/-! the text: its tokens, apart from both sides -/
def px_pS (a : Int32) : Bool := decide (a = 32)
def px_pW (a : Int32) : Bool := decide (¬ a < 97 ∧ ¬ 122 < a)
def px_pF (a : Int32) : Bool := decide (¬ a < 48 ∧ ¬ 57 < a)
/-- where a run of such letters ends -/
def px_ru (P : Int32 → Bool) (L : Nat → Int32) : Nat → Nat → Nat
  | 0, k => k
  | d + 1, k => if P (L k) = true then px_ru P L d (k + 1) else k
def px_va (L : Nat → Int32) : Nat → Nat → Nat → Nat
  | 0, _, v => v
  | d + 1, k, v => if px_pF (L k) = true then px_va L d (k + 1) (min (10 * v + ((L k).toNatClampNeg - 48)) 100) else v
def px_s5 (L : Nat → Int32) (s e : Nat) (a b c d g : Int32) : Bool := decide (e = s + 5 ∧ L s = a ∧ L (s + 1) = b ∧ L (s + 2) = c ∧ L (s + 3) = d ∧ L (s + 4) = g)
def px_wk (L : Nat → Int32) (s e : Nat) : Nat := if px_s5 L s e 115 108 111 116 115 = true then 1 else if px_s5 L s e 109 97 107 101 114 = true then 2 else if px_s5 L s e 116 97 107 101 114 = true then 3 else 6
theorem px_ru_ge {P : Int32 → Bool} {L : Nat → Int32} : ∀ d k, k ≤ px_ru P L d k
  | 0, k => Nat.le_refl _
  | d + 1, k => by
    have := px_ru_ge (P := P) (L := L) d (k + 1)
    unfold px_ru
    split <;> omega
theorem px_ru_le {P : Int32 → Bool} {L : Nat → Int32} : ∀ d k, px_ru P L d k ≤ k + d
  | 0, k => Nat.le_refl _
  | d + 1, k => by
    have := px_ru_le (P := P) (L := L) d (k + 1)
    unfold px_ru
    split <;> omega
theorem px_ru_no {P : Int32 → Bool} {L : Nat → Int32} {d k : Nat} (h : ¬ P (L k) = true) : px_ru P L d k = k := by
  cases d with
  | zero => rfl
  | succ d => show (if P (L k) = true then _ else k) = k; rw [if_neg h]
theorem px_ru_gt {P : Int32 → Bool} {L : Nat → Int32} {d k : Nat} (h : P (L k) = true) (hd : 0 < d) : k < px_ru P L d k := by
  cases d with
  | zero => exact absurd hd (Nat.not_lt_zero _)
  | succ d =>
    show k < (if P (L k) = true then _ else k)
    rw [if_pos h]
    have := px_ru_ge (P := P) (L := L) d (k + 1)
    omega
theorem px_ru_end {P : Int32 → Bool} {L : Nat → Int32} : ∀ d k, px_ru P L d k < k + d → ¬ P (L (px_ru P L d k)) = true
  | 0, k, h => absurd h (by show ¬ k < k + 0; omega)
  | d + 1, k, h => by
    unfold px_ru at h ⊢
    by_cases hp : P (L k) = true
    · rw [if_pos hp] at h ⊢
      exact px_ru_end d (k + 1) (by omega)
    · rw [if_neg hp]; exact hp
/-- the start of the next token -/
def px_sk (n : Nat) (L : Nat → Int32) (i : Nat) : Nat := px_ru px_pS L (n - i) i
/-- its end, its kind, its number, all by its start -/
def px_te (n : Nat) (L : Nat → Int32) (s : Nat) : Nat := if s < n then (if px_pW (L s) = true then px_ru px_pW L (n - s) s else if px_pF (L s) = true then px_ru px_pF L (n - s) s else s + 1) else s
def px_tv (n : Nat) (L : Nat → Int32) (s : Nat) : Nat := px_va L (n - s) s 0
def px_nk (L : Nat → Int32) (s e v : Nat) : Nat := if (L s = 48 ∧ s + 1 < e) ∨ 99 < v then 6 else 4
def px_tk (n : Nat) (L : Nat → Int32) (s : Nat) : Nat := if s < n then (if px_pW (L s) = true then px_wk L s (px_te n L s) else if px_pF (L s) = true then px_nk L s (px_te n L s) (px_tv n L s) else if L s = 59 then 5 else 6) else 0
theorem px_sk_le {n i : Nat} {L : Nat → Int32} (h : i ≤ n) : px_sk n L i ≤ n := by
  have := px_ru_le (P := px_pS) (L := L) (n - i) i
  unfold px_sk
  omega
theorem px_sk_ge {n i : Nat} {L : Nat → Int32} : i ≤ px_sk n L i := px_ru_ge _ _
theorem px_sk_id {n i : Nat} {L : Nat → Int32} (h : i ≤ n) : px_sk n L (px_sk n L i) = px_sk n L i := by
  have h1 := px_sk_le (L := L) h
  by_cases e : px_sk n L i < n
  · have := px_ru_end (P := px_pS) (L := L) (n - i) i (by show px_sk n L i < _; omega)
    exact px_ru_no this
  · have e2 : px_sk n L i = n := by omega
    rw [e2]
    unfold px_sk
    rw [Nat.sub_self]
    rfl
theorem px_te_gt {n s : Nat} {L : Nat → Int32} (h : s < n) : s < px_te n L s := by
  unfold px_te
  rw [if_pos h]
  by_cases hw : px_pW (L s) = true
  · rw [if_pos hw]; exact px_ru_gt hw (by omega)
  · rw [if_neg hw]
    by_cases hf : px_pF (L s) = true
    · rw [if_pos hf]; exact px_ru_gt hf (by omega)
    · rw [if_neg hf]; omega
theorem px_te_le {n s : Nat} {L : Nat → Int32} (h : s ≤ n) : px_te n L s ≤ n := by
  unfold px_te
  by_cases hs : s < n
  · have h1 := px_ru_le (P := px_pW) (L := L) (n - s) s
    have h2 := px_ru_le (P := px_pF) (L := L) (n - s) s
    rw [if_pos hs]
    split
    · omega
    · split <;> omega
  · rw [if_neg hs]; exact h
theorem px_wk_in {L : Nat → Int32} {s e : Nat} : px_wk L s e = 1 ∨ px_wk L s e = 2 ∨ px_wk L s e = 3 ∨ px_wk L s e = 6 := by
  unfold px_wk
  split
  · simp
  · split
    · simp
    · split <;> simp
theorem px_nk_in {L : Nat → Int32} {s e v : Nat} : px_nk L s e v = 6 ∨ px_nk L s e v = 4 := by
  unfold px_nk
  split <;> simp
theorem px_tk_le {n s : Nat} {L : Nat → Int32} : px_tk n L s ≤ 6 := by
  have h1 := px_wk_in (L := L) (s := s) (e := px_te n L s)
  have h2 := px_nk_in (L := L) (s := s) (e := px_te n L s) (v := px_tv n L s)
  unfold px_tk
  split
  · split
    · omega
    · split
      · omega
      · split <;> omega
  · omega
theorem px_tk_0 {n s : Nat} {L : Nat → Int32} : px_tk n L s = 0 ↔ ¬ s < n := by
  have h1 := px_wk_in (L := L) (s := s) (e := px_te n L s)
  have h2 := px_nk_in (L := L) (s := s) (e := px_te n L s) (v := px_tv n L s)
  unfold px_tk
  by_cases h : s < n
  · rw [if_pos h]
    refine ⟨fun q => ?_, fun q => absurd h q⟩
    exfalso
    revert q
    split
    · omega
    · split
      · omega
      · split <;> omega
  · rw [if_neg h]; exact ⟨fun _ => h, fun _ => rfl⟩
theorem px_59 : px_pW 59 = false ∧ px_pF 59 = false := by decide
theorem px_FW {a : Int32} (h : px_pF a = true) : ¬ px_pW a = true := by
  intro q
  unfold px_pF at h
  unfold px_pW at q
  have h := of_decide_eq_true h
  have q := of_decide_eq_true q
  have h1 := h.2
  have h2 := q.1
  rw [Int32.lt_iff_toInt_lt] at h1 h2
  have e1 : (57 : Int32).toInt = 57 := by decide
  have e2 : (97 : Int32).toInt = 97 := by decide
  omega
theorem px_tk_5 {n s : Nat} {L : Nat → Int32} : px_tk n L s = 5 ↔ s < n ∧ L s = 59 := by
  have h1 := px_wk_in (L := L) (s := s) (e := px_te n L s)
  have h2 := px_nk_in (L := L) (s := s) (e := px_te n L s) (v := px_tv n L s)
  unfold px_tk
  by_cases h : s < n
  · rw [if_pos h]
    by_cases h9 : L s = 59
    · rw [if_neg (by rw [h9, px_59.1]; decide), if_neg (by rw [h9, px_59.2]; decide), if_pos h9]
      exact ⟨fun _ => ⟨h, h9⟩, fun _ => rfl⟩
    · refine ⟨fun q => ?_, fun q => absurd q.2 h9⟩
      exfalso
      rw [if_neg h9] at q
      revert q
      split
      · omega
      · split <;> omega
  · rw [if_neg h]; exact ⟨fun q => absurd q (by decide), fun q => absurd q.1 h⟩
theorem px_tk_4 {n s : Nat} {L : Nat → Int32} : px_tk n L s = 4 ↔ s < n ∧ px_pF (L s) = true ∧ ¬ ((L s = 48 ∧ s + 1 < px_te n L s) ∨ 99 < px_tv n L s) := by
  have h1 := px_wk_in (L := L) (s := s) (e := px_te n L s)
  unfold px_tk
  by_cases h : s < n
  · rw [if_pos h]
    by_cases hf : px_pF (L s) = true
    · rw [if_neg (px_FW hf), if_pos hf]
      unfold px_nk
      by_cases hc : (L s = 48 ∧ s + 1 < px_te n L s) ∨ 99 < px_tv n L s
      · rw [if_pos hc]; exact ⟨fun q => absurd q (by decide), fun q => absurd hc q.2.2⟩
      · rw [if_neg hc]; exact ⟨fun _ => ⟨h, hf, hc⟩, fun _ => rfl⟩
    · rw [if_neg hf]
      refine ⟨fun q => ?_, fun q => absurd q.2.1 hf⟩
      exfalso
      revert q
      split
      · omega
      · split <;> omega
  · rw [if_neg h]; exact ⟨fun q => absurd q (by decide), fun q => absurd q.1 h⟩
theorem px_tk_w {n s : Nat} {L : Nat → Int32} (h : px_tk n L s = 1 ∨ px_tk n L s = 2 ∨ px_tk n L s = 3) : s < n ∧ px_pW (L s) = true ∧ px_te n L s = px_ru px_pW L (n - s) s ∧ px_tk n L s = px_wk L s (px_te n L s) := by
  have h2 := px_nk_in (L := L) (s := s) (e := px_te n L s) (v := px_tv n L s)
  by_cases hs : s < n
  · by_cases hw : px_pW (L s) = true
    · refine ⟨hs, hw, by unfold px_te; rw [if_pos hs, if_pos hw], ?_⟩
      rw [px_tk, if_pos hs, if_pos hw]
    · exfalso
      rw [px_tk, if_pos hs, if_neg hw] at h
      revert h
      split
      · omega
      · split <;> omega
  · exfalso
    rw [px_tk, if_neg hs] at h
    omega
theorem px_tkW {n s : Nat} {L : Nat → Int32} (hs : s < n) (hw : px_pW (L s) = true) : px_te n L s = px_ru px_pW L (n - s) s ∧ px_tk n L s = px_wk L s (px_te n L s) := ⟨by unfold px_te; rw [if_pos hs, if_pos hw], by rw [px_tk, if_pos hs, if_pos hw]⟩
theorem px_tkF {n s : Nat} {L : Nat → Int32} (hs : s < n) (hw : ¬ px_pW (L s) = true) (hf : px_pF (L s) = true) : px_te n L s = px_ru px_pF L (n - s) s ∧ px_tk n L s = px_nk L s (px_te n L s) (px_tv n L s) := ⟨by unfold px_te; rw [if_pos hs, if_neg hw, if_pos hf], by rw [px_tk, if_pos hs, if_neg hw, if_pos hf]⟩
theorem px_tkO {n s : Nat} {L : Nat → Int32} (hs : s < n) (hw : ¬ px_pW (L s) = true) (hf : ¬ px_pF (L s) = true) : px_te n L s = s + 1 ∧ px_tk n L s = if L s = 59 then 5 else 6 := ⟨by unfold px_te; rw [if_pos hs, if_neg hw, if_neg hf], by rw [px_tk, if_pos hs, if_neg hw, if_neg hf]⟩
theorem px_fig {a : Int32} (h : px_pF a = true) : ∃ c, c ≤ 9 ∧ a = nI (48 + c) ∧ a.toNatClampNeg - 48 = c := by
  unfold px_pF at h
  obtain ⟨h1, h2⟩ := of_decide_eq_true h
  have h0 : ¬ a < 0 := by
    intro q
    refine h1 ?_
    rw [Int32.lt_iff_toInt_lt] at q ⊢
    have e1 : (0 : Int32).toInt = 0 := by decide
    have e2 : (48 : Int32).toInt = 48 := by decide
    omega
  obtain ⟨j, hj, rfl⟩ := nI_of h0
  have h1 : ¬ nI j < nI 48 := h1
  have h2 : ¬ nI 57 < nI j := h2
  rw [nI_ltI hj (by decide)] at h1
  rw [nI_ltI (by decide) hj] at h2
  exact ⟨j - 48, by omega, by rw [show 48 + (j - 48) = j by omega], by rw [nI_clamp hj]⟩
theorem px_va_le {L : Nat → Int32} : ∀ d k v, v ≤ 100 → px_va L d k v ≤ 100
  | 0, k, v, h => h
  | d + 1, k, v, h => by
    unfold px_va
    split
    · exact px_va_le d (k + 1) _ (by omega)
    · exact h
