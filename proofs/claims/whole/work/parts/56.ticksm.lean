/-! the model's tick -/
def pu_mb (dn : Nat → Nat) (b a : Nat) : Nat → Nat
  | 0 => a
  | i + 1 => if b / 2 ^ i % 2 = 1 then (if dn i < pu_mb dn b a i then dn i else pu_mb dn b a i) else pu_mb dn b a i
theorem pu_mb_so {dn : Nat → Nat} {b a : Nat} : ∀ i, pu_mb dn b a i = match pu_so dn b i with
    | none => a
    | some s => min a (dn s)
  | 0 => rfl
  | i + 1 => by
    have ih := pu_mb_so (dn := dn) (b := b) (a := a) i
    by_cases hb : b / 2 ^ i % 2 = 1
    · have e : pu_mb dn b a (i + 1) = if dn i < pu_mb dn b a i then dn i else pu_mb dn b a i := by
        show (if b / 2 ^ i % 2 = 1 then _ else _) = _
        rw [if_pos hb]
      rw [e]
      cases hs : pu_so dn b i with
      | none =>
        rw [hs] at ih
        have ih : pu_mb dn b a i = a := ih
        rw [pu_so_n hb hs, ih]
        show _ = min a (dn i)
        split <;> omega
      | some s =>
        rw [hs] at ih
        have ih : pu_mb dn b a i = min a (dn s) := ih
        by_cases hq : dn i < dn s
        · rw [pu_so_a hb hs hq, ih]
          show _ = min a (dn i)
          split <;> omega
        · rw [pu_so_b hb hs hq, ih]
          show _ = min a (dn s)
          split <;> omega
    · have e : pu_mb dn b a (i + 1) = pu_mb dn b a i := by
        show (if b / 2 ^ i % 2 = 1 then _ else _) = _
        rw [if_neg hb]
      rw [e, pu_so_0 hb, ih]
theorem pu_so_ext {dn : Nat → Nat} {b t : Nat} (hb : b < 2 ^ t) : ∀ d, pu_so dn b (t + d) = pu_so dn b t
  | 0 => rfl
  | d + 1 => by
    rw [show t + (d + 1) = (t + d) + 1 by omega, pu_so_0 (fun q => by have := pu_bit_lt hb q; omega), pu_so_ext hb d]
theorem pu_mmost {t b a : Nat} {dn : Nat → Nat} {f : am_M} (ht : t < 6) (hb : b < 64) (ha : a < 2 ^ 30) (h94 : f 94 t = nI b) (hd : ∀ w, w < t → f 111 w = nI (dn w)) (hdb : ∀ w, w < t → dn w < 2 ^ 30) : ∀ d fu i, i + d = t → d < fu → D_X8_mostByRule_26 fu (nI t) (nI (pu_mb dn b a i)) (nI i) f = some (nI (pu_mb dn b a t), f)
  | d, 0, i, _, h => absurd h (by omega)
  | 0, fu + 1, i, h1, h2 => by
    have : i = t := by omega
    subst this
    rw [D_X8_mostByRule_26, if_neg (pu_nlt (Nat.le_refl _) (by omega))]
  | d + 1, fu + 1, i, h1, h2 => by
    have ih := pu_mmost ht hb ha h94 hd hdb d fu (i + 1) (by omega) (by omega)
    have hdi := hdb i (by omega)
    have hmb : pu_mb dn b a i < 2 ^ 30 := by
      rw [pu_mb_so]
      cases pu_so dn b i with
      | none => exact ha
      | some s => show min a (dn s) < 2 ^ 30; omega
    rw [D_X8_mostByRule_26, if_pos (pu_lt (by omega) (by omega)), pu_chk ht (by decide), nI_clamp (by omega), h94, pu_has hb (by omega), pu_bI, nI_1]
    by_cases hbi : b / 2 ^ i % 2 = 1
    · rw [hbi, if_neg (show ¬ nI 1 = 0 by decide), pu_chk (by omega) (by decide), nI_clamp (by omega), hd i (by omega), pu_chk (by omega) (by decide)]
      by_cases hq : dn i < pu_mb dn b a i
      · rw [show pu_mb dn b a (i + 1) = dn i by simp [pu_mb, hbi, hq]] at ih
        rw [if_pos (pu_lt hq (by omega))]; exact ih
      · rw [show pu_mb dn b a (i + 1) = pu_mb dn b a i by simp [pu_mb, hbi, hq]] at ih
        rw [if_neg (pu_nlt (by omega) (by omega))]; exact ih
    · rw [show pu_mb dn b a (i + 1) = pu_mb dn b a i by simp [pu_mb, hbi]] at ih
      rw [show b / 2 ^ i % 2 = 0 by omega, if_pos nI_0]
      exact ih
theorem pu_mKtk {T : pu_T} {B u : Nat} {S : pu_S} {f : am_M} (hT : pu_Tok T) (hB : B ≤ 90000) (h : pu_Kok T B u S) (h3 : pu_Tm T (f 91) (f 92) (f 93) (f 94)) (hF : pu_Km S f) {t : Nat} (ht : t < pu_nt T) : ∃ v, D_X8_mostByRule (nI t) (nI u) f = some (nI v, f) ∧ v ≤ 200000 ∧ (if pu_dn S t + pu_sp T t < v then pu_dn S t + pu_sp T t else v) = pu_Kv T u S t := by
  have hn := hT.2.2.1
  have hb := pu_nz hT ht
  have h2 := (hT.2.2.2.2 t ht).2.2
  have hs := (hT.2.2.2.2 t ht).2.1
  have hd := h.1.dn ht
  have hu := h.1.2.2.2.1
  have hc := h.1.cl
  have h94 := h3.2.2.2.2.2 t ht
  have ext : pu_so (pu_dn S) (pu_bh T t) (pu_nt T) = pu_so (pu_dn S) (pu_bh T t) t := by
    have := pu_so_ext (dn := pu_dn S) h2 (pu_nt T - t)
    rw [show t + (pu_nt T - t) = pu_nt T by omega] at this
    exact this
  unfold D_X8_mostByRule
  rw [pu_chk (by omega) (by decide), nI_clamp (by omega), h94]
  by_cases hz : pu_bh T t = 0
  · have hx := pu_mmost (a := u) (by omega) hb (by omega) h94 (fun w hw => hF.2.2.1 w (by omega)) (fun w hw => by have := h.1.dn (t := w) (by omega); omega) t am_fu 0 (Nat.zero_add _) (by show t < 6000; omega)
    refine ⟨u, ?_, by omega, ?_⟩
    · rw [pu_mb_so t, ← ext, hz, pu_so_zero] at hx
      rw [hz, if_pos nI_0]
      exact hx
    · unfold pu_Kv pu_Kam
      rw [hz, pu_so_zero]
      show _ = min (pu_dn S t + pu_sp T t) u
      split <;> omega
  · obtain ⟨i, hi, hbi⟩ := pu_some t (by omega) _ h2 hz
    have hx := pu_mmost (a := pu_dn S t + 16) (by omega) hb (by omega) h94 (fun w hw => hF.2.2.1 w (by omega)) (fun w hw => by have := h.1.dn (t := w) (by omega); omega) t am_fu 0 (Nat.zero_add _) (by show t < 6000; omega)
    have e16 : nI (pu_dn S t) + 16 = nI (pu_dn S t + 16) := nI_add _ 16
    refine ⟨pu_mb (pu_dn S) (pu_bh T t) (pu_dn S t + 16) t, ?_, ?_, ?_⟩
    · rw [if_neg (nI_ne0 (by omega) (by omega)), pu_chk (by omega) (by decide), hF.2.2.1 t (by omega), e16]
      exact hx
    · rw [pu_mb_so]
      cases pu_so (pu_dn S) (pu_bh T t) t with
      | none => show pu_dn S t + 16 ≤ _; omega
      | some s => show min (pu_dn S t + 16) (pu_dn S s) ≤ _; omega
    · unfold pu_Kv pu_Kam
      rw [pu_mb_so, ext]
      cases hs2 : pu_so (pu_dn S) (pu_bh T t) t with
      | none => exact absurd hs2 (pu_so_ex hbi _ (by omega))
      | some s =>
        show (if pu_dn S t + pu_sp T t < min (pu_dn S t + 16) (pu_dn S s) then _ else min (pu_dn S t + 16) (pu_dn S s)) = min (pu_dn S t + pu_sp T t) (pu_dn S s)
        split <;> omega
