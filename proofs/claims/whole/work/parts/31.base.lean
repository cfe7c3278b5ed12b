/-! numbers, frames by groups -/
theorem pu_chk {α : Type} {k n : Nat} {x : Option α} (h : k < n) (hn : n < 2 ^ 31) : am_chk (nI k) n x = x := by
  unfold am_chk
  rw [if_neg (nI_pos (by omega)), nI_clamp (by omega), if_pos h]
theorem pu_lt {a b : Nat} (h : a < b) (hb : b < 2 ^ 31) : nI a < nI b := (nI_ltI (by omega) hb).mpr h
theorem pu_nlt {a b : Nat} (h : b ≤ a) (ha : a < 2 ^ 31) : ¬ nI a < nI b := fun q => by
  have := (nI_ltI ha (by omega)).mp q
  omega
theorem pu_ne {a b : Nat} (h : a ≠ b) (ha : a < 2 ^ 31) (hb : b < 2 ^ 31) : ¬ nI a = nI b := fun q => h ((nI_eq ha hb).mp q)
theorem pu_neg9 {a : Nat} (ha : a < 2 ^ 31) : ¬ nI a = -9 := by
  intro h
  have h1 := congrArg Int32.toInt h
  rw [nI_toInt ha] at h1
  have : (-9 : Int32).toInt = -9 := by decide
  omega
theorem pu_bI {ρ : Type} {v : Int32} {f : am_M} {k : Int32 → am_M → Option ρ} : am_bI (some (v, f)) k = k v f := rfl
theorem pu_bV {ρ : Type} {f : am_M} {k : am_M → Option ρ} : am_bV (some f) k = k f := rfl
def pu_g (lo hi : Nat) (f f' : am_M) : Prop := ∀ q, lo ≤ q → q ≤ hi → f' q = f q
section FRG
variable {f f' : am_M} {T : pu_T} {S : pu_S} {P : List (pu_S × Option Nat)} {I : Option pu_S}
theorem pu_g.sub {lo hi lo' hi' : Nat} (h : pu_g lo hi f f') (h1 : lo ≤ lo') (h2 : hi' ≤ hi) : pu_g lo' hi' f f' := fun q a b => h q (by omega) (by omega)
theorem pu_frT (e : pu_g 3 6 f f') (h : pu_Tc T (f 3) (f 4) (f 5) (f 6)) : pu_Tc T (f' 3) (f' 4) (f' 5) (f' 6) := by
  rw [e 3 (by decide) (by decide), e 4 (by decide) (by decide), e 5 (by decide) (by decide), e 6 (by decide) (by decide)]; exact h
theorem pu_frS {p : Nat} (e : pu_g p (p + 5) f f') (h : pu_Sf S f p) : pu_Sf S f' p := h.fr (e _ (by omega) (by omega)) (e _ (by omega) (by omega)) (e _ (by omega) (by omega)) (e _ (by omega) (by omega)) (e _ (by omega) (by omega)) (e _ (by omega) (by omega))
theorem pu_frN (e : pu_g 11 17 f f') (h : pu_Sf S f 11 ∧ pu_Ec S (f 17)) : pu_Sf S f' 11 ∧ pu_Ec S (f' 17) := ⟨pu_frS (e.sub (by omega) (by omega)) h.1, by rw [e 17 (by decide) (by decide)]; exact h.2⟩
theorem pu_frP (e : pu_g 18 62 f f') (h : pu_Pc P f) : pu_Pc P f' := by
  obtain ⟨h4, h5, la, h6, h7, h8⟩ := h
  refine ⟨by rw [e 18 (by decide) (by decide)]; exact h4, h5, la, h6, by rw [e 18 (by decide) (by decide)]; exact h7, fun i q hq => ?_⟩
  have hl := pu_pl_lt la i
  exact ⟨pu_frS (e.sub (by omega) (by omega)) (h8 i q hq).1, by rw [e 20 (by decide) (by decide)]; exact (h8 i q hq).2⟩
theorem pu_frI {a p : Nat} (hp : p = a + 1) (e : pu_g a (a + 7) f f') (h : pu_Ic I f a p) : pu_Ic I f' a p := by
  subst hp
  cases I with
  | none => show f' a 1 = 0; rw [e a (by omega) (by omega)]; exact h
  | some S => exact ⟨by rw [e a (by omega) (by omega)]; exact h.1, pu_frS (e.sub (by omega) (by omega)) h.2.1, by rw [e (a + 1 + 6) (by omega) (by omega)]; exact h.2.2⟩
end FRG
/-- two rows of writes elsewhere -/
theorem pu_g1 {f : am_M} {p k lo hi : Nat} {x : Int32} (h : p < lo ∨ hi < p) : pu_g lo hi f (am_wr f p k x) := fun q a b => am_wr_ne q (by omega)
theorem pu_gt {f f1 f2 : am_M} {lo hi : Nat} (h1 : pu_g lo hi f f1) (h2 : pu_g lo hi f1 f2) : pu_g lo hi f f2 := fun q a b => (h2 q a b).trans (h1 q a b)
theorem pu_wr_eq {f : am_M} {p k : Nat} {x : Int32} : am_wr f p k x p k = x := by simp [am_wr]
theorem pu_wr_n1 {f : am_M} {p k q j : Nat} {x : Int32} (h : q ≠ p) : am_wr f p k x q j = f q j := by simp [am_wr, h]
theorem pu_wr_n2 {f : am_M} {p k q j : Nat} {x : Int32} (h : j ≠ k) : am_wr f p k x q j = f q j := by simp [am_wr, h]
theorem pu_sub {a b : Nat} (ha : a < 2 ^ 30) (hb : b < 2 ^ 30) : (nI a - nI b).toInt = (a : Int) - b := by
  rw [Int32.toInt_sub, nI_toInt (by omega), nI_toInt (by omega)]
  exact Int.bmod_eq_of_le (by omega) (by omega)
theorem pu_sublt {a b c : Nat} (ha : a < 2 ^ 30) (hb : b < 2 ^ 30) (hc : c < 2 ^ 31) : nI a - nI b < nI c ↔ a < b + c := by
  rw [Int32.lt_iff_toInt_lt, pu_sub ha hb, nI_toInt (by omega)]
  omega
theorem pu_subN {a b : Nat} (h : b ≤ a) : nI a - nI b = nI (a - b) := by
  have : a = (a - b) + b := by omega
  rw [this, ← nI_add, Nat.add_sub_cancel, Int32.add_sub_cancel]
/-! the frames of the parts of the model, and writes -/
theorem pu_lo.refl {f : am_M} : pu_lo f f := fun _ _ => rfl
theorem pu_hi.refl {f : am_M} : pu_hi f f := fun _ _ => rfl
theorem pu_lo.wr {f g : am_M} {p k : Nat} {x : Int32} (h : pu_lo f g) (hp : p < 91) : pu_lo f (am_wr g p k x) := fun q hq => (am_wr_ne q (by omega)).trans (h q hq)
theorem pu_hi.wr {f g : am_M} {p k : Nat} {x : Int32} (h : pu_hi f g) (hp : 91 ≤ p) : pu_hi f (am_wr g p k x) := fun q hq => (am_wr_ne q (by omega)).trans (h q hq)
theorem pu_lo.cp {f g : am_M} {a p k l n : Nat} (h : pu_lo f g) (hp : p < 91) : pu_lo f (am_cp g a p k l n) := fun q hq => (am_cp_ne q (by omega)).trans (h q hq)
theorem pu_hi.cp {f g : am_M} {a p k l n : Nat} (h : pu_hi f g) (hp : 91 ≤ p) : pu_hi f (am_cp g a p k l n) := fun q hq => (am_cp_ne q (by omega)).trans (h q hq)
theorem pu_lo.trans {f g h : am_M} (a : pu_lo f g) (b : pu_lo g h) : pu_lo f h := fun q hq => (b q hq).trans (a q hq)
theorem pu_hi.trans {f g h : am_M} (a : pu_hi f g) (b : pu_hi g h) : pu_hi f h := fun q hq => (b q hq).trans (a q hq)
theorem pu_g.refl {f : am_M} {lo hi : Nat} : pu_g lo hi f f := fun _ _ _ => rfl
theorem pu_g.wr {f g : am_M} {lo hi p k : Nat} {x : Int32} (h : pu_g lo hi f g) (hp : p < lo ∨ hi < p) : pu_g lo hi f (am_wr g p k x) := fun q a b => (am_wr_ne q (by omega)).trans (h q a b)
theorem pu_g.cp {f g : am_M} {lo hi a p k l n : Nat} (h : pu_g lo hi f g) (hp : p < lo ∨ hi < p) : pu_g lo hi f (am_cp g a p k l n) := fun q a b => (am_cp_ne q (by omega)).trans (h q a b)
theorem pu_wr_u {f : am_M} {p k j : Nat} {x : Int32} : am_wr f p k x p j = upd (f p) k x j := by rw [am_wr_eq]
theorem pu_cp_n1 {f : am_M} {a p k l n q j : Nat} (h : q ≠ p) : am_cp f a p k l n q j = f q j := by simp [am_cp, h]
section FRM
variable {f f' : am_M} {T : pu_T} {S : pu_S} {P : List (pu_S × Option Nat)} {I : Option pu_S}
theorem pu_fmT (e0 : f' 91 0 = f 91 0) (e1 : f' 91 1 = f 91 1) (e3 : f' 91 3 = f 91 3) (e : pu_g 92 94 f f') (h : pu_Tm T (f 91) (f 92) (f 93) (f 94)) : pu_Tm T (f' 91) (f' 92) (f' 93) (f' 94) := by
  unfold pu_Tm at h ⊢
  rw [e 92 (by decide) (by decide), e 93 (by decide) (by decide), e 94 (by decide) (by decide), e0, e1, e3]
  exact h
theorem pu_fmP (e : f' 91 8 = f 91 8) (e2 : f' 96 = f 96) (h : pu_Pm P f) : pu_Pm P f' := by
  unfold pu_Pm at h ⊢
  rw [e, e2]
  exact h
theorem pu_fmI {i : Nat} (e : f' 97 = f 97) (e2 : f' 98 = f 98) (h : pu_Im I f i) : pu_Im I f' i := by
  unfold pu_Im at h ⊢
  rw [e, e2]
  exact h
theorem pu_fmX {X : Nat × (Nat → Int32)} (e : f' 91 15 = f 91 15) (e2 : f' 101 = f 101) (h : f 91 15 = nI X.1 ∧ ∀ i, i < X.1 → f 101 i = X.2 i) : f' 91 15 = nI X.1 ∧ ∀ i, i < X.1 → f' 101 i = X.2 i := by
  rw [e, e2]
  exact h
theorem pu_fmZ {Z : Nat × (Nat → Nat) × (Nat → Int32)} (e : f' 91 11 = f 91 11) (e2 : f' 99 = f 99) (e3 : f' 100 = f 100) (h : f 91 11 = nI Z.1 ∧ ∀ i, i < Z.1 → f 99 i = nI (Z.2.1 i) ∧ f 100 i = Z.2.2 i) : f' 91 11 = nI Z.1 ∧ ∀ i, i < Z.1 → f' 99 i = nI (Z.2.1 i) ∧ f' 100 i = Z.2.2 i := by
  rw [e, e2, e3]
  exact h
theorem pu_fcX {X : Nat × (Nat → Int32)} (e : pu_g 1 2 f f') (h : f 1 1 = nI X.1 ∧ ∀ i, i < X.1 → f 2 i = X.2 i) : f' 1 1 = nI X.1 ∧ ∀ i, i < X.1 → f' 2 i = X.2 i := by
  rw [e 1 (by decide) (by decide), e 2 (by decide) (by decide)]
  exact h
theorem pu_fcZ {Z : Nat × (Nat → Nat) × (Nat → Int32)} (e : pu_g 88 90 f f') (h : f 88 2 = nI Z.1 ∧ ∀ i, i < Z.1 → f 89 i = nI (Z.2.1 i) ∧ f 90 i = Z.2.2 i) : f' 88 2 = nI Z.1 ∧ ∀ i, i < Z.1 → f' 89 i = nI (Z.2.1 i) ∧ f' 90 i = Z.2.2 i := by
  rw [e 88 (by decide) (by decide), e 89 (by decide) (by decide), e 90 (by decide) (by decide)]
  exact h
end FRM
/-- the two sides apart -/
theorem pu_join {A B : am_M → Option (Int32 × am_M)} {f f1 : am_M} {r : Int32} {T T' : pu_T} {X X' : Nat × (Nat → Int32)} {N N' : pu_S} {P P' : List (pu_S × Option Nat)} {I0 I0' I1 I1' : Option pu_S} {Z Z' : Nat × (Nat → Nat) × (Nat → Int32)} (hV : pu_V T' X' N' P' I0' I1' Z') (hA : A f = some (r, f1)) (hl : pu_lo f f1) (hC : pu_C T' X' N' P' I0' I1' Z' f1) (hM : pu_M T X N P I0 I1 Z f) (hB : ∀ g, pu_M T X N P I0 I1 Z g → ∃ g2, B g = some (r, g2) ∧ pu_hi g g2 ∧ pu_M T' X' N' P' I0' I1' Z' g2) : pu_Go A B f := by
  obtain ⟨g2, h1, h2, h3⟩ := hB f1 (hM.fr hl)
  exact ⟨r, f1, g2, hA, h1, T', X', N', P', I0', I1', Z', hV, hC.fr h2, h3⟩
/-- both answer, neither writes -/
theorem pu_same {A B : am_M → Option (Int32 × am_M)} {f : am_M} {r : Int32} (h : pu_R f) (hA : A f = some (r, f)) (hB : B f = some (r, f)) : pu_Go A B f := ⟨r, f, f, hA, hB, h⟩
