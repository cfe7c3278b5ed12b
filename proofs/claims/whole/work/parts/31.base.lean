/-! numbers, frames by groups -/
theorem pu_chk {α : Type} {k n : Nat} {x : Option α} (h : k < n) (hn : n < 2 ^ 31) : am_chk (nI k) n x = x := by
  unfold am_chk
  rw [if_neg (nI_pos (by omega)), nI_clamp (by omega), if_pos h]
theorem pu_lt {a b : Nat} (h : a < b) (hb : b < 2 ^ 31) : nI a < nI b := (nI_ltI (by omega) hb).mpr h
theorem pu_nlt {a b : Nat} (h : b ≤ a) (ha : a < 2 ^ 31) : ¬ nI a < nI b := fun q => by
  have := (nI_ltI ha (by omega)).mp q
  omega
theorem pu_ne {a b : Nat} (h : a ≠ b) (ha : a < 2 ^ 31) (hb : b < 2 ^ 31) : ¬ nI a = nI b := fun q => h ((nI_eq ha hb).mp q)
theorem pu_neg9 {a : Nat} (ha : a < 2 ^ 31) : ¬ nI a = -9 := by
  intro h
  have h1 := congrArg Int32.toInt h
  rw [nI_toInt ha] at h1
  have : (-9 : Int32).toInt = -9 := by decide
  omega
theorem pu_bI {ρ : Type} {v : Int32} {f : am_M} {k : Int32 → am_M → Option ρ} : am_bI (some (v, f)) k = k v f := rfl
theorem pu_bV {ρ : Type} {f : am_M} {k : am_M → Option ρ} : am_bV (some f) k = k f := rfl
def pu_g (lo hi : Nat) (f f' : am_M) : Prop := ∀ q, lo ≤ q → q ≤ hi → f' q = f q
section FRG
variable {f f' : am_M} {T : pu_T} {S : pu_S} {P : List (pu_S × Option Nat)} {I : Option pu_S}
theorem pu_g.sub {lo hi lo' hi' : Nat} (h : pu_g lo hi f f') (h1 : lo ≤ lo') (h2 : hi' ≤ hi) : pu_g lo' hi' f f' := fun q a b => h q (by omega) (by omega)
theorem pu_frT (e : pu_g 3 6 f f') (h : pu_Tc T (f 3) (f 4) (f 5) (f 6)) : pu_Tc T (f' 3) (f' 4) (f' 5) (f' 6) := by
  rw [e 3 (by decide) (by decide), e 4 (by decide) (by decide), e 5 (by decide) (by decide), e 6 (by decide) (by decide)]; exact h
theorem pu_frS {p : Nat} (e : pu_g p (p + 5) f f') (h : pu_Sf S f p) : pu_Sf S f' p := h.fr (e _ (by omega) (by omega)) (e _ (by omega) (by omega)) (e _ (by omega) (by omega)) (e _ (by omega) (by omega)) (e _ (by omega) (by omega)) (e _ (by omega) (by omega))
theorem pu_frN (e : pu_g 11 17 f f') (h : pu_Sf S f 11 ∧ pu_Ec S (f 17)) : pu_Sf S f' 11 ∧ pu_Ec S (f' 17) := ⟨pu_frS (e.sub (by omega) (by omega)) h.1, by rw [e 17 (by decide) (by decide)]; exact h.2⟩
theorem pu_frP (e : pu_g 18 62 f f') (h : pu_Pc P f) : pu_Pc P f' := by
  obtain ⟨h4, h5, la, h6, h7, h8⟩ := h
  refine ⟨by rw [e 18 (by decide) (by decide)]; exact h4, h5, la, h6, by rw [e 18 (by decide) (by decide)]; exact h7, fun i q hq => ?_⟩
  have hl := pu_pl_lt la i
  exact ⟨pu_frS (e.sub (by omega) (by omega)) (h8 i q hq).1, by rw [e 20 (by decide) (by decide)]; exact (h8 i q hq).2⟩
theorem pu_frI {a p : Nat} (hp : p = a + 1) (e : pu_g a (a + 7) f f') (h : pu_Ic I f a p) : pu_Ic I f' a p := by
  subst hp
  cases I with
  | none => show f' a 1 = 0; rw [e a (by omega) (by omega)]; exact h
  | some S => exact ⟨by rw [e a (by omega) (by omega)]; exact h.1, pu_frS (e.sub (by omega) (by omega)) h.2.1, by rw [e (a + 1 + 6) (by omega) (by omega)]; exact h.2.2⟩
end FRG
/-- two rows of writes elsewhere -/
theorem pu_g1 {f : am_M} {p k lo hi : Nat} {x : Int32} (h : p < lo ∨ hi < p) : pu_g lo hi f (am_wr f p k x) := fun q a b => am_wr_ne q (by omega)
theorem pu_gt {f f1 f2 : am_M} {lo hi : Nat} (h1 : pu_g lo hi f f1) (h2 : pu_g lo hi f1 f2) : pu_g lo hi f f2 := fun q a b => (h2 q a b).trans (h1 q a b)
theorem pu_wr_eq {f : am_M} {p k : Nat} {x : Int32} : am_wr f p k x p k = x := by simp [am_wr]
theorem pu_wr_n1 {f : am_M} {p k q j : Nat} {x : Int32} (h : q ≠ p) : am_wr f p k x q j = f q j := by simp [am_wr, h]
theorem pu_wr_n2 {f : am_M} {p k q j : Nat} {x : Int32} (h : j ≠ k) : am_wr f p k x q j = f q j := by simp [am_wr, h]
/-! the first calls: type, clear, forget, sees -/
theorem pu_within0 {a : Int32} {hi : Int32} {f : am_M} (h : a < 0) : D_X8_within a 0 hi f = some (0, f) := if_pos h
set_option maxHeartbeats 1000000 in
theorem pu_type (a : Int32) {f : am_M} (h : pu_R f) : pu_Go (D_X7_type a) (D_X8_type a) f := by
  obtain ⟨T, X, N, P, I0, I1, Z, hV, hC, hM⟩ := id h
  have hx := hV.2.1
  have c1 : f 1 1 = nI X.1 := hC.2.1.1
  have m1 : f 91 15 = nI X.1 := hM.2.1.1
  by_cases h0 : a < 0
  · exact ⟨-1, f, f, if_pos h0, by unfold D_X8_type D_X8_within; rw [if_pos h0, pu_bI, if_pos rfl], h⟩
  · by_cases h1 : am_int 255 < a
    · refine ⟨-1, f, f, ?_, ?_, h⟩
      · unfold D_X7_type; rw [if_neg h0, if_pos h1]
      · unfold D_X8_type D_X8_within; rw [if_neg h0, if_pos h1, pu_bI, if_pos rfl]
    · by_cases h2 : X.1 < 120
      · have e1 : nI X.1 < 120 := pu_lt h2 (by decide)
        have e2 : ¬ nI X.1 = 120 := pu_ne (b := 120) (by omega) (by omega) (by decide)
        refine ⟨nI X.1 + 1, am_wr (am_wr f 2 X.1 a) 1 1 (nI X.1 + 1), am_wr (am_wr (am_wr (am_wr f 2 X.1 a) 1 1 (nI X.1 + 1)) 101 X.1 a) 91 15 (nI X.1 + 1), ?_, ?_, ?_⟩
        · unfold D_X7_type D_X5_append
          rw [if_neg h0, if_neg h1, c1, if_pos e1, pu_chk h2 (by decide), nI_clamp (by omega), pu_bI, if_neg (by decide), pu_wr_eq]
        · have m2 : (am_wr (am_wr f 2 X.1 a) 1 1 (nI X.1 + 1)) 91 15 = nI X.1 := by rw [pu_wr_n1 (by decide), pu_wr_n1 (by decide), m1]
          unfold D_X8_type D_X8_within
          rw [if_neg h0, if_neg h1, pu_bI, if_neg (by decide), m2, if_neg e2, pu_chk h2 (by decide), nI_clamp (by omega)]
        · rw [nI_1]
          refine ⟨T, (X.1 + 1, upd X.2 X.1 a), N, P, I0, I1, Z, ⟨hV.1, by show X.1 + 1 ≤ 120; omega, hV.2.2⟩, ?_, ?_⟩
          · obtain ⟨a1, a2, a3, a4, ⟨a5, a6⟩, a7⟩ := hC
            have fr : ∀ lo hi, 2 < lo → hi < 91 → pu_g lo hi f (am_wr (am_wr (am_wr (am_wr f 2 X.1 a) 1 1 (nI (X.1 + 1))) 101 X.1 a) 91 15 (nI (X.1 + 1))) := fun lo hi h1 h2 => pu_gt (pu_gt (pu_gt (pu_g1 (by omega)) (pu_g1 (by omega))) (pu_g1 (by omega))) (pu_g1 (by omega))
            refine ⟨pu_frT (fr _ _ (by decide) (by decide)) a1, ⟨?_, fun i hi => ?_⟩, pu_frN (fr _ _ (by decide) (by decide)) a3, pu_frP (fr _ _ (by decide) (by decide)) a4, ⟨pu_frI rfl (fr _ _ (by decide) (by decide)) a5, pu_frI rfl (fr _ _ (by decide) (by decide)) a6⟩, ?_⟩
            · rw [pu_wr_n1 (by decide), pu_wr_n1 (by decide), pu_wr_eq]
            · rw [pu_wr_n1 (by decide), pu_wr_n1 (by decide), pu_wr_n1 (by decide)]
              by_cases hi2 : i = X.1
              · subst hi2
                rw [pu_wr_eq]
                simp [upd]
              · rw [pu_wr_n2 hi2]
                have : i < X.1 + 1 := hi
                simp [upd, hi2]
                exact a2.2 i (by omega)
            · rw [fr 88 90 (by decide) (by decide) 88 (by decide) (by decide), fr 88 90 (by decide) (by decide) 89 (by decide) (by decide), fr 88 90 (by decide) (by decide) 90 (by decide) (by decide)]
              exact a7
          · sorry
      · sorry
