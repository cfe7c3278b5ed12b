/-! what the two systems hold, and how they agree -/
/-- a standing: claimed; events (kind, maker, value); done, count, sum by taker; the row (maker, wants) -/
abbrev pu_S : Type := Nat × (Nat → Nat × Nat × Nat) × (Nat → Nat) × (Nat → Int32) × (Nat → Int32) × List (Nat × Nat)
def pu_cl (S : pu_S) : Nat := S.1
def pu_ev (S : pu_S) : Nat → Nat × Nat × Nat := S.2.1
def pu_dn (S : pu_S) : Nat → Nat := S.2.2.1
def pu_ct (S : pu_S) : Nat → Int32 := S.2.2.2.1
def pu_sm (S : pu_S) : Nat → Int32 := S.2.2.2.2.1
def pu_rw (S : pu_S) : List (Nat × Nat) := S.2.2.2.2.2
/-- what is told: slots, makers, takers, rates, speeds, behind -/
abbrev pu_T : Type := Nat × Nat × Nat × (Nat → Nat) × (Nat → Nat) × (Nat → Nat)
def pu_sl (T : pu_T) : Nat := T.1
def pu_nm (T : pu_T) : Nat := T.2.1
def pu_nt (T : pu_T) : Nat := T.2.2.1
def pu_ra (T : pu_T) : Nat → Nat := T.2.2.2.1
def pu_sp (T : pu_T) : Nat → Nat := T.2.2.2.2.1
def pu_bh (T : pu_T) : Nat → Nat := T.2.2.2.2.2
/-- the cursor -/
def pu_cur (ev : Nat → Nat × Nat × Nat) : Nat → Nat → Nat
  | 0, k => k
  | d + 1, k => if (ev k).1 = 0 then k else pu_cur ev d (k + 1)
def pu_cu (S : pu_S) : Nat := pu_cur (pu_ev S) (pu_cl S) 0
/-- the least done of the first k takers, no more than c -/
def pu_le (dn : Nat → Nat) (c : Nat) : Nat → Nat
  | 0 => c
  | k + 1 => if dn k < pu_le dn c k then dn k else pu_le dn c k
def pu_lst (T : pu_T) (S : pu_S) : Nat := pu_le (pu_dn S) (pu_cl S) (pu_nt T)
/-- what a maker waits for -/
def pu_wa : List (Nat × Nat) → Nat → Nat
  | [], _ => 0
  | (a, n) :: r, m => if a = m then n else pu_wa r m
def pu_sw : List (Nat × Nat) → Nat
  | [] => 0
  | (_, n) :: r => n + pu_sw r
def pu_bit (s u : Nat) : Prop := s / 2 ^ u % 2 = 1
def pu_Tok (T : pu_T) : Prop := (2 ≤ pu_sl T ∧ pu_sl T ≤ 16) ∧ pu_nm T ≤ 3 ∧ pu_nt T ≤ 6 ∧ (∀ m, m < pu_nm T → pu_ra T m ≤ 9) ∧ (∀ t, t < pu_nt T → 1 ≤ pu_sp T t ∧ pu_sp T t ≤ 9 ∧ pu_bh T t < 2 ^ t)
def pu_Rok (T : pu_T) (r : List (Nat × Nat)) : Prop := (∀ q ∈ r, q.1 < pu_nm T ∧ 1 ≤ q.2 ∧ q.2 ≤ 9) ∧ (r.map Prod.fst).Nodup
/-- what holds of every standing -/
def pu_Sok (T : pu_T) (S : pu_S) : Prop :=
  pu_cl S + pu_sw (pu_rw S) ≤ 999 ∧ (∀ k, k < pu_cl S → (pu_ev S k).1 ≤ 2 ∧ (pu_ev S k).2.1 < 3 ∧ (pu_ev S k).2.2 ≤ 99 ∧ ((pu_ev S k).1 ≠ 1 → (pu_ev S k).2.2 = 0)) ∧ pu_Rok T (pu_rw S) ∧
  (∀ t, t < pu_nt T → pu_dn S t ≤ pu_cu S ∧ ∀ u, u < t → pu_bit (pu_bh T t) u → pu_dn S t ≤ pu_dn S u) ∧ (∀ m n r, pu_rw S = (m, n) :: r → pu_sl T + pu_lst T S < pu_cl S + n) ∧ pu_cl S ≤ pu_sl T + pu_lst T S
/-- the component's standing: its object's row and those of done, count, sum, row, wants -/
def pu_Sc (S : pu_S) (r0 r1 r2 r3 r4 r5 : Nat → Int32) : Prop :=
  r0 2 = nI (pu_cl S) ∧ r0 3 = nI (pu_cu S) ∧ r0 9 = nI (pu_rw S).length ∧ (∀ t, t < 6 → r1 t = nI (pu_dn S t)) ∧ (∀ t, t < 6 → r2 t = pu_ct S t) ∧ (∀ t, t < 6 → r3 t = pu_sm S t) ∧ (∀ (i : Nat) (q : Nat × Nat), (pu_rw S)[i]? = some q → r4 i = nI q.1) ∧ (∀ m, m < 3 → r5 m = nI (pu_wa (pu_rw S) m))
def pu_ce (x : Nat × Nat × Nat) : Int32 := nI (x.2.1 + 4 * x.1 + 16 * x.2.2)
def pu_me (x : Nat × Nat × Nat) : Int32 := nI (x.1 + 4 * x.2.1 + 16 * x.2.2)
def pu_Ec (S : pu_S) (r6 : Nat → Int32) : Prop := ∀ k, k < pu_cl S → r6 k = pu_ce (pu_ev S k)
/-- the model's -/
def pu_Sm (S : pu_S) (g : Nat → Int32) : Prop :=
  g 0 = nI (pu_cl S) ∧ g 19 = nI (pu_rw S).length ∧ (∀ t, t < 6 → g (1 + t) = nI (pu_dn S t)) ∧ (∀ t, t < 6 → g (7 + t) = pu_ct S t) ∧ (∀ t, t < 6 → g (13 + t) = pu_sm S t) ∧ (∀ (i : Nat) (q : Nat × Nat), (pu_rw S)[i]? = some q → g (20 + i) = nI q.1 ∧ g (23 + i) = nI q.2) ∧ (∀ k, k < pu_cl S → g (26 + k) = pu_me (pu_ev S k))
def pu_Tc (T : pu_T) (r3 r4 r5 r6 : Nat → Int32) : Prop := r3 0 = nI (pu_sl T) ∧ r3 1 = nI (pu_nm T) ∧ r3 2 = nI (pu_nt T) ∧ (∀ m, m < pu_nm T → r4 m = nI (pu_ra T m)) ∧ (∀ t, t < pu_nt T → r5 t = nI (pu_sp T t)) ∧ (∀ t, t < pu_nt T → r6 t = nI (pu_bh T t))
def pu_Tm (T : pu_T) (g r92 r93 r94 : Nat → Int32) : Prop := g 0 = nI (pu_sl T) ∧ g 1 = nI (pu_nm T) ∧ g 3 = nI (pu_nt T) ∧ (∀ m, m < pu_nm T → r92 m = nI (pu_ra T m)) ∧ (∀ t, t < pu_nt T → r93 t = nI (pu_sp T t)) ∧ (∀ t, t < pu_nt T → r94 t = nI (pu_bh T t))
/-- an older standing beside the next newer one: c is the number that was closed between them -/
def pu_Ch : pu_S → List (pu_S × Option Nat) → Prop
  | _, [] => True
  | N, (O, c) :: P => pu_cl O ≤ pu_cl N ∧ (∀ k, k < pu_cl O → pu_ev O k = if c = some k then (0, (pu_ev N k).2.1, 0) else pu_ev N k) ∧ (∀ k, c = some k → k < pu_cl O) ∧ pu_Ch O P
def pu_cd (c : Option Nat) : Int32 := match c with
  | some k => nI k
  | none => -9
/-- the i-th latest standing's place in the round, of which la is the latest -/
def pu_pl (la i : Nat) : Nat := (la + 6 - i) % 6
def pu_Sf (S : pu_S) (f : am_M) (p : Nat) : Prop := pu_Sc S (f p) (f (p + 1)) (f (p + 2)) (f (p + 3)) (f (p + 4)) (f (p + 5))
def pu_Pc (P : List (pu_S × Option Nat)) (f : am_M) : Prop := f 18 3 = nI P.length ∧ P.length ≤ 6 ∧ ∃ la, la < 6 ∧ f 18 2 = nI la ∧ ∀ (i : Nat) (q : pu_S × Option Nat), P[i]? = some q → pu_Sf q.1 f (21 + 7 * pu_pl la i) ∧ f 20 (pu_pl la i) = pu_cd q.2
def pu_Pm (P : List (pu_S × Option Nat)) (f : am_M) : Prop := f 91 8 = nI P.length ∧ ∀ (i : Nat) (q : pu_S × Option Nat), P[i]? = some q → pu_Sm q.1 (fun k => f 96 (1026 * (P.length - 1 - i) + k))
def pu_Ic (I : Option pu_S) (f : am_M) (a p : Nat) : Prop := match I with
  | none => f a 1 = 0
  | some S => f a 1 = 1 ∧ pu_Sf S f p ∧ pu_Ec S (f (p + 6))
def pu_Im (I : Option pu_S) (f : am_M) (i : Nat) : Prop := match I with
  | none => f 98 i = 0
  | some S => f 98 i = 1 ∧ pu_Sm S (fun k => f 97 (1026 * i + k))
/-- the component, all of it -/
def pu_C (T : pu_T) (X : Nat × (Nat → Int32)) (N : pu_S) (P : List (pu_S × Option Nat)) (I0 I1 : Option pu_S) (Z : Nat × (Nat → Nat) × (Nat → Int32)) (f : am_M) : Prop :=
  pu_Tc T (f 3) (f 4) (f 5) (f 6) ∧ (f 1 1 = nI X.1 ∧ ∀ i, i < X.1 → f 2 i = X.2 i) ∧ (pu_Sf N f 11 ∧ pu_Ec N (f 17)) ∧ pu_Pc P f ∧ (pu_Ic I0 f 63 64 ∧ pu_Ic I1 f 71 72) ∧ (f 88 2 = nI Z.1 ∧ ∀ i, i < Z.1 → f 89 i = nI (Z.2.1 i) ∧ f 90 i = Z.2.2 i)
/-- the model, all of it -/
def pu_M (T : pu_T) (X : Nat × (Nat → Int32)) (N : pu_S) (P : List (pu_S × Option Nat)) (I0 I1 : Option pu_S) (Z : Nat × (Nat → Nat) × (Nat → Int32)) (f : am_M) : Prop :=
  pu_Tm T (f 91) (f 92) (f 93) (f 94) ∧ (f 91 15 = nI X.1 ∧ ∀ i, i < X.1 → f 101 i = X.2 i) ∧ pu_Sm N (f 95) ∧ pu_Pm P f ∧ (pu_Im I0 f 0 ∧ pu_Im I1 f 1) ∧ (f 91 11 = nI Z.1 ∧ ∀ i, i < Z.1 → f 99 i = nI (Z.2.1 i) ∧ f 100 i = Z.2.2 i)
/-- what holds of what they hold -/
def pu_V (T : pu_T) (X : Nat × (Nat → Int32)) (N : pu_S) (P : List (pu_S × Option Nat)) (I0 I1 : Option pu_S) (Z : Nat × (Nat → Nat) × (Nat → Int32)) : Prop :=
  pu_Tok T ∧ X.1 ≤ 120 ∧ pu_Sok T N ∧ (pu_Ch N P ∧ P.length ≤ 6 ∧ ∀ q ∈ P, pu_Sok T q.1) ∧ (∀ S, I0 = some S → pu_Sok T S) ∧ (∀ S, I1 = some S → pu_Sok T S) ∧ (Z.1 ≤ 6 ∧ ∀ i, i < Z.1 → Z.2.1 i ≤ 60)
def pu_R (f : am_M) : Prop := ∃ (T : pu_T) (X : Nat × (Nat → Int32)) (N : pu_S) (P : List (pu_S × Option Nat)) (I0 I1 : Option pu_S) (Z : Nat × (Nat → Nat) × (Nat → Int32)), pu_V T X N P I0 I1 Z ∧ pu_C T X N P I0 I1 Z f ∧ pu_M T X N P I0 I1 Z f
/-- the component and the model answer alike, and agree behind it -/
def pu_Go (A B : am_M → Option (Int32 × am_M)) (f : am_M) : Prop := ∃ r f1 f2, A f = some (r, f1) ∧ B f1 = some (r, f2) ∧ pu_R f2
/-! frames: the component writes below 91, the model from there on -/
def pu_lo (f f' : am_M) : Prop := ∀ q, 91 ≤ q → f' q = f q
def pu_hi (f f' : am_M) : Prop := ∀ q, q < 91 → f' q = f q
theorem pu_pl_lt (la i : Nat) : pu_pl la i < 6 := Nat.mod_lt _ (by decide)
theorem pu_Sf.fr {S : pu_S} {f f' : am_M} {p : Nat} (h : pu_Sf S f p) (e0 : f' p = f p) (e1 : f' (p + 1) = f (p + 1)) (e2 : f' (p + 2) = f (p + 2)) (e3 : f' (p + 3) = f (p + 3)) (e4 : f' (p + 4) = f (p + 4)) (e5 : f' (p + 5) = f (p + 5)) : pu_Sf S f' p := by
  unfold pu_Sf at h ⊢
  rw [e0, e1, e2, e3, e4, e5]
  exact h
theorem pu_C.fr {T : pu_T} {X : Nat × (Nat → Int32)} {N : pu_S} {P : List (pu_S × Option Nat)} {I0 I1 : Option pu_S} {Z : Nat × (Nat → Nat) × (Nat → Int32)} {f f' : am_M} (h : pu_C T X N P I0 I1 Z f) (e : pu_hi f f') : pu_C T X N P I0 I1 Z f' := by
  obtain ⟨h1, h2, ⟨h3, h3'⟩, ⟨h4, h5, la, h6, h7, h8⟩, ⟨h9, h10⟩, h11⟩ := h
  refine ⟨?_, ?_, ⟨?_, ?_⟩, ⟨?_, h5, la, h6, ?_, fun i q hq => ?_⟩, ⟨?_, ?_⟩, ?_⟩
  · rw [e 3 (by decide), e 4 (by decide), e 5 (by decide), e 6 (by decide)]; exact h1
  · rw [e 1 (by decide), e 2 (by decide)]; exact h2
  · exact h3.fr (e _ (by decide)) (e _ (by decide)) (e _ (by decide)) (e _ (by decide)) (e _ (by decide)) (e _ (by decide))
  · rw [e 17 (by decide)]; exact h3'
  · rw [e 18 (by decide)]; exact h4
  · rw [e 18 (by decide)]; exact h7
  · have hl := pu_pl_lt la i
    refine ⟨(h8 i q hq).1.fr (e _ (by omega)) (e _ (by omega)) (e _ (by omega)) (e _ (by omega)) (e _ (by omega)) (e _ (by omega)), ?_⟩
    rw [e 20 (by decide)]; exact (h8 i q hq).2
  · cases I0 with
    | none => show f' 63 1 = 0; rw [e 63 (by decide)]; exact h9
    | some S => exact ⟨by rw [e 63 (by decide)]; exact h9.1, h9.2.1.fr (e _ (by decide)) (e _ (by decide)) (e _ (by decide)) (e _ (by decide)) (e _ (by decide)) (e _ (by decide)), by rw [e _ (by decide)]; exact h9.2.2⟩
  · cases I1 with
    | none => show f' 71 1 = 0; rw [e 71 (by decide)]; exact h10
    | some S => exact ⟨by rw [e 71 (by decide)]; exact h10.1, h10.2.1.fr (e _ (by decide)) (e _ (by decide)) (e _ (by decide)) (e _ (by decide)) (e _ (by decide)) (e _ (by decide)), by rw [e _ (by decide)]; exact h10.2.2⟩
  · rw [e 88 (by decide), e 89 (by decide), e 90 (by decide)]; exact h11
theorem pu_M.fr {T : pu_T} {X : Nat × (Nat → Int32)} {N : pu_S} {P : List (pu_S × Option Nat)} {I0 I1 : Option pu_S} {Z : Nat × (Nat → Nat) × (Nat → Int32)} {f f' : am_M} (h : pu_M T X N P I0 I1 Z f) (e : pu_lo f f') : pu_M T X N P I0 I1 Z f' := by
  obtain ⟨h1, h2, h3, h4, ⟨h9, h10⟩, h11⟩ := h
  refine ⟨?_, ?_, ?_, ?_, ⟨?_, ?_⟩, ?_⟩
  · rw [e 91 (by decide), e 92 (by decide), e 93 (by decide), e 94 (by decide)]; exact h1
  · rw [e 91 (by decide), e 101 (by decide)]; exact h2
  · rw [e 95 (by decide)]; exact h3
  · unfold pu_Pm at h4 ⊢
    rw [e 91 (by decide), e 96 (by decide)]; exact h4
  · unfold pu_Im at h9 ⊢
    rw [e 97 (by decide), e 98 (by decide)]; exact h9
  · unfold pu_Im at h10 ⊢
    rw [e 97 (by decide), e 98 (by decide)]; exact h10
  · rw [e 91 (by decide), e 99 (by decide), e 100 (by decide)]; exact h11
