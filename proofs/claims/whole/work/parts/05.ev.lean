/-! the abstract machine: more fuel does no harm; what a run comes to -/
set_option maxHeartbeats 4000000 in
set_option maxRecDepth 20000 in
theorem am_sim_bind {ρ : Type} (X : am_X) (o h : Nat) (i : Instr) (len pc : Nat) (ls : am_L) (st : List Value) (G : am_G) (f : am_M) (k : Nat → am_L → List Value → am_G → am_M → Option ρ) :
    am_sim X o h i len pc ls st G f k = (am_sim X o h i len pc ls st G f (fun a b c d e => some ((a, b, c, d, e) : am_F))).bind (fun q => k q.1 q.2.1 q.2.2.1 q.2.2.2.1 q.2.2.2.2) := by
  cases i <;> simp only [am_sim, am_chk, cond_eq_ite] <;> repeat' (first | rfl | split)
theorem am_br_some {α : Type} {c : ClassFile.Cond} {a b : Int32} {A B A' B' : Option α} {r : α} (h : am_br c a b A B = some r) (hA : A = some r → A' = some r) (hB : B = some r → B' = some r) : am_br c a b A' B' = some r := by
  cases c <;> simp only [am_br] at h ⊢ <;> split at h <;> rename_i q <;> simp only [q, if_true, if_false] <;> first | exact hA h | exact hB h
theorem am_swr_some {α : Type} {x : Int32} {go go' : Int → Option α} {d d' : Option α} {r : α} (hg : ∀ q, go q = some r → go' q = some r) (hd : d = some r → d' = some r) : ∀ (l : List Int) (k : Int), am_swr x go d l k = some r → am_swr x go' d' l k = some r
  | [], _, h => hd h
  | o :: l, k, h => by
    simp only [am_swr] at h ⊢
    split at h
    · rename_i q
      rw [if_pos q]
      exact hg o h
    · rename_i q
      rw [if_neg q]
      exact am_swr_some hg hd l (k + 1) h
theorem am_gen_some {X : am_X} {k k' : Nat → Nat → am_L → List Value → am_G → am_M → am_R} (ih : ∀ j pc ls st G f r, k j pc ls st G f = some r → k' j pc ls st G f = some r) {j o hh : Nat} {i : Instr} {len pc : Nat} {ls : am_L} {st : List Value} {G : am_G} {f : am_M} {r : Option Value × am_G × am_M} (h : am_gen X k j o hh i len pc ls st G f = some r) : am_gen X k' j o hh i len pc ls st G f = some r := by
  unfold am_gen at h ⊢
  cases hcal : am_cal o hh i st G with
  | none =>
    simp only [hcal] at h ⊢
    rw [am_sim_bind] at h ⊢
    obtain ⟨q, h1, h2⟩ := Option.bind_eq_some_iff.mp h
    rw [h1]
    exact ih _ _ _ _ _ _ _ h2
  | some y =>
    obtain ⟨j', As, rs⟩ := y
    simp only [hcal] at h ⊢
    cases hr : k j' 0 (am_ent As (am_m j').2.2.2.1) [] G f with
    | none => simp only [hr, am_aft] at h; cases h
    | some y =>
      obtain ⟨r1, G1, f1⟩ := y
      simp only [hr, am_aft] at h
      simp only [ih _ _ _ _ _ _ _ hr, am_aft]
      exact ih _ _ _ _ _ _ _ h
set_option maxHeartbeats 4000000 in
theorem am_one_some {X : am_X} {k k' : Nat → Nat → am_L → List Value → am_G → am_M → am_R} (ih : ∀ j pc ls st G f r, k j pc ls st G f = some r → k' j pc ls st G f = some r) (j pc : Nat) (ls : am_L) (st : List Value) (G : am_G) (f : am_M) (r : Option Value × am_G × am_M) (h : am_one X k j pc ls st G f = some r) : am_one X k' j pc ls st G f = some r := by
  unfold am_one at h ⊢
  generalize am_m j = mm at h ⊢
  obtain ⟨c, o, x1, x2, rt, hh⟩ := mm
  dsimp only at h ⊢
  generalize am_at c pc = w at h ⊢
  cases w with
  | none => exact h
  | some x =>
    obtain ⟨i, len⟩ := x
    cases i
    case if_icmp cd off =>
      dsimp only at h ⊢
      split at h
      · exact am_br_some h (ih _ _ _ _ _ _ _) (ih _ _ _ _ _ _ _)
      · cases h
    case ifCond cd off =>
      dsimp only at h ⊢
      split at h
      · exact am_br_some h (ih _ _ _ _ _ _ _) (ih _ _ _ _ _ _ _)
      · cases h
    case tableswitch d lo hi offs =>
      dsimp only at h ⊢
      split at h
      · exact am_swr_some (fun q => ih _ _ _ _ _ _ _) (ih _ _ _ _ _ _ _) _ _ h
      · cases h
    case ireturn => exact h
    case areturn => exact h
    case return_ => exact h
    all_goals exact am_gen_some ih h
theorem am_run_one (X : am_X) : ∀ (n j pc : Nat) (ls : am_L) (st : List Value) (G : am_G) (f : am_M) (r : Option Value × am_G × am_M), am_run X n j pc ls st G f = some r → am_run X (n + 1) j pc ls st G f = some r := by
  intro n
  induction n with
  | zero => intro j pc ls st G f r h; simp [am_run] at h
  | succ n ih => exact fun j pc ls st G f r h => am_one_some ih j pc ls st G f r h
theorem am_run_mono {X : am_X} {n j pc : Nat} {ls : am_L} {st : List Value} {G : am_G} {f : am_M} {r : Option Value × am_G × am_M} (h : am_run X n j pc ls st G f = some r) : ∀ k, am_run X (n + k) j pc ls st G f = some r
  | 0 => h
  | k + 1 => am_run_one X (n + k) j pc ls st G f r (am_run_mono h k)
theorem am_run_le {X : am_X} {n m j pc : Nat} {ls : am_L} {st : List Value} {G : am_G} {f : am_M} {r : Option Value × am_G × am_M} (h : am_run X n j pc ls st G f = some r) (hm : n ≤ m) : am_run X m j pc ls st G f = some r := by
  obtain ⟨k, rfl⟩ := Nat.exists_eq_add_of_le hm
  exact am_run_mono h k

/-- from here, over the made world, the method comes to answer r with the ints f' -/
def am_Ev (X : am_X) (j pc : Nat) (ls : am_L) (st : List Value) (f : am_M) (r : Option Value) (f' : am_M) : Prop := ∃ n, am_run X n j pc ls st am_G0 f = some (r, am_G0, f')
theorem am_Ev.call {X : am_X} {j pc j1 pc1 : Nat} {ls : am_L} {st : List Value} {f : am_M} {r : Option Value} {f' : am_M} {ls0 ls1 : am_L} {rest : List Value} {f1 : am_M} {v : Option Value}
    (hr : ∀ n, am_run X (n + 1) j pc ls st am_G0 f = am_aft (am_run X n j1 0 ls0 [] am_G0 f) (fun r G' f' => am_run X n j pc1 ls1 (r.toList ++ rest) G' f')) (h : am_Ev X j1 0 ls0 [] f v f1) (k : am_Ev X j pc1 ls1 (v.toList ++ rest) f1 r f') : am_Ev X j pc ls st f r f' := by
  obtain ⟨n, hn⟩ := h
  obtain ⟨m, hm⟩ := k
  refine ⟨n + m + 1, ?_⟩
  rw [hr (n + m)]
  have h1 := am_run_le hn (m := n + m) (by omega)
  have h2 := am_run_le hm (m := n + m) (by omega)
  simp only [h1, h2, am_aft]
abbrev am_k : Type := Nat → am_L → List Value → am_G → am_M → am_R
/-- one step that is no call -/
def am_onc (X : am_X) (k : am_k) (j pc : Nat) (ls : am_L) (st : List Value) (G : am_G) (f : am_M) : am_R := match am_m j with
  | (c, o, _, _, rt, h) => match am_at c pc with
    | none => none
    | some (i, len) => match i with
      | .if_icmp cd off => (match st with
        | .int b :: .int a :: st => am_br cd a b (k (am_tg pc off) ls st G f) (k (pc + len) ls st G f)
        | _ => none)
      | .ifCond cd off => (match st with
        | .int a :: st => am_br cd a 0 (k (am_tg pc off) ls st G f) (k (pc + len) ls st G f)
        | _ => none)
      | .tableswitch d lo _ offs => (match st with
        | .int x :: st => am_swr x (fun q => k (am_tg pc q) ls st G f) (k (am_tg pc d) ls st G f) offs.toList lo
        | _ => none)
      | .ireturn => (match st with
        | [.int v] => am_rt rt v (some (some (.int v), G, f))
        | _ => none)
      | .areturn => (match st with
        | [.ref p] => some (some (.ref p), G, f)
        | _ => none)
      | .return_ => (match st with
        | [] => some (none, G, f)
        | _ => none)
      | i => (match am_cal o h i st G with
        | some _ => none
        | none => am_sim X o h i len pc ls st G f k)
theorem am_onc_some {X : am_X} {k : am_k} {k' : Nat → Nat → am_L → List Value → am_G → am_M → am_R} {j : Nat} (ih : ∀ pc ls st G f r, k pc ls st G f = some r → k' j pc ls st G f = some r) (pc : Nat) (ls : am_L) (st : List Value) (G : am_G) (f : am_M) (r : Option Value × am_G × am_M) (h : am_onc X k j pc ls st G f = some r) : am_one X k' j pc ls st G f = some r := by
  unfold am_onc at h
  unfold am_one
  generalize am_m j = mm at h ⊢
  obtain ⟨c, o, x1, x2, rt, hh⟩ := mm
  dsimp only at h ⊢
  generalize am_at c pc = w at h ⊢
  have rest : ∀ (i : Instr) (len : Nat), (match am_cal o hh i st G with
        | some _ => none
        | none => am_sim X o hh i len pc ls st G f k) = some r → am_gen X k' j o hh i len pc ls st G f = some r := by
    intro i len h
    unfold am_gen
    cases hcal : am_cal o hh i st G with
    | none =>
      simp only [hcal] at h ⊢
      rw [am_sim_bind] at h ⊢
      obtain ⟨q, h1, h2⟩ := Option.bind_eq_some_iff.mp h
      rw [h1]
      exact ih _ _ _ _ _ _ h2
    | some y => simp only [hcal] at h; cases h
  cases w with
  | none => exact h
  | some x =>
    obtain ⟨i, len⟩ := x
    cases i
    case if_icmp cd off =>
      dsimp only at h ⊢
      split at h
      · exact am_br_some h (ih _ _ _ _ _ _) (ih _ _ _ _ _ _)
      · cases h
    case ifCond cd off =>
      dsimp only at h ⊢
      split at h
      · exact am_br_some h (ih _ _ _ _ _ _) (ih _ _ _ _ _ _)
      · cases h
    case tableswitch d lo hi offs =>
      dsimp only at h ⊢
      split at h
      · exact am_swr_some (fun q => ih _ _ _ _ _ _) (ih _ _ _ _ _ _) _ _ h
      · cases h
    case ireturn => exact h
    case areturn => exact h
    case return_ => exact h
    all_goals exact rest _ _ h
def am_mem : List Nat → Nat → Bool
  | [], _ => false
  | a :: l, n => bif Nat.beq a n then true else am_mem l n
/-- on to the next place of these -/
def am_sg (X : am_X) (sp : List Nat) (k : am_k) (j : Nat) : Nat → am_k
  | 0, pc, ls, st, G, f => k pc ls st G f
  | n + 1, pc, ls, st, G, f => bif am_mem sp pc then k pc ls st G f else am_onc X (am_sg X sp k j n) j pc ls st G f
theorem am_sg_run {X : am_X} {sp : List Nat} {j m : Nat} : ∀ (n pc : Nat) (ls : am_L) (st : List Value) (G : am_G) (f : am_M) (r : Option Value × am_G × am_M), am_sg X sp (am_run X m j) j n pc ls st G f = some r → am_run X (m + n) j pc ls st G f = some r := by
  intro n
  induction n with
  | zero => intro pc ls st G f r h; exact h
  | succ n ih =>
    intro pc ls st G f r h
    rw [am_sg] at h
    cases hm : am_mem sp pc with
    | true => rw [hm] at h; exact am_run_mono h (n + 1)
    | false => rw [hm] at h; exact am_onc_some ih pc ls st G f r h
/-- a text of runs that go on at places -/
def am_Ew (X : am_X) (j : Nat) (T : am_k → am_R) (r : Option Value) (f' : am_M) : Prop := ∃ n, T (am_run X n j) = some (r, am_G0, f')
section EW
variable {X : am_X} {j pc : Nat} {ls : am_L} {st : List Value} {f : am_M} {r : Option Value} {f' : am_M} {T T' T1 T2 : am_k → am_R} {ρ : Type} {A B : Option ρ} {q : ρ}
theorem am_Ew.start (sp : List Nat) (n : Nat) (h : am_Ew X j (fun k => am_onc X (am_sg X sp k j n) j pc ls st am_G0 f) r f') : am_Ev X j pc ls st f r f' := by
  obtain ⟨m, h⟩ := h
  exact ⟨m + n + 1, am_onc_some (fun pc ls st G f r h => am_sg_run n pc ls st G f r h) pc ls st am_G0 f _ h⟩
theorem am_Ew.conv (T' : am_k → am_R) (h : ∀ k, T k = T' k) (k : am_Ew X j T' r f') : am_Ew X j T r f' := by
  obtain ⟨n, k⟩ := k
  exact ⟨n, (h _).trans k⟩
theorem am_Ew.ite {c : Prop} [d : Decidable c] (h : (if c then A else B) = some q) (k1 : c → A = some q → am_Ew X j T1 r f') (k2 : ¬ c → B = some q → am_Ew X j T2 r f') : am_Ew X j (fun n => if c then T1 n else T2 n) r f' := by
  by_cases hc : c
  · rw [if_pos hc] at h
    obtain ⟨n, hn⟩ := k1 hc h
    exact ⟨n, (if_pos hc).trans hn⟩
  · rw [if_neg hc] at h
    obtain ⟨n, hn⟩ := k2 hc h
    exact ⟨n, (if_neg hc).trans hn⟩
theorem am_Ew.chk {i : Int32} {m : Nat} (h : am_chk i m A = some q) (k : A = some q → am_Ew X j T r f') : am_Ew X j (fun n => am_chk i m (T n)) r f' := by
  unfold am_chk at h ⊢
  split at h
  · cases h
  · rename_i h1
    split at h
    · rename_i h2
      obtain ⟨n, hn⟩ := k h
      exact ⟨n, by dsimp only; rw [if_neg h1, if_pos h2]; exact hn⟩
    · cases h
theorem am_Ew.run (h : am_Ev X j pc ls st f r f') : am_Ew X j (fun k => k pc ls st am_G0 f) r f' := h
theorem am_Ew.retI {v v' : Int32} (h : some (v, f) = some (v', f')) : am_Ew X j (fun _ => some (some (.int v), am_G0, f)) (some (.int v')) f' := by
  cases h
  exact ⟨0, rfl⟩
theorem am_Ew.retV (h : some f = some f') : am_Ew X j (fun _ => some (none, am_G0, f)) none f' := by
  cases h
  exact ⟨0, rfl⟩
theorem am_Ew.retR {p : Nat} (h : some f = some f') : am_Ew X j (fun _ => some (some (.ref p), am_G0, f)) (some (.ref p)) f' := by
  cases h
  exact ⟨0, rfl⟩
theorem am_Ew.none (h : (Option.none : Option ρ) = some q) : am_Ew X j T r f' := by cases h
end EW
def am_bI {ρ : Type} (x : Option (Int32 × am_M)) (k : Int32 → am_M → Option ρ) : Option ρ := match x with
  | some (v, f) => k v f
  | none => none
def am_bV {ρ : Type} (x : Option am_M) (k : am_M → Option ρ) : Option ρ := match x with
  | some f => k f
  | none => none
theorem am_bI_some {ρ : Type} {x : Option (Int32 × am_M)} {k : Int32 → am_M → Option ρ} {q : ρ} (h : am_bI x k = some q) : ∃ v f, x = some (v, f) ∧ k v f = some q := by
  match x, h with
  | some (v, f), h => exact ⟨v, f, rfl, h⟩
theorem am_bV_some {ρ : Type} {x : Option am_M} {k : am_M → Option ρ} {q : ρ} (h : am_bV x k = some q) : ∃ f, x = some f ∧ k f = some q := by
  match x, h with
  | some f, h => exact ⟨f, rfl, h⟩
def am_six {α : Type} (i : Int32) (a0 a1 a2 a3 a4 a5 : Option α) : Option α := if i = 0 then a0 else if i = 1 then a1 else if i = 2 then a2 else if i = 3 then a3 else if i = 4 then a4 else if i = 5 then a5 else none
theorem am_Ev.six {X : am_X} {j pc : Nat} {ls : am_L} {st : List Value} {f : am_M} {r : Option Value} {f' : am_M} {ρ : Type} {q : ρ} {i : Int32} {A0 A1 A2 A3 A4 A5 : Option ρ} (h : am_chk i 6 (am_six i A0 A1 A2 A3 A4 A5) = some q)
    (k0 : A0 = some q → am_Ev X j pc ls (.int 0 :: st) f r f') (k1 : A1 = some q → am_Ev X j pc ls (.int 1 :: st) f r f') (k2 : A2 = some q → am_Ev X j pc ls (.int 2 :: st) f r f')
    (k3 : A3 = some q → am_Ev X j pc ls (.int 3 :: st) f r f') (k4 : A4 = some q → am_Ev X j pc ls (.int 4 :: st) f r f') (k5 : A5 = some q → am_Ev X j pc ls (.int 5 :: st) f r f') : am_Ev X j pc ls (.int i :: st) f r f' := by
  unfold am_chk at h
  split at h
  · cases h
  · split at h
    · unfold am_six at h
      repeat' split at h
      · rename_i e; subst e; exact k0 h
      · rename_i e; subst e; exact k1 h
      · rename_i e; subst e; exact k2 h
      · rename_i e; subst e; exact k3 h
      · rename_i e; subst e; exact k4 h
      · rename_i e; subst e; exact k5 h
      · cases h
    · cases h
/-- enough for every loop -/
def am_fu : Nat := 6000
