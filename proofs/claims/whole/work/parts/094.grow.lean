/-! the world only grows; what tables say of methods -/
set_option maxHeartbeats 4000000 in
set_option maxRecDepth 100000 in
theorem am_sim_G {ρ : Type} {P : Prop} {X : am_X} {o hh : Nat} {i : Instr} {len pc : Nat} {ls : am_L} {st : List Value} {G : am_G} {f : am_M} {k : Nat → am_L → List Value → am_G → am_M → Option ρ} {r : ρ} (h : am_sim X o hh i len pc ls st G f k = some r)
    (hk : ∀ a b c G1 e, k a b c G1 e = some r → G.length ≤ G1.length → am_sz G ≤ am_sz G1 → P) : P := by
  have same : ∀ {a b c e}, k a b c G e = some r → P := fun h => hk _ _ _ G _ h (Nat.le_refl _) (Nat.le_refl _)
  have push : ∀ {a b c e x}, k a b c (G ++ [x]) e = some r → P := fun {a b c e x} h => hk _ _ _ _ _ h (by rw [List.length_append]; omega) (by rw [am_sz_app]; omega)
  cases i <;> simp only [am_sim, cond_eq_ite] at h
  case putfield idx =>
    repeat' split at h
    all_goals first | exact same h | cases h | skip
    all_goals rename_i ci rs hn x0 ci' k9 pl hf hc y1 y2 q hkd y3 r9 hr9
    all_goals exact hk _ _ _ _ _ h (by rw [List.length_set]; exact Nat.le_refl _) (Nat.le_of_eq (am_sz_set G _ (.inl ci, rs) (.inl ci, rs.set k9 (some q)) (by rw [← am_nth_eq]; exact hn) rfl).symm)
  case aastore =>
    split at h
    · split at h
      · rename_i C9 n rs rv hn hv
        obtain ⟨-, -, h⟩ := am_chk_some h
        split at h
        · refine hk _ _ _ _ _ h (by rw [List.length_set]; exact Nat.le_refl _) ?_
          rw [am_sz_set G _ (.inr (.object C9, n), rs) (.inr (.object "NumberedRings$Standing", n), _) (by rw [← am_nth_eq]; exact hn) rfl]
          exact Nat.le_refl _
        · cases h
      · cases h
    · cases h
  all_goals (repeat' split at h)
  all_goals first | exact same h | exact push h | cases h | skip
  all_goals (obtain ⟨-, -, h⟩ := am_chk_some h)
  all_goals first | exact same h | skip
  all_goals (repeat' split at h)
  all_goals first | exact same h | cases h
theorem am_br_or {α : Type} {cd : ClassFile.Cond} {a b : Int32} {A C : Option α} {r : α} (h : am_br cd a b A C = some r) : A = some r ∨ C = some r := by
  cases cd <;> simp only [am_br] at h <;> split at h <;> first | exact Or.inl h | exact Or.inr h
theorem am_swr_or {α : Type} {x : Int32} {go : Int → Option α} {d : Option α} {r : α} : ∀ (t : List Int) (k : Int), am_swr x go d t k = some r → (∃ (n : Nat) (q : Int), t[n]? = some q ∧ x = am_int (k + n) ∧ go q = some r) ∨ ((∀ n : Nat, n < t.length → x ≠ am_int (k + n)) ∧ d = some r)
  | [], _, h => Or.inr ⟨fun n hn => absurd hn (Nat.not_lt_zero n), h⟩
  | o :: t, k, h => by
    simp only [am_swr] at h
    split at h
    · rename_i e
      exact Or.inl ⟨0, o, rfl, by simpa using e, h⟩
    · rename_i e
      rcases am_swr_or t (k + 1) h with ⟨n, q, h1, h2, h3⟩ | ⟨h1, h2⟩
      · exact Or.inl ⟨n + 1, q, by simpa using h1, by rw [h2]; congr 1; push_cast; omega, h3⟩
      · refine Or.inr ⟨fun n hn => ?_, h2⟩
        cases n with
        | zero => simpa using e
        | succ n =>
          have := h1 n (by simpa using hn)
          intro e2
          apply this
          rw [e2]
          congr 1
          push_cast
          omega
theorem am_run_G {X : am_X} : ∀ (n j pc : Nat) (ls : am_L) (st : List Value) (G : am_G) (f : am_M) (r : Option Value) (G' : am_G) (f' : am_M), am_run X n j pc ls st G f = some (r, G', f') → G.length ≤ G'.length ∧ am_sz G ≤ am_sz G' := by
  intro n
  induction n with
  | zero => intro j pc ls st G f r G' f' h; simp [am_run] at h
  | succ n ih =>
    intro j pc ls st G f r G' f' h
    have h' : am_one X (am_run X n) j pc ls st G f = some (r, G', f') := h
    unfold am_one at h'
    generalize am_m j = mm at h'
    obtain ⟨c, o, x1, x2, rt, hh⟩ := mm
    dsimp only at h'
    generalize am_at c pc = w at h'
    cases w with
    | none => cases h'
    | some x =>
      obtain ⟨i, len⟩ := x
      have gen : am_gen X (am_run X n) j o hh i len pc ls st G f = some (r, G', f') → G.length ≤ G'.length ∧ am_sz G ≤ am_sz G' := by
        intro hg
        unfold am_gen at hg
        split at hg
        · rename_i j' As rest hcal
          cases hr : am_run X n j' 0 (am_ent As (am_m j').2.2.2.1) [] G f with
          | none => rw [hr] at hg; cases hg
          | some y =>
            obtain ⟨r1, G1, f1⟩ := y
            rw [hr] at hg
            have a1 := ih _ _ _ _ _ _ _ _ _ hr
            have a2 := ih _ _ _ _ _ _ _ _ _ hg
            omega
        · refine am_sim_G hg (fun a b c G1 e h1 h2 h3 => ?_)
          have a2 := ih _ _ _ _ _ _ _ _ _ h1
          omega
      cases i
      case if_icmp cd off =>
        dsimp only at h'
        split at h'
        · rcases am_br_or h' with h1 | h1 <;> exact ih _ _ _ _ _ _ _ _ _ h1
        · cases h'
      case ifCond cd off =>
        dsimp only at h'
        split at h'
        · rcases am_br_or h' with h1 | h1 <;> exact ih _ _ _ _ _ _ _ _ _ h1
        · cases h'
      case tableswitch d lo hi offs =>
        dsimp only at h'
        split at h'
        · rcases am_swr_or _ _ h' with ⟨q, z, -, -, h1⟩ | ⟨-, h1⟩ <;> exact ih _ _ _ _ _ _ _ _ _ h1
        · cases h'
      case ireturn =>
        dsimp only at h'
        split at h'
        · unfold am_rt at h'
          repeat' split at h'
          all_goals first | (cases h'; exact ⟨Nat.le_refl _, Nat.le_refl _⟩) | cases h'
        · cases h'
      case areturn =>
        dsimp only at h'
        split at h'
        · cases h'; exact ⟨Nat.le_refl _, Nat.le_refl _⟩
        · cases h'
      case return_ =>
        dsimp only at h'
        split at h'
        · cases h'; exact ⟨Nat.le_refl _, Nat.le_refl _⟩
        · cases h'
      all_goals exact gen h'
/-- what a method's row says -/
def am_MF (j : Nat) : Prop := Cond.code (am_y j) (am_by j) (am_m j).2.2.2.1 (am_m j).2.2.2.2.1 ∈ am_tb ∧ Cond.initialized (am_y j).cls ∈ am_tb ∧ (am_y j).cls = am_rn (am_m j).2.1 ∧ plainFor (am_y j) = true ∧ ((am_y j).cls ≠ "java/lang/invoke/MethodHandle" ∧ (am_y j).cls ≠ "java/lang/invoke/VarHandle") ∧ (am_m j).2.2.2.1 ≤ 16 ∧ (am_m j).2.2.1 ≤ (am_m j).2.2.2.1 ∧
  (match am_kind j with
   | 0 => Cond.instanceMethod (am_y j) ∈ am_tb ∧ Cond.selects (am_y j).cls (am_y j) (am_y j) ∈ am_tb ∧ (parseMethodDescriptor (am_y j).desc).map (fun d => d.parameters.length + 1) = some (am_m j).2.2.1
   | 1 => Cond.static (am_y j) ∈ am_tb ∧ (parseMethodDescriptor (am_y j).desc).map (fun d => d.parameters.length) = some (am_m j).2.2.1
   | _ => Cond.instanceMethod (am_y j) ∈ am_tb ∧ (am_m j).2.2.2.2.1 = none ∧ (parseMethodDescriptor (am_y j).desc).map (fun d => d.parameters.length + 1) = some (am_m j).2.2.1)
theorem am_mf {j : Nat} (h : j < 172) : am_MF j := by
  have h1 := am_ml j h
  unfold am_mlk at h1
  unfold am_MF am_y am_by
  generalize am_kind j = kd at h1 ⊢
  generalize am_m j = mm at h1 ⊢
  generalize am_mn j = nn at h1 ⊢
  obtain ⟨c, o, na, mL, rt, hh⟩ := mm
  obtain ⟨⟨y, bb⟩, p1, p2, p3, p4⟩ := nn
  simp only [Bool.and_eq_true, decide_eq_true_eq] at h1
  obtain ⟨a1, a2, a3, a4, a5, a6, a7, a8⟩ := h1
  refine ⟨am_word_of a1, am_word_of a2, a3, a4, a5, Nat.le_of_ble_eq_true a6, Nat.le_of_ble_eq_true a7, ?_⟩
  split at a8
  · simp only [Bool.and_eq_true, decide_eq_true_eq] at a8
    exact ⟨am_word_of a8.1, am_word_of a8.2.1, a8.2.2⟩
  · simp only [Bool.and_eq_true, decide_eq_true_eq] at a8
    exact ⟨am_word_of a8.1, a8.2⟩
  · rename_i q1 q2
    simp only [Bool.and_eq_true, decide_eq_true_eq] at a8
    split
    · exact absurd rfl q1
    · exact absurd rfl q2
    · exact ⟨am_word_of a8.1, a8.2.1, a8.2.2⟩
/-- answers are of the kind that the method tells -/
def am_rts (j : Nat) : Bool := (am_m j).1.all fun q => q.all fun x => match x with
  | some (.areturn, _) => (match (am_m j).2.2.2.2.1 with
    | some t => am_rk t
    | none => false)
  | some (.return_, _) => (match (am_m j).2.2.2.2.1 with
    | some _ => false
    | none => true)
  | _ => true
theorem am_rts_all : (List.range 172).all am_rts = true := by decide +kernel
theorem am_rts_at {j pc : Nat} {i : Instr} {len : Nat} (h : am_rts j = true) (ha : am_at (am_m j).1 pc = some (i, len)) : (i = .areturn → ∃ t, (am_m j).2.2.2.2.1 = some t ∧ am_rk t = true) ∧ (i = .return_ → (am_m j).2.2.2.2.1 = none) := by
  unfold am_at am_two at ha
  rw [am_nth_eq] at ha
  cases hc : (am_m j).1[pc / 16]? with
  | none => simp [hc] at ha
  | some l9 =>
    simp only [hc] at ha
    rw [am_nth_eq] at ha
    cases hl : l9[pc % 16]? with
    | none => simp [hl] at ha
    | some y =>
      simp only [hl] at ha
      cases y with
      | none => cases ha
      | some z =>
        cases ha
        have h1 := List.all_eq_true.mp (List.all_eq_true.mp h l9 (List.mem_of_getElem? hc)) _ (List.mem_of_getElem? hl)
        constructor
        · intro e
          subst e
          dsimp only at h1
          split at h1
          · rename_i t ht
            exact ⟨t, ht, h1⟩
          · cases h1
        · intro e
          subst e
          dsimp only at h1
          split at h1
          · cases h1
          · assumption
