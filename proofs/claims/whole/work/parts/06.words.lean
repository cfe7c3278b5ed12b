/-! the tables of the abstract machine against the statement's words and bytes -/
def am_tb : List Jvm.Cond := lw_tbl.filter goodWord
theorem am_tb_of {i : Nat} {w : Jvm.Cond} (h : lw_tbl[i]? = some w) (g : goodWord w = true) : w ∈ am_tb := List.mem_filter.mpr ⟨List.mem_of_getElem? h, g⟩
theorem am_tb_good {w : Jvm.Cond} (h : w ∈ am_tb) : w ∈ lw_tbl ∧ goodWord w = true := List.mem_filter.mp h
theorem am_nth_eq {α : Type} : ∀ (l : List α) (k : Nat), am_nth l k = l[k]?
  | [], _ => by simp [am_nth]
  | a :: l, 0 => by simp [am_nth]
  | a :: l, n + 1 => by simp [am_nth, am_nth_eq l n]
theorem am_as_mem {α : Type} : ∀ (l : List (Nat × α)) (k : Nat) (v : α), am_as l k = some v → (k, v) ∈ l
  | [], _, _, h => by simp [am_as] at h
  | (a, w) :: l, k, v, h => by
    rw [am_as] at h
    cases hb : Nat.beq a k with
    | true =>
      rw [hb] at h
      have e : a = k := Nat.eq_of_beq_eq_true hb
      simp at h
      subst e
      subst h
      exact List.mem_cons_self
    | false =>
      rw [hb] at h
      exact List.mem_cons_of_mem _ (am_as_mem l k v h)
theorem am_own_mem {α : Type} {t : List (List (Nat × α))} {o k : Nat} {v : α} (h : am_own t o k = some v) : ∃ l, t[o]? = some l ∧ (k, v) ∈ l := by
  unfold am_own at h
  rw [am_nth_eq] at h
  cases hl : t[o]? with
  | none => simp [hl] at h
  | some l =>
    simp only [hl] at h
    exact ⟨l, rfl, am_as_mem l k v h⟩
def am_rn (o : Nat) : String := match am_nth am_RN o with
  | some q => q
  | none => ""
def am_word (i : Nat) (w : Jvm.Cond) : Bool := decide (lw_tbl[i]? = some w) && goodWord w
theorem am_word_of {i : Nat} {w : Jvm.Cond} (h : am_word i w = true) : w ∈ am_tb := by
  unfold am_word at h
  simp only [Bool.and_eq_true, decide_eq_true_eq] at h
  exact am_tb_of h.1 h.2
def am_isf (i : Nat) (w : Jvm.Cond) : Bool := decide (lw_tbl[i]? = some w)
/-- a field's row -/
def am_flk (o : Nat) (q : Nat × Nat × Nat × Nat) : Bool := match vwCl[q.2.1]? with
  | some (C, T, N) => am_word q.2.2.2 (.fieldLink (am_rn o) q.1 C (T q.2.2.1).2.1 (T q.2.2.1).2.2.1) && Nat.blt q.2.2.1 N && decide ((T q.2.2.1).1 = C)
  | none => false
theorem am_FL_ok : (am_FL.zipIdx).all (fun q => q.1.all (am_flk q.2)) = true := by decide +kernel
/-- a class's row -/
def am_nlk (o : Nat) (q : Nat × Nat × Nat) : Bool := match vwCl[q.2.1]? with
  | some (C, _, _) => am_word q.2.2 (.classLink (am_rn o) q.1 C)
  | none => false
theorem am_NL_ok : (am_NL.zipIdx).all (fun q => q.1.all (am_nlk q.2)) = true := by decide +kernel
def am_mn (j : Nat) : (MethodName × ByteArray) × Nat × Nat × Nat × Nat := match am_two am_MN j with
  | some q => q
  | none => ((yL_law, cL_law), 0, 0, 0, 0)
def am_y (j : Nat) : MethodName := (am_mn j).1.1
def am_by (j : Nat) : ByteArray := (am_mn j).1.2
/-- a call's row -/
def am_clk (o : Nat) (q : Nat × Nat × Nat × Nat) : Bool := match q.2.1 with
  | 0 => am_word q.2.2.2 (.methodLink (am_rn o) q.1 (am_y q.2.2.1)) && Nat.blt q.2.2.1 172
  | 1 => am_word q.2.2.2 (.methodLink (am_rn o) q.1 (am_y q.2.2.1)) && Nat.blt q.2.2.1 172
  | 2 => am_word q.2.2.2 (.methodLink (am_rn o) q.1 (am_y q.2.2.1)) && Nat.blt q.2.2.1 172
  | 3 => am_isf q.2.2.2 (.methodLinkNest (am_rn o) q.1 (am_y q.2.2.1) "NumberedRings") && Nat.blt q.2.2.1 172
  | 4 => am_word q.2.2.2 (.methodLink (am_rn o) q.1 objectInit)
  | 5 => am_word q.2.2.2 (.methodLink (am_rn o) q.1 arraycopyName)
  | _ => false
theorem am_CL_ok : (am_CL.zipIdx).all (fun q => q.1.all (am_clk q.2)) = true := by decide +kernel
/-- a method's row: kinds 0 and 2 are of objects, 1 is static -/
def am_kind (j : Nat) : Nat := if (am_y j).name = "<init>" then 2 else if lw_tbl[(am_mn j).2.2.1]? = some (.static (am_y j)) then 1 else 0
def am_mlk (j : Nat) : Bool := match am_m j, am_mn j with
  | (_, o, na, mL, rt, h), ((y, bb), p1, p2, p3, p4) => am_word p1 (.code y bb mL rt) && (am_word p4 (.initialized y.cls) && (decide (y.cls = am_rn o) && (plainFor y && (decide (y.cls ≠ "java/lang/invoke/MethodHandle" ∧ y.cls ≠ "java/lang/invoke/VarHandle") && (Nat.ble mL 16 && (Nat.ble na mL &&
    (match am_kind j with
     | 0 => am_word p2 (.instanceMethod y) && (am_word p3 (.selects y.cls y y) && decide ((parseMethodDescriptor y.desc).map (fun d => d.parameters.length + 1) = some na))
     | 1 => am_word p2 (.static y) && decide ((parseMethodDescriptor y.desc).map (fun d => d.parameters.length) = some na)
     | _ => am_word p2 (.instanceMethod y) && (decide (rt = none) && decide ((parseMethodDescriptor y.desc).map (fun d => d.parameters.length + 1) = some na)))))))))

theorem am_ml_0 : (List.range 16).all (fun j => am_mlk (0 + j)) = true := by decide +kernel
theorem am_ml_16 : (List.range 16).all (fun j => am_mlk (16 + j)) = true := by decide +kernel
theorem am_ml_32 : (List.range 16).all (fun j => am_mlk (32 + j)) = true := by decide +kernel
theorem am_ml_48 : (List.range 16).all (fun j => am_mlk (48 + j)) = true := by decide +kernel
theorem am_ml_64 : (List.range 16).all (fun j => am_mlk (64 + j)) = true := by decide +kernel
theorem am_ml_80 : (List.range 16).all (fun j => am_mlk (80 + j)) = true := by decide +kernel
theorem am_ml_96 : (List.range 16).all (fun j => am_mlk (96 + j)) = true := by decide +kernel
theorem am_ml_112 : (List.range 16).all (fun j => am_mlk (112 + j)) = true := by decide +kernel
theorem am_ml_128 : (List.range 16).all (fun j => am_mlk (128 + j)) = true := by decide +kernel
theorem am_ml_144 : (List.range 16).all (fun j => am_mlk (144 + j)) = true := by decide +kernel
theorem am_ml_160 : (List.range 12).all (fun j => am_mlk (160 + j)) = true := by decide +kernel
theorem am_ml (j : Nat) (h : j < 172) : am_mlk j = true := by
  have key : ∀ a n, (List.range n).all (fun j => am_mlk (a + j)) = true → a ≤ j → j < a + n → am_mlk j = true := fun a n h1 h2 h3 => by
    have := List.all_eq_true.mp h1 (j - a) (List.mem_range.mpr (by omega))
    rwa [show a + (j - a) = j by omega] at this
  by_cases c0 : j < 16
  · exact key 0 16 am_ml_0 (by omega) (by omega)
  by_cases c16 : j < 32
  · exact key 16 16 am_ml_16 (by omega) (by omega)
  by_cases c32 : j < 48
  · exact key 32 16 am_ml_32 (by omega) (by omega)
  by_cases c48 : j < 64
  · exact key 48 16 am_ml_48 (by omega) (by omega)
  by_cases c64 : j < 80
  · exact key 64 16 am_ml_64 (by omega) (by omega)
  by_cases c80 : j < 96
  · exact key 80 16 am_ml_80 (by omega) (by omega)
  by_cases c96 : j < 112
  · exact key 96 16 am_ml_96 (by omega) (by omega)
  by_cases c112 : j < 128
  · exact key 112 16 am_ml_112 (by omega) (by omega)
  by_cases c128 : j < 144
  · exact key 128 16 am_ml_128 (by omega) (by omega)
  by_cases c144 : j < 160
  · exact key 144 16 am_ml_144 (by omega) (by omega)
  by_cases c160 : j < 172
  · exact key 160 12 am_ml_160 (by omega) (by omega)
  exact absurd h (by omega)
/-- calls: the kind in the row is the method's -/
def am_ckk (q : Nat × Nat × Nat × Nat) : Bool := match q.2.1 with
  | 0 => decide (am_kind q.2.2.1 = 0)
  | 1 => decide (am_kind q.2.2.1 = 1)
  | 2 => decide (am_kind q.2.2.1 = 2)
  | 3 => decide (am_kind q.2.2.1 = 2)
  | _ => true
theorem am_CL_kind : am_CL.all (fun l => l.all am_ckk) = true := by decide +kernel
