/-! the abstract machine's world as cells of the heap -/
def am_E (B b : Nat) (adK adV : Nat → Nat) (fm : Option Nat) (p : Nat) : Option Nat := if p < 1000 then some (B + p) else if p = 1000 then some b else if p = 1001 then fm else if p < 1020 then some (adK (p - 1010)) else some (adV (p - 1020))
def am_cv (E : Nat → Option Nat) (v : Value) : Value := match v with
  | .int x => .int x
  | .ref p => va_rf (E p)
  | _ => .null
def am_re (E : Nat → Option Nat) (r : Option (Option Nat)) : Option Nat := match r with
  | some (some p) => E p
  | _ => none
theorem am_cv_rv (E : Nat → Option Nat) (r : Option (Option Nat)) : am_cv E (am_rv r) = va_rf (am_re E r) := by
  rcases r with _ | _ | p <;> rfl
theorem am_cv_cat (E : Nat → Option Nat) (v : Value) : (am_cv E v).category = 1 := by
  cases v <;> simp only [am_cv, Value.category] <;> (rename_i p; cases E p <;> rfl)
theorem am_cv_ref (E : Nat → Option Nat) (p : Nat) : am_cv E (.ref p) = .null ∨ ∃ a, am_cv E (.ref p) = .ref a := by
  simp only [am_cv]
  cases E p with
  | none => exact Or.inl rfl
  | some a => exact Or.inr ⟨a, rfl⟩
def am_fs (E : Nat → Option Nat) (f : Nat → Int32) (rs : List (Option Nat)) : List Nat → Nat → List Value
  | [], _ => []
  | q :: ks, k => (if q = 2 then va_rf (am_re E (am_nth rs k)) else .int (f k)) :: am_fs E f rs ks (k + 1)
theorem am_fs_at (E : Nat → Option Nat) (f : Nat → Int32) (rs : List (Option Nat)) : ∀ (ks : List Nat) (k i : Nat), (am_fs E f rs ks k)[i]? = (ks[i]?).map (fun q => if q = 2 then va_rf (am_re E (am_nth rs (k + i))) else .int (f (k + i)))
  | [], _, _ => by simp [am_fs]
  | q :: ks, k, 0 => by simp [am_fs]
  | q :: ks, k, i + 1 => by
    simp only [am_fs, List.getElem?_cons_succ]
    rw [am_fs_at E f rs ks (k + 1) i, show k + 1 + i = k + (i + 1) by omega]
theorem am_fs_len (E : Nat → Option Nat) (f : Nat → Int32) (rs : List (Option Nat)) : ∀ (ks : List Nat) (k : Nat), (am_fs E f rs ks k).length = ks.length
  | [], _ => rfl
  | _ :: ks, k => by simp [am_fs, am_fs_len E f rs ks (k + 1)]
theorem am_fs_int {E : Nat → Option Nat} {f : Nat → Int32} {rs : List (Option Nat)} {ks : List Nat} {i q : Nat} (x : Int32) (h : am_nth ks i = some q) (hq : q ≠ 2) : (am_fs E f rs ks 0).set i (.int x) = am_fs E (upd f i x) rs ks 0 := by
  rw [am_nth_eq] at h
  apply List.ext_getElem?
  intro n
  rw [List.getElem?_set, am_fs_at, am_fs_at, am_fs_len]
  have hi : i < ks.length := (List.getElem?_eq_some_iff.mp h).1
  by_cases e : i = n
  · subst e
    rw [if_pos rfl, if_pos hi, h]
    simp [hq, upd]
  · simp [e, upd, Ne.symm e]
theorem am_fs_ref {E : Nat → Option Nat} {f : Nat → Int32} {rs : List (Option Nat)} {ks : List Nat} {i p : Nat} {r : Option Nat} (h : am_nth ks i = some 2) (hr : am_nth rs i = some r) : (am_fs E f rs ks 0).set i (va_rf (E p)) = am_fs E f (rs.set i (some p)) ks 0 := by
  rw [am_nth_eq] at h hr
  apply List.ext_getElem?
  intro n
  rw [List.getElem?_set, am_fs_at, am_fs_at, am_fs_len]
  have hi : i < ks.length := (List.getElem?_eq_some_iff.mp h).1
  have hi2 : i < rs.length := (List.getElem?_eq_some_iff.mp hr).1
  by_cases e : i = n
  · subst e
    rw [if_pos rfl, if_pos hi, h]
    simp [am_nth_eq, hi2, am_re]
  · simp [e, am_nth_eq]
def am_cO : FieldType := .object "NumberedRings$Standing"
def am_nt (ty : FieldType) : FieldType := match ty with
  | .boolean => .boolean
  | _ => .int
def am_ct (E : Nat → Option Nat) (ac : FieldType → ClassId) (f : am_M) (p : Nat) (q : am_K) : va_E := match q with
  | (.inl ci, rs) => .inr (ci, am_fs E (f p) rs (am_ks ci) 0)
  | (.inr (.object _, n), rs) => .inl (ac am_cO, n, .inr (.inr (.inr (.inr (fun i => am_re E (am_nth rs i))))))
  | (.inr (ty, n), _) => .inl (ac (am_nt ty), n, .inl (f p))
theorem am_ct_f {E : Nat → Option Nat} {ac : FieldType → ClassId} {f f' : am_M} {p : Nat} (h : f' p = f p) (q : am_K) : am_ct E ac f' p q = am_ct E ac f p q := by
  unfold am_ct
  rw [h]
def am_ws (E : Nat → Option Nat) (ac : FieldType → ClassId) (f : am_M) : am_G → Nat → va_W
  | [], _ => []
  | q :: G, k => ((E k).getD 0, am_ct E ac f k q) :: am_ws E ac f G (k + 1)
theorem am_ws_at (E : Nat → Option Nat) (ac : FieldType → ClassId) (f : am_M) : ∀ (G : am_G) (k i : Nat), (am_ws E ac f G k)[i]? = (G[i]?).map (fun q => ((E (k + i)).getD 0, am_ct E ac f (k + i) q))
  | [], _, _ => by simp [am_ws]
  | q :: G, k, 0 => by simp [am_ws]
  | q :: G, k, i + 1 => by
    simp only [am_ws, List.getElem?_cons_succ]
    rw [am_ws_at E ac f G (k + 1) i, show k + 1 + i = k + (i + 1) by omega]
theorem am_ws_len (E : Nat → Option Nat) (ac : FieldType → ClassId) (f : am_M) : ∀ (G : am_G) (k : Nat), (am_ws E ac f G k).length = G.length
  | [], _ => rfl
  | _ :: G, k => by simp [am_ws, am_ws_len E ac f G (k + 1)]
theorem am_ws_get {E : Nat → Option Nat} {ac : FieldType → ClassId} {f : am_M} {G : am_G} {p : Nat} {q : am_K} (h : am_nth G p = some q) : (am_ws E ac f G 0)[p]? = some ((E p).getD 0, am_ct E ac f p q) := by
  rw [am_nth_eq] at h
  rw [am_ws_at, h]
  simp
theorem am_ws_set {E : Nat → Option Nat} {ac : FieldType → ClassId} {f f' : am_M} {G : am_G} {p : Nat} (q : am_K) (hf : ∀ n, n ≠ p → f' n = f n) : (am_ws E ac f G 0).set p ((E p).getD 0, am_ct E ac f' p q) = am_ws E ac f' (G.set p q) 0 := by
  apply List.ext_getElem?
  intro n
  rw [List.getElem?_set, am_ws_at, am_ws_at, am_ws_len, List.getElem?_set]
  by_cases e : p = n
  · subst e
    by_cases hl : p < G.length
    · simp [hl]
    · simp [hl]
  · simp only [e, if_false, Nat.zero_add]
    cases G[n]? with
    | none => rfl
    | some x => simp only [Option.map_some]; rw [am_ct_f (hf n (Ne.symm e))]
theorem am_ws_same {E : Nat → Option Nat} {ac : FieldType → ClassId} {f f' : am_M} {G : am_G} {p : Nat} {q : am_K} (h : am_nth G p = some q) (hf : ∀ n, n ≠ p → f' n = f n) : (am_ws E ac f G 0).set p ((E p).getD 0, am_ct E ac f' p q) = am_ws E ac f' G 0 := by
  rw [am_ws_set q hf]
  rw [am_nth_eq] at h
  congr 1
  apply List.ext_getElem?
  intro n
  rw [List.getElem?_set]
  by_cases e : p = n
  · subst e
    have hl : p < G.length := (List.getElem?_eq_some_iff.mp h).1
    rw [if_pos rfl, if_pos hl, h]
  · simp [e]
theorem am_ws_push {E : Nat → Option Nat} {ac : FieldType → ClassId} {f f' : am_M} {G : am_G} (q : am_K) (hf : ∀ n, n ≠ G.length → f' n = f n) : am_ws E ac f' (G ++ [q]) 0 = am_ws E ac f G 0 ++ [((E G.length).getD 0, am_ct E ac f' G.length q)] := by
  apply List.ext_getElem?
  intro n
  rw [am_ws_at]
  rcases Nat.lt_trichotomy n G.length with h | h | h
  · rw [List.getElem?_append_left h, List.getElem?_append_left (by rw [am_ws_len]; exact h), am_ws_at]
    cases G[n]? with
    | none => rfl
    | some x => simp only [Option.map_some, Nat.zero_add]; rw [am_ct_f (hf n (by omega))]
  · subst h
    rw [List.getElem?_append_right (Nat.le_refl _), List.getElem?_append_right (by rw [am_ws_len]; exact Nat.le_refl _), am_ws_len]
    simp
  · rw [List.getElem?_eq_none (by simp; omega), List.getElem?_eq_none (by simp [am_ws_len]; omega)]
    rfl
theorem am_ws_D {B b : Nat} {adK adV : Nat → Nat} {fm : Option Nat} {ac : FieldType → ClassId} {f : am_M} {G : am_G} (hG : G.length ≤ 1000) : va_D (fun q => B ≤ q) (am_ws (am_E B b adK adV fm) ac f G 0) := by
  have key : ∀ (i : Nat) (p : Nat × va_E), (am_ws (am_E B b adK adV fm) ac f G 0)[i]? = some p → p.1 = B + i := by
    intro i p h
    rw [am_ws_at] at h
    cases hg : G[i]? with
    | none => simp [hg] at h
    | some q =>
      have hl : i < G.length := (List.getElem?_eq_some_iff.mp hg).1
      simp [hg] at h
      rw [← h]
      simp [am_E, show i < 1000 by omega]
  refine ⟨fun i j p q hi hj e => ?_, fun k q hk => ?_⟩
  · rw [key i p hi, key j q hj] at e
    omega
  · show B ≤ q.1
    rw [key k q hk]
    omega
theorem am_wr_ne {f : am_M} {p k : Nat} {x : Int32} : ∀ n, n ≠ p → am_wr f p k x n = f n := fun n h => by
  funext j
  simp [am_wr, h]
theorem am_wr_eq {f : am_M} {p k : Nat} {x : Int32} : am_wr f p k x p = upd (f p) k x := by
  funext j
  simp [am_wr, upd]
theorem am_cl_ne {f : am_M} {p : Nat} : ∀ n, n ≠ p → am_cl f p n = f n := fun n h => by
  funext j
  simp [am_cl, h]
theorem am_cl_eq {f : am_M} {p : Nat} : am_cl f p p = fun _ => 0 := by
  funext j
  simp [am_cl]
theorem am_cp_ne {f : am_M} {a b sp dp m : Nat} : ∀ n, n ≠ b → am_cp f a b sp dp m n = f n := fun n h => by
  funext j
  simp [am_cp, h]
theorem am_cp_eq {f : am_M} {a b sp dp m : Nat} : am_cp f a b sp dp m b = va_cpy (f a) (f b) sp dp m := by
  funext j
  simp [am_cp, va_cpy]
/-- how many fields and elements -/
def am_s1 (q : am_K) : Nat := match q with
  | (.inl ci, _) => (am_ks ci).length
  | (.inr (_, n), _) => n
def am_sz : am_G → Nat
  | [] => 0
  | q :: G => am_s1 q + am_sz G
theorem am_sz_app : ∀ (G : am_G) (q : am_K), am_sz (G ++ [q]) = am_sz G + am_s1 q
  | [], q => by simp [am_sz]
  | a :: G, q => by simp only [List.cons_append, am_sz, am_sz_app G q]; omega
theorem am_sz_set : ∀ (G : am_G) (p : Nat) (q q' : am_K), G[p]? = some q → am_s1 q' = am_s1 q → am_sz (G.set p q') = am_sz G
  | [], _, _, _, h, _ => by simp at h
  | a :: G, 0, q, q', h, e => by
    simp at h
    subst h
    simp [am_sz, e]
  | a :: G, p + 1, q, q', h, e => by
    simp at h
    simp [am_sz, am_sz_set G p q q' h e]
/-- the locals, as the kit lists them -/
def am_asc (E : Nat → Option Nat) : Nat → am_L → List (Nat × Value)
  | _, [] => []
  | k, none :: l => am_asc E (k + 1) l
  | k, some v :: l => (k, am_cv E v) :: am_asc E (k + 1) l
theorem am_asc_mem (E : Nat → Option Nat) : ∀ (l : am_L) (k : Nat) (q : Nat × Value), q ∈ am_asc E k l ↔ ∃ i v, l[i]? = some (some v) ∧ q = (k + i, am_cv E v)
  | [], k, q => by simp [am_asc]
  | none :: l, k, q => by
    rw [am_asc, am_asc_mem E l (k + 1) q]
    constructor
    · rintro ⟨i, v, h, e⟩
      exact ⟨i + 1, v, by simpa using h, by rw [e, show k + 1 + i = k + (i + 1) by omega]⟩
    · rintro ⟨i, v, h, e⟩
      cases i with
      | zero => simp at h
      | succ i => exact ⟨i, v, by simpa using h, by rw [e, show k + 1 + i = k + (i + 1) by omega]⟩
  | some w :: l, k, q => by
    rw [am_asc, List.mem_cons, am_asc_mem E l (k + 1) q]
    constructor
    · rintro (e | ⟨i, v, h, e⟩)
      · exact ⟨0, w, by simp, by simpa using e⟩
      · exact ⟨i + 1, v, by simpa using h, by rw [e, show k + 1 + i = k + (i + 1) by omega]⟩
    · rintro ⟨i, v, h, e⟩
      cases i with
      | zero =>
        simp at h
        subst h
        exact Or.inl (by simpa using e)
      | succ i => exact Or.inr ⟨i, v, by simpa using h, by rw [e, show k + 1 + i = k + (i + 1) by omega]⟩
theorem am_asc_at {E : Nat → Option Nat} {LS : Array Slot} {nL : Nat} {l : am_L} (h : lv_has LS nL (am_asc E 0 l)) {i : Nat} {v : Value} (hi : am_nth l i = some (some v)) : LS[i]? = some (.val (am_cv E v)) := by
  rw [am_nth_eq] at hi
  have := h.2.2 (i, am_cv E v) ((am_asc_mem E l 0 _).mpr ⟨i, v, hi, by simp⟩)
  exact this
/-- a store into the locals -/
theorem am_asc_set {E : Nat → Option Nat} {LS : Array Slot} {nL : Nat} {l : am_L} {i : Nat} {v : Value} {w : Value} (hw : w = am_cv E v) (h : lv_has LS nL ((i, w) :: (am_asc E 0 l).filter (fun q => !(q.1 == i) && !(q.1 + 1 == i && q.2.category == 2)))) : lv_has LS nL (am_asc E 0 (l.set i (some v))) := by
  refine ⟨h.1, h.2.1, fun q hq => ?_⟩
  obtain ⟨j, u, hj, e⟩ := (am_asc_mem E _ 0 q).mp hq
  rw [List.getElem?_set] at hj
  by_cases c : i = j
  · subst c
    by_cases hl : i < l.length
    · simp [hl] at hj
      subst hj
      rw [e, ← hw]
      simpa using h.2.2 (i, w) List.mem_cons_self
    · simp [hl] at hj
  · simp only [c, if_false] at hj
    refine h.2.2 q (List.mem_cons_of_mem _ (List.mem_filter.mpr ⟨(am_asc_mem E l 0 q).mpr ⟨j, u, hj, e⟩, ?_⟩))
    rw [e]
    have h1 : ((0 + j) == i) = false := by simp; omega
    have h2 : (am_cv E u).category = 1 := am_cv_cat E u
    simp only [h1, h2]
    simp
theorem am_int_eq (n : Int) : am_int n = Int32.ofInt n := by
  cases n with
  | ofNat k => rfl
  | negSucc k =>
    show -(Int32.ofNat (k + 1)) = Int32.ofInt (Int.negSucc k)
    rw [Int.negSucc_eq, Int32.ofInt_neg]
    rfl
