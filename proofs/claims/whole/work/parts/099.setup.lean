/-! what the statement gives at the law's entry -/
set_option maxHeartbeats 4000000 in
theorem am_setup {s : State} {args : Array Value} {b L : Nat} {xs : Nat → Int32} (hts : ∀ w ∈ lw_tbl, w.before args s = true) (hX : va_X b L xs s s.heap) (hbl : b < s.heap.size) (hgv : (Jvm.Cond.and given_1 narrow_1).before args s = true) :
    ∃ (D : va_G) (ac : FieldType → ClassId) (adK adV : Nat → Nat) (fm : Option Nat), am_St s.heap.size b L xs D ac adK adV fm s := by
  have hA : ∀ a : Nat, a < s.heap.size → ¬ (fun q : Nat => s.heap.size ≤ q) a := fun a h => Nat.not_le.mpr h
  have htb : ∀ w ∈ am_tb, w.before args s = true := fun w hw => hts w (am_tb_good hw).1
  have hs := flat_of_before _ hgv
  -- the classes
  have h0 : ∀ ci : Nat, ∃ y : ClassId × (Nat → Nat), ∀ q : vw_C, vwCl[ci]? = some q → u_Kn s q.1 q.2.1 q.2.2 y.1 y.2 := by
    intro ci
    cases hq : vwCl[ci]? with
    | none => exact ⟨(0, fun _ => 0), fun q h => by cases h⟩
    | some q =>
      obtain ⟨c1, -, -, -, -, c6, -⟩ := am_cf hq
      obtain ⟨cC, iS, hK⟩ := u_known (C := q.1) (T := q.2.1) (N := q.2.2) (n := q.2.2) htb c1 (htb _ c6)
      exact ⟨(cC, iS), fun q' h => by cases h; exact hK⟩
  obtain ⟨dd, hdd⟩ := Classical.axiomOfChoice h0
  -- the arrays
  obtain ⟨cI, kI, mI, i1, i2, i3⟩ := Cond.arrayClass_spec (args := args) (first := s) (o := none) (s := s) (idx := []) (type := .int) (hts _ (List.mem_of_getElem? (i := 117) (by decide +kernel)))
  obtain ⟨cZ, kZ, mZ, z1, z2, z3⟩ := Cond.arrayClass_spec (args := args) (first := s) (o := none) (s := s) (idx := []) (type := .boolean) (hts _ (List.mem_of_getElem? (i := 831) (by decide +kernel)))
  have hover : (Cond.arrayOver (.object "NumberedRings$Standing")).before args s = true := hts _ (List.mem_of_getElem? (i := 216) (by decide +kernel))
  obtain ⟨mO, cO, kO, o1, o2, o3, o4, o5⟩ := Cond.arrayOver_spec (args := args) (first := s) (o := none) (s := s) (idx := []) (n := "NumberedRings$Standing") hover
  -- the texts
  obtain ⟨adK, adV, hK, hev⟩ := vk_Sof (args := args) (s := s) (N := 3) (tm := fun i => Term.string RX5 (if i = 0 then 92 else if i = 1 then 97 else 99)) (len := [5, 5, 5]) (byt := am_str) (A := fun q : Nat => s.heap.size ≤ q)
    (fun i hi => by
      have : i = 0 ∨ i = 1 ∨ i = 2 := by omega
      rcases this with rfl | rfl | rfl <;> decide)
    (fun i hi => by
      have : i = 0 ∨ i = 1 ∨ i = 2 := by omega
      rcases this with rfl | rfl | rfl <;> exact hs _ (by decide +kernel))
    (fun i hi => by
      have : i = 0 ∨ i = 1 ∨ i = 2 := by omega
      rcases this with rfl | rfl | rfl <;> exact hs _ (by decide +kernel))
    (fun i hi => by
      have : i = 0 ∨ i = 1 ∨ i = 2 := by omega
      rcases this with rfl | rfl | rfl <;> exact hs _ (by decide +kernel))
    (fun i hi => by
      have : i = 0 ∨ i = 1 ∨ i = 2 := by omega
      rcases this with rfl | rfl | rfl <;> exact hs _ (by decide +kernel))
    (fun i hi j hj => by
      have : i = 0 ∨ i = 1 ∨ i = 2 := by omega
      have hj' : j < 5 := by rcases this with rfl | rfl | rfl <;> exact hj
      have hj2 : j = 0 ∨ j = 1 ∨ j = 2 ∨ j = 3 ∨ j = 4 := by omega
      rcases this with rfl | rfl | rfl <;> rcases hj2 with rfl | rfl | rfl | rfl | rfl <;> exact hs _ (by decide +kernel))
    (fun i j hi hj hij => by
      have h1 : i = 0 ∨ i = 1 ∨ i = 2 := by omega
      have h2 : j = 0 ∨ j = 1 ∨ j = 2 := by omega
      rcases h1 with rfl | rfl | rfl <;> rcases h2 with rfl | rfl | rfl <;> first
        | exact absurd rfl hij
        | exact Or.inl (hs _ (by decide +kernel))
        | exact Or.inr (hs _ (by decide +kernel)))
    hA
  have hZ := va_Zof (args := args) (s := s) (A := fun q : Nat => s.heap.size ≤ q) (hts (.laysStatic "java/lang/String" "COMPACT_STRINGS" "Z") (List.mem_of_getElem? (i := 361) (by decide +kernel))) (hts (.initialized "java/lang/String") (List.mem_of_getElem? (i := 71) (by decide +kernel))) (va_eqi (hs (.eq (.static "java/lang/String" "COMPACT_STRINGS" "Z") (.int 1)) (by decide +kernel))) hA
  have hF := va_Zqof (args := args) (s := s) (A := fun q : Nat => s.heap.size ≤ q) (hts (.laysStatic "jdk/internal/util/Preconditions" "SIOOBE_FORMATTER" "Ljava/util/function/BiFunction;") (List.mem_of_getElem? (i := 377) (by decide +kernel))) (hts (.initialized "jdk/internal/util/Preconditions") (List.mem_of_getElem? (i := 73) (by decide +kernel))) (hs (.isRef (.static "jdk/internal/util/Preconditions" "SIOOBE_FORMATTER" "Ljava/util/function/BiFunction;")) (by decide +kernel)) hA
  obtain ⟨fm, hfm⟩ : ∃ fm : Option Nat, va_Z "jdk/internal/util/Preconditions" "SIOOBE_FORMATTER" "Ljava/util/function/BiFunction;" (va_rf fm) (fun q => s.heap.size ≤ q) s s.heap := by
    rcases hF with h | ⟨t, h⟩
    · exact ⟨none, h⟩
    · exact ⟨some t, h⟩
  refine ⟨(fun k => (dd k).1, fun k => (dd k).2), fun ty => if ty = .int then cI else if ty = .boolean then cZ else cO, adK, adV, fm, ⟨fun ci q hq => hdd ci q hq, ?_⟩, va_AO.of (A := args) hover, ?_, ⟨?_, ?_, ?_⟩, hK, hZ, hfm, hX, hbl, Nat.le_refl _⟩
  · intro k q hq
    have hk : k = 0 ∨ k = 1 ∨ k = 2 := by
      have := (List.getElem?_eq_some_iff.mp hq).1
      simp [am_tys] at this
      omega
    rcases hk with rfl | rfl | rfl
    · cases hq
      exact ⟨fun n z => ⟨fun k h => (by cases h), kI, i2, mI, i3⟩, i1⟩
    · cases hq
      exact ⟨fun n z => ⟨fun k h => (by cases h), kZ, z2, mZ, z3⟩, z1⟩
    · cases hq
      exact ⟨fun n z => ⟨fun k h => (by cases h), kO, o3, mO, o4⟩, kO, mO, o3, o4, o1, o5⟩
  · intro w hw
    simp only [am_nest, List.mem_cons, List.not_mem_nil, or_false] at hw
    rcases hw with rfl | rfl | rfl
    · exact va_Nw.of rfl (hts _ (List.mem_of_getElem? (i := 87) (by decide +kernel)))
    · exact va_Nw.of rfl (hts _ (List.mem_of_getElem? (i := 120) (by decide +kernel)))
    · exact va_Nw.of rfl (hts _ (List.mem_of_getElem? (i := 269) (by decide +kernel)))
  · exact vk_R.of (A := args) (hts _ (List.mem_of_getElem? (i := 347) (by decide +kernel))) (hev 0 (by decide))
  · exact vk_R.of (A := args) (hts _ (List.mem_of_getElem? (i := 400) (by decide +kernel))) (hev 1 (by decide))
  · exact vk_R.of (A := args) (hts _ (List.mem_of_getElem? (i := 401) (by decide +kernel))) (hev 2 (by decide))
