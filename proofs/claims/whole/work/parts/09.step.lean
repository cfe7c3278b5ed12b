/-! each step of the abstract machine is a step of the machine -/
def am_tys (ac : FieldType → ClassId) : List (ClassId × FieldType) := [(ac .int, .int), (ac .boolean, .boolean), (ac am_cO, am_cO)]
def am_nest : List Jvm.Cond := [.methodLinkNest RX7 9 yX5_init "NumberedRings", .methodLinkNest RX7 18 yX6_init "NumberedRings", .methodLinkNest RX7 63 yX3_init "NumberedRings"]
/-- what a method may know of the state in which it is called -/
def am_St (B b L : Nat) (xs : Nat → Int32) (D : va_G) (ac : FieldType → ClassId) (adK adV : Nat → Nat) (fm : Option Nat) (U : State) : Prop :=
  va_K D vwCl (am_tys ac) U ∧ va_AO "NumberedRings$Standing" U ∧ (∀ w ∈ am_nest, va_Nw w U) ∧ (vk_R RX5 92 "slots" (adK 0) U ∧ vk_R RX5 97 "maker" (adK 1) U ∧ vk_R RX5 99 "taker" (adK 2) U) ∧
  vk_S 3 [5, 5, 5] am_str adK adV (fun q => B ≤ q) U U.heap ∧ va_Z "java/lang/String" "COMPACT_STRINGS" "Z" (.int 1) (fun q => B ≤ q) U U.heap ∧
  va_Z "jdk/internal/util/Preconditions" "SIOOBE_FORMATTER" "Ljava/util/function/BiFunction;" (va_rf fm) (fun q => B ≤ q) U U.heap ∧ va_X b L xs U U.heap ∧ b < B ∧ B ≤ U.heap.size
theorem am_w_value : Cond.fieldLink (am_rn 10) 9 "java/lang/String" "value" "[B" ∈ am_tb := am_word_of (i := 1113) (by decide +kernel)
section STP
variable {p : Program} {l : Launch} {e : Env} {R : Room} {s : State} {m : MethodId} {args : Array Value} {below : List Frame} {meth : Method} {c : Code} {H : Heap} {locs : List Loc} {Q : State → Prop} {cells slots : Nat}
variable {B b L : Nat} {xs : Nat → Int32} {D : va_G} {ac : FieldType → ClassId} {adK adV : Nat → Nat} {fm : Option Nat} {E : Nat → Option Nat}
variable {cc : ByteArray} {o hh mL N0 S0 : Nat} {ini : Bool}
/-- no more cells than were counted -/
theorem am_Wsz {g : JFrame} (h : H.size ≤ s.heap.size + cells → W p l e R s m args below meth c H locs cells slots Q g) : W p l e R s m args below meth c H locs cells slots Q g := by
  intro T hT X
  have h1 : T.heap.size ≤ s.heap.size + cells := X.same.2.2.1
  rw [hT] at h1
  exact h h1 T hT X
theorem am_Ein {q : Nat} (h : q < 1000) : am_E B b adK adV fm q = some (B + q) := by simp [am_E, h]
theorem am_Eg {G : am_G} {q : Nat} {x : am_K} (hG : G.length ≤ 1000) (h : am_nth G q = some x) : am_E B b adK adV fm q = some (B + q) := by
  rw [am_nth_eq] at h
  have := (List.getElem?_eq_some_iff.mp h).1
  exact am_Ein (by omega)
theorem am_St.moved {U : State} (h : am_St B b L xs D ac adK adV fm s) (hW : s.WarmedH U.vm) (hS : va_S (fun q => B ≤ q) s.heap U.heap locs) : am_St B b L xs D ac adK adV fm U := by
  obtain ⟨h1, h2, h3, ⟨h4, h5, h6⟩, h7, h8, h9, h10, h11, h12⟩ := h
  have hq : ∀ a : Nat, a < s.heap.size → ¬ B ≤ a → U.heap[a]? = s.heap[a]? := hS.2.1
  have hbl : b < s.heap.size := by
    obtain ⟨scr, g1, -⟩ := h10
    exact (Array.getElem?_eq_some_iff.mp g1).1
  refine ⟨h1.moved hW.alike, h2.moved hW.alike, fun w hw => ?_, ⟨h4.warm hW, h5.warm hW, h6.warm hW⟩, (h7.moved hW.alike).kept hq, (h8.moved hW.alike).kept hq, (h9.moved hW.alike).kept hq, (h10.moved hW.alike).kept (hq b hbl (by omega)), h11, Nat.le_trans h12 hS.1⟩
  have h3w := h3 w hw
  simp only [am_nest, List.mem_cons, List.not_mem_nil, or_false] at hw
  rcases hw with rfl | rfl | rfl <;> exact va_Nw.warmM hW h3w
theorem am_St.same {U : State} (h : am_St B b L xs D ac adK adV fm s) (hv : s.vm = U.vm) (hh : U.heap = s.heap) : am_St B b L xs D ac adK adV fm U := by
  obtain ⟨h1, h2, h3, ⟨h4, h5, h6⟩, h7, h8, h9, h10, h11, h12⟩ := h
  have ha : s.vm.Alike U.vm := by rw [hv]; exact Vm.Alike.refl _
  rw [← hh] at h7 h8 h9 h10
  refine ⟨h1.moved ha, h2.moved ha, fun w hw => ?_, ⟨h4.same hv.symm, h5.same hv.symm, h6.same hv.symm⟩, h7.moved ha, h8.moved ha, h9.moved ha, h10.moved ha, h11, by rw [hh]; exact h12⟩
  have h3w := h3 w hw
  simp only [am_nest, List.mem_cons, List.not_mem_nil, or_false] at hw
  rcases hw with rfl | rfl | rfl <;> exact va_Nw.same rfl hv h3w
/-- what a step is walked with -/
def am_Cx (p : Program) (R : Room) (s : State) (m : MethodId) (args : Array Value) (meth : Method) (c : Code) (B b L : Nat) (xs : Nat → Int32) (D : va_G) (ac : FieldType → ClassId) (adK adV : Nat → Nat) (fm : Option Nat) (E : Nat → Option Nat) (cc : ByteArray) (o hh mL N0 : Nat) (ini : Bool) : Prop :=
  p.tables.exec = Jvm.exec ∧ c.code = cc ∧ c.maxLocals = mL ∧ s.vm.findClass (am_rn o) = some m.cls ∧ (∀ w ∈ am_tb, w.before args s = true) ∧ (ini = true → meth.name = "<init>") ∧ am_St B b L xs D ac adK adV fm s ∧ hh ≤ R.frames ∧ 36 * hh ≤ R.locals ∧ s.heap.size = B + N0 ∧ E = am_E B b adK adV fm
/-- what holds at a step -/
def am_Pt (s : State) (B : Nat) (D : va_G) (ac : FieldType → ClassId) (E : Nat → Option Nat) (mL N0 S0 : Nat) (ls : am_L) (G : am_G) (f : am_M) (H : Heap) (locs : List Loc) (LS : Array Slot) : Prop :=
  va_P D vwCl (am_ws E ac f G 0) H ∧ va_S (fun q => B ≤ q) s.heap H locs ∧ lv_has LS mL (am_asc E 0 ls) ∧ ls.length = mL ∧ N0 ≤ G.length ∧ S0 ≤ am_sz G ∧ G.length ≤ 1000
theorem am_get_W {LS : Array Slot} {ls : am_L} {G : am_G} {f : am_M} {pc idx q : Nat} {v : Value} {rest : List Value} (hC : am_Cx p R s m args meth c B b L xs D ac adK adV fm E cc o hh mL N0 ini) (hI : am_Pt s B D ac E mL N0 S0 ls G f H locs LS)
    (hv : am_get o idx q G f = some v) (hd : decode cc pc = .ok (.getfield idx, 3)) (kk : W p l e R s m args below meth c H locs cells slots Q (F0 m (pc + 3) LS (am_cv E v :: rest))) : W p l e R s m args below meth c H locs cells slots Q (F0 m pc LS (am_cv E (.ref q) :: rest)) := by
  obtain ⟨hx, hb, hml, hown, hts, hini, hSt, hfr, hlo, hsz, hE⟩ := hC
  obtain ⟨hP, hS, hl, hll, hN, hS0, hG⟩ := hI
  unfold am_get at hv
  cases hn : am_nth G q with
  | none =>
    simp only [hn] at hv
    cases hc : (Nat.beq o 10 && (Nat.ble 1010 q && Nat.ble q 1012)) with
    | false => rw [hc] at hv; cases hv
    | true =>
      rw [hc] at hv
      simp only [Bool.and_eq_true] at hc
      have ho : o = 10 := Nat.eq_of_beq_eq_true hc.1
      have h1 := Nat.le_of_ble_eq_true hc.2.1
      have h2 := Nat.le_of_ble_eq_true hc.2.2
      subst ho
      obtain ⟨-, -, -, -, hK, -⟩ := hSt
      have hi : q - 1010 < 3 := by omega
      obtain ⟨k1, k2, k3, k4⟩ := hK.1 (q - 1010) hi
      have e1 : E q = some (adK (q - 1010)) := by rw [hE]; simp [am_E, show ¬ q < 1000 by omega, show q ≠ 1000 by omega, show q ≠ 1001 by omega, show q < 1020 by omega]
      have e2 : E (q + 10) = some (adV (q - 1010)) := by rw [hE]; simp [am_E, show ¬ q + 10 < 1000 by omega, show q + 10 ≠ 1000 by omega, show q + 10 ≠ 1001 by omega, show ¬ q + 10 < 1020 by omega, show q + 10 - 1020 = q - 1010 by omega]
      show W p l e R s m args below meth c H locs cells slots Q (F0 m pc LS (va_rf (E q) :: rest))
      rw [e1]
      cases h9 : Nat.beq idx 9 with
      | true =>
        simp only [h9, cond_true] at hv
        have : idx = 9 := Nat.eq_of_beq_eq_true h9
        subst this
        cases hv
        refine vk_getf hx hb k3 hS hown (hts _ am_w_value) (fun _ h => h) hd ?_
        have kk' : W p l e R s m args below meth c H locs cells slots Q (F0 m (pc + 3) LS (va_rf (E (q + 10)) :: rest)) := kk
        rw [e2] at kk'
        exact kk'
      | false =>
        simp only [h9, cond_true, cond_false] at hv
        cases h15 : Nat.beq idx 15 with
        | false => simp [h15] at hv
        | true =>
          simp only [h15, cond_true] at hv
          have : idx = 15 := Nat.eq_of_beq_eq_true h15
          subst this
          cases hv
          exact vk_getf hx hb k2 hS hown (hts _ (am_word_of (w := Cond.fieldLink (am_rn 10) 15 "java/lang/String" "coder" "B") (i := 1114) (by decide +kernel))) (fun _ h => h) hd kk
  | some x =>
    obtain ⟨kd, rs⟩ := x
    cases kd with
    | inr y => simp [hn] at hv
    | inl ci =>
      simp only [hn] at hv
      cases hf : am_own am_FL o idx with
      | none => simp [hf] at hv
      | some y =>
        obtain ⟨ci', k, pl⟩ := y
        simp only [hf] at hv
        cases hbq : Nat.beq ci ci' with
        | false => simp [hbq] at hv
        | true =>
          simp only [hbq, cond_true] at hv
          have hcc : ci = ci' := Nat.eq_of_beq_eq_true hbq
          subst hcc
          obtain ⟨⟨C, T, N⟩, hq, hk, hT, hlink⟩ := am_fl hf
          dsimp only at hk hT hlink
          have hcf := am_cf hq
          have hEq : E q = some (B + q) := by rw [hE]; exact am_Eg hG hn
          have hat : (am_ws E ac f G 0)[q]? = some (B + q, .inr (ci, am_fs E (f q) rs (am_ks ci) 0)) := by rw [am_ws_get hn, hEq]; rfl
          show W p l e R s m args below meth c H locs cells slots Q (F0 m pc LS (va_rf (E q) :: rest))
          rw [hEq]
          have hv' : (am_fs E (f q) rs (am_ks ci) 0)[k]? = some (am_cv E v) := by
            rw [am_fs_at, ← am_nth_eq]
            split at hv
            · rename_i h2
              rw [h2]
              cases hv
              simp [am_cv_rv]
            · rename_i z h2 h3
              rw [h3]
              cases hv
              simp only [Option.map_some, Nat.zero_add]
              rw [if_neg h2]
              rfl
            · cases hv
          exact va_get (D := D) (ci := ci) (v := am_cv E v) (C := C) (T := T) (N := N) hx hb hts hcf.1 hown hSt.1 hP q hat hq k hk (hts _ hlink) (fun x h => by rw [hT] at h; exact h) hv' hd kk
end STP
