/-! steps that write, make, load and store -/
section STQ
variable {p : Program} {l : Launch} {e : Env} {R : Room} {s : State} {m : MethodId} {args : Array Value} {below : List Frame} {meth : Method} {c : Code} {H : Heap} {locs : List Loc} {Q : State → Prop} {cells slots : Nat}
variable {B b L : Nat} {xs : Nat → Int32} {D : va_G} {ac : FieldType → ClassId} {adK adV : Nat → Nat} {fm : Option Nat} {E : Nat → Option Nat}
variable {cc : ByteArray} {o hh mL N0 S0 : Nat} {ini : Bool}
variable {LS : Array Slot} {ls : am_L} {G : am_G} {f : am_M} {pc : Nat} {rest : List Value}
theorem am_aload_W {i : Nat} {r : Option Nat} (hx : p.tables.exec = Jvm.exec) (hb : c.code = cc) (hd : decode cc pc = .ok (.aload i, 2)) (hl : LS[i]? = some (.val (va_rf r))) (kk : W p l e R s m args below meth c H locs cells slots Q (F0 m (pc + 2) LS (va_rf r :: rest))) : W p l e R s m args below meth c H locs cells slots Q (F0 m pc LS rest) := by
  cases r with
  | none => exact lv_aloadN hx hb hd hl kk
  | some a => exact lv_aload hx hb hd hl kk
theorem am_aload_n_W {i : Fin 4} {r : Option Nat} (hx : p.tables.exec = Jvm.exec) (hb : c.code = cc) (hd : decode cc pc = .ok (.aload_n i, 1)) (hl : LS[i.val]? = some (.val (va_rf r))) (kk : W p l e R s m args below meth c H locs cells slots Q (F0 m (pc + 1) LS (va_rf r :: rest))) : W p l e R s m args below meth c H locs cells slots Q (F0 m pc LS rest) := by
  cases r with
  | none => exact lv_aload_nN hx hb hd rfl hl kk
  | some a => exact lv_aload_n hx hb hd rfl hl kk
theorem am_astore_W {i : Nat} {r : Option Nat} {lv : List (Nat × Value)} (hx : p.tables.exec = Jvm.exec) (hb : c.code = cc) (hd : decode cc pc = .ok (.astore i, 2)) (h : lv_has LS mL lv) (hn : i < mL) (kk : ∀ LS' : Array Slot, lv_has LS' mL ((i, va_rf r) :: lv.filter (fun q => !(q.1 == i) && !(q.1 + 1 == i && q.2.category == 2))) → W p l e R s m args below meth c H locs cells slots Q (F0 m (pc + 2) LS' rest)) : W p l e R s m args below meth c H locs cells slots Q (F0 m pc LS (va_rf r :: rest)) := by
  cases r with
  | none => exact lv_astoreN hx hb hd h hn rfl kk
  | some a => exact lv_astore hx hb hd h hn rfl kk
theorem am_astore_n_W {i : Fin 4} {r : Option Nat} {lv : List (Nat × Value)} (hx : p.tables.exec = Jvm.exec) (hb : c.code = cc) (hd : decode cc pc = .ok (.astore_n i, 1)) (h : lv_has LS mL lv) (hn : i.val < mL) (kk : ∀ LS' : Array Slot, lv_has LS' mL ((i.val, va_rf r) :: lv.filter (fun q => !(q.1 == i.val) && !(q.1 + 1 == i.val && q.2.category == 2))) → W p l e R s m args below meth c H locs cells slots Q (F0 m (pc + 1) LS' rest)) : W p l e R s m args below meth c H locs cells slots Q (F0 m pc LS (va_rf r :: rest)) := by
  cases r with
  | none => exact lv_astore_nN hx hb hd rfl h hn rfl kk
  | some a => exact lv_astore_n hx hb hd rfl h hn rfl kk
/-- a field is written -/
theorem am_put_W {q ci k idx pl kd : Nat} {rs rs' : List (Option Nat)} {f' : am_M} {v : Value} (hC : am_Cx p R s m args meth c B b L xs D ac adK adV fm E cc o hh mL N0 ini) (hI : am_Pt s B D ac E mL N0 S0 ls G f H locs LS)
    (hn : am_nth G q = some (.inl ci, rs)) (hf : am_own am_FL o idx = some (ci, k, pl)) (hkd : am_nth (am_ks ci) k = some kd) (hgood : kd = 2 → ini = true ∧ o = ci)
    (hv : (kd = 0 ∧ ∃ x, v = .int x) ∨ (kd = 1 ∧ (v = .int 0 ∨ v = .int 1)) ∨ (kd = 2 ∧ ∃ x, v = .ref x))
    (hfs : (am_fs E (f q) rs (am_ks ci) 0).set k (am_cv E v) = am_fs E (f' q) rs' (am_ks ci) 0) (hne : ∀ n, n ≠ q → f' n = f n) (hd : decode cc pc = .ok (.putfield idx, 3))
    (kk : ∀ (H1 : Heap) (locs1 : List Loc), am_Pt s B D ac E mL N0 S0 ls (G.set q (.inl ci, rs')) f' H1 locs1 LS → W p l e R s m args below meth c H1 locs1 cells slots Q (F0 m (pc + 3) LS rest)) : W p l e R s m args below meth c H locs cells slots Q (F0 m pc LS (am_cv E v :: am_cv E (.ref q) :: rest)) := by
  obtain ⟨hx, hb, hml, hown, hts, hini, hSt, hfr, hlo, hsz, hE⟩ := hC
  obtain ⟨hP, hS, hl, hll, hN, hS0, hG⟩ := hI
  obtain ⟨⟨C, T, N⟩, hq, hk, hT, hlink⟩ := am_fl hf
  dsimp only at hk hT hlink
  obtain ⟨c1, c2, c3, c4, c5, -, -, c8, c9⟩ := am_cf hq
  have hEq : E q = some (B + q) := by rw [hE]; exact am_Eg hG hn
  have hat : (am_ws E ac f G 0)[q]? = some (B + q, .inr (ci, am_fs E (f q) rs (am_ks ci) 0)) := by rw [am_ws_get hn, hEq]; rfl
  have hD : va_D (fun q => B ≤ q) (am_ws E ac f G 0) := by rw [hE]; exact am_ws_D hG
  have hlen : k < (am_fs E (f q) rs (am_ks ci) 0).length := by rw [am_fs_len, c4]; exact hk
  have hset : (am_ws E ac f G 0).set q (B + q, .inr (ci, (am_fs E (f q) rs (am_ks ci) 0).set k (am_cv E v))) = am_ws E ac f' (G.set q (.inl ci, rs')) 0 := by
    rw [hfs]
    have := am_ws_set (E := E) (ac := ac) (G := G) (p := q) (.inl ci, rs') hne
    rw [hEq] at this
    exact this
  have hkt : kd = am_kd (am_ty ci k) := Option.some.inj (hkd.symm.trans (c5 k hk).1)
  have hnar : narrow (am_ty ci k) (am_cv E v) = am_cv E v ∧ fits (am_ty ci k) (am_cv E v) = true := by
    rcases hv with ⟨h0, x, rfl⟩ | ⟨h1, h2⟩ | ⟨h2, x, rfl⟩
    · rw [hkt] at h0
      revert h0
      cases am_ty ci k <;> intro h0 <;> first | exact ⟨rfl, rfl⟩ | cases h0
    · rw [hkt] at h1
      revert h1
      cases am_ty ci k <;> intro h1 <;> first | (rcases h2 with rfl | rfl <;> exact ⟨rfl, rfl⟩) | cases h1
    · rw [hkt] at h2
      have h3 := c9 k hk h2
      rcases am_cv_ref E x with h4 | ⟨a, h4⟩ <;> rw [h4] <;> revert h3 <;> cases am_ty ci k <;> intro h3 <;> first | exact ⟨rfl, rfl⟩ | cases h3
  have hpt : ∀ (H1 : Heap) (locs1 : List Loc), va_P D vwCl ((am_ws E ac f G 0).set q (B + q, .inr (ci, (am_fs E (f q) rs (am_ks ci) 0).set k (am_cv E v)))) H1 → va_D (fun q => B ≤ q) ((am_ws E ac f G 0).set q (B + q, .inr (ci, (am_fs E (f q) rs (am_ks ci) 0).set k (am_cv E v)))) → va_S (fun q => B ≤ q) s.heap H1 locs1 → W p l e R s m args below meth c H1 locs1 cells slots Q (F0 m (pc + 3) LS rest) := by
    intro H1 locs1 hP1 _ hS1
    rw [hset] at hP1
    refine kk H1 locs1 ⟨hP1, hS1, hl, hll, by rw [List.length_set]; exact hN, ?_, by rw [List.length_set]; exact hG⟩
    rw [am_sz_set G q (.inl ci, rs) (.inl ci, rs') (by rw [← am_nth_eq]; exact hn) rfl]
    exact hS0
  show W p l e R s m args below meth c H locs cells slots Q (F0 m pc LS (am_cv E v :: va_rf (E q) :: rest))
  rw [hEq]
  have hfin := (c5 k hk).2
  by_cases h2 : kd = 2
  · obtain ⟨hi, ho⟩ := hgood h2
    subst ho
    exact va_putF (D := D) (ci := o) (v := am_cv E v) (ty := am_ty o k) (C := C) (T := T) (N := N) hx hb hts c1 (am_ty o) c2 c3 hown hSt.1 hP hD hS q hat hq k hk (hts _ hlink) (fun x h => by rw [hT] at h; exact h) (by rw [hfin, ← hkt, h2]; rfl) (hini hi) (by rw [hT]; exact c8) (c2 k hk) hnar.1 hnar.2 hlen hd hpt
  · exact va_put (D := D) (ci := ci) (v := am_cv E v) (ty := am_ty ci k) (C := C) (T := T) (N := N) hx hb hts c1 (am_ty ci) c2 c3 hown hSt.1 hP hD hS q hat hq k hk (hts _ hlink) (fun x h => by rw [hT] at h; exact h) (by rw [hfin, ← hkt]; simp [h2]) (c2 k hk) hnar.1 hnar.2 hlen hd hpt
theorem am_inX {i : Int32} {n : Nat} (h1 : ¬ i < 0) (h2 : i.toNatClampNeg < n) : vp_in i n := by
  intro h
  rcases h with h | h
  · exact h1 h
  · omega
theorem am_chk_some {α : Type} {i : Int32} {n : Nat} {x : Option α} {r : α} (h : am_chk i n x = some r) : vp_in i n ∧ i.toNatClampNeg < n ∧ x = some r := by
  unfold am_chk at h
  split at h
  · cases h
  · rename_i h1
    split at h
    · rename_i h2
      exact ⟨am_inX h1 h2, h2, h⟩
    · cases h
/-- an int of an array is written -/
theorem am_ast_W {q n : Nat} {i x : Int32} {rs : List (Option Nat)} {ty : FieldType} {op : Instr} (hC : am_Cx p R s m args meth c B b L xs D ac adK adV fm E cc o hh mL N0 ini) (hI : am_Pt s B D ac E mL N0 S0 ls G f H locs LS)
    (hn : am_nth G q = some (.inr (ty, n), rs)) (hty : (ty = .int ∧ op = .iastore) ∨ (ty = .boolean ∧ op = .bastore ∧ (x = 0 ∨ x = 1))) (hin : vp_in i n) (hd : decode cc pc = .ok (op, 1))
    (kk : ∀ (H1 : Heap) (locs1 : List Loc), am_Pt s B D ac E mL N0 S0 ls G (am_wr f q i.toNatClampNeg x) H1 locs1 LS → W p l e R s m args below meth c H1 locs1 cells slots Q (F0 m (pc + 1) LS rest)) : W p l e R s m args below meth c H locs cells slots Q (F0 m pc LS (.int x :: .int i :: am_cv E (.ref q) :: rest)) := by
  obtain ⟨hx, hb, hml, hown, hts, hini, hSt, hfr, hlo, hsz, hE⟩ := hC
  obtain ⟨hP, hS, hl, hll, hN, hS0, hG⟩ := hI
  have hEq : E q = some (B + q) := by rw [hE]; exact am_Eg hG hn
  have hD : va_D (fun q => B ≤ q) (am_ws E ac f G 0) := by rw [hE]; exact am_ws_D hG
  have hset := am_ws_same (E := E) (ac := ac) hn (am_wr_ne (f := f) (p := q) (k := i.toNatClampNeg) (x := x))
  rw [hEq] at hset
  show W p l e R s m args below meth c H locs cells slots Q (F0 m pc LS (.int x :: .int i :: va_rf (E q) :: rest))
  rw [hEq]
  rcases hty with ⟨rfl, rfl⟩ | ⟨rfl, rfl, h01⟩
  · have hat : (am_ws E ac f G 0)[q]? = some (B + q, .inl (ac .int, n, .inl (f q))) := by rw [am_ws_get hn, hEq]; rfl
    refine va_iast (D := D) hx hb hSt.1 hP hD hS q 0 hat rfl hin hd (fun H1 locs1 hP1 _ hS1 => ?_)
    refine kk H1 locs1 ⟨?_, hS1, hl, hll, hN, hS0, hG⟩
    rw [← hset]
    simp only [am_ct, am_wr_eq, am_nt]
    exact hP1
  · have hat : (am_ws E ac f G 0)[q]? = some (B + q, .inl (ac .boolean, n, .inl (f q))) := by rw [am_ws_get hn, hEq]; rfl
    refine va_zast (D := D) hx hb hSt.1 hP hD hS q 1 hat rfl hin hd (fun H1 locs1 hP1 _ hS1 => ?_)
    refine kk H1 locs1 ⟨?_, hS1, hl, hll, hN, hS0, hG⟩
    rw [← hset]
    simp only [am_ct, am_wr_eq, am_nt]
    have hnar : vp_nar .boolean x = x := by rcases h01 with rfl | rfl <;> decide
    rw [hnar] at hP1
    exact hP1
/-- an array copied into another -/
theorem am_cpy_W {a1 a2 n1 n2 idx pl : Nat} {sp dp n : Int32} {r1 r2 : List (Option Nat)} (hC : am_Cx p R s m args meth c B b L xs D ac adK adV fm E cc o hh mL N0 ini) (hI : am_Pt s B D ac E mL N0 S0 ls G f H locs LS)
    {j9 : Nat} (hf : am_own am_CL o idx = some (5, j9, pl)) (hh1 : 1 ≤ hh) (g1 : am_nth G a1 = some (.inr (.int, n1), r1)) (g2 : am_nth G a2 = some (.inr (.int, n2), r2)) (h1 : ¬ sp < 0) (h2 : ¬ dp < 0) (h3 : ¬ n < 0) (h4 : sp.toNatClampNeg + n.toNatClampNeg ≤ n1) (h5 : dp.toNatClampNeg + n.toNatClampNeg ≤ n2)
    (hrest : rest.length ≤ 8) (hd : decode cc pc = .ok (.invokestatic idx, 3))
    (kk : ∀ (H1 : Heap) (locs1 : List Loc), am_Pt s B D ac E mL N0 S0 ls G (am_cp f a1 a2 sp.toNatClampNeg dp.toNatClampNeg n.toNatClampNeg) H1 locs1 LS → W p l e R s m args below meth c H1 locs1 cells slots Q (F0 m (pc + 3) LS (rest.map (am_cv E)))) : W p l e R s m args below meth c H locs cells slots Q (F0 m pc LS (.int n :: .int dp :: am_cv E (.ref a2) :: .int sp :: am_cv E (.ref a1) :: rest.map (am_cv E))) := by
  obtain ⟨hx, hb, hml, hown, hts, hini, hSt, hfr, hlo, hsz, hE⟩ := hC
  obtain ⟨hP, hS, hl, hll, hN, hS0, hG⟩ := hI
  have e1 : E a1 = some (B + a1) := by rw [hE]; exact am_Eg hG g1
  have e2 : E a2 = some (B + a2) := by rw [hE]; exact am_Eg hG g2
  have hD : va_D (fun q => B ≤ q) (am_ws E ac f G 0) := by rw [hE]; exact am_ws_D hG
  have hset := am_ws_same (E := E) (ac := ac) g2 (am_cp_ne (f := f) (a := a1) (b := a2) (sp := sp.toNatClampNeg) (dp := dp.toNatClampNeg) (m := n.toNatClampNeg))
  rw [e2] at hset
  have t1 : (am_ws E ac f G 0)[a1]? = some (B + a1, .inl (ac .int, n1, .inl (f a1))) := by rw [am_ws_get g1, e1]; rfl
  have t2 : (am_ws E ac f G 0)[a2]? = some (B + a2, .inl (ac .int, n2, .inl (f a2))) := by rw [am_ws_get g2, e2]; rfl
  have hlink : Cond.methodLink (am_rn o) idx arraycopyName ∈ am_tb := am_word_of (am_cl9 hf).1
  have hsum : ((rest.map (am_cv E)).map fun v => v.category).sum = rest.length := by
    clear hrest kk
    induction rest with
    | nil => rfl
    | cons v r ih => simp only [List.map_cons, List.sum_cons, am_cv_cat, ih, List.length_cons]; omega
  show W p l e R s m args below meth c H locs cells slots Q (F0 m pc LS (.int n :: .int dp :: va_rf (E a2) :: .int sp :: va_rf (E a1) :: rest.map (am_cv E)))
  rw [e1, e2]
  refine va_copyi (D := D) (ty := .int) hx hb (by rw [hml]; exact hl.1.symm) hown (hts _ hlink) (hts _ (am_word_of (i := 446) (by decide +kernel))) (hts _ (am_word_of (i := 445) (by decide +kernel))) (hts _ (am_word_of (i := 75) (by decide +kernel))) hSt.1 hP hD hS a1 a2 0 0 t1 t2 rfl rfl rfl h1 h2 h3 h4 h5 (fun _ _ => rfl) (by omega) ?_ hd (fun H1 locs1 hP1 _ hS1 => ?_)
  · rw [hsum]
    have : nativeFrameWords "java/lang/System" "arraycopy" 5 = 7 := by decide +kernel
    omega
  · refine kk H1 locs1 ⟨?_, hS1, hl, hll, hN, hS0, hG⟩
    rw [← hset]
    simp only [am_ct, am_cp_eq, am_nt]
    exact hP1
end STQ
