/-! steps that make cells -/
section STR
variable {p : Program} {l : Launch} {e : Env} {R : Room} {s : State} {m : MethodId} {args : Array Value} {below : List Frame} {meth : Method} {c : Code} {H : Heap} {locs : List Loc} {Q : State → Prop}
variable {B b L : Nat} {xs : Nat → Int32} {D : va_G} {ac : FieldType → ClassId} {adK adV : Nat → Nat} {fm : Option Nat} {E : Nat → Option Nat}
variable {cc : ByteArray} {o hh mL N0 S0 : Nat} {ini : Bool}
variable {LS : Array Slot} {ls : am_L} {G : am_G} {f : am_M} {pc : Nat} {rest : List Value}
/-- a new cell lies behind all others -/
theorem am_newaddr {q : Nat} {x : va_E} {H1 : Heap} (hE : E = am_E B b adK adV fm) (hG : G.length + 1 ≤ 1000) (hP : va_P D vwCl (am_ws E ac f G 0 ++ [(q, x)]) H1) (hD : va_D (fun q => B ≤ q) (am_ws E ac f G 0 ++ [(q, x)])) (hsz : H1.size ≤ B + G.length + 1) : q = B + G.length := by
  have hl : (am_ws E ac f G 0).length = G.length := am_ws_len E ac f G 0
  have hat : (am_ws E ac f G 0 ++ [(q, x)])[G.length]? = some (q, x) := by
    rw [List.getElem?_append_right (by omega), hl]
    simp
  have h1 : q < H1.size := (hP G.length _ hat).lt
  have h2 : B ≤ q := hD.2 G.length _ hat
  by_cases hq : q = B + G.length
  · exact hq
  · exfalso
    have h3 : q - B < G.length := by omega
    have hgi : G[q - B]? = some G[q - B] := List.getElem?_eq_getElem h3
    have hat2 : (am_ws E ac f G 0 ++ [(q, x)])[q - B]? = some (B + (q - B), am_ct E ac f (q - B) G[q - B]) := by
      rw [List.getElem?_append_left (by omega), am_ws_get (by rw [am_nth_eq]; exact hgi), hE, am_Ein (by omega)]
      rfl
    have := hD.1 _ _ _ _ hat hat2 (by show q = B + (q - B); omega)
    omega
/-- what holds behind a new cell -/
theorem am_push_Pt {q : Nat} {x : va_E} {H1 : Heap} {k : am_K} (hC : am_Cx p R s m args meth c B b L xs D ac adK adV fm E cc o hh mL N0 ini) (hI : am_Pt s B D ac E mL N0 S0 ls G f H locs LS) (hG1 : G.length + 1 ≤ 1000) (hx9 : am_ct E ac (am_cl f G.length) G.length k = x) (hP1 : va_P D vwCl (am_ws E ac f G 0 ++ [(q, x)]) H1) (hS1 : va_S (fun q => B ≤ q) s.heap H1 locs) (hq : q = B + G.length) : am_Pt s B D ac E mL N0 S0 ls (G ++ [k]) (am_cl f G.length) H1 locs LS := by
  obtain ⟨hx, hb, hml, hown, hts, hini, hSt, hfr, hlo, hsz, hE⟩ := hC
  obtain ⟨hP, hS, hl, hll, hN, hS0, hG⟩ := hI
  refine ⟨?_, hS1, hl, hll, by rw [List.length_append]; omega, by rw [am_sz_app]; omega, by rw [List.length_append]; exact hG1⟩
  rw [am_ws_push k (am_cl_ne (f := f) (p := G.length)), hx9]
  have : (E G.length).getD 0 = q := by rw [hE, am_Ein (by omega), hq]; rfl
  rw [this]
  exact hP1
theorem am_new_W {idx : Nat} {k : am_K} (hC : am_Cx p R s m args meth c B b L xs D ac adK adV fm E cc o hh mL N0 ini) (hI : am_Pt s B D ac E mL N0 S0 ls G f H locs LS) (ho : am_obj o idx = some k) (hG1 : (G ++ [k]).length ≤ 1000) (hc1 : (G ++ [k]).length - N0 ≤ R.cells) (hs1 : am_sz (G ++ [k]) - S0 ≤ R.slots) (hd : decode cc pc = .ok (.new idx, 3))
    (kk : ∀ (H1 : Heap), am_Pt s B D ac E mL N0 S0 ls (G ++ [k]) (am_cl f G.length) H1 locs LS → W p l e R s m args below meth c H1 locs ((G ++ [k]).length - N0) (am_sz (G ++ [k]) - S0) Q (F0 m (pc + 3) LS (am_cv E (.ref G.length) :: rest))) : W p l e R s m args below meth c H locs (G.length - N0) (am_sz G - S0) Q (F0 m pc LS rest) := by
  have hC' := hC
  have hI' := hI
  obtain ⟨hx, hb, hml, hown, hts, hini, hSt, hfr, hlo, hsz, hE⟩ := hC
  obtain ⟨hP, hS, hl, hll, hN, hS0, hG⟩ := hI
  unfold am_obj at ho
  cases hn : am_own am_NL o idx with
  | none => simp [hn] at ho
  | some y =>
    obtain ⟨ci, pl⟩ := y
    simp only [hn, Option.some.injEq] at ho
    subst ho
    obtain ⟨⟨C, T, N⟩, hq, hlink⟩ := am_nl hn
    obtain ⟨c1, c2, c3, c4, c5, c6, c7, c8, c9⟩ := am_cf hq
    dsimp only at c4 c5 c6 c7 hlink
    have hD : va_D (fun q => B ≤ q) (am_ws E ac f G 0) := by rw [hE]; exact am_ws_D hG
    have e1 : (G ++ [((.inl ci, List.replicate (am_ks ci).length none) : am_K)]).length - N0 = G.length - N0 + 1 := by rw [List.length_append]; simp only [List.length_cons, List.length_nil]; omega
    have e2 : am_sz (G ++ [((.inl ci, List.replicate (am_ks ci).length none) : am_K)]) - S0 = am_sz G - S0 + N := by rw [am_sz_app]; simp only [am_s1, c4]; omega
    rw [List.length_append] at hG1
    simp only [List.length_cons, List.length_nil, Nat.zero_add] at hG1
    rw [e1] at hc1
    rw [e2] at hs1
    refine va_new (D := D) (ci := ci) (fs := am_fs E (fun _ => 0) (List.replicate (am_ks ci).length none) (am_ks ci) 0) (C := C) (T := T) (N := N) hx hb hts c1 (am_ty ci) c2 hown (hts _ hlink) (hts _ c6) (hts _ c7) hSt.1 hP hD hS (fun q h => by show B ≤ q; omega) hq ?_ hc1 hs1 hd (fun q H1 hP1 hD1 hS1 => ?_)
    · intro j hj
      have h1 := (c5 j hj).1
      have h2 := am_fs_at E (fun _ => 0) (List.replicate (am_ks ci).length none) (am_ks ci) 0 j
      rw [am_nth_eq] at h1
      rw [h1] at h2
      have h3 : vp_V (am_fs E (fun _ => 0) (List.replicate (am_ks ci).length none) (am_ks ci) 0) j = (if am_kd (am_ty ci j) = 2 then va_rf (am_re E (am_nth (List.replicate (am_ks ci).length none) (0 + j))) else .int 0) := by
        unfold vp_V
        rw [List.getD_eq_getElem?_getD, h2]
        rfl
      rw [h3]
      have h4 := c9 j hj
      have h5 : va_rf (am_re E (am_nth (List.replicate (am_ks ci).length none) (0 + j))) = .null := by
        rw [am_nth_eq]
        cases hr : (List.replicate (am_ks ci).length (none : Option Nat))[0 + j]? with
        | none => rfl
        | some z =>
          have := List.eq_of_mem_replicate (List.mem_of_getElem? hr)
          subst this
          rfl
      rw [h5]
      revert h4
      cases am_ty ci j <;> intro h4 <;> first | rfl | exact absurd (h4 rfl) (by decide)
    · rw [← e1, ← e2]
      refine am_Wsz (fun hs9 => ?_)
      have hq9 : q = B + G.length := am_newaddr hE (by omega) hP1 hD1 (by omega)
      have hcv : am_cv E (.ref G.length) = .ref q := by
        show va_rf (E G.length) = _
        rw [hE, am_Ein (by omega), hq9]
        rfl
      rw [← hcv]
      exact kk H1 (am_push_Pt hC' hI' (by omega) (by simp only [am_ct, am_cl_eq]) hP1 hS1 hq9)
theorem am_newa_W {n : Int32} {ty : FieldType} {at9 : ArrayType} (hC : am_Cx p R s m args meth c B b L xs D ac adK adV fm E cc o hh mL N0 ini) (hI : am_Pt s B D ac E mL N0 S0 ls G f H locs LS) (ht : (ty = .int ∧ at9 = .int) ∨ (ty = .boolean ∧ at9 = .boolean)) (h0 : ¬ n < 0) (hbig : ¬ 10000 < n.toNatClampNeg)
    (hG1 : (G ++ [((.inr (ty, n.toNatClampNeg), []) : am_K)]).length ≤ 1000) (hc1 : (G ++ [((.inr (ty, n.toNatClampNeg), []) : am_K)]).length - N0 ≤ R.cells) (hs1 : am_sz (G ++ [((.inr (ty, n.toNatClampNeg), []) : am_K)]) - S0 ≤ R.slots) (hd : decode cc pc = .ok (.newarray at9, 2))
    (kk : ∀ (H1 : Heap), am_Pt s B D ac E mL N0 S0 ls (G ++ [((.inr (ty, n.toNatClampNeg), []) : am_K)]) (am_cl f G.length) H1 locs LS → W p l e R s m args below meth c H1 locs ((G ++ [((.inr (ty, n.toNatClampNeg), []) : am_K)]).length - N0) (am_sz (G ++ [((.inr (ty, n.toNatClampNeg), []) : am_K)]) - S0) Q (F0 m (pc + 2) LS (am_cv E (.ref G.length) :: rest))) : W p l e R s m args below meth c H locs (G.length - N0) (am_sz G - S0) Q (F0 m pc LS (.int n :: rest)) := by
  have hC' := hC
  have hI' := hI
  obtain ⟨hx, hb, hml, hown, hts, hini, hSt, hfr, hlo, hsz, hE⟩ := hC
  obtain ⟨hP, hS, hl, hll, hN, hS0, hG⟩ := hI
  have hD : va_D (fun q => B ≤ q) (am_ws E ac f G 0) := by rw [hE]; exact am_ws_D hG
  have e1 : (G ++ [((.inr (ty, n.toNatClampNeg), []) : am_K)]).length - N0 = G.length - N0 + 1 := by rw [List.length_append]; simp only [List.length_cons, List.length_nil]; omega
  have e2 : am_sz (G ++ [((.inr (ty, n.toNatClampNeg), []) : am_K)]) - S0 = am_sz G - S0 + n.toNatClampNeg := by rw [am_sz_app]; simp only [am_s1]; omega
  rw [List.length_append] at hG1
  simp only [List.length_cons, List.length_nil, Nat.zero_add] at hG1
  rw [e1] at hc1
  rw [e2] at hs1
  have fin : ∀ (q : Nat) (cA : ClassId) (H1 : Heap), cA = ac ty → va_P D vwCl (am_ws E ac f G 0 ++ [(q, .inl (cA, n.toNatClampNeg, .inl (fun _ => 0)))]) H1 → va_D (fun q => B ≤ q) (am_ws E ac f G 0 ++ [(q, .inl (cA, n.toNatClampNeg, .inl (fun _ => 0)))]) → va_S (fun q => B ≤ q) s.heap H1 locs →
      W p l e R s m args below meth c H1 locs (G.length - N0 + 1) (am_sz G - S0 + n.toNatClampNeg) Q (F0 m (pc + 2) LS (.ref q :: rest)) := by
    intro q cA H1 hcA hP1 hD1 hS1
    subst hcA
    rw [← e1, ← e2]
    refine am_Wsz (fun hs9 => ?_)
    have hq9 : q = B + G.length := am_newaddr hE (by omega) hP1 hD1 (by omega)
    have hcv : am_cv E (.ref G.length) = .ref q := by
      show va_rf (E G.length) = _
      rw [hE, am_Ein (by omega), hq9]
      rfl
    rw [← hcv]
    refine kk H1 (am_push_Pt hC' hI' (by omega) ?_ hP1 hS1 hq9)
    rcases ht with ⟨rfl, -⟩ | ⟨rfl, -⟩ <;> simp only [am_ct, am_cl_eq, am_nt]
  rcases ht with ⟨rfl, rfl⟩ | ⟨rfl, rfl⟩
  · refine va_newa (D := D) (atype := .int) (a0 := (n.toNatClampNeg, .inl (fun _ => 0))) hx hb (hts _ (am_word_of (w := Cond.arrayClass .int) (i := 117) (by decide +kernel))) rfl hSt.1 hP hD hS (fun q h => by show B ≤ q; omega) (fun _ => rfl) h0 rfl (by show n.toNatClampNeg * 4 ≤ 536870912; omega) hc1 hs1 hd (fun q cA H1 hK1 hP1 hD1 hS1 => ?_)
    have g1 := (hK1.2 3 (cA, .int) rfl).2
    have g2 := (hSt.1.2 0 (ac .int, .int) rfl).2
    exact fin q cA H1 (Option.some.inj (g1.symm.trans g2)) hP1 hD1 hS1
  · refine va_newa (D := D) (atype := .boolean) (a0 := (n.toNatClampNeg, .inl (fun _ => 0))) hx hb (hts _ (am_word_of (w := Cond.arrayClass .boolean) (i := 831) (by decide +kernel))) rfl hSt.1 hP hD hS (fun q h => by show B ≤ q; omega) (fun _ => rfl) h0 rfl (by show n.toNatClampNeg * 1 ≤ 536870912; omega) hc1 hs1 hd (fun q cA H1 hK1 hP1 hD1 hS1 => ?_)
    have g1 := (hK1.2 3 (cA, .boolean) rfl).2
    have g2 := (hSt.1.2 1 (ac .boolean, .boolean) rfl).2
    exact fin q cA H1 (Option.some.inj (g1.symm.trans g2)) hP1 hD1 hS1
theorem am_newq_W {n : Int32} {idx pl : Nat} (hC : am_Cx p R s m args meth c B b L xs D ac adK adV fm E cc o hh mL N0 ini) (hI : am_Pt s B D ac E mL N0 S0 ls G f H locs LS) (hnl : am_own am_NL o idx = some (4, pl)) (h0 : ¬ n < 0) (hbig : ¬ 10000 < n.toNatClampNeg)
    (hG1 : (G ++ [((.inr (.object "NumberedRings$Standing", n.toNatClampNeg), List.replicate n.toNatClampNeg none) : am_K)]).length ≤ 1000) (hc1 : (G ++ [((.inr (.object "NumberedRings$Standing", n.toNatClampNeg), List.replicate n.toNatClampNeg none) : am_K)]).length - N0 ≤ R.cells) (hs1 : am_sz (G ++ [((.inr (.object "NumberedRings$Standing", n.toNatClampNeg), List.replicate n.toNatClampNeg none) : am_K)]) - S0 ≤ R.slots) (hd : decode cc pc = .ok (.anewarray idx, 3))
    (kk : ∀ (H1 : Heap), am_Pt s B D ac E mL N0 S0 ls (G ++ [((.inr (.object "NumberedRings$Standing", n.toNatClampNeg), List.replicate n.toNatClampNeg none) : am_K)]) (am_cl f G.length) H1 locs LS → W p l e R s m args below meth c H1 locs ((G ++ [((.inr (.object "NumberedRings$Standing", n.toNatClampNeg), List.replicate n.toNatClampNeg none) : am_K)]).length - N0) (am_sz (G ++ [((.inr (.object "NumberedRings$Standing", n.toNatClampNeg), List.replicate n.toNatClampNeg none) : am_K)]) - S0) Q (F0 m (pc + 3) LS (am_cv E (.ref G.length) :: rest))) : W p l e R s m args below meth c H locs (G.length - N0) (am_sz G - S0) Q (F0 m pc LS (.int n :: rest)) := by
  have hC' := hC
  have hI' := hI
  obtain ⟨hx, hb, hml, hown, hts, hini, hSt, hfr, hlo, hsz, hE⟩ := hC
  obtain ⟨hP, hS, hl, hll, hN, hS0, hG⟩ := hI
  have hD : va_D (fun q => B ≤ q) (am_ws E ac f G 0) := by rw [hE]; exact am_ws_D hG
  obtain ⟨q4, hq4, hlink⟩ := am_nl hnl
  cases hq4
  generalize hk9 : ((.inr (.object "NumberedRings$Standing", n.toNatClampNeg), List.replicate n.toNatClampNeg none) : am_K) = k9 at hG1 hc1 hs1 kk
  have e1 : (G ++ [k9]).length - N0 = G.length - N0 + 1 := by rw [List.length_append]; simp only [List.length_cons, List.length_nil]; omega
  have e2 : am_sz (G ++ [k9]) - S0 = am_sz G - S0 + n.toNatClampNeg := by rw [am_sz_app, ← hk9]; simp only [am_s1]; omega
  rw [List.length_append] at hG1
  simp only [List.length_cons, List.length_nil, Nat.zero_add] at hG1
  rw [e1] at hc1
  rw [e2] at hs1
  refine va_newq (D := D) (C := "NumberedRings$Standing") hx hb hown (hts _ hlink) hSt.2.1 hSt.1 hP hD hS (fun q h => by show B ≤ q; omega) h0 rfl (by omega) hc1 hs1 hd (fun q cA H1 hK1 hP1 hD1 hS1 => ?_)
  obtain ⟨-, -, -, -, -, g1⟩ := (hK1.2 3 (cA, am_cO) rfl).2
  obtain ⟨-, -, -, -, -, g2⟩ := (hSt.1.2 2 (ac am_cO, am_cO) rfl).2
  have hcA : cA = ac am_cO := Option.some.inj (g1.symm.trans g2)
  subst hcA
  rw [← e1, ← e2]
  refine am_Wsz (fun hs9 => ?_)
  have hq9 : q = B + G.length := am_newaddr hE (by omega) hP1 hD1 (by omega)
  have hcv : am_cv E (.ref G.length) = .ref q := by
    show va_rf (E G.length) = _
    rw [hE, am_Ein (by omega), hq9]
    rfl
  rw [← hcv]
  refine kk H1 (am_push_Pt hC' hI' (by omega) ?_ hP1 hS1 hq9)
  rw [← hk9]
  have hfun : (fun i => am_re E (am_nth (List.replicate n.toNatClampNeg none) i)) = fun _ => none := by
    funext i
    rw [am_nth_eq]
    cases hr : (List.replicate n.toNatClampNeg (none : Option Nat))[i]? with
    | none => rfl
    | some z =>
      have := List.eq_of_mem_replicate (List.mem_of_getElem? hr)
      subst this
      rfl
  simp only [am_ct, hfun]
/-- a reference is stored into an array -/
theorem am_aast_W {q v n : Nat} {i : Int32} {rs rv : List (Option Nat)} {C : String} {r0 : Option Nat} {cells slots : Nat} (hC : am_Cx p R s m args meth c B b L xs D ac adK adV fm E cc o hh mL N0 ini) (hI : am_Pt s B D ac E mL N0 S0 ls G f H locs LS)
    (hn : am_nth G q = some (.inr (.object C, n), rs)) (hv : am_nth G v = some (.inl 4, rv)) (hin : vp_in i n) (hr : am_nth rs i.toNatClampNeg = some r0) (hd : decode cc pc = .ok (.aastore, 1))
    (kk : ∀ (H1 : Heap) (locs1 : List Loc), am_Pt s B D ac E mL N0 S0 ls (G.set q (.inr (.object "NumberedRings$Standing", n), rs.set i.toNatClampNeg (some v))) f H1 locs1 LS → W p l e R s m args below meth c H1 locs1 cells slots Q (F0 m (pc + 1) LS rest)) : W p l e R s m args below meth c H locs cells slots Q (F0 m pc LS (am_cv E (.ref v) :: .int i :: am_cv E (.ref q) :: rest)) := by
  obtain ⟨hx, hb, hml, hown, hts, hini, hSt, hfr, hlo, hsz, hE⟩ := hC
  obtain ⟨hP, hS, hl, hll, hN, hS0, hG⟩ := hI
  have hEq : E q = some (B + q) := by rw [hE]; exact am_Eg hG hn
  have hEv : E v = some (B + v) := by rw [hE]; exact am_Eg hG hv
  have hD : va_D (fun q => B ≤ q) (am_ws E ac f G 0) := by rw [hE]; exact am_ws_D hG
  have hat : (am_ws E ac f G 0)[q]? = some (B + q, .inl (ac am_cO, n, .inr (.inr (.inr (.inr (fun i => am_re E (am_nth rs i))))))) := by rw [am_ws_get hn, hEq]; rfl
  have hav : (am_ws E ac f G 0)[v]? = some (B + v, .inr (4, am_fs E (f v) rv (am_ks 4) 0)) := by rw [am_ws_get hv, hEv]; rfl
  have hset := am_ws_set (E := E) (ac := ac) (f := f) (f' := f) (G := G) (p := q) (.inr (.object "NumberedRings$Standing", n), rs.set i.toNatClampNeg (some v)) (fun _ _ => rfl)
  rw [hEq] at hset
  show W p l e R s m args below meth c H locs cells slots Q (F0 m pc LS (va_rf (E v) :: .int i :: va_rf (E q) :: rest))
  rw [hEq, hEv]
  refine va_astq (D := D) (r := (RX4, TX4, 10)) hx hb hSt.1 hP hD hS q 2 v 4 hat rfl hav rfl hin hd (fun H1 locs1 hP1 _ hS1 => ?_)
  refine kk H1 locs1 ⟨?_, hS1, hl, hll, by rw [List.length_set]; exact hN, ?_, by rw [List.length_set]; exact hG⟩
  · rw [← hset]
    have hfun : (fun j => am_re E (am_nth (rs.set i.toNatClampNeg (some v)) j)) = va_up (fun j => am_re E (am_nth rs j)) i.toNatClampNeg (some (B + v)) := by
      funext j
      rw [am_nth_eq] at hr
      have hi : i.toNatClampNeg < rs.length := (List.getElem?_eq_some_iff.mp hr).1
      simp only [am_nth_eq, List.getElem?_set, va_up]
      by_cases hj : j = i.toNatClampNeg
      · subst hj
        simp [hi, am_re, hEv]
      · simp [hj, Ne.symm hj]
    simp only [am_ct, hfun]
    exact hP1
  · have := am_sz_set G q (.inr (.object C, n), rs) (.inr (.object "NumberedRings$Standing", n), rs.set i.toNatClampNeg (some v)) (by rw [← am_nth_eq]; exact hn) rfl
    omega
end STR
