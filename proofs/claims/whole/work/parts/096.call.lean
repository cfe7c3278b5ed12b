/-! calls -/
theorem am_CL_nest : (am_CL.zipIdx).all (fun q => q.1.all (fun r => !(Nat.beq r.2.1 3) || decide (Cond.methodLinkNest (am_rn q.2) r.1 (am_y r.2.2.1) "NumberedRings" ∈ am_nest))) = true := by decide +kernel
theorem am_nest_of {o idx j pl : Nat} (h : am_own am_CL o idx = some (3, j, pl)) : Cond.methodLinkNest (am_rn o) idx (am_y j) "NumberedRings" ∈ am_nest := by
  obtain ⟨l, h1, h2⟩ := am_own_mem h
  have h3 := List.all_eq_true.mp am_CL_nest (l, o) (List.mem_zipIdx_iff_getElem?.mpr h1)
  have h4 := List.all_eq_true.mp h3 _ h2
  simpa using h4
section CLL
variable {l : Launch} {B b L : Nat} {xs : Nat → Int32} {D : va_G} {ac : FieldType → ClassId} {adK adV : Nat → Nat} {fm : Option Nat} {E : Nat → Option Nat}
variable {p : Program} {e : Env} {R : Room} {s : State} {m : MethodId} {args : Array Value} {below : List Frame} {meth : Method} {c : Code} {H : Heap} {locs : List Loc} {Q : State → Prop}
variable {cc : ByteArray} {o hh mL N0 S0 : Nat} {ini : Bool}
variable {LS : Array Slot} {ls : am_L} {G : am_G} {f : am_M} {pc : Nat}
theorem am_E1010 {q : Nat} (h1 : 1010 ≤ q) (h2 : q ≤ 1012) : ∃ j, j < 3 ∧ am_E B b adK adV fm q = some (adK j) := by
  refine ⟨q - 1010, by omega, ?_⟩
  simp [am_E, show ¬ q < 1000 by omega, show q ≠ 1000 by omega, show q ≠ 1001 by omega, show q < 1020 by omega]
/-- the receiver -/
theorem am_recv_W {v : Option Value} {o' : Nat} (hC : am_Cx p R s m args meth c B b L xs D ac adK adV fm E cc o hh mL N0 ini) (hI : am_Pt s B D ac E mL N0 S0 ls G f H locs LS) (h : am_rcv G v o' = true) : ∃ (q a : Nat), v = some (.ref q) ∧ E q = some a ∧ ∃ cell : Cell, H[a]? = some cell ∧ cell.vm.isStatics = false ∧ s.vm.findClass (am_rn o') = some cell.cls := by
  obtain ⟨hx, hb, hml, hown, hts, hini, hSt, hfr, hlo, hsz, hE⟩ := hC
  obtain ⟨hP, hS, hl, hll, hN, hS0, hG⟩ := hI
  unfold am_rcv at h
  split at h
  · rename_i q
    split at h
    · rename_i ci rs hn
      have hc : ci = o' := Nat.eq_of_beq_eq_true h
      subst hc
      have hEq : E q = some (B + q) := by rw [hE]; exact am_Eg hG hn
      have hat : (am_ws E ac f G 0)[q]? = some (B + q, .inr (ci, am_fs E (f q) rs (am_ks ci) 0)) := by rw [am_ws_get hn, hEq]; rfl
      obtain ⟨r9, hr9, -⟩ := hP q _ hat
      have hcf := am_cf hr9
      obtain ⟨cell, g1, g2, g3⟩ := va_recv hSt.1 hP hr9 hat
      exact ⟨q, B + q, rfl, hEq, cell, g1, g2, by rw [← hcf.2.2.2.2.2.2.2.1]; exact g3⟩
    · cases h
    · simp only [Bool.and_eq_true] at h
      have ho : o' = 10 := Nat.eq_of_beq_eq_true h.1
      subst ho
      have h1 := Nat.le_of_ble_eq_true h.2.1
      have h2 := Nat.le_of_ble_eq_true h.2.2
      obtain ⟨j, hj, hEq⟩ := am_E1010 (B := B) (b := b) (adK := adK) (adV := adV) (fm := fm) h1 h2
      rw [← hE] at hEq
      obtain ⟨-, -, -, -, hK, -⟩ := hSt
      obtain ⟨cell, g1, g2, g3⟩ := vk_recv hK hj hS
      exact ⟨q, adK j, rfl, hEq, cell, g1, g2, g3⟩
  · cases h
theorem am_good_tb : ∀ {w : Jvm.Cond}, w ∈ am_tb → ((w.onTables && w.keeps) = true ∨ ∃ ty, w = .arrayClass ty) := fun h => good_of_word (am_tb_good h).2
set_option maxHeartbeats 4000000 in
theorem am_call_W {i : Instr} {len j : Nat} {st As rest : List Value} {r : Option Value} {G1 : am_G} {f1 : am_M} (hC : am_Cx p R s m args meth c B b L xs D ac adK adV fm E cc o hh mL N0 ini) (hI : am_Pt s B D ac E mL N0 S0 ls G f H locs LS) (hd : decode cc pc = .ok (i, len)) (hg : am_good o ini pc i len = true)
    (hcal : am_cal o hh i st G = some (j, As, rest)) (hM : am_Mt l B b L xs D ac adK adV fm E j As G f r G1 f1) (hle : G.length ≤ G1.length) (hsl : am_sz G ≤ am_sz G1) (hG1 : G1.length ≤ 1000) (hc1 : G1.length - N0 ≤ R.cells) (hs1 : am_sz G1 - S0 ≤ R.slots)
    (kk : ∀ (H1 : Heap) (locs1 : List Loc), am_Pt s B D ac E mL N0 S0 ls G1 f1 H1 locs1 LS → W p l e R s m args below meth c H1 locs1 (G1.length - N0) (am_sz G1 - S0) Q (F0 m (pc + len) LS ((r.toList ++ rest).map (am_cv E)))) :
    W p l e R s m args below meth c H locs (G.length - N0) (am_sz G - S0) Q (F0 m pc LS (st.map (am_cv E))) := by
  have hC' := hC
  have hI' := hI
  obtain ⟨hx, hb, hml, hown, hts, hini, hSt, hfr, hlo, hsz, hE⟩ := hC
  obtain ⟨hP, hS, hl, hll, hN, hS0, hG⟩ := hI
  refine am_Wsz (fun hs9 => ?_)
  have hHs : H.size = B + G.length := am_size hE hsz hN hG hP hS rfl hs9
  unfold am_cal at hcal
  cases hcj : am_cj o i with
  | none => simp [hcj] at hcal
  | some y =>
    obtain ⟨kd, j'⟩ := y
    simp only [hcj] at hcal
    cases hcnd : (Nat.blt (am_m j').2.2.2.2.2 hh && (Nat.ble (am_m j').2.2.1 st.length && (Nat.ble (st.length - (am_m j').2.2.1) 8 && (Nat.beq kd 1 || am_rcv G (am_nth st ((am_m j').2.2.1 - 1)) (am_m j').2.1)))) with
    | false => rw [hcnd] at hcal; cases hcal
    | true =>
      rw [hcnd] at hcal
      simp only [cond_true, Option.some.injEq, Prod.mk.injEq] at hcal
      obtain ⟨rfl, rfl, rfl⟩ := hcal
      simp only [Bool.and_eq_true, Bool.or_eq_true] at hcnd
      obtain ⟨d1, d2, d3, d4⟩ := hcnd
      have d1 : (am_m j').2.2.2.2.2 < hh := Nat.le_of_ble_eq_true d1
      have d2 := Nat.le_of_ble_eq_true d2
      have d3 := Nat.le_of_ble_eq_true d3
      generalize hna : (am_m j').2.2.1 = na at d2 d3 d4 hM kk ⊢
      -- the row of the call
      have hrow : j' < 172 ∧ len = 3 := by
        unfold am_cj at hcj
        split at hcj
        · simp only [am_good] at hg
          refine ⟨?_, Nat.eq_of_beq_eq_true hg⟩
          split at hcj
          · rename_i hf
            cases hcj
            have := (am_cl9 hf).1
            simp only [am_clk, Bool.and_eq_true] at this
            exact Nat.le_of_ble_eq_true this.2
          · cases hcj
        · simp only [am_good] at hg
          refine ⟨?_, Nat.eq_of_beq_eq_true hg⟩
          split at hcj
          · rename_i hf
            cases hcj
            have := (am_cl9 hf).1
            simp only [am_clk, Bool.and_eq_true] at this
            exact Nat.le_of_ble_eq_true this.2
          · cases hcj
        · simp only [am_good] at hg
          refine ⟨?_, Nat.eq_of_beq_eq_true hg⟩
          split at hcj
          · rename_i hf
            cases hcj
            have := (am_cl9 hf).1
            simp only [am_clk, Bool.and_eq_true] at this
            exact Nat.le_of_ble_eq_true this.2
          · rename_i hf
            cases hcj
            have := (am_cl9 hf).1
            simp only [am_clk, Bool.and_eq_true] at this
            exact Nat.le_of_ble_eq_true this.2
          · cases hcj
        · cases hcj
      obtain ⟨hj, rfl⟩ := hrow
      obtain ⟨w1, w2, w3, w4, w5, w6, w7, w8⟩ := am_mf hj
      -- the words of the callee
      have hGood : GoodIn am_tb (.code (am_y j') (am_by j') (am_m j').2.2.2.1 (am_m j').2.2.2.2.1 :: am_tb) := by
        intro w hw
        rcases List.mem_cons.mp hw with rfl | hw
        · exact ⟨w1, am_good_tb w1⟩
        · exact ⟨hw, am_good_tb hw⟩
      have hroom : (am_rm G G1 (am_m j').2.2.2.2.2).frames + 1 ≤ R.frames ∧ 8 + ((am_m j').2.2.2.1 + 11) + (am_rm G G1 (am_m j').2.2.2.2.2).locals ≤ R.locals := by
        refine ⟨?_, ?_⟩
        · show (am_m j').2.2.2.2.2 + 1 ≤ R.frames
          omega
        · show 8 + ((am_m j').2.2.2.1 + 11) + 36 * (am_m j').2.2.2.2.2 ≤ R.locals
          omega
      have hfit : (G.length - N0) + (G1.length - G.length) ≤ R.cells ∧ (am_sz G - S0) + (am_sz G1 - am_sz G) ≤ R.slots := ⟨by omega, by omega⟩
      have e1 : (G.length - N0) + (G1.length - G.length) = G1.length - N0 := by omega
      have e2 : (am_sz G - S0) + (am_sz G1 - am_sz G) = am_sz G1 - S0 := by omega
      have hlenD : (st.drop na).length ≤ 8 := by rw [List.length_drop]; exact d3
      have hW8 : 2 * (F0 m pc LS (st.map (am_cv E))).monitorRoom + (((st.drop na).map (am_cv E)).map fun v => v.category).sum ≤ 8 := by
        rw [am_catsum]
        show 2 * 0 + _ ≤ 8
        omega
      have hstk : st.map (am_cv E) = (((st.take na).reverse).map (am_cv E)).reverse ++ (st.drop na).map (am_cv E) := by
        rw [List.map_reverse, List.reverse_reverse, ← List.map_append, List.take_append_drop]
      have hlenA : ((st.take na).reverse).length = na := by rw [List.length_reverse, List.length_take]; omega
      have hPre : ∀ U : State, U.heap = H → s.WarmedH U.vm → am_Pc B b L xs D ac adK adV fm E (st.take na).reverse G f (((st.take na).reverse).map (am_cv E)).toArray U := by
        intro U hU hW
        refine ⟨rfl, am_St.moved (locs := locs) hSt hW (by rw [hU]; exact hS), by rw [hU]; exact hP, by rw [hU]; exact hHs⟩
      have hback : ∀ (H1 : Heap) (locs1 : List Loc), va_P D vwCl (am_ws E ac f1 G1 0) H1 → va_S (fun q => B ≤ q) s.heap H1 locs1 → W p l e R s m args below meth c H1 locs1 ((G.length - N0) + (G1.length - G.length)) ((am_sz G - S0) + (am_sz G1 - am_sz G)) Q (F0 m (pc + 3) LS ((r.map (am_cv E)).toList ++ (st.drop na).map (am_cv E))) := by
        intro H1 locs1 hP1 hS1
        rw [e1, e2]
        have := kk H1 locs1 ⟨hP1, hS1, hl, hll, by omega, by omega, hG1⟩
        rw [List.map_append] at this
        have hr9 : r.toList.map (am_cv E) = (r.map (am_cv E)).toList := by cases r <;> rfl
        rw [hr9] at this
        exact this
      have hS9 : CallFix p m c cc mL s args am_tb (am_rn o) := ⟨hx, hb, hml, hown, hts⟩
      unfold am_cj at hcj
      split at hcj
      · -- virtual
        rename_i idx
        split at hcj
        · rename_i j9 pl hf
          cases hcj
          have hk0 : am_kind j' = 0 := by have := (am_cl9 hf).2; simpa [am_ckk] using this
          rw [hk0] at w8
          obtain ⟨x1, x2, x3⟩ := w8
          have hlink : Cond.methodLink (am_rn o) idx (am_y j') ∈ am_tb := by
            have := (am_cl9 hf).1
            simp only [am_clk, Bool.and_eq_true] at this
            exact am_word_of this.1
          rw [hna] at x3
          obtain ⟨d9, hd9, hn9⟩ := Option.map_eq_some_iff.mp x3
          rcases d4 with d4 | d4
          · exact absurd d4 (by decide)
          · obtain ⟨q, a, hv, hEq, cell, g1, g2, g3⟩ := am_recv_W hC' hI' d4
            -- the arguments: the receiver first
            have hAs : (st.take na).reverse = .ref q :: ((st.take (na - 1)).reverse) := by
              rw [am_nth_eq] at hv
              have h1 : st.take na = st.take (na - 1) ++ [.ref q] := by
                have : na = (na - 1) + 1 := by omega
                rw [this, List.take_add_one, hv]
                rfl
              rw [h1, List.reverse_append]
              rfl
            generalize hA9 : (st.take (na - 1)).reverse = A9 at hAs
            rw [hAs] at hstk hPre hM hlenA
            have hcvq : am_cv E (.ref q) = .ref a := by show va_rf (E q) = _; rw [hEq]; rfl
            rw [List.map_cons, List.reverse_cons, List.append_assoc, hcvq] at hstk
            rw [List.map_cons, hcvq] at hPre
            refine am_ran (va_runV (n := d9.parameters.length) (C := (am_y j').cls) (As := A9.map (am_cv E)) (rest := (st.drop na).map (am_cv E)) hS9 hM ⟨callB_of d9.parameters.length hts hGood rfl rfl rfl (hts _ w2) (hts _ hlink) ⟨w5.1, w5.2, by rw [hd9]; rfl⟩ hroom, hts _ x1, hts _ x2⟩ ⟨am_blind, ⟨cell, g1, g2, by rw [w3]; exact g3⟩, hPre⟩ rfl ?_ hl.1 hstk hW8 hd hfit) hS hback
            rw [List.length_map]
            simp only [List.length_cons] at hlenA
            omega
        · cases hcj
      · -- static
        rename_i idx
        split at hcj
        · rename_i j9 pl hf
          cases hcj
          have hk0 : am_kind j' = 1 := by have := (am_cl9 hf).2; simpa [am_ckk] using this
          rw [hk0] at w8
          obtain ⟨x1, x3⟩ := w8
          have hlink : Cond.methodLink (am_rn o) idx (am_y j') ∈ am_tb := by
            have := (am_cl9 hf).1
            simp only [am_clk, Bool.and_eq_true] at this
            exact am_word_of this.1
          rw [hna] at x3
          refine am_ran (va_runS (n := na) (As := ((st.take na).reverse).map (am_cv E)) (rest := (st.drop na).map (am_cv E)) hS9 hM ⟨callB_of na hts hGood rfl rfl rfl (hts _ w2) (hts _ hlink) ⟨w5.1, w5.2, x3⟩ hroom, hts _ x1⟩ ⟨am_blind, hPre⟩ rfl (by rw [List.length_map]; exact hlenA) hl.1 hstk hW8 hd hfit) hS hback
        · cases hcj
      · -- special
        rename_i idx
        have hsp : ∃ kd9 pl, (kd9 = 2 ∨ kd9 = 3) ∧ am_own am_CL o idx = some (kd9, j', pl) ∧ kd = kd9 := by
          split at hcj
          · rename_i j9 pl hf; cases hcj; exact ⟨2, pl, Or.inl rfl, hf, rfl⟩
          · rename_i j9 pl hf; cases hcj; exact ⟨3, pl, Or.inr rfl, hf, rfl⟩
          · cases hcj
        obtain ⟨kd9, pl, hkd, hf, rfl⟩ := hsp
        have hk0 : am_kind j' = 2 := by
          have := (am_cl9 hf).2
          rcases hkd with rfl | rfl <;> simpa [am_ckk] using this
        rw [hk0] at w8
        obtain ⟨x1, x2, x3⟩ := w8
        rw [hna] at x3
        obtain ⟨d9, hd9, hn9⟩ := Option.map_eq_some_iff.mp x3
        have hname : (am_y j').name = "<init>" := by
          have := hk0
          unfold am_kind at this
          split at this
          · assumption
          · split at this <;> cases this
        rcases d4 with d4 | d4
        · rcases hkd with rfl | rfl <;> exact absurd d4 (by decide)
        · obtain ⟨q, a, hv, hEq, cell, g1, g2, g3⟩ := am_recv_W hC' hI' d4
          have hAs : (st.take na).reverse = .ref q :: ((st.take (na - 1)).reverse) := by
            rw [am_nth_eq] at hv
            have h1 : st.take na = st.take (na - 1) ++ [.ref q] := by
              have : na = (na - 1) + 1 := by omega
              rw [this, List.take_add_one, hv]
              rfl
            rw [h1, List.reverse_append]
            rfl
          generalize hA9 : (st.take (na - 1)).reverse = A9 at hAs
          rw [hAs] at hstk hPre hM hlenA
          have hcvq : am_cv E (.ref q) = .ref a := by show va_rf (E q) = _; rw [hEq]; rfl
          rw [List.map_cons, List.reverse_cons, List.append_assoc, hcvq] at hstk
          rw [List.map_cons, hcvq] at hPre
          have hlenA9 : (A9.map (am_cv E)).length = d9.parameters.length := by
            rw [List.length_map]
            simp only [List.length_cons] at hlenA
            omega
          unfold am_Mt at hM
          rw [x2] at hM hGood
          rcases hkd with rfl | rfl
          · have hlink : Cond.methodLink (am_rn o) idx (am_y j') ∈ am_tb := by
              have := (am_cl9 hf).1
              simp only [am_clk, Bool.and_eq_true] at this
              exact am_word_of this.1
            exact am_ran (va_runI (n := d9.parameters.length) (As := A9.map (am_cv E)) (rest := (st.drop na).map (am_cv E)) hS9 hM ⟨callB_of d9.parameters.length hts hGood rfl rfl rfl (hts _ w2) (hts _ hlink) ⟨w5.1, w5.2, by rw [hd9]; rfl⟩ hroom, hname, hts _ x1⟩ ⟨am_blind, hPre⟩ rfl hlenA9 hl.1 hstk hW8 hd hfit) hS hback
          · have hlink : va_Nw (.methodLinkNest (am_rn o) idx (am_y j') "NumberedRings") s := hSt.2.2.1 _ (am_nest_of hf)
            exact am_ran (va_runIN (host := "NumberedRings") (n := d9.parameters.length) (As := A9.map (am_cv E)) (rest := (st.drop na).map (am_cv E)) hS9 hM ⟨va_cnB d9.parameters.length hts hGood rfl rfl rfl hlink (hts _ w2) ⟨w5.1, w5.2, by rw [hd9]; rfl⟩ hroom, hname, hts _ x1⟩ ⟨am_blind, hPre⟩ rfl hlenA9 hl.1 hstk hW8 hd hfit) hS hback
      · cases hcj
theorem am_cal_lt {i : Instr} {st As rest : List Value} {j : Nat} (h : am_cal o hh i st G = some (j, As, rest)) : j < 172 ∧ As.length = (am_m j).2.2.1 := by
  unfold am_cal at h
  cases hcj : am_cj o i with
  | none => simp [hcj] at h
  | some y =>
    obtain ⟨kd, j'⟩ := y
    simp only [hcj] at h
    cases hcnd : (Nat.blt (am_m j').2.2.2.2.2 hh && (Nat.ble (am_m j').2.2.1 st.length && (Nat.ble (st.length - (am_m j').2.2.1) 8 && (Nat.beq kd 1 || am_rcv G (am_nth st ((am_m j').2.2.1 - 1)) (am_m j').2.1)))) with
    | false => rw [hcnd] at h; cases h
    | true =>
      rw [hcnd] at h
      simp only [cond_true, Option.some.injEq, Prod.mk.injEq] at h
      obtain ⟨rfl, rfl, rfl⟩ := h
      simp only [Bool.and_eq_true] at hcnd
      have d2 := Nat.le_of_ble_eq_true hcnd.2.1
      refine ⟨?_, by rw [List.length_reverse, List.length_take]; exact Nat.min_eq_left d2⟩
      unfold am_cj at hcj
      repeat' split at hcj
      all_goals first | cases hcj | skip
      all_goals (rename_i hf; have h1 := (am_cl9 hf).1; simp only [am_clk, Bool.and_eq_true] at h1; exact Nat.le_of_ble_eq_true h1.2)
end CLL
