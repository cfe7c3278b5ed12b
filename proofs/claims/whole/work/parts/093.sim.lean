/-! every step that is neither a branch, a call nor an answer -/
section STS
variable {p : Program} {l : Launch} {e : Env} {R : Room} {s : State} {m : MethodId} {args : Array Value} {below : List Frame} {meth : Method} {c : Code} {H : Heap} {locs : List Loc} {Q : State → Prop}
variable {B b L : Nat} {xs : Nat → Int32} {D : va_G} {ac : FieldType → ClassId} {adK adV : Nat → Nat} {fm : Option Nat} {E : Nat → Option Nat}
variable {cc : ByteArray} {o hh mL N0 S0 : Nat} {ini : Bool}
variable {LS : Array Slot} {ls : am_L} {G : am_G} {f : am_M} {pc : Nat}
theorem am_E1020 {q : Nat} (h1 : 1020 ≤ q) (h2 : q ≤ 1022) : ∃ j, j < 3 ∧ q = 1020 + j ∧ am_E B b adK adV fm q = some (adV j) := by
  refine ⟨q - 1020, by omega, by omega, ?_⟩
  simp [am_E, show ¬ q < 1000 by omega, show q ≠ 1000 by omega, show q ≠ 1001 by omega, show ¬ q < 1020 by omega]
theorem am_nth_lt {α : Type} {t : List α} {k : Nat} {x : α} (h : am_nth t k = some x) : k < t.length := by
  rw [am_nth_eq] at h
  exact (List.getElem?_eq_some_iff.mp h).1
theorem am_catsum (E : Nat → Option Nat) : ∀ st : List Value, ((st.map (am_cv E)).map fun v => v.category).sum = st.length
  | [] => rfl
  | v :: r => by simp only [List.map_cons, List.sum_cons, am_cv_cat, am_catsum E r, List.length_cons]; omega
theorem am_Pt.store {i : Nat} {v w : Value} {LS' : Array Slot} (hI : am_Pt s B D ac E mL N0 S0 ls G f H locs LS) (hw : w = am_cv E v) (h : lv_has LS' mL ((i, w) :: (am_asc E 0 ls).filter (fun q => !(q.1 == i) && !(q.1 + 1 == i && q.2.category == 2)))) : am_Pt s B D ac E mL N0 S0 (ls.set i (some v)) G f H locs LS' :=
  ⟨hI.1, hI.2.1, am_asc_set hw h, by rw [List.length_set]; exact hI.2.2.2.1, hI.2.2.2.2⟩
theorem am_iinc_W {i : Nat} {n : Int} {x : Int32} {cells slots : Nat} {rest : List Value} (hx : p.tables.exec = Jvm.exec) (hb : c.code = cc) (hd : decode cc pc = .ok (.iinc i n, 3)) (hl : lv_has LS mL (am_asc E 0 ls)) (hi : am_nth ls i = some (some (.int x))) (hn : i < mL)
    (kk : ∀ LS' : Array Slot, lv_has LS' mL ((i, Value.int (x + am_int n)) :: (am_asc E 0 ls).filter (fun q => !(q.1 == i) && !(q.1 + 1 == i && q.2.category == 2))) → W p l e R s m args below meth c H locs cells slots Q (F0 m (pc + 3) LS' rest)) : W p l e R s m args below meth c H locs cells slots Q (F0 m pc LS rest) := by
  have hm : (i, Value.int x) ∈ am_asc E 0 ls := (am_asc_mem E ls 0 _).mpr ⟨i, .int x, by rw [← am_nth_eq]; exact hi, by simp [am_cv]⟩
  obtain ⟨k, hk⟩ := List.getElem?_of_mem hm
  exact lv_iinc (v := x + am_int n) hx hb hd hl hk (by rw [am_int_eq]) hn rfl kk
set_option maxHeartbeats 4000000 in
set_option maxRecDepth 100000 in
theorem am_sim_W {ρ : Type} {i : Instr} {len : Nat} {st : List Value} {k : Nat → am_L → List Value → am_G → am_M → Option ρ} {r : ρ} (hC : am_Cx p R s m args meth c B b L xs D ac adK adV fm E cc o hh mL N0 ini) (hI : am_Pt s B D ac E mL N0 S0 ls G f H locs LS)
    (hd : decode cc pc = .ok (i, len)) (hg : am_good o ini pc i len = true) (h : am_sim (L, xs) o hh i len pc ls st G f k = some r)
    (hmx : ∀ pc' ls' st' G' f', k pc' ls' st' G' f' = some r → G'.length ≤ 1000 ∧ G'.length - N0 ≤ R.cells ∧ am_sz G' - S0 ≤ R.slots)
    (hk : ∀ pc' ls' st' G' f' H' locs' LS', k pc' ls' st' G' f' = some r → am_Pt s B D ac E mL N0 S0 ls' G' f' H' locs' LS' → W p l e R s m args below meth c H' locs' (G'.length - N0) (am_sz G' - S0) Q (F0 m pc' LS' (st'.map (am_cv E)))) :
    W p l e R s m args below meth c H locs (G.length - N0) (am_sz G - S0) Q (F0 m pc LS (st.map (am_cv E))) := by
  have hC' := hC
  have hI' := hI
  obtain ⟨hx, hb, hml, hown, hts, hini, hSt, hfr, hlo, hsz, hE⟩ := hC
  obtain ⟨hP, hS, hl, hll, hN, hS0, hG⟩ := hI
  have lenE : ∀ n : Nat, Nat.beq len n = true → len = n := fun n h => Nat.eq_of_beq_eq_true h
  cases i
  case aload x9 =>
    simp only [am_sim] at h
    obtain rfl := lenE 2 hg
    split at h
    · rename_i q hq
      exact am_aload_W hx hb hd (am_asc_at hl hq) (hk _ _ _ _ _ _ _ _ h hI')
    · cases h
  case aload_n x9 =>
    simp only [am_sim] at h
    obtain rfl := lenE 1 hg
    split at h
    · rename_i q hq
      exact am_aload_n_W hx hb hd (am_asc_at hl hq) (hk _ _ _ _ _ _ _ _ h hI')
    · cases h
  case iload x9 =>
    simp only [am_sim] at h
    obtain rfl := lenE 2 hg
    split at h
    · rename_i q hq
      exact lv_iload hx hb hd (am_asc_at hl hq) (hk _ _ _ _ _ _ _ _ h hI')
    · cases h
  case iload_n x9 =>
    simp only [am_sim] at h
    obtain rfl := lenE 1 hg
    split at h
    · rename_i q hq
      exact lv_iload_n hx hb hd rfl (am_asc_at hl hq) (hk _ _ _ _ _ _ _ _ h hI')
    · cases h
  case istore x9 =>
    simp only [am_sim] at h
    obtain rfl := lenE 2 hg
    split at h
    · rename_i x st' w hw
      exact lv_istore hx hb hd hl (by have := am_nth_lt hw; omega) rfl (fun LS' hl' => hk _ _ _ _ _ _ _ _ h (hI'.store rfl hl'))
    · cases h
  case istore_n x9 =>
    simp only [am_sim] at h
    obtain rfl := lenE 1 hg
    split at h
    · rename_i x st' w hw
      exact lv_istore_n hx hb hd rfl hl (by have := am_nth_lt hw; omega) rfl (fun LS' hl' => hk _ _ _ _ _ _ _ _ h (hI'.store rfl hl'))
    · cases h
  case astore x9 =>
    simp only [am_sim] at h
    obtain rfl := lenE 2 hg
    split at h
    · rename_i x st' w hw
      exact am_astore_W hx hb hd hl (by have := am_nth_lt hw; omega) (fun LS' hl' => hk _ _ _ _ _ _ _ _ h (hI'.store (v := .ref x) rfl hl'))
    · cases h
  case astore_n x9 =>
    simp only [am_sim] at h
    obtain rfl := lenE 1 hg
    split at h
    · rename_i x st' w hw
      exact am_astore_n_W hx hb hd hl (by have := am_nth_lt hw; omega) (fun LS' hl' => hk _ _ _ _ _ _ _ _ h (hI'.store (v := .ref x) rfl hl'))
    · cases h
  case iconst n =>
    simp only [am_sim] at h
    obtain rfl := lenE 1 hg
    exact lv_iconst hx hb hd (am_int_eq n).symm (hk _ _ _ _ _ _ _ _ h hI')
  case bipush n =>
    simp only [am_sim] at h
    simp only [am_good, Bool.and_eq_true, decide_eq_true_eq] at hg
    obtain rfl := lenE 2 hg.1
    exact lv_bipush hx hb hd hg.2 (hk _ _ _ _ _ _ _ _ h hI')
  case sipush n =>
    simp only [am_sim] at h
    simp only [am_good, Bool.and_eq_true, decide_eq_true_eq] at hg
    obtain rfl := lenE 3 hg.1
    exact lv_sipush hx hb hd hg.2 (hk _ _ _ _ _ _ _ _ h hI')
  case ldc idx =>
    simp only [am_sim] at h
    obtain rfl := lenE 2 hg
    split at h
    · rename_i q hq
      have hcases : (o = 5 ∧ idx = 92 ∧ q = 1010) ∨ (o = 5 ∧ idx = 97 ∧ q = 1011) ∨ (o = 5 ∧ idx = 99 ∧ q = 1012) := by
        simp only [am_ldc, am_ldl, am_ldf, cond_eq_ite, Bool.and_eq_true] at hq
        split at hq
        · rename_i g; cases hq; exact Or.inl ⟨(Nat.eq_of_beq_eq_true g.1).symm, (Nat.eq_of_beq_eq_true g.2).symm, rfl⟩
        · split at hq
          · rename_i g; cases hq; exact Or.inr (Or.inl ⟨(Nat.eq_of_beq_eq_true g.1).symm, (Nat.eq_of_beq_eq_true g.2).symm, rfl⟩)
          · split at hq
            · rename_i g; cases hq; exact Or.inr (Or.inr ⟨(Nat.eq_of_beq_eq_true g.1).symm, (Nat.eq_of_beq_eq_true g.2).symm, rfl⟩)
            · split at hq
              · cases hq
              · split at hq
                · cases hq
                · split at hq
                  · cases hq
                  · cases hq
      have hkk := hk _ _ _ _ _ _ _ _ h hI'
      obtain ⟨-, -, -, ⟨r1, r2, r3⟩, -⟩ := hSt
      rcases hcases with ⟨rfl, rfl, rfl⟩ | ⟨rfl, rfl, rfl⟩ | ⟨rfl, rfl, rfl⟩
      · have e1 : E 1010 = some (adK 0) := by rw [hE]; rfl
        have hkk' : W p l e R s m args below meth c H locs (G.length - N0) (am_sz G - S0) Q (F0 m (pc + 2) LS (va_rf (E 1010) :: st.map (am_cv E))) := hkk
        rw [e1] at hkk'
        exact va_ldcS hx hb hown r1 hd hkk'
      · have e1 : E 1011 = some (adK 1) := by rw [hE]; rfl
        have hkk' : W p l e R s m args below meth c H locs (G.length - N0) (am_sz G - S0) Q (F0 m (pc + 2) LS (va_rf (E 1011) :: st.map (am_cv E))) := hkk
        rw [e1] at hkk'
        exact va_ldcS hx hb hown r2 hd hkk'
      · have e1 : E 1012 = some (adK 2) := by rw [hE]; rfl
        have hkk' : W p l e R s m args below meth c H locs (G.length - N0) (am_sz G - S0) Q (F0 m (pc + 2) LS (va_rf (E 1012) :: st.map (am_cv E))) := hkk
        rw [e1] at hkk'
        exact va_ldcS hx hb hown r3 hd hkk'
    · cases h
  case ldc_w idx =>
    simp only [am_sim] at h
    obtain rfl := lenE 3 hg
    split at h
    · rename_i q hq
      have hcases : Cond.constant (am_rn o) idx q ∈ am_tb := by
        simp only [am_ldc, am_ldl, am_ldf, cond_eq_ite, Bool.and_eq_true] at hq
        split at hq
        · cases hq
        · split at hq
          · cases hq
          · split at hq
            · cases hq
            · split at hq
              · rename_i g; cases hq; rw [← Nat.eq_of_beq_eq_true g.1, ← Nat.eq_of_beq_eq_true g.2]; exact am_word_of (i := 692) (by decide +kernel)
              · split at hq
                · rename_i g; cases hq; rw [← Nat.eq_of_beq_eq_true g.1, ← Nat.eq_of_beq_eq_true g.2]; exact am_word_of (i := 693) (by decide +kernel)
                · split at hq
                  · rename_i g; cases hq; rw [← Nat.eq_of_beq_eq_true g.1, ← Nat.eq_of_beq_eq_true g.2]; exact am_word_of (i := 694) (by decide +kernel)
                  · cases hq
      exact lv_ldcw hx hb hown (hts _ hcases) hd (hk _ _ _ _ _ _ _ _ h hI')
    · cases h
  case getstatic idx =>
    simp only [am_sim, cond_eq_ite] at h
    obtain rfl := lenE 3 hg
    split at h
    · rename_i g1
      have ho : o = 10 := Nat.eq_of_beq_eq_true g1
      subst ho
      obtain ⟨-, -, -, -, -, z1, z2, -⟩ := hSt
      split at h
      · rename_i g2
        have hi : idx = 38 := Nat.eq_of_beq_eq_true g2
        subst hi
        exact va_gets hx hb z1 hS hown (hts _ (am_word_of (w := Cond.fieldLink (am_rn 10) 38 "java/lang/String" "COMPACT_STRINGS" "Z") (i := 360) (by decide +kernel))) (fun _ h => h) hd (hk _ _ _ _ _ _ _ _ h hI')
      · split at h
        · rename_i g2
          have hi : idx = 1053 := Nat.eq_of_beq_eq_true g2
          subst hi
          have e1 : E 1001 = fm := by rw [hE]; rfl
          have hkk : W p l e R s m args below meth c H locs (G.length - N0) (am_sz G - S0) Q (F0 m (pc + 3) LS (va_rf (E 1001) :: st.map (am_cv E))) := hk _ _ _ _ _ _ _ _ h hI'
          rw [e1] at hkk
          exact va_gets hx hb z2 hS hown (hts _ (am_word_of (w := Cond.fieldLink (am_rn 10) 1053 "jdk/internal/util/Preconditions" "SIOOBE_FORMATTER" "Ljava/util/function/BiFunction;") (i := 376) (by decide +kernel))) (fun _ h => h) hd hkk
        · cases h
    · cases h
  case iinc x9 n =>
    simp only [am_sim] at h
    obtain rfl := lenE 3 hg
    split at h
    · rename_i x hq
      exact am_iinc_W hx hb hd hl hq (by have := am_nth_lt hq; omega) (fun LS' hl' => hk _ _ _ _ _ _ _ _ h (hI'.store rfl hl'))
    · cases h
  case dup =>
    simp only [am_sim] at h
    obtain rfl := lenE 1 hg
    split at h
    · rename_i v st'
      exact lv_dup hx hb hd (am_cv_cat E v) (hk _ _ _ _ _ _ _ _ h hI')
    · cases h
  case dup2 =>
    simp only [am_sim] at h
    obtain rfl := lenE 1 hg
    split at h
    · rename_i v w st'
      exact lv_dup2_11 hx hb hd (am_cv_cat E v) (am_cv_cat E w) (hk _ _ _ _ _ _ _ _ h hI')
    · cases h
  case pop =>
    simp only [am_sim] at h
    obtain rfl := lenE 1 hg
    split at h
    · rename_i v st'
      exact lv_pop hx hb hd (am_cv_cat E v) (hk _ _ _ _ _ _ _ _ h hI')
    · cases h
  case i2c =>
    simp only [am_sim] at h
    obtain rfl := lenE 1 hg
    split at h
    · exact lv_i2c hx hb hd rfl (hk _ _ _ _ _ _ _ _ h hI')
    · cases h
  case goto off =>
    simp only [am_sim] at h
    simp only [am_good, Bool.and_eq_true, am_jmp, decide_eq_true_eq] at hg
    obtain rfl := lenE 3 hg.1
    exact lv_goto (tgt := am_tg pc off) hx hb hd (by unfold am_tg; omega) (hk _ _ _ _ _ _ _ _ h hI')
  case getfield idx =>
    simp only [am_sim] at h
    obtain rfl := lenE 3 hg
    split at h
    · split at h
      · rename_i v hv
        exact am_get_W hC' hI' hv hd (hk _ _ _ _ _ _ _ _ h hI')
      · cases h
    · cases h
  case putfield idx =>
    simp only [am_sim] at h
    simp only [am_good, Bool.and_eq_true] at hg
    obtain rfl := lenE 3 hg.1
    split at h
    · rename_i v q st'
      split at h
      · rename_i ci rs hn
        split at h
        · rename_i ci' k9 pl hf
          cases hbq : Nat.beq ci ci' with
          | false => rw [hbq] at h; cases h
          | true =>
            rw [hbq, cond_true] at h
            have hcc : ci = ci' := Nat.eq_of_beq_eq_true hbq
            subst hcc
            have hg2 := hg.2
            simp only [hf] at hg2
            split at h
            · rename_i x hkd
              refine am_put_W (v := .int x) (f' := am_wr f q k9 x) (rs' := rs) hC' hI' hn hf hkd (fun h => by cases h) (Or.inl ⟨rfl, x, rfl⟩) (by rw [am_wr_eq]; exact am_fs_int x hkd (by decide)) am_wr_ne hd (fun H1 locs1 hI1 => ?_)
              have hGs : G.set q (.inl ci, rs) = G := by
                rw [am_nth_eq] at hn
                apply List.ext_getElem?
                intro n
                rw [List.getElem?_set]
                by_cases e : q = n
                · subst e
                  rw [if_pos rfl, if_pos (List.getElem?_eq_some_iff.mp hn).1, hn]
                · simp [e]
              rw [hGs] at hI1
              exact hk _ _ _ _ _ _ _ _ h hI1
            · rename_i x hkd
              split at h
              · rename_i h01
                refine am_put_W (v := .int x) (f' := am_wr f q k9 x) (rs' := rs) hC' hI' hn hf hkd (fun h => by cases h) (Or.inr (Or.inl ⟨rfl, by rcases h01 with rfl | rfl; exact Or.inl rfl; exact Or.inr rfl⟩)) (by rw [am_wr_eq]; exact am_fs_int x hkd (by decide)) am_wr_ne hd (fun H1 locs1 hI1 => ?_)
                have hGs : G.set q (.inl ci, rs) = G := by
                  rw [am_nth_eq] at hn
                  apply List.ext_getElem?
                  intro n
                  rw [List.getElem?_set]
                  by_cases e : q = n
                  · subst e
                    rw [if_pos rfl, if_pos (List.getElem?_eq_some_iff.mp hn).1, hn]
                  · simp [e]
                rw [hGs] at hI1
                exact hk _ _ _ _ _ _ _ _ h hI1
              · cases h
            · rename_i x hkd
              split at h
              · rename_i r9 hr9
                simp only [hkd, Bool.and_eq_true] at hg2
                have hlen : (G.set q (.inl ci, rs.set k9 (some x))).length = G.length := List.length_set
                have hsz9 : am_sz (G.set q (.inl ci, rs.set k9 (some x))) = am_sz G := am_sz_set G q (.inl ci, rs) _ (by rw [← am_nth_eq]; exact hn) rfl
                refine am_put_W (v := .ref x) (f' := f) (rs' := rs.set k9 (some x)) hC' hI' hn hf hkd (fun _ => ⟨hg2.1, Nat.eq_of_beq_eq_true hg2.2⟩) (Or.inr (Or.inr ⟨rfl, x, rfl⟩)) (am_fs_ref hkd hr9) (fun _ _ => rfl) hd (fun H1 locs1 hI1 => ?_)
                have hkk := hk _ _ _ _ _ _ _ _ h hI1
                rw [hlen, hsz9] at hkk
                exact hkk
              · cases h
            · cases h
        · cases h
      · cases h
    · cases h
  case arraylength =>
    simp only [am_sim, cond_eq_ite] at h
    obtain rfl := lenE 1 hg
    split at h
    · rename_i q st'
      show W p l e R s m args below meth c H locs (G.length - N0) (am_sz G - S0) Q (F0 m pc LS (va_rf (E q) :: st'.map (am_cv E)))
      split at h
      · rename_i ty n rs hn
        have hEq : E q = some (B + q) := by rw [hE]; exact am_Eg hG hn
        have hget := am_ws_get (E := E) (ac := ac) (f := f) hn
        rw [hEq] at hget ⊢
        have key : ∃ (t0 : Nat) (cA : ClassId) (ty' : FieldType) (x : vp_A), (am_ws E ac f G 0)[q]? = some (B + q, .inl (cA, x)) ∧ x.1 = n ∧ (am_tys ac)[t0]? = some (cA, ty') := by
          cases ty <;> first
            | exact ⟨0, _, _, _, hget, rfl, rfl⟩
            | exact ⟨1, _, _, _, hget, rfl, rfl⟩
            | exact ⟨2, _, _, _, hget, rfl, rfl⟩
        obtain ⟨t0, cA, ty', x, k1, k2, k3⟩ := key
        exact va_alen (D := D) hx hb hSt.1 hP q t0 k1 k3 (by rw [k2]) hd (hk _ _ _ _ _ _ _ _ h hI')
      · cases h
      · split at h
        · rename_i hq
          have hq' : q = 1000 := Nat.eq_of_beq_eq_true hq
          subst hq'
          have e1 : E 1000 = some b := by rw [hE]; rfl
          rw [e1]
          obtain ⟨-, -, -, -, -, -, -, hX, hbB, hBs⟩ := hSt
          exact va_slen (A := fun q => B ≤ q) hx hb hX (by omega) (by omega) hS hd (hk _ _ _ _ _ _ _ _ h hI')
        · split at h
          · rename_i hq
            simp only [Bool.and_eq_true] at hq
            have h1 := Nat.le_of_ble_eq_true hq.1
            have h2 := Nat.le_of_ble_eq_true hq.2
            obtain ⟨j, hj, hjq, e1⟩ := am_E1020 (B := B) (b := b) (adK := adK) (adV := adV) (fm := fm) h1 h2
            rw [← hE] at e1
            rw [e1]
            obtain ⟨-, -, -, -, hK, -⟩ := hSt
            have hT := (hK.1 j hj).2.2.2
            have hlen : ([5, 5, 5] : List Nat).getD j 0 = 5 := by
              have : j = 0 ∨ j = 1 ∨ j = 2 := by omega
              rcases this with g | g | g <;> rw [g] <;> rfl
            rw [hlen] at hT
            exact va_tlen hx hb hT hS rfl hd (hk _ _ _ _ _ _ _ _ h hI')
          · cases h
    · cases h
  case iaload =>
    simp only [am_sim, cond_eq_ite] at h
    obtain rfl := lenE 1 hg
    split at h
    · rename_i i9 q st'
      show W p l e R s m args below meth c H locs (G.length - N0) (am_sz G - S0) Q (F0 m pc LS (.int i9 :: va_rf (E q) :: st'.map (am_cv E)))
      split at h
      · rename_i n rs hn
        have hEq : E q = some (B + q) := by rw [hE]; exact am_Eg hG hn
        have hat : (am_ws E ac f G 0)[q]? = some (B + q, .inl (ac .int, n, .inl (f q))) := by rw [am_ws_get hn, hEq]; rfl
        obtain ⟨hin, -, h⟩ := am_chk_some h
        rw [hEq]
        exact va_iald (D := D) hx hb hSt.1 hP q 0 hat rfl hin hd (hk _ _ _ _ _ _ _ _ h hI')
      · cases h
      · split at h
        · rename_i hq
          have hq' : q = 1000 := Nat.eq_of_beq_eq_true hq
          subst hq'
          have e1 : E 1000 = some b := by rw [hE]; rfl
          rw [e1]
          obtain ⟨-, -, -, -, -, -, -, hX, hbB, hBs⟩ := hSt
          obtain ⟨hin, -, h⟩ := am_chk_some h
          exact va_sld (A := fun q => B ≤ q) hx hb hX (by omega) (by omega) hS hin hd (hk _ _ _ _ _ _ _ _ h hI')
        · cases h
    · cases h
  case baload =>
    simp only [am_sim, cond_eq_ite] at h
    obtain rfl := lenE 1 hg
    split at h
    · rename_i i9 q st'
      show W p l e R s m args below meth c H locs (G.length - N0) (am_sz G - S0) Q (F0 m pc LS (.int i9 :: va_rf (E q) :: st'.map (am_cv E)))
      split at h
      · rename_i n rs hn
        have hEq : E q = some (B + q) := by rw [hE]; exact am_Eg hG hn
        have hat : (am_ws E ac f G 0)[q]? = some (B + q, .inl (ac .boolean, n, .inl (f q))) := by rw [am_ws_get hn, hEq]; rfl
        obtain ⟨hin, -, h⟩ := am_chk_some h
        rw [hEq]
        exact va_zald (D := D) hx hb hSt.1 hP q 1 hat rfl hin hd (hk _ _ _ _ _ _ _ _ h hI')
      · cases h
      · split at h
        · rename_i hq
          simp only [Bool.and_eq_true] at hq
          have h1 := Nat.le_of_ble_eq_true hq.1
          have h2 := Nat.le_of_ble_eq_true hq.2
          obtain ⟨hin, hlt, h⟩ := am_chk_some h
          obtain ⟨j, hj, hjq, e1⟩ := am_E1020 (B := B) (b := b) (adK := adK) (adV := adV) (fm := fm) h1 h2
          rw [← hE] at e1
          rw [e1]
          obtain ⟨-, -, -, -, hK, -⟩ := hSt
          have hT := (hK.1 j hj).2.2.2
          have hlen : ([5, 5, 5] : List Nat).getD j 0 = 5 := by
            have : j = 0 ∨ j = 1 ∨ j = 2 := by omega
            rcases this with g | g | g <;> rw [g] <;> rfl
          rw [hlen] at hT
          have hjj : q - 1020 = j := by
            rw [hjq]
            exact Nat.add_sub_cancel_left 1020 j
          rw [hjj] at h
          split at h
          · rename_i ll hl9
            split at h
            · rename_i x9 hx9
              refine va_tb hx hb hT hS hin (v := .int x9) ?_ hd (hk _ _ _ _ _ _ _ _ h hI')
              rw [am_nth_eq] at hl9 hx9
              have g1 : am_str.getD j [] = ll := by rw [List.getD_eq_getElem?_getD, hl9]; rfl
              rw [g1, List.getD_eq_getElem?_getD, hx9]
              rfl
            · cases h
          · cases h
        · cases h
    · cases h
  case iastore =>
    simp only [am_sim] at h
    obtain rfl := lenE 1 hg
    split at h
    · rename_i x i9 q st'
      split at h
      · rename_i n rs hn
        obtain ⟨hin, -, h⟩ := am_chk_some h
        exact am_ast_W hC' hI' hn (Or.inl ⟨rfl, rfl⟩) hin hd (fun H1 locs1 hI1 => hk _ _ _ _ _ _ _ _ h hI1)
      · cases h
    · cases h
  case bastore =>
    simp only [am_sim] at h
    obtain rfl := lenE 1 hg
    split at h
    · rename_i x i9 q st'
      split at h
      · rename_i n rs hn
        split at h
        · rename_i h01
          obtain ⟨hin, -, h⟩ := am_chk_some h
          exact am_ast_W hC' hI' hn (Or.inr ⟨rfl, rfl, h01⟩) hin hd (fun H1 locs1 hI1 => hk _ _ _ _ _ _ _ _ h hI1)
        · cases h
      · cases h
    · cases h
  case aaload =>
    simp only [am_sim] at h
    obtain rfl := lenE 1 hg
    split at h
    · rename_i i9 q st'
      show W p l e R s m args below meth c H locs (G.length - N0) (am_sz G - S0) Q (F0 m pc LS (.int i9 :: va_rf (E q) :: st'.map (am_cv E)))
      split at h
      · rename_i C9 n rs hn
        have hEq : E q = some (B + q) := by rw [hE]; exact am_Eg hG hn
        have hat : (am_ws E ac f G 0)[q]? = some (B + q, .inl (ac am_cO, n, .inr (.inr (.inr (.inr (fun i => am_re E (am_nth rs i))))))) := by rw [am_ws_get hn, hEq]; rfl
        obtain ⟨hin, -, h⟩ := am_chk_some h
        rw [hEq]
        have hkk := hk _ _ _ _ _ _ _ _ h hI'
        rw [List.map_cons, am_cv_rv] at hkk
        exact va_aldq (D := D) hx hb hSt.1 hP q 2 hat rfl hin hd hkk
      · cases h
    · cases h
  case aastore =>
    simp only [am_sim] at h
    obtain rfl := lenE 1 hg
    split at h
    · rename_i v i9 q st'
      split at h
      · rename_i C9 n rs rv hn hv
        obtain ⟨hin, -, h⟩ := am_chk_some h
        split at h
        · rename_i r0 hr
          have hlen : (G.set q (.inr (.object "NumberedRings$Standing", n), rs.set i9.toNatClampNeg (some v))).length = G.length := List.length_set
          have hsz9 : am_sz (G.set q (.inr (.object "NumberedRings$Standing", n), rs.set i9.toNatClampNeg (some v))) = am_sz G := am_sz_set G q (.inr (.object C9, n), rs) _ (by rw [← am_nth_eq]; exact hn) rfl
          refine am_aast_W hC' hI' hn hv hin hr hd (fun H1 locs1 hI1 => ?_)
          have hkk := hk _ _ _ _ _ _ _ _ h hI1
          rw [hlen, hsz9] at hkk
          exact hkk
        · cases h
      · cases h
    · cases h
  case new idx =>
    simp only [am_sim] at h
    obtain rfl := lenE 3 hg
    split at h
    · rename_i x9 ho
      obtain ⟨m1, m2, m3⟩ := hmx _ _ _ _ _ h
      exact am_new_W hC' hI' ho m1 m2 m3 hd (fun H1 hI1 => hk _ _ _ _ _ _ _ _ h hI1)
    · cases h
  case newarray ty =>
    simp only [am_sim] at h
    obtain rfl := lenE 2 hg
    split at h
    · rename_i n st'
      split at h
      · cases h
      · rename_i h0
        split at h
        · cases h
        · rename_i hbig
          split at h
          · obtain ⟨m1, m2, m3⟩ := hmx _ _ _ _ _ h
            exact am_newa_W hC' hI' (Or.inl ⟨rfl, rfl⟩) h0 hbig m1 m2 m3 hd (fun H1 hI1 => hk _ _ _ _ _ _ _ _ h hI1)
          · obtain ⟨m1, m2, m3⟩ := hmx _ _ _ _ _ h
            exact am_newa_W hC' hI' (Or.inr ⟨rfl, rfl⟩) h0 hbig m1 m2 m3 hd (fun H1 hI1 => hk _ _ _ _ _ _ _ _ h hI1)
          · cases h
    · cases h
  case anewarray idx =>
    simp only [am_sim] at h
    obtain rfl := lenE 3 hg
    split at h
    · rename_i n st' pl hnl
      split at h
      · cases h
      · rename_i h0
        split at h
        · cases h
        · rename_i hbig
          obtain ⟨m1, m2, m3⟩ := hmx _ _ _ _ _ h
          exact am_newq_W hC' hI' hnl h0 hbig m1 m2 m3 hd (fun H1 hI1 => hk _ _ _ _ _ _ _ _ h hI1)
    · cases h
  case invokespecial idx =>
    simp only [am_sim, cond_eq_ite] at h
    obtain rfl := lenE 3 hg
    split at h
    · rename_i q st' j9 pl h9 hf
      split at h
      · rename_i hcnd
        simp only [Bool.and_eq_true] at hcnd
        have h1 := Nat.le_of_ble_eq_true hcnd.1
        have h2 := Nat.le_of_ble_eq_true hcnd.2
        have hEq : E q = some (B + q) := by rw [hE]; exact am_Ein (Nat.lt_succ_of_le h2)
        show W p l e R s m args below meth c H locs (G.length - N0) (am_sz G - S0) Q (F0 m pc LS (va_rf (E q) :: st'.map (am_cv E)))
        rw [hEq]
        have hlink : Cond.methodLink (am_rn o) idx objectInit ∈ am_tb := am_word_of (am_cl9 hf).1
        have hsum : ((st'.map (am_cv E)).map fun v => v.category).sum = st'.length := am_catsum E st'
        exact W.objInit hx hb hown (hts _ hlink) (hts _ (am_word_of (i := 83) (by decide +kernel))) (hts _ (am_word_of (i := 84) (by decide +kernel))) rfl (by rw [hml]; exact hl.1) rfl hd (by omega) (by rw [hsum]; show 2 * 0 + _ + 12 ≤ _; omega) (hk _ _ _ _ _ _ _ _ h hI')
      · cases h
    · cases h
  case invokestatic idx =>
    simp only [am_sim, cond_eq_ite] at h
    obtain rfl := lenE 3 hg
    split at h
    · rename_i n dp b9 sp a9 st' j9 pl h9 hf
      split at h
      · rename_i na ra nb rb ha hb9
        split at h
        · rename_i hcnd
          have h1 := Nat.le_of_ble_eq_true hcnd
          split at h
          · cases h
          · split at h
            · cases h
            · split at h
              · cases h
              · split at h
                · split at h
                  · rename_i q1 q2 q3 q4 q5
                    exact am_cpy_W hC' hI' hf (by omega) ha hb9 q1 q2 q3 q4 q5 h1 hd (fun H1 locs1 hI1 => hk _ _ _ _ _ _ _ _ h hI1)
                  · cases h
                · cases h
        · cases h
      · cases h
    · cases h
  case iadd =>
    simp only [am_sim, am_bin] at h
    obtain rfl := lenE 1 hg
    split at h
    · exact lv_iadd hx hb hd (hk _ _ _ _ _ _ _ _ h hI')
    · cases h
  case isub =>
    simp only [am_sim, am_bin] at h
    obtain rfl := lenE 1 hg
    split at h
    · exact lv_isub hx hb hd (hk _ _ _ _ _ _ _ _ h hI')
    · cases h
  case imul =>
    simp only [am_sim, am_bin] at h
    obtain rfl := lenE 1 hg
    split at h
    · exact lv_imul hx hb hd (hk _ _ _ _ _ _ _ _ h hI')
    · cases h
  case iand =>
    simp only [am_sim, am_bin] at h
    obtain rfl := lenE 1 hg
    split at h
    · exact lv_iand hx hb hd (hk _ _ _ _ _ _ _ _ h hI')
    · cases h
  case ior =>
    simp only [am_sim, am_bin] at h
    obtain rfl := lenE 1 hg
    split at h
    · exact lv_ior hx hb hd (hk _ _ _ _ _ _ _ _ h hI')
    · cases h
  case ixor =>
    simp only [am_sim, am_bin] at h
    obtain rfl := lenE 1 hg
    split at h
    · exact lv_ixor hx hb hd (hk _ _ _ _ _ _ _ _ h hI')
    · cases h
  case ishl =>
    simp only [am_sim, am_bin] at h
    obtain rfl := lenE 1 hg
    split at h
    · exact lv_ishl hx hb hd (hk _ _ _ _ _ _ _ _ h hI')
    · cases h
  case ishr =>
    simp only [am_sim, am_bin] at h
    obtain rfl := lenE 1 hg
    split at h
    · exact lv_ishr hx hb hd (hk _ _ _ _ _ _ _ _ h hI')
    · cases h
  case iushr =>
    simp only [am_sim, am_bin] at h
    obtain rfl := lenE 1 hg
    split at h
    · exact lv_iushr hx hb hd rfl (hk _ _ _ _ _ _ _ _ h hI')
    · cases h
  case idiv =>
    simp only [am_sim, am_bin] at h
    obtain rfl := lenE 1 hg
    split at h
    · rename_i y9 x9 st'
      by_cases hz : y9 = 0
      · rw [if_pos hz] at h
        cases h
      · rw [if_neg hz] at h
        exact lv_idiv hx hb hd hz (hk _ _ _ _ _ _ _ _ h hI')
    · cases h
  case irem =>
    simp only [am_sim, am_bin] at h
    obtain rfl := lenE 1 hg
    split at h
    · rename_i y9 x9 st'
      by_cases hz : y9 = 0
      · rw [if_pos hz] at h
        cases h
      · rw [if_neg hz] at h
        exact lv_irem hx hb hd hz (hk _ _ _ _ _ _ _ _ h hI')
    · cases h
  all_goals (simp only [am_sim, am_bin] at h; split at h <;> cases h)
end STS
