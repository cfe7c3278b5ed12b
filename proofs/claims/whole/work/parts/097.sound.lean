/-! every run of the abstract machine is a run of the machine -/
section SND
variable {l : Launch} {B b L : Nat} {xs : Nat → Int32} {D : va_G} {ac : FieldType → ClassId} {adK adV : Nat → Nat} {fm : Option Nat} {E : Nat → Option Nat}
/-- an answer -/
def am_Rt (j : Nat) (r : Option Value) (pc : Nat) : Prop := (∃ v, r = some (.int v) ∧ decode (am_by j) pc = .ok (.ireturn, 1) ∧ am_rt (am_m j).2.2.2.2.1 v (some ()) = some ()) ∨
  (∃ q, r = some (.ref q) ∧ decode (am_by j) pc = .ok (.areturn, 1) ∧ ∃ n, am_at (am_m j).1 pc = some (.areturn, n)) ∨ (r = none ∧ decode (am_by j) pc = .ok (.return_, 1) ∧ ∃ n, am_at (am_m j).1 pc = some (.return_, n))
theorem am_rt_some {α : Type} {ty : Option FieldType} {v : Int32} {x : Option α} {r : α} (h : am_rt ty v x = some r) : am_rt ty v (some ()) = some () ∧ x = some r := by
  unfold am_rt at h ⊢
  split at h
  · exact ⟨rfl, h⟩
  · split at h
    · rename_i q
      exact ⟨if_pos q, h⟩
    · cases h
  · split at h
    · rename_i q
      exact ⟨if_pos q, h⟩
    · cases h
  · cases h
/-- the walk, by fuel -/
def am_WS (l : Launch) (B b L : Nat) (xs : Nat → Int32) (D : va_G) (ac : FieldType → ClassId) (adK adV : Nat → Nat) (fm : Option Nat) (E : Nat → Option Nat) (n : Nat) : Prop :=
  ∀ (j pc : Nat) (ls : am_L) (st : List Value) (G : am_G) (f : am_M) (r : Option Value) (G' : am_G) (f' : am_M), am_run (L, xs) n j pc ls st G f = some (r, G', f') → am_dok (am_by j) (am_m j).1 (am_m j).2.1 (am_ini j) = true →
  ∀ (p : Program) (e : Env) (R : Room) (s : State) (m : MethodId) (args : Array Value) (below : List Frame) (meth : Method) (c : Code) (H : Heap) (locs : List Loc) (LS : Array Slot) (N0 S0 : Nat) (Q : State → Prop),
  am_Cx p R s m args meth c B b L xs D ac adK adV fm E (am_by j) (am_m j).2.1 (am_m j).2.2.2.2.2 (am_m j).2.2.2.1 N0 (am_ini j) → am_Pt s B D ac E (am_m j).2.2.2.1 N0 S0 ls G f H locs LS → G'.length ≤ 1000 → G'.length - N0 ≤ R.cells → am_sz G' - S0 ≤ R.slots →
  (∀ (pc' : Nat) (ls' : am_L) (H' : Heap) (locs' : List Loc) (LS' : Array Slot), am_Rt j r pc' → am_Pt s B D ac E (am_m j).2.2.2.1 N0 S0 ls' G' f' H' locs' LS' → W p l e R s m args below meth c H' locs' (G'.length - N0) (am_sz G' - S0) Q (F0 m pc' LS' (r.toList.map (am_cv E)))) →
  W p l e R s m args below meth c H locs (G.length - N0) (am_sz G - S0) Q (F0 m pc LS (st.map (am_cv E)))
theorem am_met {n j : Nat} {As : List Value} {G : am_G} {f : am_M} {r : Option Value} {G' : am_G} {f' : am_M} (hE : E = am_E B b adK adV fm) (hn : am_WS l B b L xs D ac adK adV fm E n) (hj : j < 172) (hrun : am_run (L, xs) n j 0 (am_ent As (am_m j).2.2.2.1) [] G f = some (r, G', f')) (hAs : As.length ≤ (am_m j).2.2.2.1) (hG' : G'.length ≤ 1000) : am_Mt l B b L xs D ac adK adV fm E j As G f r G' f' := by
  obtain ⟨w1, w2, w3, w4, w5, w6, w7, w8⟩ := am_mf hj
  have hgr := am_run_G _ _ _ _ _ _ _ _ _ _ hrun
  refine va_MetF (cc := am_by j) (maxL := (am_m j).2.2.2.1) (ret := (am_m j).2.2.2.2.1) w4 rfl ?_
  intro p e s m args below meth c s₁ Bd hml hv
  obtain ⟨rfl, hSt, hP, hsz⟩ := hv
  have hx := Bd.exec
  have hb := Bd.bytes
  have hr := Bd.returns
  have hlocks : meth.locks = false := Bd.notSynchronized
  have hts0 := atoms_spec (ws := .code (am_y j) (am_by j) (am_m j).2.2.2.1 (am_m j).2.2.2.2.1 :: am_tb) Bd.pre
  have hts : ∀ w ∈ am_tb, w.before ((As.map (am_cv E)).toArray) s = true := fun w hw => hts0 w (List.mem_cons_of_mem _ hw)
  have hown : s.vm.findClass (am_rn (am_m j).2.1) = some m.cls := by rw [← w3]; exact findClass_of_methodNamed Bd.named
  have hin : meth.name = (am_y j).name := (name_of_methodNamed Bd.named Bd.method).1
  have hl := lv_entry (As.map (am_cv E)) (n := (am_m j).2.2.2.1) (by rw [am_sl_len]; exact hAs)
  rw [lg_entry_eq]
  generalize (lg_sl (As.map (am_cv E)) ++ List.replicate ((am_m j).2.2.2.1 - (lg_sl (As.map (am_cv E))).length) Slot.unset).toArray = LS at hl ⊢
  have hl' : lv_has LS (am_m j).2.2.2.1 (am_asc E 0 (am_ent As (am_m j).2.2.2.1)) := by
    unfold am_ent
    rw [am_asc_ent]
    exact hl
  have key := hn j 0 (am_ent As (am_m j).2.2.2.1) [] G f r G' f' hrun (am_dc j hj) p e (am_rm G G' (am_m j).2.2.2.2.2) s m (As.map (am_cv E)).toArray below meth c s.heap [] LS G.length (am_sz G) (MQ below (am_Qc B D ac E r G' f') (As.map (am_cv E)).toArray s (G'.length - G.length) (am_sz G' - am_sz G) (fun q => B ≤ q))
    ⟨hx, hb, hml, hown, hts, fun hi => by rw [hin]; simpa [am_ini] using hi, hSt, Nat.le_refl _, Nat.le_refl _, hsz, hE⟩ ⟨hP, va_S.rf, hl', ?_, Nat.le_refl _, Nat.le_refl _, by omega⟩ hG' (Nat.le_refl _) (Nat.le_refl _) ?_
  · rw [Nat.sub_self, Nat.sub_self] at key
    exact key
  · unfold am_ent
    rw [List.length_append, List.length_map, List.length_replicate]
    omega
  · intro pc' ls' H' locs' LS' hRt hI1
    obtain ⟨hP1, hS1, -⟩ := hI1
    have hq : ∀ v : Option Value, v = r.map (am_cv E) → ∀ t : State, t.heap = H' → s.WarmedH t.vm → am_Qc B D ac E r G' f' (As.map (am_cv E)).toArray s (.returned v) t := fun v hv t ht _ => ⟨by rw [hv], by rw [ht]; exact hP1, hS1.F ht⟩
    rcases hRt with ⟨v, rfl, hd, hrt⟩ | ⟨q, rfl, hd, n9, hat⟩ | ⟨rfl, hd, n9, hat⟩
    · unfold am_rt at hrt
      split at hrt
      · rename_i ht
        exact W.iret hx hb (hr.trans ht) (hq _ rfl) hS1.2.2 hd hlocks
      · rename_i ht
        split at hrt
        · rename_i h01
          exact W.zret (ty := .boolean) hx hb (hr.trans ht) (by rcases h01 with rfl | rfl <;> rfl) (hq _ rfl) hS1.2.2 hd hlocks
        · cases hrt
      · rename_i t z1 z2 ht
        split at hrt
        · rename_i hna
          exact W.zret (ty := t) hx hb (hr.trans ht) hna (hq _ rfl) hS1.2.2 hd hlocks
        · cases hrt
      · cases hrt
    · obtain ⟨t, ht, hk⟩ := (am_rts_at (List.all_eq_true.mp am_rts_all j (List.mem_range.mpr hj)) hat).1 rfl
      refine W.aret (rt := t) hx hb (hr.trans ht) ?_ (am_cv_ref E q) (hq _ rfl) hS1.2.2 hd hlocks
      cases t <;> first | exact Or.inl ⟨_, rfl⟩ | exact Or.inr ⟨_, rfl⟩ | cases hk
    · have ht := (am_rts_at (List.all_eq_true.mp am_rts_all j (List.mem_range.mpr hj)) hat).2 rfl
      exact W.vret hx hb (hr.trans ht) (hq _ rfl) hS1.2.2 hd hlocks
theorem am_toInt_int {k : Int} (h1 : -2147483648 ≤ k) (h2 : k ≤ 2147483647) : (am_int k).toInt = k := by
  rw [am_int_eq]
  exact Int32.toInt_ofInt_of_le h1 (by omega)
set_option maxHeartbeats 4000000 in
theorem am_run_W (hE : E = am_E B b adK adV fm) : ∀ n, am_WS l B b L xs D ac adK adV fm E n := by
  intro n
  induction n with
  | zero => intro j pc ls st G f r G' f' h; simp [am_run] at h
  | succ n ih =>
    intro j pc ls st G f r G' f' h hdk p e R s m args below meth c H locs LS N0 S0 Q hC hI hG' hc1 hs1 hret
    have h' : am_one (L, xs) (am_run (L, xs) n) j pc ls st G f = some (r, G', f') := h
    unfold am_one at h'
    have hat : ∃ i len, am_at (am_m j).1 pc = some (i, len) := by
      cases hw : am_at (am_m j).1 pc with
      | none => simp only [hw] at h'; cases h'
      | some x => exact ⟨x.1, x.2, rfl⟩
    obtain ⟨i, len, hat⟩ := hat
    obtain ⟨hd, hg⟩ := am_dok_at hdk hat
    have hgo : ∀ {pc' ls' st' G1 f1 H1 locs1 LS1}, am_run (L, xs) n j pc' ls' st' G1 f1 = some (r, G', f') → am_Pt s B D ac E (am_m j).2.2.2.1 N0 S0 ls' G1 f1 H1 locs1 LS1 → W p l e R s m args below meth c H1 locs1 (G1.length - N0) (am_sz G1 - S0) Q (F0 m pc' LS1 (st'.map (am_cv E))) :=
      fun h1 hI1 => ih j _ _ _ _ _ r G' f' h1 hdk p e R s m args below meth c _ _ _ N0 S0 Q hC hI1 hG' hc1 hs1 hret
    simp only [hat] at h'
    have hx := hC.1
    have hb := hC.2.1
    have gen : am_gen (L, xs) (am_run (L, xs) n) j (am_m j).2.1 (am_m j).2.2.2.2.2 i len pc ls st G f = some (r, G', f') → W p l e R s m args below meth c H locs (G.length - N0) (am_sz G - S0) Q (F0 m pc LS (st.map (am_cv E))) := by
      intro hgn
      unfold am_gen at hgn
      split at hgn
      · rename_i j' As rest hcal
        cases hr : am_run (L, xs) n j' 0 (am_ent As (am_m j').2.2.2.1) [] G f with
        | none => rw [hr] at hgn; cases hgn
        | some y =>
          obtain ⟨r1, G1, f1⟩ := y
          rw [hr] at hgn
          have hgn' : am_run (L, xs) n j (pc + len) ls (r1.toList ++ rest) G1 f1 = some (r, G', f') := hgn
          have g1 := am_run_G _ _ _ _ _ _ _ _ _ _ hr
          have g2 := am_run_G _ _ _ _ _ _ _ _ _ _ hgn'
          have hN := hI.2.2.2.2.1
          have hS0 := hI.2.2.2.2.2.1
          have hjj := am_cal_lt hcal
          exact am_call_W hC hI hd hg hcal (am_met hE ih hjj.1 hr (by rw [hjj.2]; exact (am_mf hjj.1).2.2.2.2.2.2.1) (by omega)) g1.1 g1.2 (by omega) (by omega) (by omega) (fun H1 locs1 hI1 => hgo hgn' hI1)
      · refine am_sim_W hC hI hd hg hgn (fun pc' ls' st' G1 f1 h1 => ?_) (fun pc' ls' st' G1 f1 H1 locs1 LS1 h1 hI1 => hgo h1 hI1)
        have g2 := am_run_G _ _ _ _ _ _ _ _ _ _ h1
        omega
    cases i
    case if_icmp cd off =>
      dsimp only at h'
      split at h'
      · rename_i y x st'
        simp only [am_good, Bool.and_eq_true, am_jmp, decide_eq_true_eq] at hg
        have hl3 : len = 3 := Nat.eq_of_beq_eq_true hg.1
        subst hl3
        have htg : (pc : Int) + off = (am_tg pc off : Int) := by unfold am_tg; omega
        cases cd <;> simp only [am_br] at h'
        · refine lv_icmp_eq (tgt := am_tg pc off) hx hb hd htg (fun hc => ?_) (fun hc => ?_)
          · rw [if_pos hc] at h'; exact hgo h' hI
          · rw [if_neg hc] at h'; exact hgo h' hI
        · refine lv_icmp_ne (tgt := am_tg pc off) hx hb hd htg (fun hc => ?_) (fun hc => ?_)
          · rw [if_neg hc] at h'; exact hgo h' hI
          · rw [if_pos hc] at h'; exact hgo h' hI
        · refine lv_icmp_lt (tgt := am_tg pc off) hx hb hd htg (fun hc => ?_) (fun hc => ?_)
          · rw [if_pos hc] at h'; exact hgo h' hI
          · rw [if_neg hc] at h'; exact hgo h' hI
        · refine lv_icmp_ge (tgt := am_tg pc off) hx hb hd htg (fun hc => ?_) (fun hc => ?_)
          · rw [if_neg (Int32.not_lt.mpr hc)] at h'; exact hgo h' hI
          · rw [if_pos (Int32.not_le.mp hc)] at h'; exact hgo h' hI
        · refine lv_icmp_gt (tgt := am_tg pc off) hx hb hd htg (fun hc => ?_) (fun hc => ?_)
          · rw [if_pos hc] at h'; exact hgo h' hI
          · rw [if_neg hc] at h'; exact hgo h' hI
        · refine lv_icmp_le (tgt := am_tg pc off) hx hb hd htg (fun hc => ?_) (fun hc => ?_)
          · rw [if_neg (Int32.not_lt.mpr hc)] at h'; exact hgo h' hI
          · rw [if_pos (Int32.not_le.mp hc)] at h'; exact hgo h' hI
      · cases h'
    case ifCond cd off =>
      dsimp only at h'
      split at h'
      · rename_i x st'
        simp only [am_good, Bool.and_eq_true, am_jmp, decide_eq_true_eq] at hg
        have hl3 : len = 3 := Nat.eq_of_beq_eq_true hg.1
        subst hl3
        have htg : (pc : Int) + off = (am_tg pc off : Int) := by unfold am_tg; omega
        cases cd <;> simp only [am_br] at h'
        · refine lv_if_eq (tgt := am_tg pc off) hx hb hd htg (fun hc => ?_) (fun hc => ?_)
          · rw [if_pos hc] at h'; exact hgo h' hI
          · rw [if_neg hc] at h'; exact hgo h' hI
        · refine lv_if_ne (tgt := am_tg pc off) hx hb hd htg (fun hc => ?_) (fun hc => ?_)
          · rw [if_neg hc] at h'; exact hgo h' hI
          · rw [if_pos hc] at h'; exact hgo h' hI
        · refine lv_if_lt (tgt := am_tg pc off) hx hb hd htg (fun hc => ?_) (fun hc => ?_)
          · rw [if_pos hc] at h'; exact hgo h' hI
          · rw [if_neg hc] at h'; exact hgo h' hI
        · refine lv_if_ge (tgt := am_tg pc off) hx hb hd htg (fun hc => ?_) (fun hc => ?_)
          · rw [if_neg (Int32.not_lt.mpr hc)] at h'; exact hgo h' hI
          · rw [if_pos (Int32.not_le.mp hc)] at h'; exact hgo h' hI
        · refine lv_if_gt (tgt := am_tg pc off) hx hb hd htg (fun hc => ?_) (fun hc => ?_)
          · rw [if_pos hc] at h'; exact hgo h' hI
          · rw [if_neg hc] at h'; exact hgo h' hI
        · refine lv_if_le (tgt := am_tg pc off) hx hb hd htg (fun hc => ?_) (fun hc => ?_)
          · rw [if_neg (Int32.not_lt.mpr hc)] at h'; exact hgo h' hI
          · rw [if_pos (Int32.not_le.mp hc)] at h'; exact hgo h' hI
      · cases h'
    case tableswitch d lo hi offs =>
      dsimp only at h'
      split at h'
      · rename_i x st'
        simp only [am_good, Bool.and_eq_true, am_jmp, decide_eq_true_eq, List.all_eq_true] at hg
        obtain ⟨q1, q2, q3, q4, q5⟩ := hg
        rcases am_swr_or _ _ h' with ⟨k, off, k1, k2, k3⟩ | ⟨k1, k2⟩
        · have hlt : k < offs.toList.length := (List.getElem?_eq_some_iff.mp k1).1
          have hlt' : k < offs.size := by simpa using hlt
          have hti : x.toInt = lo + k := by
            rw [k2]
            exact am_toInt_int (by omega) (by omega)
          have hoff := q2 off (List.mem_of_getElem? k1)
          refine lv_tableIn (tgt := am_tg pc off) (off := off) hx hb hd (by omega) (by omega) ?_ (by unfold am_tg; omega) (hgo k3 hI)
          rw [show (x.toInt - lo).toNat = k by omega, ← Array.getElem?_toList]
          exact k1
        · refine lv_tableOut (tgt := am_tg pc d) hx hb hd ?_ (by unfold am_tg; omega) (hgo k2 hI)
          apply Decidable.byContradiction
          intro hcon
          have hlt : (x.toInt - lo).toNat < offs.toList.length := by simp; omega
          refine k1 _ hlt ?_
          rw [am_int_eq, show lo + ((x.toInt - lo).toNat : Int) = x.toInt by omega]
          exact (Int32.ofInt_toInt x).symm
      · cases h'
    case ireturn =>
      dsimp only at h'
      split at h'
      · rename_i v
        obtain ⟨h1, h2⟩ := am_rt_some h'
        cases h2
        have hl1 : len = 1 := Nat.eq_of_beq_eq_true hg
        subst hl1
        exact hret pc ls H locs LS (Or.inl ⟨v, rfl, hd, h1⟩) hI
      · cases h'
    case areturn =>
      dsimp only at h'
      split at h'
      · rename_i q
        cases h'
        have hl1 : len = 1 := Nat.eq_of_beq_eq_true hg
        subst hl1
        exact hret pc ls H locs LS (Or.inr (Or.inl ⟨q, rfl, hd, _, hat⟩)) hI
      · cases h'
    case return_ =>
      dsimp only at h'
      split at h'
      · cases h'
        have hl1 : len = 1 := Nat.eq_of_beq_eq_true hg
        subst hl1
        exact hret pc ls H locs LS (Or.inr (Or.inr ⟨rfl, hd, _, hat⟩)) hI
      · cases h'
    all_goals exact gen h'
end SND
