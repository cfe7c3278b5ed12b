set_option maxHeartbeats 400000 in
set_option maxRecDepth 100000 in
theorem lk_X0_greatestGroup_21 {X : am_X} {K : Int32 → Int32 → Int32 → am_M → Option (Int32 × am_M)} (hK : ∀ (x1 x2 x3 : Int32) (f : am_M) (v' : Int32) (f' : am_M), K x1 x2 x3 f = some (v', f') → ∀ d4 d5 : Option Value, am_Ev X 6 4 [some (.ref 79), some (.int x1), some (.int x2), some (.int x3), d4, d5] [] f (some (.int v')) f') : ∀ (n : Nat) (x1 x2 x3 x4 x5 : Int32) (f : am_M) (v' : Int32) (f' : am_M), D_X0_greatestGroup_21 K n x1 x2 x3 x4 x5 f = some (v', f') → am_Ev X 6 21 [some (.ref 79), some (.int x1), some (.int x2), some (.int x3), some (.int x4), some (.int x5)] [] f (some (.int v')) f'
  | 0, _, _, _, _, _, _, _, _, h => by cases h
  | n + 1, x1, x2, x3, x4, x5, f, v', f', h => by
    rw [D_X0_greatestGroup_21] at h
    refine am_Ew.start [21, 81] 30 (am_Ew.conv (fun k => (if x5 < (f 3 2) then (if (((x1 >>> (x3 &&& 31)) &&& (x1 >>> (x5 &&& 31))) &&& 1) = 1 then (am_chk x3 6 (am_chk x5 6 (if (f 82 x3.toNatClampNeg) = (f 82 x5.toNatClampNeg) then (k 21 [some (.ref 79), some (.int x1), some (.int x2), some (.int x3), some (.int (x4 + 1)), some (.int (x5 + 1))] [] am_G0 f) else (k 21 [some (.ref 79), some (.int x1), some (.int x2), some (.int x3), some (.int x4), some (.int (x5 + 1))] [] am_G0 f)))) else (k 21 [some (.ref 79), some (.int x1), some (.int x2), some (.int x3), some (.int x4), some (.int (x5 + 1))] [] am_G0 f)) else (k 81 [some (.ref 79), some (.int x1), some (.int x2), some (.int x3), some (.int x4), some (.int x5)] [.int x4, .int x2] am_G0 f))) (fun k => rfl) ?_)
    refine am_Ew.ite h (fun _ h => ?_) (fun _ h => ?_)
    · refine am_Ew.ite h (fun _ h => ?_) (fun _ h => ?_)
      · refine am_Ew.chk h (fun h => ?_)
        refine am_Ew.chk h (fun h => ?_)
        refine am_Ew.ite h (fun _ h => ?_) (fun _ h => ?_)
        · exact am_Ew.run (lk_X0_greatestGroup_21 hK n _ _ _ _ _ _ _ _ h )
        · exact am_Ew.run (lk_X0_greatestGroup_21 hK n _ _ _ _ _ _ _ _ h )
      · exact am_Ew.run (lk_X0_greatestGroup_21 hK n _ _ _ _ _ _ _ _ h )
    · obtain ⟨v1, f1, h1, h⟩ := am_bI_some h
      refine am_Ew.run (am_Ev.call (fun n => rfl) (lk_J9_max_7cf53 h1) ?_)
      refine am_Ew.start [4] 3 (am_Ew.conv (fun k => (k 4 [some (.ref 79), some (.int x1), some (.int v1), some (.int (x3 + 1)), some (.int x4), some (.int x5)] [] am_G0 f1)) (fun k => rfl) ?_)
      exact am_Ew.run (hK _ _ _ _ _ _ h _ _ )
set_option maxHeartbeats 400000 in
set_option maxRecDepth 100000 in
theorem lk_X0_greatestGroup_4 {X : am_X} : ∀ (n : Nat) (x1 x2 x3 : Int32) (f : am_M) (v' : Int32) (f' : am_M), D_X0_greatestGroup_4 n x1 x2 x3 f = some (v', f') → ∀ d4 d5 : Option Value, am_Ev X 6 4 [some (.ref 79), some (.int x1), some (.int x2), some (.int x3), d4, d5] [] f (some (.int v')) f'
  | 0, _, _, _, _, _, _, h, _, _ => by cases h
  | n + 1, x1, x2, x3, f, v', f', h, d4, d5 => by
    rw [D_X0_greatestGroup_4] at h
    refine am_Ew.start [21] 9 (am_Ew.conv (fun k => (if x3 < (f 3 2) then (k 21 [some (.ref 79), some (.int x1), some (.int x2), some (.int x3), some (.int 0), some (.int 0)] [] am_G0 f) else (some (some (.int x2), am_G0, f)))) (fun k => rfl) ?_)
    refine am_Ew.ite h (fun _ h => ?_) (fun _ h => ?_)
    · exact am_Ew.run (lk_X0_greatestGroup_21 (fun y1 y2 y3 f9 v9 f8 h9 e0 e1 => lk_X0_greatestGroup_4 n y1 y2 y3 f9 v9 f8 h9 e0 e1) _ _ _ _ _ _ _ _ _ h )
    · exact am_Ew.retI h
set_option maxHeartbeats 400000 in
set_option maxRecDepth 100000 in
theorem lk_X0_greatestGroup {X : am_X} {a1 : Int32} {f f' : am_M} {v' : Int32} (h : D_X0_greatestGroup a1 f = some (v', f')) : am_Ev X 6 0 [some (.ref 79), some (.int a1), none, none, none, none] [] f (some (.int v')) f' := by
  rw [D_X0_greatestGroup] at h
  refine am_Ew.start [4] 4 (am_Ew.conv (fun k => (k 4 [some (.ref 79), some (.int a1), some (.int 0), some (.int 0), none, none] [] am_G0 f)) (fun k => rfl) ?_)
  exact am_Ew.run (lk_X0_greatestGroup_4 _ _ _ _ _ _ _ h _ _ )
set_option maxHeartbeats 400000 in
set_option maxRecDepth 100000 in
theorem lk_X0_start_10 {X : am_X} : ∀ (n : Nat) (x2 : Int32) (f : am_M) (f' : am_M), D_X0_start_10 n x2 f = some f' → ∀ d1 : Option Value, am_Ev X 2 10 [some (.ref 79), d1, some (.int x2)] [] f none f'
  | 0, _, _, _, h, _ => by cases h
  | n + 1, x2, f, f', h, d1 => by
    rw [D_X0_start_10] at h
    refine am_Ew.start [10] 10 (am_Ew.conv (fun k => (if x2 < 3 then (am_chk x2 3 (k 10 [some (.ref 79), d1, some (.int (x2 + 1))] [] am_G0 (am_wr f 80 x2.toNatClampNeg 0))) else (some (none, am_G0, f)))) (fun k => rfl) ?_)
    refine am_Ew.ite h (fun _ h => ?_) (fun _ h => ?_)
    · refine am_Ew.chk h (fun h => ?_)
      exact am_Ew.run (lk_X0_start_10  n _ _ _ h _ )
    · exact am_Ew.retV h
set_option maxHeartbeats 400000 in
set_option maxRecDepth 100000 in
theorem lk_X0_start {X : am_X} {f f' : am_M} (h : D_X0_start f = some f') : am_Ev X 2 0 [some (.ref 79), some (.ref 11), none] [] f none f' := by
  rw [D_X0_start] at h
  refine am_Ew.start [5] 3 (am_Ew.conv (fun k => (k 5 [some (.ref 79), some (.ref 11), none] [.ref 11, .ref 81] am_G0 f)) (fun k => rfl) ?_)
  obtain ⟨f1, h1, h⟩ := am_bV_some h
  refine am_Ew.run (am_Ev.call (fun n => rfl) (lk_X4_copyFrom_81_11 h1) ?_)
  refine am_Ew.start [10] 2 (am_Ew.conv (fun k => (k 10 [some (.ref 79), some (.ref 11), some (.int 0)] [] am_G0 f1)) (fun k => rfl) ?_)
  exact am_Ew.run (lk_X0_start_10 _ _ _ _ h _ )
set_option maxHeartbeats 400000 in
set_option maxRecDepth 100000 in
theorem lk_X2_remember {X : am_X} {a2 : Int32} {f f' : am_M} (h : D_X2_remember a2 f = some f') : am_Ev X 9 0 [some (.ref 18), some (.ref 11), some (.int a2)] [] f none f' := by
  rw [D_X2_remember] at h
  refine am_Ew.start [21] 12 (am_Ew.conv (fun k => (k 21 [some (.ref 18), some (.ref 11), some (.int a2)] [.int (((f 18 2) + 1) - ((f 18 2) + 1) / 6 * 6), .ref 19] am_G0 (am_wr f 18 2 (((f 18 2) + 1) - ((f 18 2) + 1) / 6 * 6)))) (fun k => rfl) ?_)
  refine am_Ew.run (am_Ev.six h (fun h => ?_) (fun h => ?_) (fun h => ?_) (fun h => ?_) (fun h => ?_) (fun h => ?_))
  · refine am_Ew.start [23] 2 (am_Ew.conv (fun k => (k 23 [some (.ref 18), some (.ref 11), some (.int a2)] [.ref 11, .ref 21] am_G0 (am_wr f 18 2 (((f 18 2) + 1) - ((f 18 2) + 1) / 6 * 6)))) (fun k => rfl) ?_)
    obtain ⟨f1, h1, h⟩ := am_bV_some h
    refine am_Ew.run (am_Ev.call (fun n => rfl) (lk_X4_copyFrom_21_11 h1) ?_)
    refine am_Ew.start [45] 12 (am_Ew.conv (fun k => (am_chk (f1 18 2) 6 (k 45 [some (.ref 18), some (.ref 11), some (.int a2)] [.int 6, .int ((f1 18 3) + 1), .ref 18] am_G0 (am_wr f1 20 (f1 18 2).toNatClampNeg a2)))) (fun k => rfl) ?_)
    refine am_Ew.chk h (fun h => ?_)
    obtain ⟨v2, f2, h1, h⟩ := am_bI_some h
    refine am_Ew.run (am_Ev.call (fun n => rfl) (lk_J9_min_7cf53 h1) ?_)
    refine am_Ew.start [] 2 (am_Ew.conv (fun k => (some (none, am_G0, (am_wr f2 18 3 v2)))) (fun k => rfl) ?_)
    exact am_Ew.retV h
  · refine am_Ew.start [23] 2 (am_Ew.conv (fun k => (k 23 [some (.ref 18), some (.ref 11), some (.int a2)] [.ref 11, .ref 28] am_G0 (am_wr f 18 2 (((f 18 2) + 1) - ((f 18 2) + 1) / 6 * 6)))) (fun k => rfl) ?_)
    obtain ⟨f3, h1, h⟩ := am_bV_some h
    refine am_Ew.run (am_Ev.call (fun n => rfl) (lk_X4_copyFrom_28_11 h1) ?_)
    refine am_Ew.start [45] 12 (am_Ew.conv (fun k => (am_chk (f3 18 2) 6 (k 45 [some (.ref 18), some (.ref 11), some (.int a2)] [.int 6, .int ((f3 18 3) + 1), .ref 18] am_G0 (am_wr f3 20 (f3 18 2).toNatClampNeg a2)))) (fun k => rfl) ?_)
    refine am_Ew.chk h (fun h => ?_)
    obtain ⟨v4, f4, h1, h⟩ := am_bI_some h
    refine am_Ew.run (am_Ev.call (fun n => rfl) (lk_J9_min_7cf53 h1) ?_)
    refine am_Ew.start [] 2 (am_Ew.conv (fun k => (some (none, am_G0, (am_wr f4 18 3 v4)))) (fun k => rfl) ?_)
    exact am_Ew.retV h
  · refine am_Ew.start [23] 2 (am_Ew.conv (fun k => (k 23 [some (.ref 18), some (.ref 11), some (.int a2)] [.ref 11, .ref 35] am_G0 (am_wr f 18 2 (((f 18 2) + 1) - ((f 18 2) + 1) / 6 * 6)))) (fun k => rfl) ?_)
    obtain ⟨f5, h1, h⟩ := am_bV_some h
    refine am_Ew.run (am_Ev.call (fun n => rfl) (lk_X4_copyFrom_35_11 h1) ?_)
    refine am_Ew.start [45] 12 (am_Ew.conv (fun k => (am_chk (f5 18 2) 6 (k 45 [some (.ref 18), some (.ref 11), some (.int a2)] [.int 6, .int ((f5 18 3) + 1), .ref 18] am_G0 (am_wr f5 20 (f5 18 2).toNatClampNeg a2)))) (fun k => rfl) ?_)
    refine am_Ew.chk h (fun h => ?_)
    obtain ⟨v6, f6, h1, h⟩ := am_bI_some h
    refine am_Ew.run (am_Ev.call (fun n => rfl) (lk_J9_min_7cf53 h1) ?_)
    refine am_Ew.start [] 2 (am_Ew.conv (fun k => (some (none, am_G0, (am_wr f6 18 3 v6)))) (fun k => rfl) ?_)
    exact am_Ew.retV h
  · refine am_Ew.start [23] 2 (am_Ew.conv (fun k => (k 23 [some (.ref 18), some (.ref 11), some (.int a2)] [.ref 11, .ref 42] am_G0 (am_wr f 18 2 (((f 18 2) + 1) - ((f 18 2) + 1) / 6 * 6)))) (fun k => rfl) ?_)
    obtain ⟨f7, h1, h⟩ := am_bV_some h
    refine am_Ew.run (am_Ev.call (fun n => rfl) (lk_X4_copyFrom_42_11 h1) ?_)
    refine am_Ew.start [45] 12 (am_Ew.conv (fun k => (am_chk (f7 18 2) 6 (k 45 [some (.ref 18), some (.ref 11), some (.int a2)] [.int 6, .int ((f7 18 3) + 1), .ref 18] am_G0 (am_wr f7 20 (f7 18 2).toNatClampNeg a2)))) (fun k => rfl) ?_)
    refine am_Ew.chk h (fun h => ?_)
    obtain ⟨v8, f8, h1, h⟩ := am_bI_some h
    refine am_Ew.run (am_Ev.call (fun n => rfl) (lk_J9_min_7cf53 h1) ?_)
    refine am_Ew.start [] 2 (am_Ew.conv (fun k => (some (none, am_G0, (am_wr f8 18 3 v8)))) (fun k => rfl) ?_)
    exact am_Ew.retV h
  · refine am_Ew.start [23] 2 (am_Ew.conv (fun k => (k 23 [some (.ref 18), some (.ref 11), some (.int a2)] [.ref 11, .ref 49] am_G0 (am_wr f 18 2 (((f 18 2) + 1) - ((f 18 2) + 1) / 6 * 6)))) (fun k => rfl) ?_)
    obtain ⟨f9, h1, h⟩ := am_bV_some h
    refine am_Ew.run (am_Ev.call (fun n => rfl) (lk_X4_copyFrom_49_11 h1) ?_)
    refine am_Ew.start [45] 12 (am_Ew.conv (fun k => (am_chk (f9 18 2) 6 (k 45 [some (.ref 18), some (.ref 11), some (.int a2)] [.int 6, .int ((f9 18 3) + 1), .ref 18] am_G0 (am_wr f9 20 (f9 18 2).toNatClampNeg a2)))) (fun k => rfl) ?_)
    refine am_Ew.chk h (fun h => ?_)
    obtain ⟨v10, f10, h1, h⟩ := am_bI_some h
    refine am_Ew.run (am_Ev.call (fun n => rfl) (lk_J9_min_7cf53 h1) ?_)
    refine am_Ew.start [] 2 (am_Ew.conv (fun k => (some (none, am_G0, (am_wr f10 18 3 v10)))) (fun k => rfl) ?_)
    exact am_Ew.retV h
  · refine am_Ew.start [23] 2 (am_Ew.conv (fun k => (k 23 [some (.ref 18), some (.ref 11), some (.int a2)] [.ref 11, .ref 56] am_G0 (am_wr f 18 2 (((f 18 2) + 1) - ((f 18 2) + 1) / 6 * 6)))) (fun k => rfl) ?_)
    obtain ⟨f11, h1, h⟩ := am_bV_some h
    refine am_Ew.run (am_Ev.call (fun n => rfl) (lk_X4_copyFrom_56_11 h1) ?_)
    refine am_Ew.start [45] 12 (am_Ew.conv (fun k => (am_chk (f11 18 2) 6 (k 45 [some (.ref 18), some (.ref 11), some (.int a2)] [.int 6, .int ((f11 18 3) + 1), .ref 18] am_G0 (am_wr f11 20 (f11 18 2).toNatClampNeg a2)))) (fun k => rfl) ?_)
    refine am_Ew.chk h (fun h => ?_)
    obtain ⟨v12, f12, h1, h⟩ := am_bI_some h
    refine am_Ew.run (am_Ev.call (fun n => rfl) (lk_J9_min_7cf53 h1) ?_)
    refine am_Ew.start [] 2 (am_Ew.conv (fun k => (some (none, am_G0, (am_wr f12 18 3 v12)))) (fun k => rfl) ?_)
    exact am_Ew.retV h
set_option maxHeartbeats 400000 in
set_option maxRecDepth 100000 in
theorem lk_X2_restore {X : am_X} {f f' : am_M} {v' : Int32} (h : D_X2_restore f = some (v', f')) : am_Ev X 10 0 [some (.ref 18), some (.ref 11)] [] f (some (.int v')) f' := by
  rw [D_X2_restore] at h
  refine am_Ew.start [18] 8 (am_Ew.conv (fun k => (if (f 18 3) = 0 then (some (some (.int 0), am_G0, f)) else (k 18 [some (.ref 18), some (.ref 11)] [.int (f 18 2), .ref 19, .ref 11] am_G0 f))) (fun k => rfl) ?_)
  refine am_Ew.ite h (fun _ h => ?_) (fun _ h => ?_)
  · exact am_Ew.retI h
  · refine am_Ew.run (am_Ev.six h (fun h => ?_) (fun h => ?_) (fun h => ?_) (fun h => ?_) (fun h => ?_) (fun h => ?_))
    · refine am_Ew.start [19] 1 (am_Ew.conv (fun k => (k 19 [some (.ref 18), some (.ref 11)] [.ref 21, .ref 11] am_G0 f)) (fun k => rfl) ?_)
      obtain ⟨f1, h1, h⟩ := am_bV_some h
      refine am_Ew.run (am_Ev.call (fun n => rfl) (lk_X4_copyFrom_11_21 h1) ?_)
      refine am_Ew.start [32] 6 (am_Ew.conv (fun k => (am_chk (f1 18 2) 6 (k 32 [some (.ref 18), some (.ref 11)] [.int (f1 20 (f1 18 2).toNatClampNeg), .ref 11] am_G0 f1))) (fun k => rfl) ?_)
      refine am_Ew.chk h (fun h => ?_)
      obtain ⟨f2, h1, h⟩ := am_bV_some h
      refine am_Ew.run (am_Ev.call (fun n => rfl) (lk_X4_reopen_11 h1) ?_)
      refine am_Ew.start [] 18 (am_Ew.conv (fun k => (some (some (.int 1), am_G0, (am_wr (am_wr f2 18 2 ((((f2 18 2) + 6) - 1) - (((f2 18 2) + 6) - 1) / 6 * 6)) 18 3 ((f2 18 3) - 1))))) (fun k => rfl) ?_)
      exact am_Ew.retI h
    · refine am_Ew.start [19] 1 (am_Ew.conv (fun k => (k 19 [some (.ref 18), some (.ref 11)] [.ref 28, .ref 11] am_G0 f)) (fun k => rfl) ?_)
      obtain ⟨f3, h1, h⟩ := am_bV_some h
      refine am_Ew.run (am_Ev.call (fun n => rfl) (lk_X4_copyFrom_11_28 h1) ?_)
      refine am_Ew.start [32] 6 (am_Ew.conv (fun k => (am_chk (f3 18 2) 6 (k 32 [some (.ref 18), some (.ref 11)] [.int (f3 20 (f3 18 2).toNatClampNeg), .ref 11] am_G0 f3))) (fun k => rfl) ?_)
      refine am_Ew.chk h (fun h => ?_)
      obtain ⟨f4, h1, h⟩ := am_bV_some h
      refine am_Ew.run (am_Ev.call (fun n => rfl) (lk_X4_reopen_11 h1) ?_)
      refine am_Ew.start [] 18 (am_Ew.conv (fun k => (some (some (.int 1), am_G0, (am_wr (am_wr f4 18 2 ((((f4 18 2) + 6) - 1) - (((f4 18 2) + 6) - 1) / 6 * 6)) 18 3 ((f4 18 3) - 1))))) (fun k => rfl) ?_)
      exact am_Ew.retI h
    · refine am_Ew.start [19] 1 (am_Ew.conv (fun k => (k 19 [some (.ref 18), some (.ref 11)] [.ref 35, .ref 11] am_G0 f)) (fun k => rfl) ?_)
      obtain ⟨f5, h1, h⟩ := am_bV_some h
      refine am_Ew.run (am_Ev.call (fun n => rfl) (lk_X4_copyFrom_11_35 h1) ?_)
      refine am_Ew.start [32] 6 (am_Ew.conv (fun k => (am_chk (f5 18 2) 6 (k 32 [some (.ref 18), some (.ref 11)] [.int (f5 20 (f5 18 2).toNatClampNeg), .ref 11] am_G0 f5))) (fun k => rfl) ?_)
      refine am_Ew.chk h (fun h => ?_)
      obtain ⟨f6, h1, h⟩ := am_bV_some h
      refine am_Ew.run (am_Ev.call (fun n => rfl) (lk_X4_reopen_11 h1) ?_)
      refine am_Ew.start [] 18 (am_Ew.conv (fun k => (some (some (.int 1), am_G0, (am_wr (am_wr f6 18 2 ((((f6 18 2) + 6) - 1) - (((f6 18 2) + 6) - 1) / 6 * 6)) 18 3 ((f6 18 3) - 1))))) (fun k => rfl) ?_)
      exact am_Ew.retI h
    · refine am_Ew.start [19] 1 (am_Ew.conv (fun k => (k 19 [some (.ref 18), some (.ref 11)] [.ref 42, .ref 11] am_G0 f)) (fun k => rfl) ?_)
      obtain ⟨f7, h1, h⟩ := am_bV_some h
      refine am_Ew.run (am_Ev.call (fun n => rfl) (lk_X4_copyFrom_11_42 h1) ?_)
      refine am_Ew.start [32] 6 (am_Ew.conv (fun k => (am_chk (f7 18 2) 6 (k 32 [some (.ref 18), some (.ref 11)] [.int (f7 20 (f7 18 2).toNatClampNeg), .ref 11] am_G0 f7))) (fun k => rfl) ?_)
      refine am_Ew.chk h (fun h => ?_)
      obtain ⟨f8, h1, h⟩ := am_bV_some h
      refine am_Ew.run (am_Ev.call (fun n => rfl) (lk_X4_reopen_11 h1) ?_)
      refine am_Ew.start [] 18 (am_Ew.conv (fun k => (some (some (.int 1), am_G0, (am_wr (am_wr f8 18 2 ((((f8 18 2) + 6) - 1) - (((f8 18 2) + 6) - 1) / 6 * 6)) 18 3 ((f8 18 3) - 1))))) (fun k => rfl) ?_)
      exact am_Ew.retI h
    · refine am_Ew.start [19] 1 (am_Ew.conv (fun k => (k 19 [some (.ref 18), some (.ref 11)] [.ref 49, .ref 11] am_G0 f)) (fun k => rfl) ?_)
      obtain ⟨f9, h1, h⟩ := am_bV_some h
      refine am_Ew.run (am_Ev.call (fun n => rfl) (lk_X4_copyFrom_11_49 h1) ?_)
      refine am_Ew.start [32] 6 (am_Ew.conv (fun k => (am_chk (f9 18 2) 6 (k 32 [some (.ref 18), some (.ref 11)] [.int (f9 20 (f9 18 2).toNatClampNeg), .ref 11] am_G0 f9))) (fun k => rfl) ?_)
      refine am_Ew.chk h (fun h => ?_)
      obtain ⟨f10, h1, h⟩ := am_bV_some h
      refine am_Ew.run (am_Ev.call (fun n => rfl) (lk_X4_reopen_11 h1) ?_)
      refine am_Ew.start [] 18 (am_Ew.conv (fun k => (some (some (.int 1), am_G0, (am_wr (am_wr f10 18 2 ((((f10 18 2) + 6) - 1) - (((f10 18 2) + 6) - 1) / 6 * 6)) 18 3 ((f10 18 3) - 1))))) (fun k => rfl) ?_)
      exact am_Ew.retI h
    · refine am_Ew.start [19] 1 (am_Ew.conv (fun k => (k 19 [some (.ref 18), some (.ref 11)] [.ref 56, .ref 11] am_G0 f)) (fun k => rfl) ?_)
      obtain ⟨f11, h1, h⟩ := am_bV_some h
      refine am_Ew.run (am_Ev.call (fun n => rfl) (lk_X4_copyFrom_11_56 h1) ?_)
      refine am_Ew.start [32] 6 (am_Ew.conv (fun k => (am_chk (f11 18 2) 6 (k 32 [some (.ref 18), some (.ref 11)] [.int (f11 20 (f11 18 2).toNatClampNeg), .ref 11] am_G0 f11))) (fun k => rfl) ?_)
      refine am_Ew.chk h (fun h => ?_)
      obtain ⟨f12, h1, h⟩ := am_bV_some h
      refine am_Ew.run (am_Ev.call (fun n => rfl) (lk_X4_reopen_11 h1) ?_)
      refine am_Ew.start [] 18 (am_Ew.conv (fun k => (some (some (.int 1), am_G0, (am_wr (am_wr f12 18 2 ((((f12 18 2) + 6) - 1) - (((f12 18 2) + 6) - 1) / 6 * 6)) 18 3 ((f12 18 3) - 1))))) (fun k => rfl) ?_)
      exact am_Ew.retI h
set_option maxHeartbeats 400000 in
set_option maxRecDepth 100000 in
theorem lk_X0_tick_107 {X : am_X} : ∀ (n : Nat) (x1 : Int32) (f : am_M) (f' : am_M), D_X0_tick_107 n x1 f = some f' → am_Ev X 3 107 [some (.ref 79), some (.int x1)] [] f none f'
  | 0, _, _, _, h => by cases h
  | n + 1, x1, f, f', h => by
    rw [D_X0_tick_107] at h
    refine am_Ew.start [107] 21 (am_Ew.conv (fun k => (if x1 < (f 3 1) then (am_chk x1 3 (if 0 < (f 86 x1.toNatClampNeg) then (am_chk x1 3 (am_chk x1 3 (k 107 [some (.ref 79), some (.int (x1 + 1))] [] am_G0 (am_wr f 80 x1.toNatClampNeg ((f 80 x1.toNatClampNeg) + 1))))) else (k 107 [some (.ref 79), some (.int (x1 + 1))] [] am_G0 f))) else (some (none, am_G0, f)))) (fun k => rfl) ?_)
    refine am_Ew.ite h (fun _ h => ?_) (fun _ h => ?_)
    · refine am_Ew.chk h (fun h => ?_)
      refine am_Ew.ite h (fun _ h => ?_) (fun _ h => ?_)
      · refine am_Ew.chk h (fun h => ?_)
        refine am_Ew.chk h (fun h => ?_)
        exact am_Ew.run (lk_X0_tick_107  n _ _ _ h )
      · exact am_Ew.run (lk_X0_tick_107  n _ _ _ h )
    · exact am_Ew.retV h
set_option maxHeartbeats 400000 in
set_option maxRecDepth 100000 in
theorem lk_X0_tick_70 {X : am_X} : ∀ (n : Nat) (x1 : Int32) (f : am_M) (f' : am_M), D_X0_tick_70 n x1 f = some f' → am_Ev X 3 70 [some (.ref 79), some (.int x1)] [] f none f'
  | 0, _, _, _, h => by cases h
  | n + 1, x1, f, f', h => by
    rw [D_X0_tick_70] at h
    refine am_Ew.start [95, 107] 13 (am_Ew.conv (fun k => (if x1 < (f 3 2) then (am_chk x1 6 (k 95 [some (.ref 79), some (.int x1)] [.int (f 5 x1.toNatClampNeg), .int x1, .ref 81] am_G0 f)) else (k 107 [some (.ref 79), some (.int 0)] [] am_G0 f))) (fun k => rfl) ?_)
    refine am_Ew.ite h (fun _ h => ?_) (fun _ h => ?_)
    · refine am_Ew.chk h (fun h => ?_)
      obtain ⟨v3, f3, h1, h⟩ := am_bI_some h
      refine am_Ew.run (am_Ev.call (fun n => rfl) (lk_X4_goOver_81 h1) ?_)
      refine am_Ew.start [70] 3 (am_Ew.conv (fun k => (k 70 [some (.ref 79), some (.int (x1 + 1))] [] am_G0 f3)) (fun k => rfl) ?_)
      exact am_Ew.run (lk_X0_tick_70  n _ _ _ h )
    · exact am_Ew.run (lk_X0_tick_107 _ _ _ _ h )
set_option maxHeartbeats 400000 in
set_option maxRecDepth 100000 in
theorem lk_X0_tick_9 {X : am_X} : ∀ (n : Nat) (x1 : Int32) (f : am_M) (f' : am_M), D_X0_tick_9 n x1 f = some f' → am_Ev X 3 9 [some (.ref 79), some (.int x1)] [] f none f'
  | 0, _, _, _, h => by cases h
  | n + 1, x1, f, f', h => by
    rw [D_X0_tick_9] at h
    refine am_Ew.start [9, 58, 70] 25 (am_Ew.conv (fun k => (if x1 < (f 3 1) then (am_chk x1 3 (if 0 < (f 4 x1.toNatClampNeg) then (am_chk x1 3 (if (f 86 x1.toNatClampNeg) = 0 then (am_chk x1 3 (k 58 [some (.ref 79), some (.int x1)] [.int (f 4 x1.toNatClampNeg), .int x1, .ref 81] am_G0 f)) else (k 9 [some (.ref 79), some (.int (x1 + 1))] [] am_G0 f))) else (k 9 [some (.ref 79), some (.int (x1 + 1))] [] am_G0 f))) else (k 70 [some (.ref 79), some (.int 0)] [] am_G0 f))) (fun k => rfl) ?_)
    refine am_Ew.ite h (fun _ h => ?_) (fun _ h => ?_)
    · refine am_Ew.chk h (fun h => ?_)
      refine am_Ew.ite h (fun _ h => ?_) (fun _ h => ?_)
      · refine am_Ew.chk h (fun h => ?_)
        refine am_Ew.ite h (fun _ h => ?_) (fun _ h => ?_)
        · refine am_Ew.chk h (fun h => ?_)
          obtain ⟨v2, f2, h1, h⟩ := am_bI_some h
          refine am_Ew.run (am_Ev.call (fun n => rfl) (lk_X4_claimOrWait_81 h1) ?_)
          refine am_Ew.start [9] 3 (am_Ew.conv (fun k => (k 9 [some (.ref 79), some (.int (x1 + 1))] [] am_G0 f2)) (fun k => rfl) ?_)
          exact am_Ew.run (lk_X0_tick_9  n _ _ _ h )
        · exact am_Ew.run (lk_X0_tick_9  n _ _ _ h )
      · exact am_Ew.run (lk_X0_tick_9  n _ _ _ h )
    · exact am_Ew.run (lk_X0_tick_70 _ _ _ _ h )
set_option maxHeartbeats 400000 in
set_option maxRecDepth 100000 in
theorem lk_X0_tick {X : am_X} {f f' : am_M} (h : D_X0_tick f = some f') : am_Ev X 3 0 [some (.ref 79), none] [] f none f' := by
  rw [D_X0_tick] at h
  refine am_Ew.start [4] 2 (am_Ew.conv (fun k => (k 4 [some (.ref 79), none] [.ref 81] am_G0 f)) (fun k => rfl) ?_)
  obtain ⟨f1, h1, h⟩ := am_bV_some h
  refine am_Ew.run (am_Ev.call (fun n => rfl) (lk_X4_closeAllByRule_81 h1) ?_)
  refine am_Ew.start [9] 2 (am_Ew.conv (fun k => (k 9 [some (.ref 79), some (.int 0)] [] am_G0 f1)) (fun k => rfl) ?_)
  exact am_Ew.run (lk_X0_tick_9 _ _ _ _ h )
set_option maxHeartbeats 400000 in
set_option maxRecDepth 100000 in
theorem lk_X0_after_7 {X : am_X} : ∀ (n : Nat) (x2 x3 : Int32) (f : am_M) (f' : am_M), D_X0_after_7 n x2 x3 f = some f' → ∀ d1 : Option Value, am_Ev X 1 7 [some (.ref 79), d1, some (.int x2), some (.int x3)] [] f (some (.ref 81)) f'
  | 0, _, _, _, _, h, _ => by cases h
  | n + 1, x2, x3, f, f', h, d1 => by
    rw [D_X0_after_7] at h
    refine am_Ew.start [13] 6 (am_Ew.conv (fun k => (if x3 < x2 then (k 13 [some (.ref 79), d1, some (.int x2), some (.int x3)] [.ref 79] am_G0 f) else (some (some (.ref 81), am_G0, f)))) (fun k => rfl) ?_)
    refine am_Ew.ite h (fun _ h => ?_) (fun _ h => ?_)
    · obtain ⟨f2, h1, h⟩ := am_bV_some h
      refine am_Ew.run (am_Ev.call (fun n => rfl) (lk_X0_tick h1) ?_)
      refine am_Ew.start [7] 2 (am_Ew.conv (fun k => (k 7 [some (.ref 79), d1, some (.int x2), some (.int (x3 + 1))] [] am_G0 f2)) (fun k => rfl) ?_)
      exact am_Ew.run (lk_X0_after_7  n _ _ _ _ h _ )
    · exact am_Ew.retR h
set_option maxHeartbeats 400000 in
set_option maxRecDepth 100000 in
theorem lk_X0_after {X : am_X} {a2 : Int32} {f f' : am_M} (h : D_X0_after a2 f = some f') : am_Ev X 1 0 [some (.ref 79), some (.ref 11), some (.int a2), none] [] f (some (.ref 81)) f' := by
  rw [D_X0_after] at h
  refine am_Ew.start [2] 2 (am_Ew.conv (fun k => (k 2 [some (.ref 79), some (.ref 11), some (.int a2), none] [.ref 11, .ref 79] am_G0 f)) (fun k => rfl) ?_)
  obtain ⟨f1, h1, h⟩ := am_bV_some h
  refine am_Ew.run (am_Ev.call (fun n => rfl) (lk_X0_start h1) ?_)
  refine am_Ew.start [7] 2 (am_Ew.conv (fun k => (k 7 [some (.ref 79), some (.ref 11), some (.int a2), some (.int 0)] [] am_G0 f1)) (fun k => rfl) ?_)
  exact am_Ew.run (lk_X0_after_7 _ _ _ _ _ h _ )
set_option maxHeartbeats 400000 in
set_option maxRecDepth 100000 in
theorem lk_X0_takersSeen_45 {X : am_X} {K : Int32 → Int32 → Int32 → am_M → Option (Int32 × am_M)} (hK : ∀ (x3 x4 x5 : Int32) (f : am_M) (v' : Int32) (f' : am_M), K x3 x4 x5 f = some (v', f') → ∀ d1 d6 : Option Value, am_Ev X 4 26 [some (.ref 79), d1, some (.ref 88), some (.int x3), some (.int x4), some (.int x5), d6] [] f (some (.int v')) f') : ∀ (n : Nat) (x3 x4 x5 x6 : Int32) (f : am_M) (v' : Int32) (f' : am_M), D_X0_takersSeen_45 K n x3 x4 x5 x6 f = some (v', f') → ∀ d1 : Option Value, am_Ev X 4 45 [some (.ref 79), d1, some (.ref 88), some (.int x3), some (.int x4), some (.int x5), some (.int x6)] [] f (some (.int v')) f'
  | 0, _, _, _, _, _, _, _, h, _ => by cases h
  | n + 1, x3, x4, x5, x6, f, v', f', h, d1 => by
    rw [D_X0_takersSeen_45] at h
    refine am_Ew.start [26, 70] 12 (am_Ew.conv (fun k => (if x6 < (f 3 2) then (am_chk x6 6 (k 70 [some (.ref 79), d1, some (.ref 88), some (.int x3), some (.int x4), some (.int x5), some (.int x6)] [.int (f 82 x6.toNatClampNeg), .int x5, .ref 88] am_G0 f)) else (k 26 [some (.ref 79), d1, some (.ref 88), some (.int x3), some (.int x4), some (.int (x5 + 1)), some (.int x6)] [] am_G0 f))) (fun k => rfl) ?_)
    refine am_Ew.ite h (fun _ h => ?_) (fun _ h => ?_)
    · refine am_Ew.chk h (fun h => ?_)
      obtain ⟨v4, f4, h1, h⟩ := am_bI_some h
      refine am_Ew.run (am_Ev.call (fun n => rfl) (lk_X3_allows h1) ?_)
      refine am_Ew.start [45] 11 (am_Ew.conv (fun k => (if v4 = 0 then (k 45 [some (.ref 79), d1, some (.ref 88), some (.int (x3 &&& (((1 : Int32) <<< (x6 &&& 31)) ^^^ (-1)))), some (.int x4), some (.int x5), some (.int (x6 + 1))] [] am_G0 f4) else (k 45 [some (.ref 79), d1, some (.ref 88), some (.int x3), some (.int x4), some (.int x5), some (.int (x6 + 1))] [] am_G0 f4))) (fun k => rfl) ?_)
      refine am_Ew.ite h (fun _ h => ?_) (fun _ h => ?_)
      · exact am_Ew.run (lk_X0_takersSeen_45 hK n _ _ _ _ _ _ _ h _ )
      · exact am_Ew.run (lk_X0_takersSeen_45 hK n _ _ _ _ _ _ _ h _ )
    · exact am_Ew.run (hK _ _ _ _ _ _ h _ _ )
set_option maxHeartbeats 400000 in
set_option maxRecDepth 100000 in
theorem lk_X0_takersSeen_26 {X : am_X} : ∀ (n : Nat) (x3 x4 x5 : Int32) (f : am_M) (v' : Int32) (f' : am_M), D_X0_takersSeen_26 n x3 x4 x5 f = some (v', f') → ∀ d1 d6 : Option Value, am_Ev X 4 26 [some (.ref 79), d1, some (.ref 88), some (.int x3), some (.int x4), some (.int x5), d6] [] f (some (.int v')) f'
  | 0, _, _, _, _, _, _, h, _, _ => by cases h
  | n + 1, x3, x4, x5, f, v', f', h, d1, d6 => by
    rw [D_X0_takersSeen_26] at h
    refine am_Ew.start [39, 45] 7 (am_Ew.conv (fun k => (if x4 < x5 then (some (some (.int x3), am_G0, f)) else (if 0 < x5 then (k 39 [some (.ref 79), d1, some (.ref 88), some (.int x3), some (.int x4), some (.int x5), d6] [.ref 79] am_G0 f) else (k 45 [some (.ref 79), d1, some (.ref 88), some (.int x3), some (.int x4), some (.int x5), some (.int 0)] [] am_G0 f)))) (fun k => rfl) ?_)
    refine am_Ew.ite h (fun _ h => ?_) (fun _ h => ?_)
    · exact am_Ew.retI h
    · refine am_Ew.ite h (fun _ h => ?_) (fun _ h => ?_)
      · obtain ⟨f3, h1, h⟩ := am_bV_some h
        refine am_Ew.run (am_Ev.call (fun n => rfl) (lk_X0_tick h1) ?_)
        refine am_Ew.start [45] 2 (am_Ew.conv (fun k => (k 45 [some (.ref 79), d1, some (.ref 88), some (.int x3), some (.int x4), some (.int x5), some (.int 0)] [] am_G0 f3)) (fun k => rfl) ?_)
        exact am_Ew.run (lk_X0_takersSeen_45 (fun y3 y4 y5 f9 v9 f8 h9 e0 e1 => lk_X0_takersSeen_26 n y3 y4 y5 f9 v9 f8 h9 e0 e1) _ _ _ _ _ _ _ _ h _ )
      · exact am_Ew.run (lk_X0_takersSeen_45 (fun y3 y4 y5 f9 v9 f8 h9 e0 e1 => lk_X0_takersSeen_26 n y3 y4 y5 f9 v9 f8 h9 e0 e1) _ _ _ _ _ _ _ _ h _ )
set_option maxHeartbeats 400000 in
set_option maxRecDepth 100000 in
theorem lk_X0_takersSeen {X : am_X} {f f' : am_M} {v' : Int32} (h : D_X0_takersSeen f = some (v', f')) : am_Ev X 4 0 [some (.ref 79), some (.ref 11), some (.ref 88), none, none, none, none] [] f (some (.int v')) f' := by
  rw [D_X0_takersSeen] at h
  refine am_Ew.start [13] 9 (am_Ew.conv (fun k => (k 13 [some (.ref 79), some (.ref 11), some (.ref 88), some (.int (((1 : Int32) <<< ((f 3 2) &&& 31)) - 1)), none, none, none] [.ref 88] am_G0 f)) (fun k => rfl) ?_)
  obtain ⟨v1, f1, h1, h⟩ := am_bI_some h
  refine am_Ew.run (am_Ev.call (fun n => rfl) (lk_X3_lastTick h1) ?_)
  refine am_Ew.start [20] 3 (am_Ew.conv (fun k => (k 20 [some (.ref 79), some (.ref 11), some (.ref 88), some (.int (((1 : Int32) <<< ((f 3 2) &&& 31)) - 1)), some (.int v1), none, none] [.ref 11, .ref 79] am_G0 f1)) (fun k => rfl) ?_)
  obtain ⟨f2, h1, h⟩ := am_bV_some h
  refine am_Ew.run (am_Ev.call (fun n => rfl) (lk_X0_start h1) ?_)
  refine am_Ew.start [26] 2 (am_Ew.conv (fun k => (k 26 [some (.ref 79), some (.ref 11), some (.ref 88), some (.int (((1 : Int32) <<< ((f 3 2) &&& 31)) - 1)), some (.int v1), some (.int 0), none] [] am_G0 f2)) (fun k => rfl) ?_)
  exact am_Ew.run (lk_X0_takersSeen_26 _ _ _ _ _ _ _ h _ _ )
set_option maxHeartbeats 400000 in
set_option maxRecDepth 100000 in
theorem lk_X0_ticksThatPart_14 {X : am_X} : ∀ (n : Nat) (x2 x3 x4 x5 : Int32) (f : am_M) (v' : Int32) (f' : am_M), D_X0_ticksThatPart_14 n x2 x3 x4 x5 f = some (v', f') → ∀ d1 d6 : Option Value, am_Ev X 5 14 [some (.ref 79), d1, some (.int x2), some (.int x3), some (.int x4), some (.int x5), d6] [] f (some (.int v')) f'
  | 0, _, _, _, _, _, _, _, h, _, _ => by cases h
  | n + 1, x2, x3, x4, x5, f, v', f', h, d1, d6 => by
    rw [D_X0_ticksThatPart_14] at h
    refine am_Ew.start [33, 38] 10 (am_Ew.conv (fun k => (if 60 < x5 then (some (some (.int x3), am_G0, f)) else (if 1 < x4 then (if 0 < x5 then (k 33 [some (.ref 79), d1, some (.int x2), some (.int x3), some (.int x4), some (.int x5), d6] [.ref 79] am_G0 f) else (k 38 [some (.ref 79), d1, some (.int x2), some (.int x3), some (.int x4), some (.int x5), d6] [.int x2, .ref 79] am_G0 f)) else (some (some (.int x3), am_G0, f))))) (fun k => rfl) ?_)
    refine am_Ew.ite h (fun _ h => ?_) (fun _ h => ?_)
    · exact am_Ew.retI h
    · refine am_Ew.ite h (fun _ h => ?_) (fun _ h => ?_)
      · refine am_Ew.ite h (fun _ h => ?_) (fun _ h => ?_)
        · obtain ⟨f2, h1, h⟩ := am_bV_some h
          refine am_Ew.run (am_Ev.call (fun n => rfl) (lk_X0_tick h1) ?_)
          refine am_Ew.start [38] 2 (am_Ew.conv (fun k => (k 38 [some (.ref 79), d1, some (.int x2), some (.int x3), some (.int x4), some (.int x5), d6] [.int x2, .ref 79] am_G0 f2)) (fun k => rfl) ?_)
          obtain ⟨v3, f3, h1, h⟩ := am_bI_some h
          refine am_Ew.run (am_Ev.call (fun n => rfl) (lk_X0_greatestGroup h1) ?_)
          refine am_Ew.start [14] 10 (am_Ew.conv (fun k => (if v3 < x4 then (k 14 [some (.ref 79), d1, some (.int x2), some (.int x5), some (.int v3), some (.int (x5 + 1)), some (.int v3)] [] am_G0 f3) else (k 14 [some (.ref 79), d1, some (.int x2), some (.int x3), some (.int x4), some (.int (x5 + 1)), some (.int v3)] [] am_G0 f3))) (fun k => rfl) ?_)
          refine am_Ew.ite h (fun _ h => ?_) (fun _ h => ?_)
          · exact am_Ew.run (lk_X0_ticksThatPart_14  n _ _ _ _ _ _ _ h _ _ )
          · exact am_Ew.run (lk_X0_ticksThatPart_14  n _ _ _ _ _ _ _ h _ _ )
        · obtain ⟨v4, f4, h1, h⟩ := am_bI_some h
          refine am_Ew.run (am_Ev.call (fun n => rfl) (lk_X0_greatestGroup h1) ?_)
          refine am_Ew.start [14] 10 (am_Ew.conv (fun k => (if v4 < x4 then (k 14 [some (.ref 79), d1, some (.int x2), some (.int x5), some (.int v4), some (.int (x5 + 1)), some (.int v4)] [] am_G0 f4) else (k 14 [some (.ref 79), d1, some (.int x2), some (.int x3), some (.int x4), some (.int (x5 + 1)), some (.int v4)] [] am_G0 f4))) (fun k => rfl) ?_)
          refine am_Ew.ite h (fun _ h => ?_) (fun _ h => ?_)
          · exact am_Ew.run (lk_X0_ticksThatPart_14  n _ _ _ _ _ _ _ h _ _ )
          · exact am_Ew.run (lk_X0_ticksThatPart_14  n _ _ _ _ _ _ _ h _ _ )
      · exact am_Ew.retI h
set_option maxHeartbeats 400000 in
set_option maxRecDepth 100000 in
theorem lk_X0_ticksThatPart {X : am_X} {a2 : Int32} {f f' : am_M} {v' : Int32} (h : D_X0_ticksThatPart a2 f = some (v', f')) : am_Ev X 5 0 [some (.ref 79), some (.ref 11), some (.int a2), none, none, none, none] [] f (some (.int v')) f' := by
  rw [D_X0_ticksThatPart] at h
  refine am_Ew.start [8] 6 (am_Ew.conv (fun k => (k 8 [some (.ref 79), some (.ref 11), some (.int a2), some (.int 0), some (.int 7), none, none] [.ref 11, .ref 79] am_G0 f)) (fun k => rfl) ?_)
  obtain ⟨f1, h1, h⟩ := am_bV_some h
  refine am_Ew.run (am_Ev.call (fun n => rfl) (lk_X0_start h1) ?_)
  refine am_Ew.start [14] 2 (am_Ew.conv (fun k => (k 14 [some (.ref 79), some (.ref 11), some (.int a2), some (.int 0), some (.int 7), some (.int 0), none] [] am_G0 f1)) (fun k => rfl) ?_)
  exact am_Ew.run (lk_X0_ticksThatPart_14 _ _ _ _ _ _ _ _ h _ _ )
