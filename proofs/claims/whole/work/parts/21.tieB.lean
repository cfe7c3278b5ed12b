set_option maxHeartbeats 400000 in
set_option maxRecDepth 100000 in
theorem lk_X4_reset_11_52 {X : am_X} : ∀ (n : Nat) (x1 : Int32) (f : am_M) (f' : am_M), D_X4_reset_52 11 999 n x1 f = some f' → am_Ev X 16 52 [some (.ref 11), some (.int x1)] [] f none f'
  | 0, _, _, _, h => by cases h
  | n + 1, x1, f, f', h => by
    rw [D_X4_reset_52] at h
    refine am_Ew.start [52] 10 (am_Ew.conv (fun k => (if x1 < 3 then (am_chk x1 3 (k 52 [some (.ref 11), some (.int (x1 + 1))] [] am_G0 (am_wr f (11 + 5) x1.toNatClampNeg 0))) else (some (none, am_G0, f)))) (fun k => rfl) ?_)
    refine am_Ew.ite h (fun _ h => ?_) (fun _ h => ?_)
    · refine am_Ew.chk h (fun h => ?_)
      exact am_Ew.run (lk_X4_reset_11_52  n _ _ _ h )
    · exact am_Ew.retV h
set_option maxHeartbeats 400000 in
set_option maxRecDepth 100000 in
theorem lk_X4_reset_11_17 {X : am_X} : ∀ (n : Nat) (x1 : Int32) (f : am_M) (f' : am_M), D_X4_reset_17 11 999 n x1 f = some f' → am_Ev X 16 17 [some (.ref 11), some (.int x1)] [] f none f'
  | 0, _, _, _, h => by cases h
  | n + 1, x1, f, f', h => by
    rw [D_X4_reset_17] at h
    refine am_Ew.start [17, 52] 20 (am_Ew.conv (fun k => (if x1 < 6 then (am_chk x1 6 (am_chk x1 6 (am_chk x1 6 (k 17 [some (.ref 11), some (.int (x1 + 1))] [] am_G0 (am_wr (am_wr (am_wr f (11 + 1) x1.toNatClampNeg 0) (11 + 2) x1.toNatClampNeg 0) (11 + 3) x1.toNatClampNeg 0))))) else (k 52 [some (.ref 11), some (.int 0)] [] am_G0 f))) (fun k => rfl) ?_)
    refine am_Ew.ite h (fun _ h => ?_) (fun _ h => ?_)
    · refine am_Ew.chk h (fun h => ?_)
      refine am_Ew.chk h (fun h => ?_)
      refine am_Ew.chk h (fun h => ?_)
      exact am_Ew.run (lk_X4_reset_11_17  n _ _ _ h )
    · exact am_Ew.run (lk_X4_reset_11_52 _ _ _ _ h )
set_option maxHeartbeats 400000 in
set_option maxRecDepth 100000 in
theorem lk_X4_reset_11 {X : am_X} {f f' : am_M} (h : D_X4_reset 11 999 f = some f') : am_Ev X 16 0 [some (.ref 11), none] [] f none f' := by
  rw [D_X4_reset] at h
  refine am_Ew.start [17] 11 (am_Ew.conv (fun k => (k 17 [some (.ref 11), some (.int 0)] [] am_G0 (am_wr (am_wr (am_wr f 11 2 0) 11 3 0) 11 9 0))) (fun k => rfl) ?_)
  exact am_Ew.run (lk_X4_reset_11_17 _ _ _ _ h )
set_option maxHeartbeats 400000 in
set_option maxRecDepth 100000 in
theorem lk_X4_hasEvent_11 {X : am_X} {a1 : Int32} {f f' : am_M} {v' : Int32} (h : D_X4_hasEvent 11 999 a1 f = some (v', f')) : am_Ev X 18 0 [some (.ref 11), some (.int a1)] [] f (some (.int v')) f' := by
  rw [D_X4_hasEvent] at h
  refine am_Ew.start [] 14 (am_Ew.conv (fun k => (if a1 < 0 then (some (some (.int 0), am_G0, f)) else (if a1 < (f 11 2) then (if a1 < (Int32.ofNat 999) then (some (some (.int 1), am_G0, f)) else (some (some (.int 0), am_G0, f))) else (some (some (.int 0), am_G0, f))))) (fun k => rfl) ?_)
  refine am_Ew.ite h (fun _ h => ?_) (fun _ h => ?_)
  · exact am_Ew.retI h
  · refine am_Ew.ite h (fun _ h => ?_) (fun _ h => ?_)
    · refine am_Ew.ite h (fun _ h => ?_) (fun _ h => ?_)
      · exact am_Ew.retI h
      · exact am_Ew.retI h
    · exact am_Ew.retI h
set_option maxHeartbeats 400000 in
set_option maxRecDepth 100000 in
theorem lk_X4_makerOf_11 {X : am_X} {a1 : Int32} {f f' : am_M} {v' : Int32} (h : D_X4_makerOf 11 999 a1 f = some (v', f')) : am_Ev X 19 0 [some (.ref 11), some (.int a1)] [] f (some (.int v')) f' := by
  rw [D_X4_makerOf] at h
  refine am_Ew.start [] 7 (am_Ew.conv (fun k => (am_chk a1 999 (some (some (.int ((f (11 + 6) a1.toNatClampNeg) &&& 3)), am_G0, f)))) (fun k => rfl) ?_)
  refine am_Ew.chk h (fun h => ?_)
  exact am_Ew.retI h
set_option maxHeartbeats 400000 in
set_option maxRecDepth 100000 in
theorem lk_X4_kindOf_11 {X : am_X} {a1 : Int32} {f f' : am_M} {v' : Int32} (h : D_X4_kindOf 11 999 a1 f = some (v', f')) : am_Ev X 20 0 [some (.ref 11), some (.int a1)] [] f (some (.int v')) f' := by
  rw [D_X4_kindOf] at h
  refine am_Ew.start [] 9 (am_Ew.conv (fun k => (am_chk a1 999 (some (some (.int (((f (11 + 6) a1.toNatClampNeg) >>> ((2 : Int32) &&& 31)) &&& 3)), am_G0, f)))) (fun k => rfl) ?_)
  refine am_Ew.chk h (fun h => ?_)
  exact am_Ew.retI h
set_option maxHeartbeats 400000 in
set_option maxRecDepth 100000 in
theorem lk_X4_kindOf_81 {X : am_X} {a1 : Int32} {f f' : am_M} {v' : Int32} (h : D_X4_kindOf 81 0 a1 f = some (v', f')) : am_Ev X 20 0 [some (.ref 81), some (.int a1)] [] f (some (.int v')) f' := by
  rw [D_X4_kindOf] at h
  refine am_Ew.start [] 9 (am_Ew.conv (fun k => (am_chk a1 0 (some (some (.int (((f (81 + 6) a1.toNatClampNeg) >>> ((2 : Int32) &&& 31)) &&& 3)), am_G0, f)))) (fun k => rfl) ?_)
  refine am_Ew.chk h (fun h => ?_)
  exact am_Ew.retI h
set_option maxHeartbeats 400000 in
set_option maxRecDepth 100000 in
theorem lk_X4_valueOf_11 {X : am_X} {a1 : Int32} {f f' : am_M} {v' : Int32} (h : D_X4_valueOf 11 999 a1 f = some (v', f')) : am_Ev X 21 0 [some (.ref 11), some (.int a1)] [] f (some (.int v')) f' := by
  rw [D_X4_valueOf] at h
  refine am_Ew.start [] 7 (am_Ew.conv (fun k => (am_chk a1 999 (some (some (.int ((f (11 + 6) a1.toNatClampNeg) >>> ((4 : Int32) &&& 31))), am_G0, f)))) (fun k => rfl) ?_)
  refine am_Ew.chk h (fun h => ?_)
  exact am_Ew.retI h
set_option maxHeartbeats 400000 in
set_option maxRecDepth 100000 in
theorem lk_X4_valueOf_81 {X : am_X} {a1 : Int32} {f f' : am_M} {v' : Int32} (h : D_X4_valueOf 81 0 a1 f = some (v', f')) : am_Ev X 21 0 [some (.ref 81), some (.int a1)] [] f (some (.int v')) f' := by
  rw [D_X4_valueOf] at h
  refine am_Ew.start [] 7 (am_Ew.conv (fun k => (am_chk a1 0 (some (some (.int ((f (81 + 6) a1.toNatClampNeg) >>> ((4 : Int32) &&& 31))), am_G0, f)))) (fun k => rfl) ?_)
  refine am_Ew.chk h (fun h => ?_)
  exact am_Ew.retI h
set_option maxHeartbeats 400000 in
set_option maxRecDepth 100000 in
theorem lk_X4_least_11_7 {X : am_X} : ∀ (n : Nat) (x1 x2 : Int32) (f : am_M) (v' : Int32) (f' : am_M), D_X4_least_7 11 999 n x1 x2 f = some (v', f') → am_Ev X 22 7 [some (.ref 11), some (.int x1), some (.int x2)] [] f (some (.int v')) f'
  | 0, _, _, _, _, _, h => by cases h
  | n + 1, x1, x2, f, v', f', h => by
    rw [D_X4_least_7] at h
    refine am_Ew.start [7] 18 (am_Ew.conv (fun k => (if x2 < (f 3 2) then (am_chk x2 6 (if (f (11 + 1) x2.toNatClampNeg) < x1 then (am_chk x2 6 (k 7 [some (.ref 11), some (.int (f (11 + 1) x2.toNatClampNeg)), some (.int (x2 + 1))] [] am_G0 f)) else (k 7 [some (.ref 11), some (.int x1), some (.int (x2 + 1))] [] am_G0 f))) else (some (some (.int x1), am_G0, f)))) (fun k => rfl) ?_)
    refine am_Ew.ite h (fun _ h => ?_) (fun _ h => ?_)
    · refine am_Ew.chk h (fun h => ?_)
      refine am_Ew.ite h (fun _ h => ?_) (fun _ h => ?_)
      · refine am_Ew.chk h (fun h => ?_)
        exact am_Ew.run (lk_X4_least_11_7  n _ _ _ _ _ h )
      · exact am_Ew.run (lk_X4_least_11_7  n _ _ _ _ _ h )
    · exact am_Ew.retI h
set_option maxHeartbeats 400000 in
set_option maxRecDepth 100000 in
theorem lk_X4_least_11 {X : am_X} {f f' : am_M} {v' : Int32} (h : D_X4_least 11 999 f = some (v', f')) : am_Ev X 22 0 [some (.ref 11), none, none] [] f (some (.int v')) f' := by
  rw [D_X4_least] at h
  refine am_Ew.start [7] 5 (am_Ew.conv (fun k => (k 7 [some (.ref 11), some (.int (f 11 2)), some (.int 0)] [] am_G0 f)) (fun k => rfl) ?_)
  exact am_Ew.run (lk_X4_least_11_7 _ _ _ _ _ _ h )
set_option maxHeartbeats 400000 in
set_option maxRecDepth 100000 in
theorem lk_X4_least_81_7 {X : am_X} : ∀ (n : Nat) (x1 x2 : Int32) (f : am_M) (v' : Int32) (f' : am_M), D_X4_least_7 81 0 n x1 x2 f = some (v', f') → am_Ev X 22 7 [some (.ref 81), some (.int x1), some (.int x2)] [] f (some (.int v')) f'
  | 0, _, _, _, _, _, h => by cases h
  | n + 1, x1, x2, f, v', f', h => by
    rw [D_X4_least_7] at h
    refine am_Ew.start [7] 18 (am_Ew.conv (fun k => (if x2 < (f 3 2) then (am_chk x2 6 (if (f (81 + 1) x2.toNatClampNeg) < x1 then (am_chk x2 6 (k 7 [some (.ref 81), some (.int (f (81 + 1) x2.toNatClampNeg)), some (.int (x2 + 1))] [] am_G0 f)) else (k 7 [some (.ref 81), some (.int x1), some (.int (x2 + 1))] [] am_G0 f))) else (some (some (.int x1), am_G0, f)))) (fun k => rfl) ?_)
    refine am_Ew.ite h (fun _ h => ?_) (fun _ h => ?_)
    · refine am_Ew.chk h (fun h => ?_)
      refine am_Ew.ite h (fun _ h => ?_) (fun _ h => ?_)
      · refine am_Ew.chk h (fun h => ?_)
        exact am_Ew.run (lk_X4_least_81_7  n _ _ _ _ _ h )
      · exact am_Ew.run (lk_X4_least_81_7  n _ _ _ _ _ h )
    · exact am_Ew.retI h
set_option maxHeartbeats 400000 in
set_option maxRecDepth 100000 in
theorem lk_X4_least_81 {X : am_X} {f f' : am_M} {v' : Int32} (h : D_X4_least 81 0 f = some (v', f')) : am_Ev X 22 0 [some (.ref 81), none, none] [] f (some (.int v')) f' := by
  rw [D_X4_least] at h
  refine am_Ew.start [7] 5 (am_Ew.conv (fun k => (k 7 [some (.ref 81), some (.int (f 81 2)), some (.int 0)] [] am_G0 f)) (fun k => rfl) ?_)
  exact am_Ew.run (lk_X4_least_81_7 _ _ _ _ _ _ h )
set_option maxHeartbeats 400000 in
set_option maxRecDepth 100000 in
theorem lk_X4_slowestOf_11_5 {X : am_X} : ∀ (n : Nat) (x1 x2 x3 : Int32) (f : am_M) (v' : Int32) (f' : am_M), D_X4_slowestOf_5 11 999 n x1 x2 x3 f = some (v', f') → am_Ev X 27 5 [some (.ref 11), some (.int x1), some (.int x2), some (.int x3)] [] f (some (.int v')) f'
  | 0, _, _, _, _, _, _, h => by cases h
  | n + 1, x1, x2, x3, f, v', f', h => by
    rw [D_X4_slowestOf_5] at h
    refine am_Ew.start [5] 28 (am_Ew.conv (fun k => (if x3 < (f 3 2) then (if ((x1 >>> (x3 &&& 31)) &&& 1) = 1 then (if x2 = (-9) then (k 5 [some (.ref 11), some (.int x1), some (.int x3), some (.int (x3 + 1))] [] am_G0 f) else (am_chk x3 6 (am_chk x2 6 (if (f (11 + 1) x3.toNatClampNeg) < (f (11 + 1) x2.toNatClampNeg) then (k 5 [some (.ref 11), some (.int x1), some (.int x3), some (.int (x3 + 1))] [] am_G0 f) else (k 5 [some (.ref 11), some (.int x1), some (.int x2), some (.int (x3 + 1))] [] am_G0 f))))) else (k 5 [some (.ref 11), some (.int x1), some (.int x2), some (.int (x3 + 1))] [] am_G0 f)) else (some (some (.int x2), am_G0, f)))) (fun k => rfl) ?_)
    refine am_Ew.ite h (fun _ h => ?_) (fun _ h => ?_)
    · refine am_Ew.ite h (fun _ h => ?_) (fun _ h => ?_)
      · refine am_Ew.ite h (fun _ h => ?_) (fun _ h => ?_)
        · exact am_Ew.run (lk_X4_slowestOf_11_5  n _ _ _ _ _ _ h )
        · refine am_Ew.chk h (fun h => ?_)
          refine am_Ew.chk h (fun h => ?_)
          refine am_Ew.ite h (fun _ h => ?_) (fun _ h => ?_)
          · exact am_Ew.run (lk_X4_slowestOf_11_5  n _ _ _ _ _ _ h )
          · exact am_Ew.run (lk_X4_slowestOf_11_5  n _ _ _ _ _ _ h )
      · exact am_Ew.run (lk_X4_slowestOf_11_5  n _ _ _ _ _ _ h )
    · exact am_Ew.retI h
set_option maxHeartbeats 400000 in
set_option maxRecDepth 100000 in
theorem lk_X4_slowestOf_11 {X : am_X} {a1 : Int32} {f f' : am_M} {v' : Int32} (h : D_X4_slowestOf 11 999 a1 f = some (v', f')) : am_Ev X 27 0 [some (.ref 11), some (.int a1), none, none] [] f (some (.int v')) f' := by
  rw [D_X4_slowestOf] at h
  refine am_Ew.start [5] 4 (am_Ew.conv (fun k => (k 5 [some (.ref 11), some (.int a1), some (.int (-9)), some (.int 0)] [] am_G0 f)) (fun k => rfl) ?_)
  exact am_Ew.run (lk_X4_slowestOf_11_5 _ _ _ _ _ _ _ h )
set_option maxHeartbeats 400000 in
set_option maxRecDepth 100000 in
theorem lk_X4_slowestOf_81_5 {X : am_X} : ∀ (n : Nat) (x1 x2 x3 : Int32) (f : am_M) (v' : Int32) (f' : am_M), D_X4_slowestOf_5 81 0 n x1 x2 x3 f = some (v', f') → am_Ev X 27 5 [some (.ref 81), some (.int x1), some (.int x2), some (.int x3)] [] f (some (.int v')) f'
  | 0, _, _, _, _, _, _, h => by cases h
  | n + 1, x1, x2, x3, f, v', f', h => by
    rw [D_X4_slowestOf_5] at h
    refine am_Ew.start [5] 28 (am_Ew.conv (fun k => (if x3 < (f 3 2) then (if ((x1 >>> (x3 &&& 31)) &&& 1) = 1 then (if x2 = (-9) then (k 5 [some (.ref 81), some (.int x1), some (.int x3), some (.int (x3 + 1))] [] am_G0 f) else (am_chk x3 6 (am_chk x2 6 (if (f (81 + 1) x3.toNatClampNeg) < (f (81 + 1) x2.toNatClampNeg) then (k 5 [some (.ref 81), some (.int x1), some (.int x3), some (.int (x3 + 1))] [] am_G0 f) else (k 5 [some (.ref 81), some (.int x1), some (.int x2), some (.int (x3 + 1))] [] am_G0 f))))) else (k 5 [some (.ref 81), some (.int x1), some (.int x2), some (.int (x3 + 1))] [] am_G0 f)) else (some (some (.int x2), am_G0, f)))) (fun k => rfl) ?_)
    refine am_Ew.ite h (fun _ h => ?_) (fun _ h => ?_)
    · refine am_Ew.ite h (fun _ h => ?_) (fun _ h => ?_)
      · refine am_Ew.ite h (fun _ h => ?_) (fun _ h => ?_)
        · exact am_Ew.run (lk_X4_slowestOf_81_5  n _ _ _ _ _ _ h )
        · refine am_Ew.chk h (fun h => ?_)
          refine am_Ew.chk h (fun h => ?_)
          refine am_Ew.ite h (fun _ h => ?_) (fun _ h => ?_)
          · exact am_Ew.run (lk_X4_slowestOf_81_5  n _ _ _ _ _ _ h )
          · exact am_Ew.run (lk_X4_slowestOf_81_5  n _ _ _ _ _ _ h )
      · exact am_Ew.run (lk_X4_slowestOf_81_5  n _ _ _ _ _ _ h )
    · exact am_Ew.retI h
set_option maxHeartbeats 400000 in
set_option maxRecDepth 100000 in
theorem lk_X4_slowestOf_81 {X : am_X} {a1 : Int32} {f f' : am_M} {v' : Int32} (h : D_X4_slowestOf 81 0 a1 f = some (v', f')) : am_Ev X 27 0 [some (.ref 81), some (.int a1), none, none] [] f (some (.int v')) f' := by
  rw [D_X4_slowestOf] at h
  refine am_Ew.start [5] 4 (am_Ew.conv (fun k => (k 5 [some (.ref 81), some (.int a1), some (.int (-9)), some (.int 0)] [] am_G0 f)) (fun k => rfl) ?_)
  exact am_Ew.run (lk_X4_slowestOf_81_5 _ _ _ _ _ _ _ h )
set_option maxHeartbeats 400000 in
set_option maxRecDepth 100000 in
theorem lk_X4_wantedByAll_11_4 {X : am_X} : ∀ (n : Nat) (x1 x2 : Int32) (f : am_M) (v' : Int32) (f' : am_M), D_X4_wantedByAll_4 11 999 n x1 x2 f = some (v', f') → am_Ev X 28 4 [some (.ref 11), some (.int x1), some (.int x2)] [] f (some (.int v')) f'
  | 0, _, _, _, _, _, h => by cases h
  | n + 1, x1, x2, f, v', f', h => by
    rw [D_X4_wantedByAll_4] at h
    refine am_Ew.start [4] 14 (am_Ew.conv (fun k => (if x2 < (f 3 1) then (am_chk x2 3 (k 4 [some (.ref 11), some (.int (x1 + (f (11 + 5) x2.toNatClampNeg))), some (.int (x2 + 1))] [] am_G0 f)) else (some (some (.int x1), am_G0, f)))) (fun k => rfl) ?_)
    refine am_Ew.ite h (fun _ h => ?_) (fun _ h => ?_)
    · refine am_Ew.chk h (fun h => ?_)
      exact am_Ew.run (lk_X4_wantedByAll_11_4  n _ _ _ _ _ h )
    · exact am_Ew.retI h
set_option maxHeartbeats 400000 in
set_option maxRecDepth 100000 in
theorem lk_X4_wantedByAll_11 {X : am_X} {f f' : am_M} {v' : Int32} (h : D_X4_wantedByAll 11 999 f = some (v', f')) : am_Ev X 28 0 [some (.ref 11), none, none] [] f (some (.int v')) f' := by
  rw [D_X4_wantedByAll] at h
  refine am_Ew.start [4] 4 (am_Ew.conv (fun k => (k 4 [some (.ref 11), some (.int 0), some (.int 0)] [] am_G0 f)) (fun k => rfl) ?_)
  exact am_Ew.run (lk_X4_wantedByAll_11_4 _ _ _ _ _ _ h )
set_option maxHeartbeats 400000 in
set_option maxRecDepth 100000 in
theorem lk_X4_placeInRow_11_2 {X : am_X} : ∀ (n : Nat) (x1 x2 : Int32) (f : am_M) (v' : Int32) (f' : am_M), D_X4_placeInRow_2 11 999 n x1 x2 f = some (v', f') → am_Ev X 29 2 [some (.ref 11), some (.int x1), some (.int x2)] [] f (some (.int v')) f'
  | 0, _, _, _, _, _, h => by cases h
  | n + 1, x1, x2, f, v', f', h => by
    rw [D_X4_placeInRow_2] at h
    refine am_Ew.start [2] 12 (am_Ew.conv (fun k => (if x2 < (f 11 9) then (am_chk x2 3 (if (f (11 + 4) x2.toNatClampNeg) = x1 then (some (some (.int x2), am_G0, f)) else (k 2 [some (.ref 11), some (.int x1), some (.int (x2 + 1))] [] am_G0 f))) else (some (some (.int (-9)), am_G0, f)))) (fun k => rfl) ?_)
    refine am_Ew.ite h (fun _ h => ?_) (fun _ h => ?_)
    · refine am_Ew.chk h (fun h => ?_)
      refine am_Ew.ite h (fun _ h => ?_) (fun _ h => ?_)
      · exact am_Ew.retI h
      · exact am_Ew.run (lk_X4_placeInRow_11_2  n _ _ _ _ _ h )
    · exact am_Ew.retI h
set_option maxHeartbeats 400000 in
set_option maxRecDepth 100000 in
theorem lk_X4_placeInRow_11 {X : am_X} {a1 : Int32} {f f' : am_M} {v' : Int32} (h : D_X4_placeInRow 11 999 a1 f = some (v', f')) : am_Ev X 29 0 [some (.ref 11), some (.int a1), none] [] f (some (.int v')) f' := by
  rw [D_X4_placeInRow] at h
  refine am_Ew.start [2] 2 (am_Ew.conv (fun k => (k 2 [some (.ref 11), some (.int a1), some (.int 0)] [] am_G0 f)) (fun k => rfl) ?_)
  exact am_Ew.run (lk_X4_placeInRow_11_2 _ _ _ _ _ _ h )
set_option maxHeartbeats 400000 in
set_option maxRecDepth 100000 in
theorem lk_X4_placeInRow_81_2 {X : am_X} : ∀ (n : Nat) (x1 x2 : Int32) (f : am_M) (v' : Int32) (f' : am_M), D_X4_placeInRow_2 81 0 n x1 x2 f = some (v', f') → am_Ev X 29 2 [some (.ref 81), some (.int x1), some (.int x2)] [] f (some (.int v')) f'
  | 0, _, _, _, _, _, h => by cases h
  | n + 1, x1, x2, f, v', f', h => by
    rw [D_X4_placeInRow_2] at h
    refine am_Ew.start [2] 12 (am_Ew.conv (fun k => (if x2 < (f 81 9) then (am_chk x2 3 (if (f (81 + 4) x2.toNatClampNeg) = x1 then (some (some (.int x2), am_G0, f)) else (k 2 [some (.ref 81), some (.int x1), some (.int (x2 + 1))] [] am_G0 f))) else (some (some (.int (-9)), am_G0, f)))) (fun k => rfl) ?_)
    refine am_Ew.ite h (fun _ h => ?_) (fun _ h => ?_)
    · refine am_Ew.chk h (fun h => ?_)
      refine am_Ew.ite h (fun _ h => ?_) (fun _ h => ?_)
      · exact am_Ew.retI h
      · exact am_Ew.run (lk_X4_placeInRow_81_2  n _ _ _ _ _ h )
    · exact am_Ew.retI h
set_option maxHeartbeats 400000 in
set_option maxRecDepth 100000 in
theorem lk_X4_placeInRow_81 {X : am_X} {a1 : Int32} {f f' : am_M} {v' : Int32} (h : D_X4_placeInRow 81 0 a1 f = some (v', f')) : am_Ev X 29 0 [some (.ref 81), some (.int a1), none] [] f (some (.int v')) f' := by
  rw [D_X4_placeInRow] at h
  refine am_Ew.start [2] 2 (am_Ew.conv (fun k => (k 2 [some (.ref 81), some (.int a1), some (.int 0)] [] am_G0 f)) (fun k => rfl) ?_)
  exact am_Ew.run (lk_X4_placeInRow_81_2 _ _ _ _ _ _ h )
set_option maxHeartbeats 400000 in
set_option maxRecDepth 100000 in
theorem lk_X4_claim_11_18 {X : am_X} : ∀ (n : Nat) (x1 x3 x4 : Int32) (f : am_M) (v' : Int32) (f' : am_M), D_X4_claim_18 11 999 n x1 x3 x4 f = some (v', f') → ∀ d2 : Option Value, am_Ev X 32 18 [some (.ref 11), some (.int x1), d2, some (.int x3), some (.int x4)] [] f (some (.int v')) f'
  | 0, _, _, _, _, _, _, h, _ => by cases h
  | n + 1, x1, x3, x4, f, v', f', h, d2 => by
    rw [D_X4_claim_18] at h
    refine am_Ew.start [18] 16 (am_Ew.conv (fun k => (if x4 < (f 11 2) then (if x4 < (Int32.ofNat 999) then (am_chk x4 999 (k 18 [some (.ref 11), some (.int x1), d2, some (.int x3), some (.int (x4 + 1))] [] am_G0 (am_wr f (11 + 6) x4.toNatClampNeg x1))) else (some (some (.int x3), am_G0, f))) else (some (some (.int x3), am_G0, f)))) (fun k => rfl) ?_)
    refine am_Ew.ite h (fun _ h => ?_) (fun _ h => ?_)
    · refine am_Ew.ite h (fun _ h => ?_) (fun _ h => ?_)
      · refine am_Ew.chk h (fun h => ?_)
        exact am_Ew.run (lk_X4_claim_11_18  n _ _ _ _ _ _ h _ )
      · exact am_Ew.retI h
    · exact am_Ew.retI h
set_option maxHeartbeats 400000 in
set_option maxRecDepth 100000 in
theorem lk_X4_claim_11 {X : am_X} {a1 a2 : Int32} {f f' : am_M} {v' : Int32} (h : D_X4_claim 11 999 a1 a2 f = some (v', f')) : am_Ev X 32 0 [some (.ref 11), some (.int a1), some (.int a2), none, none] [] f (some (.int v')) f' := by
  rw [D_X4_claim] at h
  refine am_Ew.start [18] 11 (am_Ew.conv (fun k => (k 18 [some (.ref 11), some (.int a1), some (.int a2), some (.int (f 11 2)), some (.int (f 11 2))] [] am_G0 (am_wr f 11 2 ((f 11 2) + a2)))) (fun k => rfl) ?_)
  exact am_Ew.run (lk_X4_claim_11_18 _ _ _ _ _ _ _ h _ )
set_option maxHeartbeats 400000 in
set_option maxRecDepth 100000 in
theorem lk_X4_claim_81_18 {X : am_X} : ∀ (n : Nat) (x1 x3 x4 : Int32) (f : am_M) (v' : Int32) (f' : am_M), D_X4_claim_18 81 0 n x1 x3 x4 f = some (v', f') → ∀ d2 : Option Value, am_Ev X 32 18 [some (.ref 81), some (.int x1), d2, some (.int x3), some (.int x4)] [] f (some (.int v')) f'
  | 0, _, _, _, _, _, _, h, _ => by cases h
  | n + 1, x1, x3, x4, f, v', f', h, d2 => by
    rw [D_X4_claim_18] at h
    refine am_Ew.start [18] 16 (am_Ew.conv (fun k => (if x4 < (f 81 2) then (if x4 < (Int32.ofNat 0) then (am_chk x4 0 (k 18 [some (.ref 81), some (.int x1), d2, some (.int x3), some (.int (x4 + 1))] [] am_G0 (am_wr f (81 + 6) x4.toNatClampNeg x1))) else (some (some (.int x3), am_G0, f))) else (some (some (.int x3), am_G0, f)))) (fun k => rfl) ?_)
    refine am_Ew.ite h (fun _ h => ?_) (fun _ h => ?_)
    · refine am_Ew.ite h (fun _ h => ?_) (fun _ h => ?_)
      · refine am_Ew.chk h (fun h => ?_)
        exact am_Ew.run (lk_X4_claim_81_18  n _ _ _ _ _ _ h _ )
      · exact am_Ew.retI h
    · exact am_Ew.retI h
set_option maxHeartbeats 400000 in
set_option maxRecDepth 100000 in
theorem lk_X4_claim_81 {X : am_X} {a1 a2 : Int32} {f f' : am_M} {v' : Int32} (h : D_X4_claim 81 0 a1 a2 f = some (v', f')) : am_Ev X 32 0 [some (.ref 81), some (.int a1), some (.int a2), none, none] [] f (some (.int v')) f' := by
  rw [D_X4_claim] at h
  refine am_Ew.start [18] 11 (am_Ew.conv (fun k => (k 18 [some (.ref 81), some (.int a1), some (.int a2), some (.int (f 81 2)), some (.int (f 81 2))] [] am_G0 (am_wr f 81 2 ((f 81 2) + a2)))) (fun k => rfl) ?_)
  exact am_Ew.run (lk_X4_claim_81_18 _ _ _ _ _ _ _ h _ )
set_option maxHeartbeats 400000 in
set_option maxRecDepth 100000 in
theorem lk_X4_closeAllByRule_81 {X : am_X} {f f' : am_M} (h : D_X4_closeAllByRule 81 0 f = some f') : am_Ev X 37 0 [some (.ref 81)] [] f none f' := by
  rw [D_X4_closeAllByRule] at h
  refine am_Ew.start [] 5 (am_Ew.conv (fun k => (some (none, am_G0, (am_wr f 81 3 (f 81 2))))) (fun k => rfl) ?_)
  exact am_Ew.retV h
set_option maxHeartbeats 400000 in
set_option maxRecDepth 100000 in
theorem lk_X4_takesToAdmitFirst_11_60 {X : am_X} : ∀ (n : Nat) (x1 x2 x3 : Int32) (f : am_M) (v' : Int32) (f' : am_M), D_X4_takesToAdmitFirst_60 11 999 n x1 x2 x3 f = some (v', f') → am_Ev X 40 60 [some (.ref 11), some (.int x1), some (.int x2), some (.int x3)] [] f (some (.int v')) f'
  | 0, _, _, _, _, _, _, h => by cases h
  | n + 1, x1, x2, x3, f, v', f', h => by
    rw [D_X4_takesToAdmitFirst_60] at h
    refine am_Ew.start [60] 14 (am_Ew.conv (fun k => (if x3 < (f 3 2) then (am_chk x3 6 (if (f (11 + 1) x3.toNatClampNeg) < x1 then (k 60 [some (.ref 11), some (.int x1), some (.int (x2 + 1)), some (.int (x3 + 1))] [] am_G0 f) else (k 60 [some (.ref 11), some (.int x1), some (.int x2), some (.int (x3 + 1))] [] am_G0 f))) else (some (some (.int x2), am_G0, f)))) (fun k => rfl) ?_)
    refine am_Ew.ite h (fun _ h => ?_) (fun _ h => ?_)
    · refine am_Ew.chk h (fun h => ?_)
      refine am_Ew.ite h (fun _ h => ?_) (fun _ h => ?_)
      · exact am_Ew.run (lk_X4_takesToAdmitFirst_11_60  n _ _ _ _ _ _ h )
      · exact am_Ew.run (lk_X4_takesToAdmitFirst_11_60  n _ _ _ _ _ _ h )
    · exact am_Ew.retI h
set_option maxHeartbeats 400000 in
set_option maxRecDepth 100000 in
theorem lk_X4_takesToAdmitFirst_11 {X : am_X} {f f' : am_M} {v' : Int32} (h : D_X4_takesToAdmitFirst 11 999 f = some (v', f')) : am_Ev X 40 0 [some (.ref 11), none, none, none] [] f (some (.int v')) f' := by
  rw [D_X4_takesToAdmitFirst] at h
  refine am_Ew.start [60] 30 (am_Ew.conv (fun k => (if (f 11 9) = 0 then (some (some (.int (-9)), am_G0, f)) else (if (f 3 2) = 0 then (some (some (.int (-9)), am_G0, f)) else (am_chk (f (11 + 4) 0) 3 (if (f 11 3) < (((f 11 2) + (f (11 + 5) (f (11 + 4) 0).toNatClampNeg)) - (f 3 0)) then (some (some (.int (-9)), am_G0, f)) else (k 60 [some (.ref 11), some (.int (((f 11 2) + (f (11 + 5) (f (11 + 4) 0).toNatClampNeg)) - (f 3 0))), some (.int 0), some (.int 0)] [] am_G0 f)))))) (fun k => rfl) ?_)
  refine am_Ew.ite h (fun _ h => ?_) (fun _ h => ?_)
  · exact am_Ew.retI h
  · refine am_Ew.ite h (fun _ h => ?_) (fun _ h => ?_)
    · exact am_Ew.retI h
    · refine am_Ew.chk h (fun h => ?_)
      refine am_Ew.ite h (fun _ h => ?_) (fun _ h => ?_)
      · exact am_Ew.retI h
      · exact am_Ew.run (lk_X4_takesToAdmitFirst_11_60 _ _ _ _ _ _ _ h )
set_option maxHeartbeats 400000 in
set_option maxRecDepth 100000 in
theorem lk_X4_copyFrom_11_21 {X : am_X} {f f' : am_M} (h : D_X4_copyFrom 11 999 21 0 f = some f') : am_Ev X 17 0 [some (.ref 11), some (.ref 21), none] [] f none f' := by
  rw [D_X4_copyFrom] at h
  refine am_Ew.start [107] 58 (am_Ew.conv (fun k => (k 107 [some (.ref 11), some (.ref 21), none] [.int (Int32.ofNat 0), .int (Int32.ofNat 999)] am_G0 (am_cp (am_cp (am_cp (am_cp (am_cp (am_wr (am_wr (am_wr f 11 2 (f 21 2)) 11 3 (f 21 3)) 11 9 (f 21 9)) (21 + 1) (11 + 1) 0 0 6) (21 + 2) (11 + 2) 0 0 6) (21 + 3) (11 + 3) 0 0 6) (21 + 4) (11 + 4) 0 0 3) (21 + 5) (11 + 5) 0 0 3))) (fun k => rfl) ?_)
  obtain ⟨v1, f1, h1, h⟩ := am_bI_some h
  refine am_Ew.run (am_Ev.call (fun n => rfl) (lk_J9_min_7cf53 h1) ?_)
  refine am_Ew.start [126] 10 (am_Ew.conv (fun k => (k 126 [some (.ref 11), some (.ref 21), some (.int v1)] [.int (f1 11 2), .int v1, .int 0, .ref (11 + 6), .int 0, .ref (21 + 6)] am_G0 f1)) (fun k => rfl) ?_)
  obtain ⟨v2, f2, h1, h⟩ := am_bI_some h
  refine am_Ew.run (am_Ev.call (fun n => rfl) (lk_J9_min_7cf53 h1) ?_)
  refine am_Ew.start [] 2 (am_Ew.conv (fun k => (if v2 < 0 then none else (if 0 + v2.toNatClampNeg ≤ 0 then (if 0 + v2.toNatClampNeg ≤ 999 then (some (none, am_G0, (am_cp f2 (21 + 6) (11 + 6) 0 0 v2.toNatClampNeg))) else none) else none))) (fun k => rfl) ?_)
  refine am_Ew.ite h (fun _ h => ?_) (fun _ h => ?_)
  · exact am_Ew.none h
  · refine am_Ew.ite h (fun _ h => ?_) (fun _ h => ?_)
    · refine am_Ew.ite h (fun _ h => ?_) (fun _ h => ?_)
      · exact am_Ew.retV h
      · exact am_Ew.none h
    · exact am_Ew.none h
set_option maxHeartbeats 400000 in
set_option maxRecDepth 100000 in
theorem lk_X4_copyFrom_11_28 {X : am_X} {f f' : am_M} (h : D_X4_copyFrom 11 999 28 0 f = some f') : am_Ev X 17 0 [some (.ref 11), some (.ref 28), none] [] f none f' := by
  rw [D_X4_copyFrom] at h
  refine am_Ew.start [107] 58 (am_Ew.conv (fun k => (k 107 [some (.ref 11), some (.ref 28), none] [.int (Int32.ofNat 0), .int (Int32.ofNat 999)] am_G0 (am_cp (am_cp (am_cp (am_cp (am_cp (am_wr (am_wr (am_wr f 11 2 (f 28 2)) 11 3 (f 28 3)) 11 9 (f 28 9)) (28 + 1) (11 + 1) 0 0 6) (28 + 2) (11 + 2) 0 0 6) (28 + 3) (11 + 3) 0 0 6) (28 + 4) (11 + 4) 0 0 3) (28 + 5) (11 + 5) 0 0 3))) (fun k => rfl) ?_)
  obtain ⟨v1, f1, h1, h⟩ := am_bI_some h
  refine am_Ew.run (am_Ev.call (fun n => rfl) (lk_J9_min_7cf53 h1) ?_)
  refine am_Ew.start [126] 10 (am_Ew.conv (fun k => (k 126 [some (.ref 11), some (.ref 28), some (.int v1)] [.int (f1 11 2), .int v1, .int 0, .ref (11 + 6), .int 0, .ref (28 + 6)] am_G0 f1)) (fun k => rfl) ?_)
  obtain ⟨v2, f2, h1, h⟩ := am_bI_some h
  refine am_Ew.run (am_Ev.call (fun n => rfl) (lk_J9_min_7cf53 h1) ?_)
  refine am_Ew.start [] 2 (am_Ew.conv (fun k => (if v2 < 0 then none else (if 0 + v2.toNatClampNeg ≤ 0 then (if 0 + v2.toNatClampNeg ≤ 999 then (some (none, am_G0, (am_cp f2 (28 + 6) (11 + 6) 0 0 v2.toNatClampNeg))) else none) else none))) (fun k => rfl) ?_)
  refine am_Ew.ite h (fun _ h => ?_) (fun _ h => ?_)
  · exact am_Ew.none h
  · refine am_Ew.ite h (fun _ h => ?_) (fun _ h => ?_)
    · refine am_Ew.ite h (fun _ h => ?_) (fun _ h => ?_)
      · exact am_Ew.retV h
      · exact am_Ew.none h
    · exact am_Ew.none h
set_option maxHeartbeats 400000 in
set_option maxRecDepth 100000 in
theorem lk_X4_copyFrom_11_35 {X : am_X} {f f' : am_M} (h : D_X4_copyFrom 11 999 35 0 f = some f') : am_Ev X 17 0 [some (.ref 11), some (.ref 35), none] [] f none f' := by
  rw [D_X4_copyFrom] at h
  refine am_Ew.start [107] 58 (am_Ew.conv (fun k => (k 107 [some (.ref 11), some (.ref 35), none] [.int (Int32.ofNat 0), .int (Int32.ofNat 999)] am_G0 (am_cp (am_cp (am_cp (am_cp (am_cp (am_wr (am_wr (am_wr f 11 2 (f 35 2)) 11 3 (f 35 3)) 11 9 (f 35 9)) (35 + 1) (11 + 1) 0 0 6) (35 + 2) (11 + 2) 0 0 6) (35 + 3) (11 + 3) 0 0 6) (35 + 4) (11 + 4) 0 0 3) (35 + 5) (11 + 5) 0 0 3))) (fun k => rfl) ?_)
  obtain ⟨v1, f1, h1, h⟩ := am_bI_some h
  refine am_Ew.run (am_Ev.call (fun n => rfl) (lk_J9_min_7cf53 h1) ?_)
  refine am_Ew.start [126] 10 (am_Ew.conv (fun k => (k 126 [some (.ref 11), some (.ref 35), some (.int v1)] [.int (f1 11 2), .int v1, .int 0, .ref (11 + 6), .int 0, .ref (35 + 6)] am_G0 f1)) (fun k => rfl) ?_)
  obtain ⟨v2, f2, h1, h⟩ := am_bI_some h
  refine am_Ew.run (am_Ev.call (fun n => rfl) (lk_J9_min_7cf53 h1) ?_)
  refine am_Ew.start [] 2 (am_Ew.conv (fun k => (if v2 < 0 then none else (if 0 + v2.toNatClampNeg ≤ 0 then (if 0 + v2.toNatClampNeg ≤ 999 then (some (none, am_G0, (am_cp f2 (35 + 6) (11 + 6) 0 0 v2.toNatClampNeg))) else none) else none))) (fun k => rfl) ?_)
  refine am_Ew.ite h (fun _ h => ?_) (fun _ h => ?_)
  · exact am_Ew.none h
  · refine am_Ew.ite h (fun _ h => ?_) (fun _ h => ?_)
    · refine am_Ew.ite h (fun _ h => ?_) (fun _ h => ?_)
      · exact am_Ew.retV h
      · exact am_Ew.none h
    · exact am_Ew.none h
set_option maxHeartbeats 400000 in
set_option maxRecDepth 100000 in
theorem lk_X4_copyFrom_11_42 {X : am_X} {f f' : am_M} (h : D_X4_copyFrom 11 999 42 0 f = some f') : am_Ev X 17 0 [some (.ref 11), some (.ref 42), none] [] f none f' := by
  rw [D_X4_copyFrom] at h
  refine am_Ew.start [107] 58 (am_Ew.conv (fun k => (k 107 [some (.ref 11), some (.ref 42), none] [.int (Int32.ofNat 0), .int (Int32.ofNat 999)] am_G0 (am_cp (am_cp (am_cp (am_cp (am_cp (am_wr (am_wr (am_wr f 11 2 (f 42 2)) 11 3 (f 42 3)) 11 9 (f 42 9)) (42 + 1) (11 + 1) 0 0 6) (42 + 2) (11 + 2) 0 0 6) (42 + 3) (11 + 3) 0 0 6) (42 + 4) (11 + 4) 0 0 3) (42 + 5) (11 + 5) 0 0 3))) (fun k => rfl) ?_)
  obtain ⟨v1, f1, h1, h⟩ := am_bI_some h
  refine am_Ew.run (am_Ev.call (fun n => rfl) (lk_J9_min_7cf53 h1) ?_)
  refine am_Ew.start [126] 10 (am_Ew.conv (fun k => (k 126 [some (.ref 11), some (.ref 42), some (.int v1)] [.int (f1 11 2), .int v1, .int 0, .ref (11 + 6), .int 0, .ref (42 + 6)] am_G0 f1)) (fun k => rfl) ?_)
  obtain ⟨v2, f2, h1, h⟩ := am_bI_some h
  refine am_Ew.run (am_Ev.call (fun n => rfl) (lk_J9_min_7cf53 h1) ?_)
  refine am_Ew.start [] 2 (am_Ew.conv (fun k => (if v2 < 0 then none else (if 0 + v2.toNatClampNeg ≤ 0 then (if 0 + v2.toNatClampNeg ≤ 999 then (some (none, am_G0, (am_cp f2 (42 + 6) (11 + 6) 0 0 v2.toNatClampNeg))) else none) else none))) (fun k => rfl) ?_)
  refine am_Ew.ite h (fun _ h => ?_) (fun _ h => ?_)
  · exact am_Ew.none h
  · refine am_Ew.ite h (fun _ h => ?_) (fun _ h => ?_)
    · refine am_Ew.ite h (fun _ h => ?_) (fun _ h => ?_)
      · exact am_Ew.retV h
      · exact am_Ew.none h
    · exact am_Ew.none h
set_option maxHeartbeats 400000 in
set_option maxRecDepth 100000 in
theorem lk_X4_copyFrom_11_49 {X : am_X} {f f' : am_M} (h : D_X4_copyFrom 11 999 49 0 f = some f') : am_Ev X 17 0 [some (.ref 11), some (.ref 49), none] [] f none f' := by
  rw [D_X4_copyFrom] at h
  refine am_Ew.start [107] 58 (am_Ew.conv (fun k => (k 107 [some (.ref 11), some (.ref 49), none] [.int (Int32.ofNat 0), .int (Int32.ofNat 999)] am_G0 (am_cp (am_cp (am_cp (am_cp (am_cp (am_wr (am_wr (am_wr f 11 2 (f 49 2)) 11 3 (f 49 3)) 11 9 (f 49 9)) (49 + 1) (11 + 1) 0 0 6) (49 + 2) (11 + 2) 0 0 6) (49 + 3) (11 + 3) 0 0 6) (49 + 4) (11 + 4) 0 0 3) (49 + 5) (11 + 5) 0 0 3))) (fun k => rfl) ?_)
  obtain ⟨v1, f1, h1, h⟩ := am_bI_some h
  refine am_Ew.run (am_Ev.call (fun n => rfl) (lk_J9_min_7cf53 h1) ?_)
  refine am_Ew.start [126] 10 (am_Ew.conv (fun k => (k 126 [some (.ref 11), some (.ref 49), some (.int v1)] [.int (f1 11 2), .int v1, .int 0, .ref (11 + 6), .int 0, .ref (49 + 6)] am_G0 f1)) (fun k => rfl) ?_)
  obtain ⟨v2, f2, h1, h⟩ := am_bI_some h
  refine am_Ew.run (am_Ev.call (fun n => rfl) (lk_J9_min_7cf53 h1) ?_)
  refine am_Ew.start [] 2 (am_Ew.conv (fun k => (if v2 < 0 then none else (if 0 + v2.toNatClampNeg ≤ 0 then (if 0 + v2.toNatClampNeg ≤ 999 then (some (none, am_G0, (am_cp f2 (49 + 6) (11 + 6) 0 0 v2.toNatClampNeg))) else none) else none))) (fun k => rfl) ?_)
  refine am_Ew.ite h (fun _ h => ?_) (fun _ h => ?_)
  · exact am_Ew.none h
  · refine am_Ew.ite h (fun _ h => ?_) (fun _ h => ?_)
    · refine am_Ew.ite h (fun _ h => ?_) (fun _ h => ?_)
      · exact am_Ew.retV h
      · exact am_Ew.none h
    · exact am_Ew.none h
set_option maxHeartbeats 400000 in
set_option maxRecDepth 100000 in
theorem lk_X4_copyFrom_11_56 {X : am_X} {f f' : am_M} (h : D_X4_copyFrom 11 999 56 0 f = some f') : am_Ev X 17 0 [some (.ref 11), some (.ref 56), none] [] f none f' := by
  rw [D_X4_copyFrom] at h
  refine am_Ew.start [107] 58 (am_Ew.conv (fun k => (k 107 [some (.ref 11), some (.ref 56), none] [.int (Int32.ofNat 0), .int (Int32.ofNat 999)] am_G0 (am_cp (am_cp (am_cp (am_cp (am_cp (am_wr (am_wr (am_wr f 11 2 (f 56 2)) 11 3 (f 56 3)) 11 9 (f 56 9)) (56 + 1) (11 + 1) 0 0 6) (56 + 2) (11 + 2) 0 0 6) (56 + 3) (11 + 3) 0 0 6) (56 + 4) (11 + 4) 0 0 3) (56 + 5) (11 + 5) 0 0 3))) (fun k => rfl) ?_)
  obtain ⟨v1, f1, h1, h⟩ := am_bI_some h
  refine am_Ew.run (am_Ev.call (fun n => rfl) (lk_J9_min_7cf53 h1) ?_)
  refine am_Ew.start [126] 10 (am_Ew.conv (fun k => (k 126 [some (.ref 11), some (.ref 56), some (.int v1)] [.int (f1 11 2), .int v1, .int 0, .ref (11 + 6), .int 0, .ref (56 + 6)] am_G0 f1)) (fun k => rfl) ?_)
  obtain ⟨v2, f2, h1, h⟩ := am_bI_some h
  refine am_Ew.run (am_Ev.call (fun n => rfl) (lk_J9_min_7cf53 h1) ?_)
  refine am_Ew.start [] 2 (am_Ew.conv (fun k => (if v2 < 0 then none else (if 0 + v2.toNatClampNeg ≤ 0 then (if 0 + v2.toNatClampNeg ≤ 999 then (some (none, am_G0, (am_cp f2 (56 + 6) (11 + 6) 0 0 v2.toNatClampNeg))) else none) else none))) (fun k => rfl) ?_)
  refine am_Ew.ite h (fun _ h => ?_) (fun _ h => ?_)
  · exact am_Ew.none h
  · refine am_Ew.ite h (fun _ h => ?_) (fun _ h => ?_)
    · refine am_Ew.ite h (fun _ h => ?_) (fun _ h => ?_)
      · exact am_Ew.retV h
      · exact am_Ew.none h
    · exact am_Ew.none h
set_option maxHeartbeats 400000 in
set_option maxRecDepth 100000 in
theorem lk_X4_copyFrom_11_64 {X : am_X} {f f' : am_M} (h : D_X4_copyFrom 11 999 64 999 f = some f') : am_Ev X 17 0 [some (.ref 11), some (.ref 64), none] [] f none f' := by
  rw [D_X4_copyFrom] at h
  refine am_Ew.start [107] 58 (am_Ew.conv (fun k => (k 107 [some (.ref 11), some (.ref 64), none] [.int (Int32.ofNat 999), .int (Int32.ofNat 999)] am_G0 (am_cp (am_cp (am_cp (am_cp (am_cp (am_wr (am_wr (am_wr f 11 2 (f 64 2)) 11 3 (f 64 3)) 11 9 (f 64 9)) (64 + 1) (11 + 1) 0 0 6) (64 + 2) (11 + 2) 0 0 6) (64 + 3) (11 + 3) 0 0 6) (64 + 4) (11 + 4) 0 0 3) (64 + 5) (11 + 5) 0 0 3))) (fun k => rfl) ?_)
  obtain ⟨v1, f1, h1, h⟩ := am_bI_some h
  refine am_Ew.run (am_Ev.call (fun n => rfl) (lk_J9_min_7cf53 h1) ?_)
  refine am_Ew.start [126] 10 (am_Ew.conv (fun k => (k 126 [some (.ref 11), some (.ref 64), some (.int v1)] [.int (f1 11 2), .int v1, .int 0, .ref (11 + 6), .int 0, .ref (64 + 6)] am_G0 f1)) (fun k => rfl) ?_)
  obtain ⟨v2, f2, h1, h⟩ := am_bI_some h
  refine am_Ew.run (am_Ev.call (fun n => rfl) (lk_J9_min_7cf53 h1) ?_)
  refine am_Ew.start [] 2 (am_Ew.conv (fun k => (if v2 < 0 then none else (if 0 + v2.toNatClampNeg ≤ 999 then (if 0 + v2.toNatClampNeg ≤ 999 then (some (none, am_G0, (am_cp f2 (64 + 6) (11 + 6) 0 0 v2.toNatClampNeg))) else none) else none))) (fun k => rfl) ?_)
  refine am_Ew.ite h (fun _ h => ?_) (fun _ h => ?_)
  · exact am_Ew.none h
  · refine am_Ew.ite h (fun _ h => ?_) (fun _ h => ?_)
    · refine am_Ew.ite h (fun _ h => ?_) (fun _ h => ?_)
      · exact am_Ew.retV h
      · exact am_Ew.none h
    · exact am_Ew.none h
set_option maxHeartbeats 400000 in
set_option maxRecDepth 100000 in
theorem lk_X4_copyFrom_11_72 {X : am_X} {f f' : am_M} (h : D_X4_copyFrom 11 999 72 999 f = some f') : am_Ev X 17 0 [some (.ref 11), some (.ref 72), none] [] f none f' := by
  rw [D_X4_copyFrom] at h
  refine am_Ew.start [107] 58 (am_Ew.conv (fun k => (k 107 [some (.ref 11), some (.ref 72), none] [.int (Int32.ofNat 999), .int (Int32.ofNat 999)] am_G0 (am_cp (am_cp (am_cp (am_cp (am_cp (am_wr (am_wr (am_wr f 11 2 (f 72 2)) 11 3 (f 72 3)) 11 9 (f 72 9)) (72 + 1) (11 + 1) 0 0 6) (72 + 2) (11 + 2) 0 0 6) (72 + 3) (11 + 3) 0 0 6) (72 + 4) (11 + 4) 0 0 3) (72 + 5) (11 + 5) 0 0 3))) (fun k => rfl) ?_)
  obtain ⟨v1, f1, h1, h⟩ := am_bI_some h
  refine am_Ew.run (am_Ev.call (fun n => rfl) (lk_J9_min_7cf53 h1) ?_)
  refine am_Ew.start [126] 10 (am_Ew.conv (fun k => (k 126 [some (.ref 11), some (.ref 72), some (.int v1)] [.int (f1 11 2), .int v1, .int 0, .ref (11 + 6), .int 0, .ref (72 + 6)] am_G0 f1)) (fun k => rfl) ?_)
  obtain ⟨v2, f2, h1, h⟩ := am_bI_some h
  refine am_Ew.run (am_Ev.call (fun n => rfl) (lk_J9_min_7cf53 h1) ?_)
  refine am_Ew.start [] 2 (am_Ew.conv (fun k => (if v2 < 0 then none else (if 0 + v2.toNatClampNeg ≤ 999 then (if 0 + v2.toNatClampNeg ≤ 999 then (some (none, am_G0, (am_cp f2 (72 + 6) (11 + 6) 0 0 v2.toNatClampNeg))) else none) else none))) (fun k => rfl) ?_)
  refine am_Ew.ite h (fun _ h => ?_) (fun _ h => ?_)
  · exact am_Ew.none h
  · refine am_Ew.ite h (fun _ h => ?_) (fun _ h => ?_)
    · refine am_Ew.ite h (fun _ h => ?_) (fun _ h => ?_)
      · exact am_Ew.retV h
      · exact am_Ew.none h
    · exact am_Ew.none h
set_option maxHeartbeats 400000 in
set_option maxRecDepth 100000 in
theorem lk_X4_copyFrom_21_11 {X : am_X} {f f' : am_M} (h : D_X4_copyFrom 21 0 11 999 f = some f') : am_Ev X 17 0 [some (.ref 21), some (.ref 11), none] [] f none f' := by
  rw [D_X4_copyFrom] at h
  refine am_Ew.start [107] 58 (am_Ew.conv (fun k => (k 107 [some (.ref 21), some (.ref 11), none] [.int (Int32.ofNat 999), .int (Int32.ofNat 0)] am_G0 (am_cp (am_cp (am_cp (am_cp (am_cp (am_wr (am_wr (am_wr f 21 2 (f 11 2)) 21 3 (f 11 3)) 21 9 (f 11 9)) (11 + 1) (21 + 1) 0 0 6) (11 + 2) (21 + 2) 0 0 6) (11 + 3) (21 + 3) 0 0 6) (11 + 4) (21 + 4) 0 0 3) (11 + 5) (21 + 5) 0 0 3))) (fun k => rfl) ?_)
  obtain ⟨v1, f1, h1, h⟩ := am_bI_some h
  refine am_Ew.run (am_Ev.call (fun n => rfl) (lk_J9_min_7cf53 h1) ?_)
  refine am_Ew.start [126] 10 (am_Ew.conv (fun k => (k 126 [some (.ref 21), some (.ref 11), some (.int v1)] [.int (f1 21 2), .int v1, .int 0, .ref (21 + 6), .int 0, .ref (11 + 6)] am_G0 f1)) (fun k => rfl) ?_)
  obtain ⟨v2, f2, h1, h⟩ := am_bI_some h
  refine am_Ew.run (am_Ev.call (fun n => rfl) (lk_J9_min_7cf53 h1) ?_)
  refine am_Ew.start [] 2 (am_Ew.conv (fun k => (if v2 < 0 then none else (if 0 + v2.toNatClampNeg ≤ 999 then (if 0 + v2.toNatClampNeg ≤ 0 then (some (none, am_G0, (am_cp f2 (11 + 6) (21 + 6) 0 0 v2.toNatClampNeg))) else none) else none))) (fun k => rfl) ?_)
  refine am_Ew.ite h (fun _ h => ?_) (fun _ h => ?_)
  · exact am_Ew.none h
  · refine am_Ew.ite h (fun _ h => ?_) (fun _ h => ?_)
    · refine am_Ew.ite h (fun _ h => ?_) (fun _ h => ?_)
      · exact am_Ew.retV h
      · exact am_Ew.none h
    · exact am_Ew.none h
set_option maxHeartbeats 400000 in
set_option maxRecDepth 100000 in
theorem lk_X4_copyFrom_28_11 {X : am_X} {f f' : am_M} (h : D_X4_copyFrom 28 0 11 999 f = some f') : am_Ev X 17 0 [some (.ref 28), some (.ref 11), none] [] f none f' := by
  rw [D_X4_copyFrom] at h
  refine am_Ew.start [107] 58 (am_Ew.conv (fun k => (k 107 [some (.ref 28), some (.ref 11), none] [.int (Int32.ofNat 999), .int (Int32.ofNat 0)] am_G0 (am_cp (am_cp (am_cp (am_cp (am_cp (am_wr (am_wr (am_wr f 28 2 (f 11 2)) 28 3 (f 11 3)) 28 9 (f 11 9)) (11 + 1) (28 + 1) 0 0 6) (11 + 2) (28 + 2) 0 0 6) (11 + 3) (28 + 3) 0 0 6) (11 + 4) (28 + 4) 0 0 3) (11 + 5) (28 + 5) 0 0 3))) (fun k => rfl) ?_)
  obtain ⟨v1, f1, h1, h⟩ := am_bI_some h
  refine am_Ew.run (am_Ev.call (fun n => rfl) (lk_J9_min_7cf53 h1) ?_)
  refine am_Ew.start [126] 10 (am_Ew.conv (fun k => (k 126 [some (.ref 28), some (.ref 11), some (.int v1)] [.int (f1 28 2), .int v1, .int 0, .ref (28 + 6), .int 0, .ref (11 + 6)] am_G0 f1)) (fun k => rfl) ?_)
  obtain ⟨v2, f2, h1, h⟩ := am_bI_some h
  refine am_Ew.run (am_Ev.call (fun n => rfl) (lk_J9_min_7cf53 h1) ?_)
  refine am_Ew.start [] 2 (am_Ew.conv (fun k => (if v2 < 0 then none else (if 0 + v2.toNatClampNeg ≤ 999 then (if 0 + v2.toNatClampNeg ≤ 0 then (some (none, am_G0, (am_cp f2 (11 + 6) (28 + 6) 0 0 v2.toNatClampNeg))) else none) else none))) (fun k => rfl) ?_)
  refine am_Ew.ite h (fun _ h => ?_) (fun _ h => ?_)
  · exact am_Ew.none h
  · refine am_Ew.ite h (fun _ h => ?_) (fun _ h => ?_)
    · refine am_Ew.ite h (fun _ h => ?_) (fun _ h => ?_)
      · exact am_Ew.retV h
      · exact am_Ew.none h
    · exact am_Ew.none h
set_option maxHeartbeats 400000 in
set_option maxRecDepth 100000 in
theorem lk_X4_copyFrom_35_11 {X : am_X} {f f' : am_M} (h : D_X4_copyFrom 35 0 11 999 f = some f') : am_Ev X 17 0 [some (.ref 35), some (.ref 11), none] [] f none f' := by
  rw [D_X4_copyFrom] at h
  refine am_Ew.start [107] 58 (am_Ew.conv (fun k => (k 107 [some (.ref 35), some (.ref 11), none] [.int (Int32.ofNat 999), .int (Int32.ofNat 0)] am_G0 (am_cp (am_cp (am_cp (am_cp (am_cp (am_wr (am_wr (am_wr f 35 2 (f 11 2)) 35 3 (f 11 3)) 35 9 (f 11 9)) (11 + 1) (35 + 1) 0 0 6) (11 + 2) (35 + 2) 0 0 6) (11 + 3) (35 + 3) 0 0 6) (11 + 4) (35 + 4) 0 0 3) (11 + 5) (35 + 5) 0 0 3))) (fun k => rfl) ?_)
  obtain ⟨v1, f1, h1, h⟩ := am_bI_some h
  refine am_Ew.run (am_Ev.call (fun n => rfl) (lk_J9_min_7cf53 h1) ?_)
  refine am_Ew.start [126] 10 (am_Ew.conv (fun k => (k 126 [some (.ref 35), some (.ref 11), some (.int v1)] [.int (f1 35 2), .int v1, .int 0, .ref (35 + 6), .int 0, .ref (11 + 6)] am_G0 f1)) (fun k => rfl) ?_)
  obtain ⟨v2, f2, h1, h⟩ := am_bI_some h
  refine am_Ew.run (am_Ev.call (fun n => rfl) (lk_J9_min_7cf53 h1) ?_)
  refine am_Ew.start [] 2 (am_Ew.conv (fun k => (if v2 < 0 then none else (if 0 + v2.toNatClampNeg ≤ 999 then (if 0 + v2.toNatClampNeg ≤ 0 then (some (none, am_G0, (am_cp f2 (11 + 6) (35 + 6) 0 0 v2.toNatClampNeg))) else none) else none))) (fun k => rfl) ?_)
  refine am_Ew.ite h (fun _ h => ?_) (fun _ h => ?_)
  · exact am_Ew.none h
  · refine am_Ew.ite h (fun _ h => ?_) (fun _ h => ?_)
    · refine am_Ew.ite h (fun _ h => ?_) (fun _ h => ?_)
      · exact am_Ew.retV h
      · exact am_Ew.none h
    · exact am_Ew.none h
set_option maxHeartbeats 400000 in
set_option maxRecDepth 100000 in
theorem lk_X4_copyFrom_42_11 {X : am_X} {f f' : am_M} (h : D_X4_copyFrom 42 0 11 999 f = some f') : am_Ev X 17 0 [some (.ref 42), some (.ref 11), none] [] f none f' := by
  rw [D_X4_copyFrom] at h
  refine am_Ew.start [107] 58 (am_Ew.conv (fun k => (k 107 [some (.ref 42), some (.ref 11), none] [.int (Int32.ofNat 999), .int (Int32.ofNat 0)] am_G0 (am_cp (am_cp (am_cp (am_cp (am_cp (am_wr (am_wr (am_wr f 42 2 (f 11 2)) 42 3 (f 11 3)) 42 9 (f 11 9)) (11 + 1) (42 + 1) 0 0 6) (11 + 2) (42 + 2) 0 0 6) (11 + 3) (42 + 3) 0 0 6) (11 + 4) (42 + 4) 0 0 3) (11 + 5) (42 + 5) 0 0 3))) (fun k => rfl) ?_)
  obtain ⟨v1, f1, h1, h⟩ := am_bI_some h
  refine am_Ew.run (am_Ev.call (fun n => rfl) (lk_J9_min_7cf53 h1) ?_)
  refine am_Ew.start [126] 10 (am_Ew.conv (fun k => (k 126 [some (.ref 42), some (.ref 11), some (.int v1)] [.int (f1 42 2), .int v1, .int 0, .ref (42 + 6), .int 0, .ref (11 + 6)] am_G0 f1)) (fun k => rfl) ?_)
  obtain ⟨v2, f2, h1, h⟩ := am_bI_some h
  refine am_Ew.run (am_Ev.call (fun n => rfl) (lk_J9_min_7cf53 h1) ?_)
  refine am_Ew.start [] 2 (am_Ew.conv (fun k => (if v2 < 0 then none else (if 0 + v2.toNatClampNeg ≤ 999 then (if 0 + v2.toNatClampNeg ≤ 0 then (some (none, am_G0, (am_cp f2 (11 + 6) (42 + 6) 0 0 v2.toNatClampNeg))) else none) else none))) (fun k => rfl) ?_)
  refine am_Ew.ite h (fun _ h => ?_) (fun _ h => ?_)
  · exact am_Ew.none h
  · refine am_Ew.ite h (fun _ h => ?_) (fun _ h => ?_)
    · refine am_Ew.ite h (fun _ h => ?_) (fun _ h => ?_)
      · exact am_Ew.retV h
      · exact am_Ew.none h
    · exact am_Ew.none h
set_option maxHeartbeats 400000 in
set_option maxRecDepth 100000 in
theorem lk_X4_copyFrom_49_11 {X : am_X} {f f' : am_M} (h : D_X4_copyFrom 49 0 11 999 f = some f') : am_Ev X 17 0 [some (.ref 49), some (.ref 11), none] [] f none f' := by
  rw [D_X4_copyFrom] at h
  refine am_Ew.start [107] 58 (am_Ew.conv (fun k => (k 107 [some (.ref 49), some (.ref 11), none] [.int (Int32.ofNat 999), .int (Int32.ofNat 0)] am_G0 (am_cp (am_cp (am_cp (am_cp (am_cp (am_wr (am_wr (am_wr f 49 2 (f 11 2)) 49 3 (f 11 3)) 49 9 (f 11 9)) (11 + 1) (49 + 1) 0 0 6) (11 + 2) (49 + 2) 0 0 6) (11 + 3) (49 + 3) 0 0 6) (11 + 4) (49 + 4) 0 0 3) (11 + 5) (49 + 5) 0 0 3))) (fun k => rfl) ?_)
  obtain ⟨v1, f1, h1, h⟩ := am_bI_some h
  refine am_Ew.run (am_Ev.call (fun n => rfl) (lk_J9_min_7cf53 h1) ?_)
  refine am_Ew.start [126] 10 (am_Ew.conv (fun k => (k 126 [some (.ref 49), some (.ref 11), some (.int v1)] [.int (f1 49 2), .int v1, .int 0, .ref (49 + 6), .int 0, .ref (11 + 6)] am_G0 f1)) (fun k => rfl) ?_)
  obtain ⟨v2, f2, h1, h⟩ := am_bI_some h
  refine am_Ew.run (am_Ev.call (fun n => rfl) (lk_J9_min_7cf53 h1) ?_)
  refine am_Ew.start [] 2 (am_Ew.conv (fun k => (if v2 < 0 then none else (if 0 + v2.toNatClampNeg ≤ 999 then (if 0 + v2.toNatClampNeg ≤ 0 then (some (none, am_G0, (am_cp f2 (11 + 6) (49 + 6) 0 0 v2.toNatClampNeg))) else none) else none))) (fun k => rfl) ?_)
  refine am_Ew.ite h (fun _ h => ?_) (fun _ h => ?_)
  · exact am_Ew.none h
  · refine am_Ew.ite h (fun _ h => ?_) (fun _ h => ?_)
    · refine am_Ew.ite h (fun _ h => ?_) (fun _ h => ?_)
      · exact am_Ew.retV h
      · exact am_Ew.none h
    · exact am_Ew.none h
set_option maxHeartbeats 400000 in
set_option maxRecDepth 100000 in
theorem lk_X4_copyFrom_56_11 {X : am_X} {f f' : am_M} (h : D_X4_copyFrom 56 0 11 999 f = some f') : am_Ev X 17 0 [some (.ref 56), some (.ref 11), none] [] f none f' := by
  rw [D_X4_copyFrom] at h
  refine am_Ew.start [107] 58 (am_Ew.conv (fun k => (k 107 [some (.ref 56), some (.ref 11), none] [.int (Int32.ofNat 999), .int (Int32.ofNat 0)] am_G0 (am_cp (am_cp (am_cp (am_cp (am_cp (am_wr (am_wr (am_wr f 56 2 (f 11 2)) 56 3 (f 11 3)) 56 9 (f 11 9)) (11 + 1) (56 + 1) 0 0 6) (11 + 2) (56 + 2) 0 0 6) (11 + 3) (56 + 3) 0 0 6) (11 + 4) (56 + 4) 0 0 3) (11 + 5) (56 + 5) 0 0 3))) (fun k => rfl) ?_)
  obtain ⟨v1, f1, h1, h⟩ := am_bI_some h
  refine am_Ew.run (am_Ev.call (fun n => rfl) (lk_J9_min_7cf53 h1) ?_)
  refine am_Ew.start [126] 10 (am_Ew.conv (fun k => (k 126 [some (.ref 56), some (.ref 11), some (.int v1)] [.int (f1 56 2), .int v1, .int 0, .ref (56 + 6), .int 0, .ref (11 + 6)] am_G0 f1)) (fun k => rfl) ?_)
  obtain ⟨v2, f2, h1, h⟩ := am_bI_some h
  refine am_Ew.run (am_Ev.call (fun n => rfl) (lk_J9_min_7cf53 h1) ?_)
  refine am_Ew.start [] 2 (am_Ew.conv (fun k => (if v2 < 0 then none else (if 0 + v2.toNatClampNeg ≤ 999 then (if 0 + v2.toNatClampNeg ≤ 0 then (some (none, am_G0, (am_cp f2 (11 + 6) (56 + 6) 0 0 v2.toNatClampNeg))) else none) else none))) (fun k => rfl) ?_)
  refine am_Ew.ite h (fun _ h => ?_) (fun _ h => ?_)
  · exact am_Ew.none h
  · refine am_Ew.ite h (fun _ h => ?_) (fun _ h => ?_)
    · refine am_Ew.ite h (fun _ h => ?_) (fun _ h => ?_)
      · exact am_Ew.retV h
      · exact am_Ew.none h
    · exact am_Ew.none h
set_option maxHeartbeats 400000 in
set_option maxRecDepth 100000 in
theorem lk_X4_copyFrom_64_11 {X : am_X} {f f' : am_M} (h : D_X4_copyFrom 64 999 11 999 f = some f') : am_Ev X 17 0 [some (.ref 64), some (.ref 11), none] [] f none f' := by
  rw [D_X4_copyFrom] at h
  refine am_Ew.start [107] 58 (am_Ew.conv (fun k => (k 107 [some (.ref 64), some (.ref 11), none] [.int (Int32.ofNat 999), .int (Int32.ofNat 999)] am_G0 (am_cp (am_cp (am_cp (am_cp (am_cp (am_wr (am_wr (am_wr f 64 2 (f 11 2)) 64 3 (f 11 3)) 64 9 (f 11 9)) (11 + 1) (64 + 1) 0 0 6) (11 + 2) (64 + 2) 0 0 6) (11 + 3) (64 + 3) 0 0 6) (11 + 4) (64 + 4) 0 0 3) (11 + 5) (64 + 5) 0 0 3))) (fun k => rfl) ?_)
  obtain ⟨v1, f1, h1, h⟩ := am_bI_some h
  refine am_Ew.run (am_Ev.call (fun n => rfl) (lk_J9_min_7cf53 h1) ?_)
  refine am_Ew.start [126] 10 (am_Ew.conv (fun k => (k 126 [some (.ref 64), some (.ref 11), some (.int v1)] [.int (f1 64 2), .int v1, .int 0, .ref (64 + 6), .int 0, .ref (11 + 6)] am_G0 f1)) (fun k => rfl) ?_)
  obtain ⟨v2, f2, h1, h⟩ := am_bI_some h
  refine am_Ew.run (am_Ev.call (fun n => rfl) (lk_J9_min_7cf53 h1) ?_)
  refine am_Ew.start [] 2 (am_Ew.conv (fun k => (if v2 < 0 then none else (if 0 + v2.toNatClampNeg ≤ 999 then (if 0 + v2.toNatClampNeg ≤ 999 then (some (none, am_G0, (am_cp f2 (11 + 6) (64 + 6) 0 0 v2.toNatClampNeg))) else none) else none))) (fun k => rfl) ?_)
  refine am_Ew.ite h (fun _ h => ?_) (fun _ h => ?_)
  · exact am_Ew.none h
  · refine am_Ew.ite h (fun _ h => ?_) (fun _ h => ?_)
    · refine am_Ew.ite h (fun _ h => ?_) (fun _ h => ?_)
      · exact am_Ew.retV h
      · exact am_Ew.none h
    · exact am_Ew.none h
set_option maxHeartbeats 400000 in
set_option maxRecDepth 100000 in
theorem lk_X4_copyFrom_72_11 {X : am_X} {f f' : am_M} (h : D_X4_copyFrom 72 999 11 999 f = some f') : am_Ev X 17 0 [some (.ref 72), some (.ref 11), none] [] f none f' := by
  rw [D_X4_copyFrom] at h
  refine am_Ew.start [107] 58 (am_Ew.conv (fun k => (k 107 [some (.ref 72), some (.ref 11), none] [.int (Int32.ofNat 999), .int (Int32.ofNat 999)] am_G0 (am_cp (am_cp (am_cp (am_cp (am_cp (am_wr (am_wr (am_wr f 72 2 (f 11 2)) 72 3 (f 11 3)) 72 9 (f 11 9)) (11 + 1) (72 + 1) 0 0 6) (11 + 2) (72 + 2) 0 0 6) (11 + 3) (72 + 3) 0 0 6) (11 + 4) (72 + 4) 0 0 3) (11 + 5) (72 + 5) 0 0 3))) (fun k => rfl) ?_)
  obtain ⟨v1, f1, h1, h⟩ := am_bI_some h
  refine am_Ew.run (am_Ev.call (fun n => rfl) (lk_J9_min_7cf53 h1) ?_)
  refine am_Ew.start [126] 10 (am_Ew.conv (fun k => (k 126 [some (.ref 72), some (.ref 11), some (.int v1)] [.int (f1 72 2), .int v1, .int 0, .ref (72 + 6), .int 0, .ref (11 + 6)] am_G0 f1)) (fun k => rfl) ?_)
  obtain ⟨v2, f2, h1, h⟩ := am_bI_some h
  refine am_Ew.run (am_Ev.call (fun n => rfl) (lk_J9_min_7cf53 h1) ?_)
  refine am_Ew.start [] 2 (am_Ew.conv (fun k => (if v2 < 0 then none else (if 0 + v2.toNatClampNeg ≤ 999 then (if 0 + v2.toNatClampNeg ≤ 999 then (some (none, am_G0, (am_cp f2 (11 + 6) (72 + 6) 0 0 v2.toNatClampNeg))) else none) else none))) (fun k => rfl) ?_)
  refine am_Ew.ite h (fun _ h => ?_) (fun _ h => ?_)
  · exact am_Ew.none h
  · refine am_Ew.ite h (fun _ h => ?_) (fun _ h => ?_)
    · refine am_Ew.ite h (fun _ h => ?_) (fun _ h => ?_)
      · exact am_Ew.retV h
      · exact am_Ew.none h
    · exact am_Ew.none h
set_option maxHeartbeats 400000 in
set_option maxRecDepth 100000 in
theorem lk_X4_copyFrom_81_11 {X : am_X} {f f' : am_M} (h : D_X4_copyFrom 81 0 11 999 f = some f') : am_Ev X 17 0 [some (.ref 81), some (.ref 11), none] [] f none f' := by
  rw [D_X4_copyFrom] at h
  refine am_Ew.start [107] 58 (am_Ew.conv (fun k => (k 107 [some (.ref 81), some (.ref 11), none] [.int (Int32.ofNat 999), .int (Int32.ofNat 0)] am_G0 (am_cp (am_cp (am_cp (am_cp (am_cp (am_wr (am_wr (am_wr f 81 2 (f 11 2)) 81 3 (f 11 3)) 81 9 (f 11 9)) (11 + 1) (81 + 1) 0 0 6) (11 + 2) (81 + 2) 0 0 6) (11 + 3) (81 + 3) 0 0 6) (11 + 4) (81 + 4) 0 0 3) (11 + 5) (81 + 5) 0 0 3))) (fun k => rfl) ?_)
  obtain ⟨v1, f1, h1, h⟩ := am_bI_some h
  refine am_Ew.run (am_Ev.call (fun n => rfl) (lk_J9_min_7cf53 h1) ?_)
  refine am_Ew.start [126] 10 (am_Ew.conv (fun k => (k 126 [some (.ref 81), some (.ref 11), some (.int v1)] [.int (f1 81 2), .int v1, .int 0, .ref (81 + 6), .int 0, .ref (11 + 6)] am_G0 f1)) (fun k => rfl) ?_)
  obtain ⟨v2, f2, h1, h⟩ := am_bI_some h
  refine am_Ew.run (am_Ev.call (fun n => rfl) (lk_J9_min_7cf53 h1) ?_)
  refine am_Ew.start [] 2 (am_Ew.conv (fun k => (if v2 < 0 then none else (if 0 + v2.toNatClampNeg ≤ 999 then (if 0 + v2.toNatClampNeg ≤ 0 then (some (none, am_G0, (am_cp f2 (11 + 6) (81 + 6) 0 0 v2.toNatClampNeg))) else none) else none))) (fun k => rfl) ?_)
  refine am_Ew.ite h (fun _ h => ?_) (fun _ h => ?_)
  · exact am_Ew.none h
  · refine am_Ew.ite h (fun _ h => ?_) (fun _ h => ?_)
    · refine am_Ew.ite h (fun _ h => ?_) (fun _ h => ?_)
      · exact am_Ew.retV h
      · exact am_Ew.none h
    · exact am_Ew.none h
set_option maxHeartbeats 400000 in
set_option maxRecDepth 100000 in
theorem lk_X4_room_11 {X : am_X} {f f' : am_M} {v' : Int32} (h : D_X4_room 11 999 f = some (v', f')) : am_Ev X 23 0 [some (.ref 11)] [] f (some (.int v')) f' := by
  rw [D_X4_room] at h
  refine am_Ew.start [8] 4 (am_Ew.conv (fun k => (k 8 [some (.ref 11)] [.ref 11, .int (f 3 0)] am_G0 f)) (fun k => rfl) ?_)
  obtain ⟨v1, f1, h1, h⟩ := am_bI_some h
  refine am_Ew.run (am_Ev.call (fun n => rfl) (lk_X4_least_11 h1) ?_)
  refine am_Ew.start [] 5 (am_Ew.conv (fun k => (some (some (.int (((f 3 0) + v1) - (f1 11 2))), am_G0, f1))) (fun k => rfl) ?_)
  exact am_Ew.retI h
set_option maxHeartbeats 400000 in
set_option maxRecDepth 100000 in
theorem lk_X4_room_81 {X : am_X} {f f' : am_M} {v' : Int32} (h : D_X4_room 81 0 f = some (v', f')) : am_Ev X 23 0 [some (.ref 81)] [] f (some (.int v')) f' := by
  rw [D_X4_room] at h
  refine am_Ew.start [8] 4 (am_Ew.conv (fun k => (k 8 [some (.ref 81)] [.ref 81, .int (f 3 0)] am_G0 f)) (fun k => rfl) ?_)
  obtain ⟨v1, f1, h1, h⟩ := am_bI_some h
  refine am_Ew.run (am_Ev.call (fun n => rfl) (lk_X4_least_81 h1) ?_)
  refine am_Ew.start [] 5 (am_Ew.conv (fun k => (some (some (.int (((f 3 0) + v1) - (f1 81 2))), am_G0, f1))) (fun k => rfl) ?_)
  exact am_Ew.retI h
set_option maxHeartbeats 400000 in
set_option maxRecDepth 100000 in
theorem lk_X4_atMost_11 {X : am_X} {a1 : Int32} {f f' : am_M} {v' : Int32} (h : D_X4_atMost 11 999 a1 f = some (v', f')) : am_Ev X 24 0 [some (.ref 11), some (.int a1), none] [] f (some (.int v')) f' := by
  rw [D_X4_atMost] at h
  refine am_Ew.start [10] 6 (am_Ew.conv (fun k => (am_chk a1 6 (k 10 [some (.ref 11), some (.int a1), none] [.int (f 6 a1.toNatClampNeg), .ref 11] am_G0 f))) (fun k => rfl) ?_)
  refine am_Ew.chk h (fun h => ?_)
  obtain ⟨v1, f1, h1, h⟩ := am_bI_some h
  refine am_Ew.run (am_Ev.call (fun n => rfl) (lk_X4_slowestOf_11 h1) ?_)
  refine am_Ew.start [] 9 (am_Ew.conv (fun k => (if v1 = (-9) then (some (some (.int (f1 11 3)), am_G0, f1)) else (am_chk v1 6 (some (some (.int (f1 (11 + 1) v1.toNatClampNeg)), am_G0, f1))))) (fun k => rfl) ?_)
  refine am_Ew.ite h (fun _ h => ?_) (fun _ h => ?_)
  · exact am_Ew.retI h
  · refine am_Ew.chk h (fun h => ?_)
    exact am_Ew.retI h
set_option maxHeartbeats 400000 in
set_option maxRecDepth 100000 in
theorem lk_X4_atMost_81 {X : am_X} {a1 : Int32} {f f' : am_M} {v' : Int32} (h : D_X4_atMost 81 0 a1 f = some (v', f')) : am_Ev X 24 0 [some (.ref 81), some (.int a1), none] [] f (some (.int v')) f' := by
  rw [D_X4_atMost] at h
  refine am_Ew.start [10] 6 (am_Ew.conv (fun k => (am_chk a1 6 (k 10 [some (.ref 81), some (.int a1), none] [.int (f 6 a1.toNatClampNeg), .ref 81] am_G0 f))) (fun k => rfl) ?_)
  refine am_Ew.chk h (fun h => ?_)
  obtain ⟨v1, f1, h1, h⟩ := am_bI_some h
  refine am_Ew.run (am_Ev.call (fun n => rfl) (lk_X4_slowestOf_81 h1) ?_)
  refine am_Ew.start [] 9 (am_Ew.conv (fun k => (if v1 = (-9) then (some (some (.int (f1 81 3)), am_G0, f1)) else (am_chk v1 6 (some (some (.int (f1 (81 + 1) v1.toNatClampNeg)), am_G0, f1))))) (fun k => rfl) ?_)
  refine am_Ew.ite h (fun _ h => ?_) (fun _ h => ?_)
  · exact am_Ew.retI h
  · refine am_Ew.chk h (fun h => ?_)
    exact am_Ew.retI h
set_option maxHeartbeats 400000 in
set_option maxRecDepth 100000 in
theorem lk_X4_slowest_11 {X : am_X} {f f' : am_M} {v' : Int32} (h : D_X4_slowest 11 999 f = some (v', f')) : am_Ev X 26 0 [some (.ref 11)] [] f (some (.int v')) f' := by
  rw [D_X4_slowest] at h
  refine am_Ew.start [12] 8 (am_Ew.conv (fun k => (k 12 [some (.ref 11)] [.int (((1 : Int32) <<< ((f 3 2) &&& 31)) - 1), .ref 11] am_G0 f)) (fun k => rfl) ?_)
  obtain ⟨v1, f1, h1, h⟩ := am_bI_some h
  refine am_Ew.run (am_Ev.call (fun n => rfl) (lk_X4_slowestOf_11 h1) ?_)
  refine am_Ew.start [] 1 (am_Ew.conv (fun k => (some (some (.int v1), am_G0, f1))) (fun k => rfl) ?_)
  exact am_Ew.retI h
set_option maxHeartbeats 400000 in
set_option maxRecDepth 100000 in
theorem lk_X4_slowest_81 {X : am_X} {f f' : am_M} {v' : Int32} (h : D_X4_slowest 81 0 f = some (v', f')) : am_Ev X 26 0 [some (.ref 81)] [] f (some (.int v')) f' := by
  rw [D_X4_slowest] at h
  refine am_Ew.start [12] 8 (am_Ew.conv (fun k => (k 12 [some (.ref 81)] [.int (((1 : Int32) <<< ((f 3 2) &&& 31)) - 1), .ref 81] am_G0 f)) (fun k => rfl) ?_)
  obtain ⟨v1, f1, h1, h⟩ := am_bI_some h
  refine am_Ew.run (am_Ev.call (fun n => rfl) (lk_X4_slowestOf_81 h1) ?_)
  refine am_Ew.start [] 1 (am_Ew.conv (fun k => (some (some (.int v1), am_G0, f1))) (fun k => rfl) ?_)
  exact am_Ew.retI h
set_option maxHeartbeats 400000 in
set_option maxRecDepth 100000 in
theorem lk_X4_openOf_11_7 {X : am_X} : ∀ (n : Nat) (x1 x2 x3 : Int32) (f : am_M) (v' : Int32) (f' : am_M), D_X4_openOf_7 11 999 n x1 x2 x3 f = some (v', f') → am_Ev X 30 7 [some (.ref 11), some (.int x1), some (.int x2), some (.int x3)] [] f (some (.int v')) f'
  | 0, _, _, _, _, _, _, h => by cases h
  | n + 1, x1, x2, x3, f, v', f', h => by
    rw [D_X4_openOf_7] at h
    refine am_Ew.start [26] 11 (am_Ew.conv (fun k => (if x3 < (f 11 2) then (if x3 < (Int32.ofNat 999) then (k 26 [some (.ref 11), some (.int x1), some (.int x2), some (.int x3)] [.int x3, .ref 11] am_G0 f) else (some (some (.int x2), am_G0, f))) else (some (some (.int x2), am_G0, f)))) (fun k => rfl) ?_)
    refine am_Ew.ite h (fun _ h => ?_) (fun _ h => ?_)
    · refine am_Ew.ite h (fun _ h => ?_) (fun _ h => ?_)
      · obtain ⟨v1, f1, h1, h⟩ := am_bI_some h
        refine am_Ew.run (am_Ev.call (fun n => rfl) (lk_X4_kindOf_11 h1) ?_)
        refine am_Ew.start [7, 34] 3 (am_Ew.conv (fun k => (if v1 = 0 then (k 34 [some (.ref 11), some (.int x1), some (.int x2), some (.int x3)] [.int x3, .ref 11] am_G0 f1) else (k 7 [some (.ref 11), some (.int x1), some (.int x2), some (.int (x3 + 1))] [] am_G0 f1))) (fun k => rfl) ?_)
        refine am_Ew.ite h (fun _ h => ?_) (fun _ h => ?_)
        · obtain ⟨v2, f2, h1, h⟩ := am_bI_some h
          refine am_Ew.run (am_Ev.call (fun n => rfl) (lk_X4_makerOf_11 h1) ?_)
          refine am_Ew.start [7] 5 (am_Ew.conv (fun k => (if v2 = x1 then (k 7 [some (.ref 11), some (.int x1), some (.int (x2 + 1)), some (.int (x3 + 1))] [] am_G0 f2) else (k 7 [some (.ref 11), some (.int x1), some (.int x2), some (.int (x3 + 1))] [] am_G0 f2))) (fun k => rfl) ?_)
          refine am_Ew.ite h (fun _ h => ?_) (fun _ h => ?_)
          · exact am_Ew.run (lk_X4_openOf_11_7  n _ _ _ _ _ _ h )
          · exact am_Ew.run (lk_X4_openOf_11_7  n _ _ _ _ _ _ h )
        · exact am_Ew.run (lk_X4_openOf_11_7  n _ _ _ _ _ _ h )
      · exact am_Ew.retI h
    · exact am_Ew.retI h
set_option maxHeartbeats 400000 in
set_option maxRecDepth 100000 in
theorem lk_X4_openOf_11 {X : am_X} {a1 : Int32} {f f' : am_M} {v' : Int32} (h : D_X4_openOf 11 999 a1 f = some (v', f')) : am_Ev X 30 0 [some (.ref 11), some (.int a1), none, none] [] f (some (.int v')) f' := by
  rw [D_X4_openOf] at h
  refine am_Ew.start [7] 5 (am_Ew.conv (fun k => (k 7 [some (.ref 11), some (.int a1), some (.int 0), some (.int (f 11 3))] [] am_G0 f)) (fun k => rfl) ?_)
  exact am_Ew.run (lk_X4_openOf_11_7 _ _ _ _ _ _ _ h )
set_option maxHeartbeats 400000 in
set_option maxRecDepth 100000 in
theorem lk_X4_leaveRow_11_17 {X : am_X} : ∀ (n : Nat) (x1 x3 : Int32) (f : am_M) (f' : am_M), D_X4_leaveRow_17 11 999 n x1 x3 f = some f' → ∀ d2 : Option Value, am_Ev X 34 17 [some (.ref 11), some (.int x1), d2, some (.int x3)] [] f none f'
  | 0, _, _, _, _, h, _ => by cases h
  | n + 1, x1, x3, f, f', h, d2 => by
    rw [D_X4_leaveRow_17] at h
    refine am_Ew.start [17] 16 (am_Ew.conv (fun k => (if x3 < (f 11 9) then (am_chk x3 3 (am_chk (x3 - 1) 3 (k 17 [some (.ref 11), some (.int x1), d2, some (.int (x3 + 1))] [] am_G0 (am_wr f (11 + 4) (x3 - 1).toNatClampNeg (f (11 + 4) x3.toNatClampNeg))))) else (am_chk x1 3 (some (none, am_G0, (am_wr (am_wr f (11 + 5) x1.toNatClampNeg 0) 11 9 ((f 11 9) - 1))))))) (fun k => rfl) ?_)
    refine am_Ew.ite h (fun _ h => ?_) (fun _ h => ?_)
    · refine am_Ew.chk h (fun h => ?_)
      refine am_Ew.chk h (fun h => ?_)
      exact am_Ew.run (lk_X4_leaveRow_11_17  n _ _ _ _ h _ )
    · refine am_Ew.chk h (fun h => ?_)
      exact am_Ew.retV h
set_option maxHeartbeats 400000 in
set_option maxRecDepth 100000 in
theorem lk_X4_leaveRow_11 {X : am_X} {a1 : Int32} {f f' : am_M} (h : D_X4_leaveRow 11 999 a1 f = some f') : am_Ev X 34 0 [some (.ref 11), some (.int a1), none, none] [] f none f' := by
  rw [D_X4_leaveRow] at h
  refine am_Ew.start [2] 2 (am_Ew.conv (fun k => (k 2 [some (.ref 11), some (.int a1), none, none] [.int a1, .ref 11] am_G0 f)) (fun k => rfl) ?_)
  obtain ⟨v1, f1, h1, h⟩ := am_bI_some h
  refine am_Ew.run (am_Ev.call (fun n => rfl) (lk_X4_placeInRow_11 h1) ?_)
  refine am_Ew.start [17] 8 (am_Ew.conv (fun k => (if v1 = (-9) then (some (none, am_G0, f1)) else (k 17 [some (.ref 11), some (.int a1), some (.int v1), some (.int (v1 + 1))] [] am_G0 f1))) (fun k => rfl) ?_)
  refine am_Ew.ite h (fun _ h => ?_) (fun _ h => ?_)
  · exact am_Ew.retV h
  · exact am_Ew.run (lk_X4_leaveRow_11_17 _ _ _ _ _ h _ )
set_option maxHeartbeats 400000 in
set_option maxRecDepth 100000 in
theorem lk_X4_leaveRow_81_17 {X : am_X} : ∀ (n : Nat) (x1 x3 : Int32) (f : am_M) (f' : am_M), D_X4_leaveRow_17 81 0 n x1 x3 f = some f' → ∀ d2 : Option Value, am_Ev X 34 17 [some (.ref 81), some (.int x1), d2, some (.int x3)] [] f none f'
  | 0, _, _, _, _, h, _ => by cases h
  | n + 1, x1, x3, f, f', h, d2 => by
    rw [D_X4_leaveRow_17] at h
    refine am_Ew.start [17] 16 (am_Ew.conv (fun k => (if x3 < (f 81 9) then (am_chk x3 3 (am_chk (x3 - 1) 3 (k 17 [some (.ref 81), some (.int x1), d2, some (.int (x3 + 1))] [] am_G0 (am_wr f (81 + 4) (x3 - 1).toNatClampNeg (f (81 + 4) x3.toNatClampNeg))))) else (am_chk x1 3 (some (none, am_G0, (am_wr (am_wr f (81 + 5) x1.toNatClampNeg 0) 81 9 ((f 81 9) - 1))))))) (fun k => rfl) ?_)
    refine am_Ew.ite h (fun _ h => ?_) (fun _ h => ?_)
    · refine am_Ew.chk h (fun h => ?_)
      refine am_Ew.chk h (fun h => ?_)
      exact am_Ew.run (lk_X4_leaveRow_81_17  n _ _ _ _ h _ )
    · refine am_Ew.chk h (fun h => ?_)
      exact am_Ew.retV h
set_option maxHeartbeats 400000 in
set_option maxRecDepth 100000 in
theorem lk_X4_leaveRow_81 {X : am_X} {a1 : Int32} {f f' : am_M} (h : D_X4_leaveRow 81 0 a1 f = some f') : am_Ev X 34 0 [some (.ref 81), some (.int a1), none, none] [] f none f' := by
  rw [D_X4_leaveRow] at h
  refine am_Ew.start [2] 2 (am_Ew.conv (fun k => (k 2 [some (.ref 81), some (.int a1), none, none] [.int a1, .ref 81] am_G0 f)) (fun k => rfl) ?_)
  obtain ⟨v1, f1, h1, h⟩ := am_bI_some h
  refine am_Ew.run (am_Ev.call (fun n => rfl) (lk_X4_placeInRow_81 h1) ?_)
  refine am_Ew.start [17] 8 (am_Ew.conv (fun k => (if v1 = (-9) then (some (none, am_G0, f1)) else (k 17 [some (.ref 81), some (.int a1), some (.int v1), some (.int (v1 + 1))] [] am_G0 f1))) (fun k => rfl) ?_)
  refine am_Ew.ite h (fun _ h => ?_) (fun _ h => ?_)
  · exact am_Ew.retV h
  · exact am_Ew.run (lk_X4_leaveRow_81_17 _ _ _ _ _ h _ )
set_option maxHeartbeats 400000 in
set_option maxRecDepth 100000 in
theorem lk_X4_close_11_19 {X : am_X} : ∀ (n : Nat) (f : am_M) (f' : am_M), D_X4_close_19 11 999 n  f = some f' → ∀ d1 d2 d3 : Option Value, am_Ev X 35 19 [some (.ref 11), d1, d2, d3] [] f none f'
  | 0, _, _, h, _, _, _ => by cases h
  | n + 1, f, f', h, d1, d2, d3 => by
    rw [D_X4_close_19] at h
    refine am_Ew.start [47] 14 (am_Ew.conv (fun k => (if (f 11 3) < (f 11 2) then (if (f 11 3) < (Int32.ofNat 999) then (k 47 [some (.ref 11), d1, d2, d3] [.int (f 11 3), .ref 11] am_G0 f) else (some (none, am_G0, f))) else (some (none, am_G0, f)))) (fun k => rfl) ?_)
    refine am_Ew.ite h (fun _ h => ?_) (fun _ h => ?_)
    · refine am_Ew.ite h (fun _ h => ?_) (fun _ h => ?_)
      · obtain ⟨v2, f2, h1, h⟩ := am_bI_some h
        refine am_Ew.run (am_Ev.call (fun n => rfl) (lk_X4_kindOf_11 h1) ?_)
        refine am_Ew.start [19] 8 (am_Ew.conv (fun k => (if v2 = 0 then (some (none, am_G0, f2)) else (k 19 [some (.ref 11), d1, d2, d3] [] am_G0 (am_wr f2 11 3 ((f2 11 3) + 1))))) (fun k => rfl) ?_)
        refine am_Ew.ite h (fun _ h => ?_) (fun _ h => ?_)
        · exact am_Ew.retV h
        · exact am_Ew.run (lk_X4_close_11_19  n _ _ h _ _ _ )
      · exact am_Ew.retV h
    · exact am_Ew.retV h
set_option maxHeartbeats 400000 in
set_option maxRecDepth 100000 in
theorem lk_X4_close_11 {X : am_X} {a1 a2 a3 : Int32} {f f' : am_M} (h : D_X4_close 11 999 a1 a2 a3 f = some f') : am_Ev X 35 0 [some (.ref 11), some (.int a1), some (.int a2), some (.int a3)] [] f none f' := by
  rw [D_X4_close] at h
  refine am_Ew.start [7] 5 (am_Ew.conv (fun k => (k 7 [some (.ref 11), some (.int a1), some (.int a2), some (.int a3)] [.int a1, .ref 11, .int a1, .ref (11 + 6)] am_G0 f)) (fun k => rfl) ?_)
  obtain ⟨v1, f1, h1, h⟩ := am_bI_some h
  refine am_Ew.run (am_Ev.call (fun n => rfl) (lk_X4_makerOf_11 h1) ?_)
  refine am_Ew.start [19] 9 (am_Ew.conv (fun k => (am_chk a1 999 (k 19 [some (.ref 11), some (.int a1), some (.int a2), some (.int a3)] [] am_G0 (am_wr f1 (11 + 6) a1.toNatClampNeg ((v1 ||| (a2 <<< ((2 : Int32) &&& 31))) ||| (a3 <<< ((4 : Int32) &&& 31))))))) (fun k => rfl) ?_)
  refine am_Ew.chk h (fun h => ?_)
  exact am_Ew.run (lk_X4_close_11_19 _ _ _ h _ _ _ )
set_option maxHeartbeats 400000 in
set_option maxRecDepth 100000 in
theorem lk_X4_reopen_11 {X : am_X} {a1 : Int32} {f f' : am_M} (h : D_X4_reopen 11 999 a1 f = some f') : am_Ev X 36 0 [some (.ref 11), some (.int a1)] [] f none f' := by
  rw [D_X4_reopen] at h
  refine am_Ew.start [2] 2 (am_Ew.conv (fun k => (k 2 [some (.ref 11), some (.int a1)] [.int a1, .ref 11] am_G0 f)) (fun k => rfl) ?_)
  obtain ⟨v1, f1, h1, h⟩ := am_bI_some h
  refine am_Ew.run (am_Ev.call (fun n => rfl) (lk_X4_hasEvent_11 h1) ?_)
  refine am_Ew.start [15] 6 (am_Ew.conv (fun k => (if v1 = 0 then (some (none, am_G0, f1)) else (k 15 [some (.ref 11), some (.int a1)] [.int a1, .ref 11, .int a1, .ref (11 + 6)] am_G0 f1))) (fun k => rfl) ?_)
  refine am_Ew.ite h (fun _ h => ?_) (fun _ h => ?_)
  · exact am_Ew.retV h
  · obtain ⟨v2, f2, h1, h⟩ := am_bI_some h
    refine am_Ew.run (am_Ev.call (fun n => rfl) (lk_X4_makerOf_11 h1) ?_)
    refine am_Ew.start [] 2 (am_Ew.conv (fun k => (am_chk a1 999 (some (none, am_G0, (am_wr f2 (11 + 6) a1.toNatClampNeg v2))))) (fun k => rfl) ?_)
    refine am_Ew.chk h (fun h => ?_)
    exact am_Ew.retV h
set_option maxHeartbeats 400000 in
set_option maxRecDepth 100000 in
theorem lk_X4_hasAhead_11 {X : am_X} {a1 : Int32} {f f' : am_M} {v' : Int32} (h : D_X4_hasAhead 11 999 a1 f = some (v', f')) : am_Ev X 25 0 [some (.ref 11), some (.int a1)] [] f (some (.int v')) f' := by
  rw [D_X4_hasAhead] at h
  refine am_Ew.start [8] 6 (am_Ew.conv (fun k => (am_chk a1 6 (k 8 [some (.ref 11), some (.int a1)] [.int a1, .ref 11, .int (f (11 + 1) a1.toNatClampNeg)] am_G0 f))) (fun k => rfl) ?_)
  refine am_Ew.chk h (fun h => ?_)
  obtain ⟨v1, f1, h1, h⟩ := am_bI_some h
  refine am_Ew.run (am_Ev.call (fun n => rfl) (lk_X4_atMost_11 h1) ?_)
  refine am_Ew.start [] 4 (am_Ew.conv (fun k => (if (f (11 + 1) a1.toNatClampNeg) < v1 then (some (some (.int 1), am_G0, f1)) else (some (some (.int 0), am_G0, f1)))) (fun k => rfl) ?_)
  refine am_Ew.ite h (fun _ h => ?_) (fun _ h => ?_)
  · exact am_Ew.retI h
  · exact am_Ew.retI h
set_option maxHeartbeats 400000 in
set_option maxRecDepth 100000 in
theorem lk_X4_claimOrWait_11 {X : am_X} {a1 a2 : Int32} {f f' : am_M} {v' : Int32} (h : D_X4_claimOrWait 11 999 a1 a2 f = some (v', f')) : am_Ev X 31 0 [some (.ref 11), some (.int a1), some (.int a2)] [] f (some (.int v')) f' := by
  rw [D_X4_claimOrWait] at h
  refine am_Ew.start [9] 26 (am_Ew.conv (fun k => (if (f 11 9) = 0 then (k 9 [some (.ref 11), some (.int a1), some (.int a2)] [.ref 11, .int a2] am_G0 f) else (if (f 11 9) < 3 then (am_chk (f 11 9) 3 (am_chk a1 3 (some (some (.int (-9)), am_G0, (am_wr (am_wr (am_wr f (11 + 4) (f 11 9).toNatClampNeg a1) (11 + 5) a1.toNatClampNeg a2) 11 9 ((f 11 9) + 1)))))) else (some (some (.int (-9)), am_G0, f))))) (fun k => rfl) ?_)
  refine am_Ew.ite h (fun _ h => ?_) (fun _ h => ?_)
  · obtain ⟨v1, f1, h1, h⟩ := am_bI_some h
    refine am_Ew.run (am_Ev.call (fun n => rfl) (lk_X4_room_11 h1) ?_)
    refine am_Ew.start [18] 24 (am_Ew.conv (fun k => (if v1 < a2 then (if (f1 11 9) < 3 then (am_chk (f1 11 9) 3 (am_chk a1 3 (some (some (.int (-9)), am_G0, (am_wr (am_wr (am_wr f1 (11 + 4) (f1 11 9).toNatClampNeg a1) (11 + 5) a1.toNatClampNeg a2) 11 9 ((f1 11 9) + 1)))))) else (some (some (.int (-9)), am_G0, f1))) else (k 18 [some (.ref 11), some (.int a1), some (.int a2)] [.int a2, .int a1, .ref 11] am_G0 f1))) (fun k => rfl) ?_)
    refine am_Ew.ite h (fun _ h => ?_) (fun _ h => ?_)
    · refine am_Ew.ite h (fun _ h => ?_) (fun _ h => ?_)
      · refine am_Ew.chk h (fun h => ?_)
        refine am_Ew.chk h (fun h => ?_)
        exact am_Ew.retI h
      · exact am_Ew.retI h
    · obtain ⟨v2, f2, h1, h⟩ := am_bI_some h
      refine am_Ew.run (am_Ev.call (fun n => rfl) (lk_X4_claim_11 h1) ?_)
      refine am_Ew.start [] 1 (am_Ew.conv (fun k => (some (some (.int v2), am_G0, f2))) (fun k => rfl) ?_)
      exact am_Ew.retI h
  · refine am_Ew.ite h (fun _ h => ?_) (fun _ h => ?_)
    · refine am_Ew.chk h (fun h => ?_)
      refine am_Ew.chk h (fun h => ?_)
      exact am_Ew.retI h
    · exact am_Ew.retI h
set_option maxHeartbeats 400000 in
set_option maxRecDepth 100000 in
theorem lk_X4_claimOrWait_81 {X : am_X} {a1 a2 : Int32} {f f' : am_M} {v' : Int32} (h : D_X4_claimOrWait 81 0 a1 a2 f = some (v', f')) : am_Ev X 31 0 [some (.ref 81), some (.int a1), some (.int a2)] [] f (some (.int v')) f' := by
  rw [D_X4_claimOrWait] at h
  refine am_Ew.start [9] 26 (am_Ew.conv (fun k => (if (f 81 9) = 0 then (k 9 [some (.ref 81), some (.int a1), some (.int a2)] [.ref 81, .int a2] am_G0 f) else (if (f 81 9) < 3 then (am_chk (f 81 9) 3 (am_chk a1 3 (some (some (.int (-9)), am_G0, (am_wr (am_wr (am_wr f (81 + 4) (f 81 9).toNatClampNeg a1) (81 + 5) a1.toNatClampNeg a2) 81 9 ((f 81 9) + 1)))))) else (some (some (.int (-9)), am_G0, f))))) (fun k => rfl) ?_)
  refine am_Ew.ite h (fun _ h => ?_) (fun _ h => ?_)
  · obtain ⟨v1, f1, h1, h⟩ := am_bI_some h
    refine am_Ew.run (am_Ev.call (fun n => rfl) (lk_X4_room_81 h1) ?_)
    refine am_Ew.start [18] 24 (am_Ew.conv (fun k => (if v1 < a2 then (if (f1 81 9) < 3 then (am_chk (f1 81 9) 3 (am_chk a1 3 (some (some (.int (-9)), am_G0, (am_wr (am_wr (am_wr f1 (81 + 4) (f1 81 9).toNatClampNeg a1) (81 + 5) a1.toNatClampNeg a2) 81 9 ((f1 81 9) + 1)))))) else (some (some (.int (-9)), am_G0, f1))) else (k 18 [some (.ref 81), some (.int a1), some (.int a2)] [.int a2, .int a1, .ref 81] am_G0 f1))) (fun k => rfl) ?_)
    refine am_Ew.ite h (fun _ h => ?_) (fun _ h => ?_)
    · refine am_Ew.ite h (fun _ h => ?_) (fun _ h => ?_)
      · refine am_Ew.chk h (fun h => ?_)
        refine am_Ew.chk h (fun h => ?_)
        exact am_Ew.retI h
      · exact am_Ew.retI h
    · obtain ⟨v2, f2, h1, h⟩ := am_bI_some h
      refine am_Ew.run (am_Ev.call (fun n => rfl) (lk_X4_claim_81 h1) ?_)
      refine am_Ew.start [] 1 (am_Ew.conv (fun k => (some (some (.int v2), am_G0, f2))) (fun k => rfl) ?_)
      exact am_Ew.retI h
  · refine am_Ew.ite h (fun _ h => ?_) (fun _ h => ?_)
    · refine am_Ew.chk h (fun h => ?_)
      refine am_Ew.chk h (fun h => ?_)
      exact am_Ew.retI h
    · exact am_Ew.retI h
set_option maxHeartbeats 400000 in
set_option maxRecDepth 100000 in
theorem lk_X4_admit_11_2 {X : am_X} : ∀ (n : Nat) (x1 : Int32) (f : am_M) (f' : am_M), D_X4_admit_2 11 999 n x1 f = some f' → ∀ d2 d3 : Option Value, am_Ev X 33 2 [some (.ref 11), some (.int x1), d2, d3] [] f none f'
  | 0, _, _, _, h, _, _ => by cases h
  | n + 1, x1, f, f', h, d2, d3 => by
    rw [D_X4_admit_2] at h
    refine am_Ew.start [30] 18 (am_Ew.conv (fun k => (if x1 < 3 then (if 0 < (f 11 9) then (am_chk (f (11 + 4) 0) 3 (k 30 [some (.ref 11), some (.int x1), some (.int (f (11 + 4) 0)), some (.int (f (11 + 5) (f (11 + 4) 0).toNatClampNeg))] [.ref 11, .int (f (11 + 5) (f (11 + 4) 0).toNatClampNeg)] am_G0 f)) else (some (none, am_G0, f))) else (some (none, am_G0, f)))) (fun k => rfl) ?_)
    refine am_Ew.ite h (fun _ h => ?_) (fun _ h => ?_)
    · refine am_Ew.ite h (fun _ h => ?_) (fun _ h => ?_)
      · refine am_Ew.chk h (fun h => ?_)
        obtain ⟨v1, f1, h1, h⟩ := am_bI_some h
        refine am_Ew.run (am_Ev.call (fun n => rfl) (lk_X4_room_11 h1) ?_)
        refine am_Ew.start [39] 3 (am_Ew.conv (fun k => (if v1 < (f (11 + 5) (f (11 + 4) 0).toNatClampNeg) then (some (none, am_G0, f1)) else (k 39 [some (.ref 11), some (.int x1), some (.int (f (11 + 4) 0)), some (.int (f (11 + 5) (f (11 + 4) 0).toNatClampNeg))] [.int (f (11 + 4) 0), .ref 11] am_G0 f1))) (fun k => rfl) ?_)
        refine am_Ew.ite h (fun _ h => ?_) (fun _ h => ?_)
        · exact am_Ew.retV h
        · obtain ⟨f2, h1, h⟩ := am_bV_some h
          refine am_Ew.run (am_Ev.call (fun n => rfl) (lk_X4_leaveRow_11 h1) ?_)
          refine am_Ew.start [45] 3 (am_Ew.conv (fun k => (k 45 [some (.ref 11), some (.int x1), some (.int (f (11 + 4) 0)), some (.int (f (11 + 5) (f (11 + 4) 0).toNatClampNeg))] [.int (f (11 + 5) (f (11 + 4) 0).toNatClampNeg), .int (f (11 + 4) 0), .ref 11] am_G0 f2)) (fun k => rfl) ?_)
          obtain ⟨v3, f3, h1, h⟩ := am_bI_some h
          refine am_Ew.run (am_Ev.call (fun n => rfl) (lk_X4_claim_11 h1) ?_)
          refine am_Ew.start [2] 3 (am_Ew.conv (fun k => (k 2 [some (.ref 11), some (.int (x1 + 1)), some (.int (f (11 + 4) 0)), some (.int (f (11 + 5) (f (11 + 4) 0).toNatClampNeg))] [] am_G0 f3)) (fun k => rfl) ?_)
          exact am_Ew.run (lk_X4_admit_11_2  n _ _ _ h _ _ )
      · exact am_Ew.retV h
    · exact am_Ew.retV h
set_option maxHeartbeats 400000 in
set_option maxRecDepth 100000 in
theorem lk_X4_admit_11 {X : am_X} {f f' : am_M} (h : D_X4_admit 11 999 f = some f') : am_Ev X 33 0 [some (.ref 11), none, none, none] [] f none f' := by
  rw [D_X4_admit] at h
  refine am_Ew.start [2] 2 (am_Ew.conv (fun k => (k 2 [some (.ref 11), some (.int 0), none, none] [] am_G0 f)) (fun k => rfl) ?_)
  exact am_Ew.run (lk_X4_admit_11_2 _ _ _ _ h _ _ )
set_option maxHeartbeats 400000 in
set_option maxRecDepth 100000 in
theorem lk_X4_admit_81_2 {X : am_X} : ∀ (n : Nat) (x1 : Int32) (f : am_M) (f' : am_M), D_X4_admit_2 81 0 n x1 f = some f' → ∀ d2 d3 : Option Value, am_Ev X 33 2 [some (.ref 81), some (.int x1), d2, d3] [] f none f'
  | 0, _, _, _, h, _, _ => by cases h
  | n + 1, x1, f, f', h, d2, d3 => by
    rw [D_X4_admit_2] at h
    refine am_Ew.start [30] 18 (am_Ew.conv (fun k => (if x1 < 3 then (if 0 < (f 81 9) then (am_chk (f (81 + 4) 0) 3 (k 30 [some (.ref 81), some (.int x1), some (.int (f (81 + 4) 0)), some (.int (f (81 + 5) (f (81 + 4) 0).toNatClampNeg))] [.ref 81, .int (f (81 + 5) (f (81 + 4) 0).toNatClampNeg)] am_G0 f)) else (some (none, am_G0, f))) else (some (none, am_G0, f)))) (fun k => rfl) ?_)
    refine am_Ew.ite h (fun _ h => ?_) (fun _ h => ?_)
    · refine am_Ew.ite h (fun _ h => ?_) (fun _ h => ?_)
      · refine am_Ew.chk h (fun h => ?_)
        obtain ⟨v1, f1, h1, h⟩ := am_bI_some h
        refine am_Ew.run (am_Ev.call (fun n => rfl) (lk_X4_room_81 h1) ?_)
        refine am_Ew.start [39] 3 (am_Ew.conv (fun k => (if v1 < (f (81 + 5) (f (81 + 4) 0).toNatClampNeg) then (some (none, am_G0, f1)) else (k 39 [some (.ref 81), some (.int x1), some (.int (f (81 + 4) 0)), some (.int (f (81 + 5) (f (81 + 4) 0).toNatClampNeg))] [.int (f (81 + 4) 0), .ref 81] am_G0 f1))) (fun k => rfl) ?_)
        refine am_Ew.ite h (fun _ h => ?_) (fun _ h => ?_)
        · exact am_Ew.retV h
        · obtain ⟨f2, h1, h⟩ := am_bV_some h
          refine am_Ew.run (am_Ev.call (fun n => rfl) (lk_X4_leaveRow_81 h1) ?_)
          refine am_Ew.start [45] 3 (am_Ew.conv (fun k => (k 45 [some (.ref 81), some (.int x1), some (.int (f (81 + 4) 0)), some (.int (f (81 + 5) (f (81 + 4) 0).toNatClampNeg))] [.int (f (81 + 5) (f (81 + 4) 0).toNatClampNeg), .int (f (81 + 4) 0), .ref 81] am_G0 f2)) (fun k => rfl) ?_)
          obtain ⟨v3, f3, h1, h⟩ := am_bI_some h
          refine am_Ew.run (am_Ev.call (fun n => rfl) (lk_X4_claim_81 h1) ?_)
          refine am_Ew.start [2] 3 (am_Ew.conv (fun k => (k 2 [some (.ref 81), some (.int (x1 + 1)), some (.int (f (81 + 4) 0)), some (.int (f (81 + 5) (f (81 + 4) 0).toNatClampNeg))] [] am_G0 f3)) (fun k => rfl) ?_)
          exact am_Ew.run (lk_X4_admit_81_2  n _ _ _ h _ _ )
      · exact am_Ew.retV h
    · exact am_Ew.retV h
set_option maxHeartbeats 400000 in
set_option maxRecDepth 100000 in
theorem lk_X4_admit_81 {X : am_X} {f f' : am_M} (h : D_X4_admit 81 0 f = some f') : am_Ev X 33 0 [some (.ref 81), none, none, none] [] f none f' := by
  rw [D_X4_admit] at h
  refine am_Ew.start [2] 2 (am_Ew.conv (fun k => (k 2 [some (.ref 81), some (.int 0), none, none] [] am_G0 f)) (fun k => rfl) ?_)
  exact am_Ew.run (lk_X4_admit_81_2 _ _ _ _ h _ _ )
set_option maxHeartbeats 400000 in
set_option maxRecDepth 100000 in
theorem lk_X4_goOver_11_31 {X : am_X} : ∀ (n : Nat) (x1 x3 x4 x5 : Int32) (f : am_M) (v' : Int32) (f' : am_M), D_X4_goOver_31 11 999 n x1 x3 x4 x5 f = some (v', f') → ∀ d2 : Option Value, am_Ev X 38 31 [some (.ref 11), some (.int x1), d2, some (.int x3), some (.int x4), some (.int x5)] [] f (some (.int v')) f'
  | 0, _, _, _, _, _, _, _, h, _ => by cases h
  | n + 1, x1, x3, x4, x5, f, v', f', h, d2 => by
    rw [D_X4_goOver_31] at h
    refine am_Ew.start [51, 111] 14 (am_Ew.conv (fun k => (if x5 < x4 then (if x5 < (Int32.ofNat 999) then (k 51 [some (.ref 11), some (.int x1), d2, some (.int x3), some (.int x4), some (.int x5)] [.int x5, .ref 11] am_G0 f) else (am_chk x1 6 (k 111 [some (.ref 11), some (.int x1), d2, some (.int x3), some (.int x4), some (.int x5)] [.ref 11] am_G0 (am_wr f (11 + 1) x1.toNatClampNeg x4)))) else (am_chk x1 6 (k 111 [some (.ref 11), some (.int x1), d2, some (.int x3), some (.int x4), some (.int x5)] [.ref 11] am_G0 (am_wr f (11 + 1) x1.toNatClampNeg x4))))) (fun k => rfl) ?_)
    refine am_Ew.ite h (fun _ h => ?_) (fun _ h => ?_)
    · refine am_Ew.ite h (fun _ h => ?_) (fun _ h => ?_)
      · obtain ⟨v3, f3, h1, h⟩ := am_bI_some h
        refine am_Ew.run (am_Ev.call (fun n => rfl) (lk_X4_kindOf_11 h1) ?_)
        refine am_Ew.start [31, 85] 21 (am_Ew.conv (fun k => (if v3 = 1 then (am_chk x1 6 (am_chk x1 6 (am_chk x1 6 (k 85 [some (.ref 11), some (.int x1), d2, some (.int x3), some (.int x4), some (.int x5)] [.int x5, .ref 11, .int ((31 : Int32) * (f3 (11 + 3) x1.toNatClampNeg)), .int x1, .ref (11 + 3)] am_G0 (am_wr f3 (11 + 2) x1.toNatClampNeg ((f3 (11 + 2) x1.toNatClampNeg) + 1)))))) else (k 31 [some (.ref 11), some (.int x1), d2, some (.int x3), some (.int x4), some (.int (x5 + 1))] [] am_G0 f3))) (fun k => rfl) ?_)
        refine am_Ew.ite h (fun _ h => ?_) (fun _ h => ?_)
        · refine am_Ew.chk h (fun h => ?_)
          refine am_Ew.chk h (fun h => ?_)
          refine am_Ew.chk h (fun h => ?_)
          obtain ⟨v4, f4, h1, h⟩ := am_bI_some h
          refine am_Ew.run (am_Ev.call (fun n => rfl) (lk_X4_valueOf_11 h1) ?_)
          refine am_Ew.start [31] 8 (am_Ew.conv (fun k => (am_chk x1 6 (k 31 [some (.ref 11), some (.int x1), d2, some (.int x3), some (.int x4), some (.int (x5 + 1))] [] am_G0 (am_wr f4 (11 + 3) x1.toNatClampNeg (((((31 : Int32) * (f3 (11 + 3) x1.toNatClampNeg)) + v4) + x1) - ((((31 : Int32) * (f3 (11 + 3) x1.toNatClampNeg)) + v4) + x1) / (am_int 9973) * (am_int 9973)))))) (fun k => rfl) ?_)
          refine am_Ew.chk h (fun h => ?_)
          exact am_Ew.run (lk_X4_goOver_11_31  n _ _ _ _ _ _ _ h _ )
        · exact am_Ew.run (lk_X4_goOver_11_31  n _ _ _ _ _ _ _ h _ )
      · refine am_Ew.chk h (fun h => ?_)
        obtain ⟨f5, h1, h⟩ := am_bV_some h
        refine am_Ew.run (am_Ev.call (fun n => rfl) (lk_X4_admit_11 h1) ?_)
        refine am_Ew.start [] 4 (am_Ew.conv (fun k => (some (some (.int (x4 - x3)), am_G0, f5))) (fun k => rfl) ?_)
        exact am_Ew.retI h
    · refine am_Ew.chk h (fun h => ?_)
      obtain ⟨f6, h1, h⟩ := am_bV_some h
      refine am_Ew.run (am_Ev.call (fun n => rfl) (lk_X4_admit_11 h1) ?_)
      refine am_Ew.start [] 4 (am_Ew.conv (fun k => (some (some (.int (x4 - x3)), am_G0, f6))) (fun k => rfl) ?_)
      exact am_Ew.retI h
set_option maxHeartbeats 400000 in
set_option maxRecDepth 100000 in
theorem lk_X4_goOver_11 {X : am_X} {a1 a2 : Int32} {f f' : am_M} {v' : Int32} (h : D_X4_goOver 11 999 a1 a2 f = some (v', f')) : am_Ev X 38 0 [some (.ref 11), some (.int a1), some (.int a2), none, none, none] [] f (some (.int v')) f' := by
  rw [D_X4_goOver] at h
  refine am_Ew.start [12] 10 (am_Ew.conv (fun k => (am_chk a1 6 (k 12 [some (.ref 11), some (.int a1), some (.int a2), some (.int (f (11 + 1) a1.toNatClampNeg)), none, none] [.int a1, .ref 11, .int ((f (11 + 1) a1.toNatClampNeg) + a2)] am_G0 f))) (fun k => rfl) ?_)
  refine am_Ew.chk h (fun h => ?_)
  obtain ⟨v1, f1, h1, h⟩ := am_bI_some h
  refine am_Ew.run (am_Ev.call (fun n => rfl) (lk_X4_atMost_11 h1) ?_)
  obtain ⟨v2, f2, h1, h⟩ := am_bI_some h
  refine (am_Ev.call (fun n => rfl) (lk_J9_min_7cf53 h1) ?_)
  refine am_Ew.start [31] 6 (am_Ew.conv (fun k => (if (f (11 + 1) a1.toNatClampNeg) < v2 then (k 31 [some (.ref 11), some (.int a1), some (.int a2), some (.int (f (11 + 1) a1.toNatClampNeg)), some (.int v2), some (.int (f (11 + 1) a1.toNatClampNeg))] [] am_G0 f2) else (some (some (.int 0), am_G0, f2)))) (fun k => rfl) ?_)
  refine am_Ew.ite h (fun _ h => ?_) (fun _ h => ?_)
  · exact am_Ew.run (lk_X4_goOver_11_31 _ _ _ _ _ _ _ _ h _ )
  · exact am_Ew.retI h
set_option maxHeartbeats 400000 in
set_option maxRecDepth 100000 in
theorem lk_X4_goOver_81_31 {X : am_X} : ∀ (n : Nat) (x1 x3 x4 x5 : Int32) (f : am_M) (v' : Int32) (f' : am_M), D_X4_goOver_31 81 0 n x1 x3 x4 x5 f = some (v', f') → ∀ d2 : Option Value, am_Ev X 38 31 [some (.ref 81), some (.int x1), d2, some (.int x3), some (.int x4), some (.int x5)] [] f (some (.int v')) f'
  | 0, _, _, _, _, _, _, _, h, _ => by cases h
  | n + 1, x1, x3, x4, x5, f, v', f', h, d2 => by
    rw [D_X4_goOver_31] at h
    refine am_Ew.start [51, 111] 14 (am_Ew.conv (fun k => (if x5 < x4 then (if x5 < (Int32.ofNat 0) then (k 51 [some (.ref 81), some (.int x1), d2, some (.int x3), some (.int x4), some (.int x5)] [.int x5, .ref 81] am_G0 f) else (am_chk x1 6 (k 111 [some (.ref 81), some (.int x1), d2, some (.int x3), some (.int x4), some (.int x5)] [.ref 81] am_G0 (am_wr f (81 + 1) x1.toNatClampNeg x4)))) else (am_chk x1 6 (k 111 [some (.ref 81), some (.int x1), d2, some (.int x3), some (.int x4), some (.int x5)] [.ref 81] am_G0 (am_wr f (81 + 1) x1.toNatClampNeg x4))))) (fun k => rfl) ?_)
    refine am_Ew.ite h (fun _ h => ?_) (fun _ h => ?_)
    · refine am_Ew.ite h (fun _ h => ?_) (fun _ h => ?_)
      · obtain ⟨v3, f3, h1, h⟩ := am_bI_some h
        refine am_Ew.run (am_Ev.call (fun n => rfl) (lk_X4_kindOf_81 h1) ?_)
        refine am_Ew.start [31, 85] 21 (am_Ew.conv (fun k => (if v3 = 1 then (am_chk x1 6 (am_chk x1 6 (am_chk x1 6 (k 85 [some (.ref 81), some (.int x1), d2, some (.int x3), some (.int x4), some (.int x5)] [.int x5, .ref 81, .int ((31 : Int32) * (f3 (81 + 3) x1.toNatClampNeg)), .int x1, .ref (81 + 3)] am_G0 (am_wr f3 (81 + 2) x1.toNatClampNeg ((f3 (81 + 2) x1.toNatClampNeg) + 1)))))) else (k 31 [some (.ref 81), some (.int x1), d2, some (.int x3), some (.int x4), some (.int (x5 + 1))] [] am_G0 f3))) (fun k => rfl) ?_)
        refine am_Ew.ite h (fun _ h => ?_) (fun _ h => ?_)
        · refine am_Ew.chk h (fun h => ?_)
          refine am_Ew.chk h (fun h => ?_)
          refine am_Ew.chk h (fun h => ?_)
          obtain ⟨v4, f4, h1, h⟩ := am_bI_some h
          refine am_Ew.run (am_Ev.call (fun n => rfl) (lk_X4_valueOf_81 h1) ?_)
          refine am_Ew.start [31] 8 (am_Ew.conv (fun k => (am_chk x1 6 (k 31 [some (.ref 81), some (.int x1), d2, some (.int x3), some (.int x4), some (.int (x5 + 1))] [] am_G0 (am_wr f4 (81 + 3) x1.toNatClampNeg (((((31 : Int32) * (f3 (81 + 3) x1.toNatClampNeg)) + v4) + x1) - ((((31 : Int32) * (f3 (81 + 3) x1.toNatClampNeg)) + v4) + x1) / (am_int 9973) * (am_int 9973)))))) (fun k => rfl) ?_)
          refine am_Ew.chk h (fun h => ?_)
          exact am_Ew.run (lk_X4_goOver_81_31  n _ _ _ _ _ _ _ h _ )
        · exact am_Ew.run (lk_X4_goOver_81_31  n _ _ _ _ _ _ _ h _ )
      · refine am_Ew.chk h (fun h => ?_)
        obtain ⟨f5, h1, h⟩ := am_bV_some h
        refine am_Ew.run (am_Ev.call (fun n => rfl) (lk_X4_admit_81 h1) ?_)
        refine am_Ew.start [] 4 (am_Ew.conv (fun k => (some (some (.int (x4 - x3)), am_G0, f5))) (fun k => rfl) ?_)
        exact am_Ew.retI h
    · refine am_Ew.chk h (fun h => ?_)
      obtain ⟨f6, h1, h⟩ := am_bV_some h
      refine am_Ew.run (am_Ev.call (fun n => rfl) (lk_X4_admit_81 h1) ?_)
      refine am_Ew.start [] 4 (am_Ew.conv (fun k => (some (some (.int (x4 - x3)), am_G0, f6))) (fun k => rfl) ?_)
      exact am_Ew.retI h
set_option maxHeartbeats 400000 in
set_option maxRecDepth 100000 in
theorem lk_X4_goOver_81 {X : am_X} {a1 a2 : Int32} {f f' : am_M} {v' : Int32} (h : D_X4_goOver 81 0 a1 a2 f = some (v', f')) : am_Ev X 38 0 [some (.ref 81), some (.int a1), some (.int a2), none, none, none] [] f (some (.int v')) f' := by
  rw [D_X4_goOver] at h
  refine am_Ew.start [12] 10 (am_Ew.conv (fun k => (am_chk a1 6 (k 12 [some (.ref 81), some (.int a1), some (.int a2), some (.int (f (81 + 1) a1.toNatClampNeg)), none, none] [.int a1, .ref 81, .int ((f (81 + 1) a1.toNatClampNeg) + a2)] am_G0 f))) (fun k => rfl) ?_)
  refine am_Ew.chk h (fun h => ?_)
  obtain ⟨v1, f1, h1, h⟩ := am_bI_some h
  refine am_Ew.run (am_Ev.call (fun n => rfl) (lk_X4_atMost_81 h1) ?_)
  obtain ⟨v2, f2, h1, h⟩ := am_bI_some h
  refine (am_Ev.call (fun n => rfl) (lk_J9_min_7cf53 h1) ?_)
  refine am_Ew.start [31] 6 (am_Ew.conv (fun k => (if (f (81 + 1) a1.toNatClampNeg) < v2 then (k 31 [some (.ref 81), some (.int a1), some (.int a2), some (.int (f (81 + 1) a1.toNatClampNeg)), some (.int v2), some (.int (f (81 + 1) a1.toNatClampNeg))] [] am_G0 f2) else (some (some (.int 0), am_G0, f2)))) (fun k => rfl) ?_)
  refine am_Ew.ite h (fun _ h => ?_) (fun _ h => ?_)
  · exact am_Ew.run (lk_X4_goOver_81_31 _ _ _ _ _ _ _ _ h _ )
  · exact am_Ew.retI h
set_option maxHeartbeats 400000 in
set_option maxRecDepth 100000 in
theorem lk_X4_toBlame_11_27 {X : am_X} : ∀ (n : Nat) (x1 x2 : Int32) (f : am_M) (v' : Int32) (f' : am_M), D_X4_toBlame_27 11 999 n x1 x2 f = some (v', f') → ∀ d3 : Option Value, am_Ev X 39 27 [some (.ref 11), some (.int x1), some (.int x2), d3] [] f (some (.int v')) f'
  | 0, _, _, _, _, _, h, _ => by cases h
  | n + 1, x1, x2, f, v', f', h, d3 => by
    rw [D_X4_toBlame_27] at h
    refine am_Ew.start [35] 5 (am_Ew.conv (fun k => (if x2 < 6 then (k 35 [some (.ref 11), some (.int x1), some (.int x2), d3] [.int x1, .ref 11] am_G0 f) else (some (some (.int x1), am_G0, f)))) (fun k => rfl) ?_)
    refine am_Ew.ite h (fun _ h => ?_) (fun _ h => ?_)
    · obtain ⟨v2, f2, h1, h⟩ := am_bI_some h
      refine am_Ew.run (am_Ev.call (fun n => rfl) (lk_X4_hasAhead_11 h1) ?_)
      refine am_Ew.start [51] 7 (am_Ew.conv (fun k => (if v2 = 0 then (am_chk x1 6 (k 51 [some (.ref 11), some (.int x1), some (.int x2), d3] [.int (f2 6 x1.toNatClampNeg), .ref 11] am_G0 f2)) else (some (some (.int x1), am_G0, f2)))) (fun k => rfl) ?_)
      refine am_Ew.ite h (fun _ h => ?_) (fun _ h => ?_)
      · refine am_Ew.chk h (fun h => ?_)
        obtain ⟨v3, f3, h1, h⟩ := am_bI_some h
        refine am_Ew.run (am_Ev.call (fun n => rfl) (lk_X4_slowestOf_11 h1) ?_)
        refine am_Ew.start [27, 66] 8 (am_Ew.conv (fun k => (if v3 = (-9) then (k 66 [some (.ref 11), some (.int x1), some (.int x2), some (.int v3)] [.int (f3 11 3), .ref 11] am_G0 f3) else (k 27 [some (.ref 11), some (.int v3), some (.int (x2 + 1)), some (.int v3)] [] am_G0 f3))) (fun k => rfl) ?_)
        refine am_Ew.ite h (fun _ h => ?_) (fun _ h => ?_)
        · obtain ⟨v4, f4, h1, h⟩ := am_bI_some h
          refine am_Ew.run (am_Ev.call (fun n => rfl) (lk_X4_hasEvent_11 h1) ?_)
          refine am_Ew.start [79] 5 (am_Ew.conv (fun k => (if v4 = 0 then (some (some (.int (-9)), am_G0, f4)) else (k 79 [some (.ref 11), some (.int x1), some (.int x2), some (.int v3)] [.int (f4 11 3), .ref 11, .int 10] am_G0 f4))) (fun k => rfl) ?_)
          refine am_Ew.ite h (fun _ h => ?_) (fun _ h => ?_)
          · exact am_Ew.retI h
          · obtain ⟨v5, f5, h1, h⟩ := am_bI_some h
            refine am_Ew.run (am_Ev.call (fun n => rfl) (lk_X4_makerOf_11 h1) ?_)
            refine am_Ew.start [] 3 (am_Ew.conv (fun k => (some (some (.int ((10 : Int32) + v5)), am_G0, f5))) (fun k => rfl) ?_)
            exact am_Ew.retI h
        · exact am_Ew.run (lk_X4_toBlame_11_27  n _ _ _ _ _ h _ )
      · exact am_Ew.retI h
    · exact am_Ew.retI h
set_option maxHeartbeats 400000 in
set_option maxRecDepth 100000 in
theorem lk_X4_toBlame_11 {X : am_X} {f f' : am_M} {v' : Int32} (h : D_X4_toBlame 11 999 f = some (v', f')) : am_Ev X 39 0 [some (.ref 11), none, none, none] [] f (some (.int v')) f' := by
  rw [D_X4_toBlame] at h
  refine am_Ew.start [21] 9 (am_Ew.conv (fun k => (if (f 11 9) = 0 then (some (some (.int (-9)), am_G0, f)) else (if (f 3 2) = 0 then (some (some (.int (-9)), am_G0, f)) else (k 21 [some (.ref 11), none, none, none] [.ref 11] am_G0 f)))) (fun k => rfl) ?_)
  refine am_Ew.ite h (fun _ h => ?_) (fun _ h => ?_)
  · exact am_Ew.retI h
  · refine am_Ew.ite h (fun _ h => ?_) (fun _ h => ?_)
    · exact am_Ew.retI h
    · obtain ⟨v1, f1, h1, h⟩ := am_bI_some h
      refine am_Ew.run (am_Ev.call (fun n => rfl) (lk_X4_slowest_11 h1) ?_)
      refine am_Ew.start [27] 3 (am_Ew.conv (fun k => (k 27 [some (.ref 11), some (.int v1), some (.int 0), none] [] am_G0 f1)) (fun k => rfl) ?_)
      exact am_Ew.run (lk_X4_toBlame_11_27 _ _ _ _ _ _ h _ )
