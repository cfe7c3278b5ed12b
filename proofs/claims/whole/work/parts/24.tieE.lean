set_option maxHeartbeats 400000 in
set_option maxRecDepth 100000 in
theorem lk_X8_within {X : am_X} {a0 a1 a2 : Int32} {f f' : am_M} {v' : Int32} (h : D_X8_within a0 a1 a2 f = some (v', f')) : am_Ev X 91 0 [some (.int a0), some (.int a1), some (.int a2)] [] f (some (.int v')) f' := by
  rw [D_X8_within] at h
  refine am_Ew.start [] 9 (am_Ew.conv (fun k => (if a0 < a1 then (some (some (.int 0), am_G0, f)) else (if a2 < a0 then (some (some (.int 0), am_G0, f)) else (some (some (.int 1), am_G0, f))))) (fun k => rfl) ?_)
  refine am_Ew.ite h (fun _ h => ?_) (fun _ h => ?_)
  · exact am_Ew.retI h
  · refine am_Ew.ite h (fun _ h => ?_) (fun _ h => ?_)
    · exact am_Ew.retI h
    · exact am_Ew.retI h
set_option maxHeartbeats 400000 in
set_option maxRecDepth 100000 in
theorem lk_X8_has {X : am_X} {a0 a1 : Int32} {f f' : am_M} {v' : Int32} (h : D_X8_has a0 a1 f = some (v', f')) : am_Ev X 92 0 [some (.int a0), some (.int a1)] [] f (some (.int v')) f' := by
  rw [D_X8_has] at h
  refine am_Ew.start [] 10 (am_Ew.conv (fun k => (if ((a0 >>> (a1 &&& 31)) &&& 1) = 1 then (some (some (.int 1), am_G0, f)) else (some (some (.int 0), am_G0, f)))) (fun k => rfl) ?_)
  refine am_Ew.ite h (fun _ h => ?_) (fun _ h => ?_)
  · exact am_Ew.retI h
  · exact am_Ew.retI h
set_option maxHeartbeats 400000 in
set_option maxRecDepth 100000 in
theorem lk_X8_skips_0 {X : am_X} : ∀ (n : Nat) (f : am_M) (f' : am_M), D_X8_skips_0 n  f = some f' → am_Ev X 93 0 [some (.ref 91)] [] f none f'
  | 0, _, _, h => by cases h
  | n + 1, f, f', h => by
    rw [D_X8_skips_0] at h
    refine am_Ew.start [0] 19 (am_Ew.conv (fun k => (if (f 91 16) < (f 91 15) then (am_chk (f 91 16) 120 (if (f 101 (f 91 16).toNatClampNeg) = 32 then (k 0 [some (.ref 91)] [] am_G0 (am_wr f 91 16 ((f 91 16) + 1))) else (some (none, am_G0, (am_wr f 91 17 (f 91 16)))))) else (some (none, am_G0, (am_wr f 91 17 (f 91 16)))))) (fun k => rfl) ?_)
    refine am_Ew.ite h (fun _ h => ?_) (fun _ h => ?_)
    · refine am_Ew.chk h (fun h => ?_)
      refine am_Ew.ite h (fun _ h => ?_) (fun _ h => ?_)
      · exact am_Ew.run (lk_X8_skips_0  n _ _ h )
      · exact am_Ew.retV h
    · exact am_Ew.retV h
set_option maxHeartbeats 400000 in
set_option maxRecDepth 100000 in
theorem lk_X8_skips {X : am_X} {f f' : am_M} (h : D_X8_skips f = some f') : am_Ev X 93 0 [some (.ref 91)] [] f none f' := by
  rw [D_X8_skips] at h
  exact (lk_X8_skips_0 _ _ _ h )
set_option maxHeartbeats 400000 in
set_option maxRecDepth 100000 in
theorem lk_X8_spells {X : am_X} {a1 a2 a3 a4 a5 : Int32} {f f' : am_M} {v' : Int32} (h : D_X8_spells a1 a2 a3 a4 a5 f = some (v', f')) : am_Ev X 97 0 [some (.ref 91), some (.int a1), some (.int a2), some (.int a3), some (.int a4), some (.int a5), none] [] f (some (.int v')) f' := by
  rw [D_X8_spells] at h
  refine am_Ew.start [] 58 (am_Ew.conv (fun k => (if ((f 91 16) - (f 91 17)) = 5 then (am_chk (f 91 17) 120 (if (f 101 (f 91 17).toNatClampNeg) = a1 then (am_chk ((f 91 17) + 1) 120 (if (f 101 ((f 91 17) + 1).toNatClampNeg) = a2 then (am_chk ((f 91 17) + 2) 120 (if (f 101 ((f 91 17) + 2).toNatClampNeg) = a3 then (am_chk ((f 91 17) + 3) 120 (if (f 101 ((f 91 17) + 3).toNatClampNeg) = a4 then (am_chk ((f 91 17) + 4) 120 (if (f 101 ((f 91 17) + 4).toNatClampNeg) = a5 then (some (some (.int 1), am_G0, f)) else (some (some (.int 0), am_G0, f)))) else (some (some (.int 0), am_G0, f)))) else (some (some (.int 0), am_G0, f)))) else (some (some (.int 0), am_G0, f)))) else (some (some (.int 0), am_G0, f)))) else (some (some (.int 0), am_G0, f)))) (fun k => rfl) ?_)
  refine am_Ew.ite h (fun _ h => ?_) (fun _ h => ?_)
  · refine am_Ew.chk h (fun h => ?_)
    refine am_Ew.ite h (fun _ h => ?_) (fun _ h => ?_)
    · refine am_Ew.chk h (fun h => ?_)
      refine am_Ew.ite h (fun _ h => ?_) (fun _ h => ?_)
      · refine am_Ew.chk h (fun h => ?_)
        refine am_Ew.ite h (fun _ h => ?_) (fun _ h => ?_)
        · refine am_Ew.chk h (fun h => ?_)
          refine am_Ew.ite h (fun _ h => ?_) (fun _ h => ?_)
          · refine am_Ew.chk h (fun h => ?_)
            refine am_Ew.ite h (fun _ h => ?_) (fun _ h => ?_)
            · exact am_Ew.retI h
            · exact am_Ew.retI h
          · exact am_Ew.retI h
        · exact am_Ew.retI h
      · exact am_Ew.retI h
    · exact am_Ew.retI h
  · exact am_Ew.retI h
set_option maxHeartbeats 400000 in
set_option maxRecDepth 100000 in
theorem lk_X8_clear {X : am_X} {f f' : am_M} {v' : Int32} (h : D_X8_clear f = some (v', f')) : am_Ev X 104 0 [some (.ref 91), none] [] f (some (.int v')) f' := by
  rw [D_X8_clear] at h
  refine am_Ew.start [] 8 (am_Ew.conv (fun k => (some (some (.int (f 91 15)), am_G0, (am_wr f 91 15 0)))) (fun k => rfl) ?_)
  exact am_Ew.retI h
set_option maxHeartbeats 400000 in
set_option maxRecDepth 100000 in
theorem lk_X8_kindOf {X : am_X} {a1 : Int32} {f f' : am_M} {v' : Int32} (h : D_X8_kindOf a1 f = some (v', f')) : am_Ev X 109 0 [some (.ref 91), some (.int a1)] [] f (some (.int v')) f' := by
  rw [D_X8_kindOf] at h
  refine am_Ew.start [] 9 (am_Ew.conv (fun k => (am_chk ((26 : Int32) + a1) 1026 (some (some (.int ((f 95 ((26 : Int32) + a1).toNatClampNeg) &&& 3)), am_G0, f)))) (fun k => rfl) ?_)
  refine am_Ew.chk h (fun h => ?_)
  exact am_Ew.retI h
set_option maxHeartbeats 400000 in
set_option maxRecDepth 100000 in
theorem lk_X8_least_9 {X : am_X} : ∀ (n : Nat) (x1 x2 : Int32) (f : am_M) (v' : Int32) (f' : am_M), D_X8_least_9 n x1 x2 f = some (v', f') → am_Ev X 111 9 [some (.ref 91), some (.int x1), some (.int x2)] [] f (some (.int v')) f'
  | 0, _, _, _, _, _, h => by cases h
  | n + 1, x1, x2, f, v', f', h => by
    rw [D_X8_least_9] at h
    refine am_Ew.start [9] 22 (am_Ew.conv (fun k => (if x2 < (f 91 3) then (am_chk ((1 : Int32) + x2) 1026 (if (f 95 ((1 : Int32) + x2).toNatClampNeg) < x1 then (am_chk ((1 : Int32) + x2) 1026 (k 9 [some (.ref 91), some (.int (f 95 ((1 : Int32) + x2).toNatClampNeg)), some (.int (x2 + 1))] [] am_G0 f)) else (k 9 [some (.ref 91), some (.int x1), some (.int (x2 + 1))] [] am_G0 f))) else (some (some (.int x1), am_G0, f)))) (fun k => rfl) ?_)
    refine am_Ew.ite h (fun _ h => ?_) (fun _ h => ?_)
    · refine am_Ew.chk h (fun h => ?_)
      refine am_Ew.ite h (fun _ h => ?_) (fun _ h => ?_)
      · refine am_Ew.chk h (fun h => ?_)
        exact am_Ew.run (lk_X8_least_9  n _ _ _ _ _ h )
      · exact am_Ew.run (lk_X8_least_9  n _ _ _ _ _ h )
    · exact am_Ew.retI h
set_option maxHeartbeats 400000 in
set_option maxRecDepth 100000 in
theorem lk_X8_least {X : am_X} {f f' : am_M} {v' : Int32} (h : D_X8_least f = some (v', f')) : am_Ev X 111 0 [some (.ref 91), none, none] [] f (some (.int v')) f' := by
  rw [D_X8_least] at h
  refine am_Ew.start [9] 7 (am_Ew.conv (fun k => (k 9 [some (.ref 91), some (.int (f 95 0)), some (.int 0)] [] am_G0 f)) (fun k => rfl) ?_)
  exact am_Ew.run (lk_X8_least_9 _ _ _ _ _ _ h )
set_option maxHeartbeats 400000 in
set_option maxRecDepth 100000 in
theorem lk_X8_placeOf_5 {X : am_X} : ∀ (n : Nat) (x1 x2 x3 : Int32) (f : am_M) (v' : Int32) (f' : am_M), D_X8_placeOf_5 n x1 x2 x3 f = some (v', f') → am_Ev X 114 5 [some (.ref 91), some (.int x1), some (.int x2), some (.int x3)] [] f (some (.int v')) f'
  | 0, _, _, _, _, _, _, h => by cases h
  | n + 1, x1, x2, x3, f, v', f', h => by
    rw [D_X8_placeOf_5] at h
    refine am_Ew.start [5] 19 (am_Ew.conv (fun k => (if x3 < (f 95 19) then (am_chk ((20 : Int32) + x3) 1026 (if (f 95 ((20 : Int32) + x3).toNatClampNeg) = x1 then (k 5 [some (.ref 91), some (.int x1), some (.int x3), some (.int (x3 + 1))] [] am_G0 f) else (k 5 [some (.ref 91), some (.int x1), some (.int x2), some (.int (x3 + 1))] [] am_G0 f))) else (some (some (.int x2), am_G0, f)))) (fun k => rfl) ?_)
    refine am_Ew.ite h (fun _ h => ?_) (fun _ h => ?_)
    · refine am_Ew.chk h (fun h => ?_)
      refine am_Ew.ite h (fun _ h => ?_) (fun _ h => ?_)
      · exact am_Ew.run (lk_X8_placeOf_5  n _ _ _ _ _ _ h )
      · exact am_Ew.run (lk_X8_placeOf_5  n _ _ _ _ _ _ h )
    · exact am_Ew.retI h
set_option maxHeartbeats 400000 in
set_option maxRecDepth 100000 in
theorem lk_X8_placeOf {X : am_X} {a1 : Int32} {f f' : am_M} {v' : Int32} (h : D_X8_placeOf a1 f = some (v', f')) : am_Ev X 114 0 [some (.ref 91), some (.int a1), none, none] [] f (some (.int v')) f' := by
  rw [D_X8_placeOf] at h
  refine am_Ew.start [5] 4 (am_Ew.conv (fun k => (k 5 [some (.ref 91), some (.int a1), some (.int (-9)), some (.int 0)] [] am_G0 f)) (fun k => rfl) ?_)
  exact am_Ew.run (lk_X8_placeOf_5 _ _ _ _ _ _ _ h )
set_option maxHeartbeats 400000 in
set_option maxRecDepth 100000 in
theorem lk_X8_claimsNow_2 {X : am_X} : ∀ (n : Nat) (x1 x2 x3 : Int32) (f : am_M) (f' : am_M), D_X8_claimsNow_2 n x1 x2 x3 f = some f' → am_Ev X 115 2 [some (.ref 91), some (.int x1), some (.int x2), some (.int x3)] [] f none f'
  | 0, _, _, _, _, _, h => by cases h
  | n + 1, x1, x2, x3, f, f', h => by
    rw [D_X8_claimsNow_2] at h
    refine am_Ew.start [2] 27 (am_Ew.conv (fun k => (if x3 < x2 then (am_chk ((26 : Int32) + (f 95 0)) 1026 (k 2 [some (.ref 91), some (.int x1), some (.int x2), some (.int (x3 + 1))] [] am_G0 (am_wr (am_wr f 95 ((26 : Int32) + (f 95 0)).toNatClampNeg ((0 : Int32) + ((4 : Int32) * x1))) 95 0 (((am_wr f 95 ((26 : Int32) + (f 95 0)).toNatClampNeg ((0 : Int32) + ((4 : Int32) * x1))) 95 0) + 1)))) else (some (none, am_G0, f)))) (fun k => rfl) ?_)
    refine am_Ew.ite h (fun _ h => ?_) (fun _ h => ?_)
    · refine am_Ew.chk h (fun h => ?_)
      exact am_Ew.run (lk_X8_claimsNow_2  n _ _ _ _ _ h )
    · exact am_Ew.retV h
set_option maxHeartbeats 400000 in
set_option maxRecDepth 100000 in
theorem lk_X8_claimsNow {X : am_X} {a1 a2 : Int32} {f f' : am_M} (h : D_X8_claimsNow a1 a2 f = some f') : am_Ev X 115 0 [some (.ref 91), some (.int a1), some (.int a2), none] [] f none f' := by
  rw [D_X8_claimsNow] at h
  refine am_Ew.start [2] 2 (am_Ew.conv (fun k => (k 2 [some (.ref 91), some (.int a1), some (.int a2), some (.int 0)] [] am_G0 f)) (fun k => rfl) ?_)
  exact am_Ew.run (lk_X8_claimsNow_2 _ _ _ _ _ _ h )
set_option maxHeartbeats 400000 in
set_option maxRecDepth 100000 in
theorem lk_X8_leavesRow_13 {X : am_X} : ∀ (n : Nat) (x2 : Int32) (f : am_M) (f' : am_M), D_X8_leavesRow_13 n x2 f = some f' → ∀ d1 : Option Value, am_Ev X 116 13 [some (.ref 91), d1, some (.int x2)] [] f none f'
  | 0, _, _, _, h, _ => by cases h
  | n + 1, x2, f, f', h, d1 => by
    rw [D_X8_leavesRow_13] at h
    refine am_Ew.start [13] 36 (am_Ew.conv (fun k => (if x2 < (f 95 19) then (am_chk (((20 : Int32) + x2) + 1) 1026 (am_chk ((20 : Int32) + x2) 1026 (am_chk (((23 : Int32) + x2) + 1) 1026 (am_chk ((23 : Int32) + x2) 1026 (k 13 [some (.ref 91), d1, some (.int (x2 + 1))] [] am_G0 (am_wr (am_wr f 95 ((20 : Int32) + x2).toNatClampNeg (f 95 (((20 : Int32) + x2) + 1).toNatClampNeg)) 95 ((23 : Int32) + x2).toNatClampNeg ((am_wr f 95 ((20 : Int32) + x2).toNatClampNeg (f 95 (((20 : Int32) + x2) + 1).toNatClampNeg)) 95 (((23 : Int32) + x2) + 1).toNatClampNeg))))))) else (some (none, am_G0, f)))) (fun k => rfl) ?_)
    refine am_Ew.ite h (fun _ h => ?_) (fun _ h => ?_)
    · refine am_Ew.chk h (fun h => ?_)
      refine am_Ew.chk h (fun h => ?_)
      refine am_Ew.chk h (fun h => ?_)
      refine am_Ew.chk h (fun h => ?_)
      exact am_Ew.run (lk_X8_leavesRow_13  n _ _ _ h _ )
    · exact am_Ew.retV h
set_option maxHeartbeats 400000 in
set_option maxRecDepth 100000 in
theorem lk_X8_leavesRow {X : am_X} {a1 : Int32} {f f' : am_M} (h : D_X8_leavesRow a1 f = some f') : am_Ev X 116 0 [some (.ref 91), some (.int a1), none] [] f none f' := by
  rw [D_X8_leavesRow] at h
  refine am_Ew.start [13] 10 (am_Ew.conv (fun k => (k 13 [some (.ref 91), some (.int a1), some (.int a1)] [] am_G0 (am_wr f 95 19 ((f 95 19) - 1)))) (fun k => rfl) ?_)
  exact am_Ew.run (lk_X8_leavesRow_13 _ _ _ _ h _ )
set_option maxHeartbeats 400000 in
set_option maxRecDepth 100000 in
theorem lk_X8_wanted_4 {X : am_X} : ∀ (n : Nat) (x1 x2 : Int32) (f : am_M) (v' : Int32) (f' : am_M), D_X8_wanted_4 n x1 x2 f = some (v', f') → am_Ev X 118 4 [some (.ref 91), some (.int x1), some (.int x2)] [] f (some (.int v')) f'
  | 0, _, _, _, _, _, h => by cases h
  | n + 1, x1, x2, f, v', f', h => by
    rw [D_X8_wanted_4] at h
    refine am_Ew.start [4] 17 (am_Ew.conv (fun k => (if x2 < (f 95 19) then (am_chk ((23 : Int32) + x2) 1026 (k 4 [some (.ref 91), some (.int (x1 + (f 95 ((23 : Int32) + x2).toNatClampNeg))), some (.int (x2 + 1))] [] am_G0 f)) else (some (some (.int x1), am_G0, f)))) (fun k => rfl) ?_)
    refine am_Ew.ite h (fun _ h => ?_) (fun _ h => ?_)
    · refine am_Ew.chk h (fun h => ?_)
      exact am_Ew.run (lk_X8_wanted_4  n _ _ _ _ _ h )
    · exact am_Ew.retI h
set_option maxHeartbeats 400000 in
set_option maxRecDepth 100000 in
theorem lk_X8_wanted {X : am_X} {f f' : am_M} {v' : Int32} (h : D_X8_wanted f = some (v', f')) : am_Ev X 118 0 [some (.ref 91), none, none] [] f (some (.int v')) f' := by
  rw [D_X8_wanted] at h
  refine am_Ew.start [4] 4 (am_Ew.conv (fun k => (k 4 [some (.ref 91), some (.int 0), some (.int 0)] [] am_G0 f)) (fun k => rfl) ?_)
  exact am_Ew.run (lk_X8_wanted_4 _ _ _ _ _ _ h )
set_option maxHeartbeats 400000 in
set_option maxRecDepth 100000 in
theorem lk_X8_keeps_52 {X : am_X} : ∀ (n : Nat) (x1 : Int32) (f : am_M) (f' : am_M), D_X8_keeps_52 n x1 f = some f' → am_Ev X 119 52 [some (.ref 91), some (.int x1)] [] f none f'
  | 0, _, _, _, h => by cases h
  | n + 1, x1, f, f', h => by
    rw [D_X8_keeps_52] at h
    refine am_Ew.start [79] 15 (am_Ew.conv (fun k => (if x1 < (am_int 1026) then (am_chk x1 1026 (k 79 [some (.ref 91), some (.int x1)] [.int (f 95 x1.toNatClampNeg), .int ((((am_int 1026) : Int32) * (f 91 8)) + x1), .ref 96] am_G0 f)) else (some (none, am_G0, (am_wr f 91 8 ((f 91 8) + 1)))))) (fun k => rfl) ?_)
    refine am_Ew.ite h (fun _ h => ?_) (fun _ h => ?_)
    · refine am_Ew.chk h (fun h => ?_)
      refine am_Ew.run (?_)
      refine am_Ew.start [52] 3 (am_Ew.conv (fun k => (am_chk ((((am_int 1026) : Int32) * (f 91 8)) + x1) 6156 (k 52 [some (.ref 91), some (.int (x1 + 1))] [] am_G0 (am_wr f 96 ((((am_int 1026) : Int32) * (f 91 8)) + x1).toNatClampNeg (f 95 x1.toNatClampNeg))))) (fun k => rfl) ?_)
      refine am_Ew.chk h (fun h => ?_)
      exact am_Ew.run (lk_X8_keeps_52  n _ _ _ h )
    · exact am_Ew.retV h
set_option maxHeartbeats 400000 in
set_option maxRecDepth 100000 in
theorem lk_X8_keeps_11 {X : am_X} : ∀ (n : Nat) (x1 : Int32) (f : am_M) (f' : am_M), D_X8_keeps_11 n x1 f = some f' → am_Ev X 119 11 [some (.ref 91), some (.int x1)] [] f none f'
  | 0, _, _, _, h => by cases h
  | n + 1, x1, f, f', h => by
    rw [D_X8_keeps_11] at h
    refine am_Ew.start [32, 52] 11 (am_Ew.conv (fun k => (if x1 < (am_int 5130) then (k 32 [some (.ref 91), some (.int x1)] [.int (x1 + (am_int 1026)), .ref 96, .int x1, .ref 96] am_G0 f) else (k 52 [some (.ref 91), some (.int 0)] [] am_G0 (am_wr f 91 8 ((f 91 8) - 1))))) (fun k => rfl) ?_)
    refine am_Ew.ite h (fun _ h => ?_) (fun _ h => ?_)
    · refine am_Ew.run (?_)
      refine am_Ew.start [11] 4 (am_Ew.conv (fun k => (am_chk (x1 + (am_int 1026)) 6156 (am_chk x1 6156 (k 11 [some (.ref 91), some (.int (x1 + 1))] [] am_G0 (am_wr f 96 x1.toNatClampNeg (f 96 (x1 + (am_int 1026)).toNatClampNeg)))))) (fun k => rfl) ?_)
      refine am_Ew.chk h (fun h => ?_)
      refine am_Ew.chk h (fun h => ?_)
      exact am_Ew.run (lk_X8_keeps_11  n _ _ _ h )
    · exact am_Ew.run (lk_X8_keeps_52 _ _ _ _ h )
set_option maxHeartbeats 400000 in
set_option maxRecDepth 100000 in
theorem lk_X8_keeps {X : am_X} {f f' : am_M} (h : D_X8_keeps f = some f') : am_Ev X 119 0 [some (.ref 91), none] [] f none f' := by
  rw [D_X8_keeps] at h
  refine am_Ew.start [11, 52] 6 (am_Ew.conv (fun k => (if (f 91 8) = 6 then (k 11 [some (.ref 91), some (.int 0)] [] am_G0 f) else (k 52 [some (.ref 91), some (.int 0)] [] am_G0 f))) (fun k => rfl) ?_)
  refine am_Ew.ite h (fun _ h => ?_) (fun _ h => ?_)
  · exact am_Ew.run (lk_X8_keeps_11 _ _ _ _ h )
  · exact am_Ew.run (lk_X8_keeps_52 _ _ _ _ h )
set_option maxHeartbeats 400000 in
set_option maxRecDepth 100000 in
theorem lk_X8_undo_22 {X : am_X} : ∀ (n : Nat) (x1 : Int32) (f : am_M) (v' : Int32) (f' : am_M), D_X8_undo_22 n x1 f = some (v', f') → am_Ev X 127 22 [some (.ref 91), some (.int x1)] [] f (some (.int v')) f'
  | 0, _, _, _, _, h => by cases h
  | n + 1, x1, f, v', f', h => by
    rw [D_X8_undo_22] at h
    refine am_Ew.start [48] 14 (am_Ew.conv (fun k => (if x1 < (am_int 1026) then (k 48 [some (.ref 91), some (.int x1)] [.int ((((am_int 1026) : Int32) * (f 91 8)) + x1), .ref 96, .int x1, .ref 95] am_G0 f) else (some (some (.int (f 91 8)), am_G0, f)))) (fun k => rfl) ?_)
    refine am_Ew.ite h (fun _ h => ?_) (fun _ h => ?_)
    · refine am_Ew.run (?_)
      refine am_Ew.start [22] 4 (am_Ew.conv (fun k => (am_chk ((((am_int 1026) : Int32) * (f 91 8)) + x1) 6156 (am_chk x1 1026 (k 22 [some (.ref 91), some (.int (x1 + 1))] [] am_G0 (am_wr f 95 x1.toNatClampNeg (f 96 ((((am_int 1026) : Int32) * (f 91 8)) + x1).toNatClampNeg)))))) (fun k => rfl) ?_)
      refine am_Ew.chk h (fun h => ?_)
      refine am_Ew.chk h (fun h => ?_)
      exact am_Ew.run (lk_X8_undo_22  n _ _ _ _ h )
    · exact am_Ew.retI h
set_option maxHeartbeats 400000 in
set_option maxRecDepth 100000 in
theorem lk_X8_undo {X : am_X} {f f' : am_M} {v' : Int32} (h : D_X8_undo f = some (v', f')) : am_Ev X 127 0 [some (.ref 91), none] [] f (some (.int v')) f' := by
  rw [D_X8_undo] at h
  refine am_Ew.start [22] 11 (am_Ew.conv (fun k => (if (f 91 8) = 0 then (some (some (.int (-2)), am_G0, f)) else (k 22 [some (.ref 91), some (.int 0)] [] am_G0 (am_wr f 91 8 ((f 91 8) - 1))))) (fun k => rfl) ?_)
  refine am_Ew.ite h (fun _ h => ?_) (fun _ h => ?_)
  · exact am_Ew.retI h
  · exact am_Ew.run (lk_X8_undo_22 _ _ _ _ _ h )
set_option maxHeartbeats 400000 in
set_option maxRecDepth 100000 in
theorem lk_X8_tellEvent {X : am_X} {a1 a2 : Int32} {f f' : am_M} {v' : Int32} (h : D_X8_tellEvent a1 a2 f = some (v', f')) : am_Ev X 128 0 [some (.ref 91), some (.int a1), some (.int a2), none] [] f (some (.int v')) f' := by
  rw [D_X8_tellEvent] at h
  refine am_Ew.start [] 22 (am_Ew.conv (fun k => (am_chk ((26 : Int32) + a1) 1026 (if a2 = 0 then (some (some (.int ((f 95 ((26 : Int32) + a1).toNatClampNeg) &&& 3)), am_G0, f)) else (if a2 = 1 then (some (some (.int (((f 95 ((26 : Int32) + a1).toNatClampNeg) >>> ((2 : Int32) &&& 31)) &&& 3)), am_G0, f)) else (if ((f 95 ((26 : Int32) + a1).toNatClampNeg) &&& 3) = 1 then (some (some (.int ((f 95 ((26 : Int32) + a1).toNatClampNeg) / 16)), am_G0, f)) else (some (some (.int (-9)), am_G0, f))))))) (fun k => rfl) ?_)
  refine am_Ew.chk h (fun h => ?_)
  refine am_Ew.ite h (fun _ h => ?_) (fun _ h => ?_)
  · exact am_Ew.retI h
  · refine am_Ew.ite h (fun _ h => ?_) (fun _ h => ?_)
    · exact am_Ew.retI h
    · refine am_Ew.ite h (fun _ h => ?_) (fun _ h => ?_)
      · exact am_Ew.retI h
      · exact am_Ew.retI h
set_option maxHeartbeats 400000 in
set_option maxRecDepth 100000 in
theorem lk_X8_openOf_4 {X : am_X} : ∀ (n : Nat) (x1 x2 x3 : Int32) (f : am_M) (v' : Int32) (f' : am_M), D_X8_openOf_4 n x1 x2 x3 f = some (v', f') → am_Ev X 132 4 [some (.ref 91), some (.int x1), some (.int x2), some (.int x3)] [] f (some (.int v')) f'
  | 0, _, _, _, _, _, _, h => by cases h
  | n + 1, x1, x2, x3, f, v', f', h => by
    rw [D_X8_openOf_4] at h
    refine am_Ew.start [4] 25 (am_Ew.conv (fun k => (if x3 < (f 95 0) then (am_chk ((26 : Int32) + x3) 1026 (if (f 95 ((26 : Int32) + x3).toNatClampNeg) = ((0 : Int32) + ((4 : Int32) * x1)) then (k 4 [some (.ref 91), some (.int x1), some (.int (x2 + 1)), some (.int (x3 + 1))] [] am_G0 f) else (k 4 [some (.ref 91), some (.int x1), some (.int (x2 + 0)), some (.int (x3 + 1))] [] am_G0 f))) else (some (some (.int x2), am_G0, f)))) (fun k => rfl) ?_)
    refine am_Ew.ite h (fun _ h => ?_) (fun _ h => ?_)
    · refine am_Ew.chk h (fun h => ?_)
      refine am_Ew.ite h (fun _ h => ?_) (fun _ h => ?_)
      · exact am_Ew.run (lk_X8_openOf_4  n _ _ _ _ _ _ h )
      · exact am_Ew.run (lk_X8_openOf_4  n _ _ _ _ _ _ h )
    · exact am_Ew.retI h
set_option maxHeartbeats 400000 in
set_option maxRecDepth 100000 in
theorem lk_X8_openOf {X : am_X} {a1 : Int32} {f f' : am_M} {v' : Int32} (h : D_X8_openOf a1 f = some (v', f')) : am_Ev X 132 0 [some (.ref 91), some (.int a1), none, none] [] f (some (.int v')) f' := by
  rw [D_X8_openOf] at h
  refine am_Ew.start [4] 4 (am_Ew.conv (fun k => (k 4 [some (.ref 91), some (.int a1), some (.int 0), some (.int 0)] [] am_G0 f)) (fun k => rfl) ?_)
  exact am_Ew.run (lk_X8_openOf_4 _ _ _ _ _ _ _ h )
set_option maxHeartbeats 400000 in
set_option maxRecDepth 100000 in
theorem lk_X8_leastOver_7 {X : am_X} : ∀ (n : Nat) (x1 x2 : Int32) (f : am_M) (v' : Int32) (f' : am_M), D_X8_leastOver_7 n x1 x2 f = some (v', f') → am_Ev X 138 7 [some (.ref 91), some (.int x1), some (.int x2)] [] f (some (.int v')) f'
  | 0, _, _, _, _, _, h => by cases h
  | n + 1, x1, x2, f, v', f', h => by
    rw [D_X8_leastOver_7] at h
    refine am_Ew.start [7] 18 (am_Ew.conv (fun k => (if x2 < (f 91 3) then (am_chk x2 6 (if (f 111 x2.toNatClampNeg) < x1 then (am_chk x2 6 (k 7 [some (.ref 91), some (.int (f 111 x2.toNatClampNeg)), some (.int (x2 + 1))] [] am_G0 f)) else (k 7 [some (.ref 91), some (.int x1), some (.int (x2 + 1))] [] am_G0 f))) else (some (some (.int x1), am_G0, f)))) (fun k => rfl) ?_)
    refine am_Ew.ite h (fun _ h => ?_) (fun _ h => ?_)
    · refine am_Ew.chk h (fun h => ?_)
      refine am_Ew.ite h (fun _ h => ?_) (fun _ h => ?_)
      · refine am_Ew.chk h (fun h => ?_)
        exact am_Ew.run (lk_X8_leastOver_7  n _ _ _ _ _ h )
      · exact am_Ew.run (lk_X8_leastOver_7  n _ _ _ _ _ h )
    · exact am_Ew.retI h
set_option maxHeartbeats 400000 in
set_option maxRecDepth 100000 in
theorem lk_X8_leastOver {X : am_X} {f f' : am_M} {v' : Int32} (h : D_X8_leastOver f = some (v', f')) : am_Ev X 138 0 [some (.ref 91), none, none] [] f (some (.int v')) f' := by
  rw [D_X8_leastOver] at h
  refine am_Ew.start [7] 5 (am_Ew.conv (fun k => (k 7 [some (.ref 91), some (.int (f 91 29)), some (.int 0)] [] am_G0 f)) (fun k => rfl) ?_)
  exact am_Ew.run (lk_X8_leastOver_7 _ _ _ _ _ _ h )
set_option maxHeartbeats 400000 in
set_option maxRecDepth 100000 in
theorem lk_X8_doesWait_4 {X : am_X} : ∀ (n : Nat) (x1 x2 x3 : Int32) (f : am_M) (v' : Int32) (f' : am_M), D_X8_doesWait_4 n x1 x2 x3 f = some (v', f') → am_Ev X 140 4 [some (.ref 91), some (.int x1), some (.int x2), some (.int x3)] [] f (some (.int v')) f'
  | 0, _, _, _, _, _, _, h => by cases h
  | n + 1, x1, x2, x3, f, v', f', h => by
    rw [D_X8_doesWait_4] at h
    refine am_Ew.start [4] 17 (am_Ew.conv (fun k => (if x3 < (f 91 30) then (if x2 = 0 then (am_chk x3 3 (if (f 109 x3.toNatClampNeg) = x1 then (k 4 [some (.ref 91), some (.int x1), some (.int 1), some (.int (x3 + 1))] [] am_G0 f) else (k 4 [some (.ref 91), some (.int x1), some (.int 0), some (.int (x3 + 1))] [] am_G0 f))) else (k 4 [some (.ref 91), some (.int x1), some (.int 1), some (.int (x3 + 1))] [] am_G0 f)) else (if x2 = 0 ∨ x2 = 1 then some (some (.int x2), am_G0, f) else none))) (fun k => rfl) ?_)
    refine am_Ew.ite h (fun _ h => ?_) (fun _ h => ?_)
    · refine am_Ew.ite h (fun _ h => ?_) (fun _ h => ?_)
      · refine am_Ew.chk h (fun h => ?_)
        refine am_Ew.ite h (fun _ h => ?_) (fun _ h => ?_)
        · exact am_Ew.run (lk_X8_doesWait_4  n _ _ _ _ _ _ h )
        · exact am_Ew.run (lk_X8_doesWait_4  n _ _ _ _ _ _ h )
      · exact am_Ew.run (lk_X8_doesWait_4  n _ _ _ _ _ _ h )
    · exact am_Ew.ite h (fun _ h => am_Ew.retI h) (fun _ h => am_Ew.none h)
set_option maxHeartbeats 400000 in
set_option maxRecDepth 100000 in
theorem lk_X8_doesWait {X : am_X} {a1 : Int32} {f f' : am_M} {v' : Int32} (h : D_X8_doesWait a1 f = some (v', f')) : am_Ev X 140 0 [some (.ref 91), some (.int a1), none, none] [] f (some (.int v')) f' := by
  rw [D_X8_doesWait] at h
  refine am_Ew.start [4] 4 (am_Ew.conv (fun k => (k 4 [some (.ref 91), some (.int a1), some (.int 0), some (.int 0)] [] am_G0 f)) (fun k => rfl) ?_)
  exact am_Ew.run (lk_X8_doesWait_4 _ _ _ _ _ _ _ h )
set_option maxHeartbeats 400000 in
set_option maxRecDepth 100000 in
theorem lk_X8_slowAt_5 {X : am_X} : ∀ (n : Nat) (x1 x2 x3 : Int32) (f : am_M) (v' : Int32) (f' : am_M), D_X8_slowAt_5 n x1 x2 x3 f = some (v', f') → am_Ev X 146 5 [some (.ref 91), some (.int x1), some (.int x2), some (.int x3)] [] f (some (.int v')) f'
  | 0, _, _, _, _, _, _, h => by cases h
  | n + 1, x1, x2, x3, f, v', f', h => by
    rw [D_X8_slowAt_5] at h
    refine am_Ew.start [5] 29 (am_Ew.conv (fun k => (if x3 < (f 91 3) then (if x2 = (-9) then (k 5 [some (.ref 91), some (.int x1), some (.int x3), some (.int (x3 + 1))] [] am_G0 f) else (am_chk (((6 : Int32) * x1) + x3) 366 (am_chk (((6 : Int32) * x1) + x2) 366 (if (f 107 (((6 : Int32) * x1) + x3).toNatClampNeg) < (f 107 (((6 : Int32) * x1) + x2).toNatClampNeg) then (k 5 [some (.ref 91), some (.int x1), some (.int x3), some (.int (x3 + 1))] [] am_G0 f) else (k 5 [some (.ref 91), some (.int x1), some (.int x2), some (.int (x3 + 1))] [] am_G0 f))))) else (some (some (.int x2), am_G0, f)))) (fun k => rfl) ?_)
    refine am_Ew.ite h (fun _ h => ?_) (fun _ h => ?_)
    · refine am_Ew.ite h (fun _ h => ?_) (fun _ h => ?_)
      · exact am_Ew.run (lk_X8_slowAt_5  n _ _ _ _ _ _ h )
      · refine am_Ew.chk h (fun h => ?_)
        refine am_Ew.chk h (fun h => ?_)
        refine am_Ew.ite h (fun _ h => ?_) (fun _ h => ?_)
        · exact am_Ew.run (lk_X8_slowAt_5  n _ _ _ _ _ _ h )
        · exact am_Ew.run (lk_X8_slowAt_5  n _ _ _ _ _ _ h )
    · exact am_Ew.retI h
set_option maxHeartbeats 400000 in
set_option maxRecDepth 100000 in
theorem lk_X8_slowAt {X : am_X} {a1 : Int32} {f f' : am_M} {v' : Int32} (h : D_X8_slowAt a1 f = some (v', f')) : am_Ev X 146 0 [some (.ref 91), some (.int a1), none, none] [] f (some (.int v')) f' := by
  rw [D_X8_slowAt] at h
  refine am_Ew.start [5] 4 (am_Ew.conv (fun k => (k 5 [some (.ref 91), some (.int a1), some (.int (-9)), some (.int 0)] [] am_G0 f)) (fun k => rfl) ?_)
  exact am_Ew.run (lk_X8_slowAt_5 _ _ _ _ _ _ _ h )
set_option maxHeartbeats 400000 in
set_option maxRecDepth 100000 in
theorem lk_X8_forget {X : am_X} {f f' : am_M} {v' : Int32} (h : D_X8_forget f = some (v', f')) : am_Ev X 154 0 [some (.ref 91), none] [] f (some (.int v')) f' := by
  rw [D_X8_forget] at h
  refine am_Ew.start [] 8 (am_Ew.conv (fun k => (some (some (.int (f 91 11)), am_G0, (am_wr f 91 11 0)))) (fun k => rfl) ?_)
  exact am_Ew.retI h
set_option maxHeartbeats 400000 in
set_option maxRecDepth 100000 in
theorem lk_X8_isAt {X : am_X} {a1 a2 : Int32} {f f' : am_M} {v' : Int32} (h : D_X8_isAt a1 a2 f = some (v', f')) : am_Ev X 94 0 [some (.ref 91), some (.int a1), some (.int a2)] [] f (some (.int v')) f' := by
  rw [D_X8_isAt] at h
  refine am_Ew.start [22] 12 (am_Ew.conv (fun k => (if (f 91 16) < (f 91 15) then (am_chk (f 91 16) 120 (k 22 [some (.ref 91), some (.int a1), some (.int a2)] [.int a2, .int a1, .int (f 101 (f 91 16).toNatClampNeg)] am_G0 f)) else (some (some (.int 0), am_G0, f)))) (fun k => rfl) ?_)
  refine am_Ew.ite h (fun _ h => ?_) (fun _ h => ?_)
  · refine am_Ew.chk h (fun h => ?_)
    obtain ⟨v1, f1, h1, h⟩ := am_bI_some h
    refine am_Ew.run (am_Ev.call (fun n => rfl) (lk_X8_within h1) ?_)
    refine am_Ew.start [] 4 (am_Ew.conv (fun k => (if v1 = 0 then (some (some (.int 0), am_G0, f1)) else (some (some (.int 1), am_G0, f1)))) (fun k => rfl) ?_)
    refine am_Ew.ite h (fun _ h => ?_) (fun _ h => ?_)
    · exact am_Ew.retI h
    · exact am_Ew.retI h
  · exact am_Ew.retI h
set_option maxHeartbeats 400000 in
set_option maxRecDepth 100000 in
theorem lk_X8_type {X : am_X} {a1 : Int32} {f f' : am_M} {v' : Int32} (h : D_X8_type a1 f = some (v', f')) : am_Ev X 103 0 [some (.ref 91), some (.int a1)] [] f (some (.int v')) f' := by
  rw [D_X8_type] at h
  refine am_Ew.start [5] 3 (am_Ew.conv (fun k => (k 5 [some (.ref 91), some (.int a1)] [.int (am_int 255), .int 0, .int a1] am_G0 f)) (fun k => rfl) ?_)
  obtain ⟨v1, f1, h1, h⟩ := am_bI_some h
  refine am_Ew.run (am_Ev.call (fun n => rfl) (lk_X8_within h1) ?_)
  refine am_Ew.start [] 20 (am_Ew.conv (fun k => (if v1 = 0 then (some (some (.int (-1)), am_G0, f1)) else (if (f1 91 15) = 120 then (some (some (.int (-3)), am_G0, f1)) else (am_chk (f1 91 15) 120 (some (some (.int ((f1 91 15) + 1)), am_G0, (am_wr (am_wr f1 101 (f1 91 15).toNatClampNeg a1) 91 15 ((f1 91 15) + 1)))))))) (fun k => rfl) ?_)
  refine am_Ew.ite h (fun _ h => ?_) (fun _ h => ?_)
  · exact am_Ew.retI h
  · refine am_Ew.ite h (fun _ h => ?_) (fun _ h => ?_)
    · exact am_Ew.retI h
    · refine am_Ew.chk h (fun h => ?_)
      exact am_Ew.retI h
set_option maxHeartbeats 400000 in
set_option maxRecDepth 100000 in
theorem lk_X8_isMaker {X : am_X} {a1 : Int32} {f f' : am_M} {v' : Int32} (h : D_X8_isMaker a1 f = some (v', f')) : am_Ev X 106 0 [some (.ref 91), some (.int a1)] [] f (some (.int v')) f' := by
  rw [D_X8_isMaker] at h
  refine am_Ew.start [8] 6 (am_Ew.conv (fun k => (k 8 [some (.ref 91), some (.int a1)] [.int ((f 91 1) - 1), .int 0, .int a1] am_G0 f)) (fun k => rfl) ?_)
  obtain ⟨v1, f1, h1, h⟩ := am_bI_some h
  refine am_Ew.run (am_Ev.call (fun n => rfl) (lk_X8_within h1) ?_)
  refine am_Ew.start [] 1 (am_Ew.conv (fun k => (if v1 = 0 ∨ v1 = 1 then some (some (.int v1), am_G0, f1) else none)) (fun k => rfl) ?_)
  exact am_Ew.ite h (fun _ h => am_Ew.retI h) (fun _ h => am_Ew.none h)
set_option maxHeartbeats 400000 in
set_option maxRecDepth 100000 in
theorem lk_X8_isTaker {X : am_X} {a1 : Int32} {f f' : am_M} {v' : Int32} (h : D_X8_isTaker a1 f = some (v', f')) : am_Ev X 107 0 [some (.ref 91), some (.int a1)] [] f (some (.int v')) f' := by
  rw [D_X8_isTaker] at h
  refine am_Ew.start [8] 6 (am_Ew.conv (fun k => (k 8 [some (.ref 91), some (.int a1)] [.int ((f 91 3) - 1), .int 0, .int a1] am_G0 f)) (fun k => rfl) ?_)
  obtain ⟨v1, f1, h1, h⟩ := am_bI_some h
  refine am_Ew.run (am_Ev.call (fun n => rfl) (lk_X8_within h1) ?_)
  refine am_Ew.start [] 1 (am_Ew.conv (fun k => (if v1 = 0 ∨ v1 = 1 then some (some (.int v1), am_G0, f1) else none)) (fun k => rfl) ?_)
  exact am_Ew.ite h (fun _ h => am_Ew.retI h) (fun _ h => am_Ew.none h)
set_option maxHeartbeats 400000 in
set_option maxRecDepth 100000 in
theorem lk_X8_isEvent {X : am_X} {a1 : Int32} {f f' : am_M} {v' : Int32} (h : D_X8_isEvent a1 f = some (v', f')) : am_Ev X 108 0 [some (.ref 91), some (.int a1)] [] f (some (.int v')) f' := by
  rw [D_X8_isEvent] at h
  refine am_Ew.start [10] 8 (am_Ew.conv (fun k => (k 10 [some (.ref 91), some (.int a1)] [.int ((f 95 0) - 1), .int 0, .int a1] am_G0 f)) (fun k => rfl) ?_)
  obtain ⟨v1, f1, h1, h⟩ := am_bI_some h
  refine am_Ew.run (am_Ev.call (fun n => rfl) (lk_X8_within h1) ?_)
  refine am_Ew.start [] 1 (am_Ew.conv (fun k => (if v1 = 0 ∨ v1 = 1 then some (some (.int v1), am_G0, f1) else none)) (fun k => rfl) ?_)
  exact am_Ew.ite h (fun _ h => am_Ew.retI h) (fun _ h => am_Ew.none h)
set_option maxHeartbeats 400000 in
set_option maxRecDepth 100000 in
theorem lk_X8_cursor_2 {X : am_X} : ∀ (n : Nat) (x1 : Int32) (f : am_M) (v' : Int32) (f' : am_M), D_X8_cursor_2 n x1 f = some (v', f') → am_Ev X 110 2 [some (.ref 91), some (.int x1)] [] f (some (.int v')) f'
  | 0, _, _, _, _, h => by cases h
  | n + 1, x1, f, v', f', h => by
    rw [D_X8_cursor_2] at h
    refine am_Ew.start [14] 8 (am_Ew.conv (fun k => (if x1 < (f 95 0) then (k 14 [some (.ref 91), some (.int x1)] [.int x1, .ref 91] am_G0 f) else (some (some (.int x1), am_G0, f)))) (fun k => rfl) ?_)
    refine am_Ew.ite h (fun _ h => ?_) (fun _ h => ?_)
    · obtain ⟨v1, f1, h1, h⟩ := am_bI_some h
      refine am_Ew.run (am_Ev.call (fun n => rfl) (lk_X8_kindOf h1) ?_)
      refine am_Ew.start [2] 3 (am_Ew.conv (fun k => (if v1 = 0 then (some (some (.int x1), am_G0, f1)) else (k 2 [some (.ref 91), some (.int (x1 + 1))] [] am_G0 f1))) (fun k => rfl) ?_)
      refine am_Ew.ite h (fun _ h => ?_) (fun _ h => ?_)
      · exact am_Ew.retI h
      · exact am_Ew.run (lk_X8_cursor_2  n _ _ _ _ h )
    · exact am_Ew.retI h
set_option maxHeartbeats 400000 in
set_option maxRecDepth 100000 in
theorem lk_X8_cursor {X : am_X} {f f' : am_M} {v' : Int32} (h : D_X8_cursor f = some (v', f')) : am_Ev X 110 0 [some (.ref 91), none] [] f (some (.int v')) f' := by
  rw [D_X8_cursor] at h
  refine am_Ew.start [2] 2 (am_Ew.conv (fun k => (k 2 [some (.ref 91), some (.int 0)] [] am_G0 f)) (fun k => rfl) ?_)
  exact am_Ew.run (lk_X8_cursor_2 _ _ _ _ _ h )
set_option maxHeartbeats 400000 in
set_option maxRecDepth 100000 in
theorem lk_X8_room {X : am_X} {f f' : am_M} {v' : Int32} (h : D_X8_room f = some (v', f')) : am_Ev X 112 0 [some (.ref 91)] [] f (some (.int v')) f' := by
  rw [D_X8_room] at h
  refine am_Ew.start [5] 3 (am_Ew.conv (fun k => (k 5 [some (.ref 91)] [.ref 91, .int (f 91 0)] am_G0 f)) (fun k => rfl) ?_)
  obtain ⟨v1, f1, h1, h⟩ := am_bI_some h
  refine am_Ew.run (am_Ev.call (fun n => rfl) (lk_X8_least h1) ?_)
  refine am_Ew.start [] 7 (am_Ew.conv (fun k => (some (some (.int (((f 91 0) + v1) - (f1 95 0))), am_G0, f1))) (fun k => rfl) ?_)
  exact am_Ew.retI h
set_option maxHeartbeats 400000 in
set_option maxRecDepth 100000 in
theorem lk_X8_goesOver {X : am_X} {a1 a2 : Int32} {f f' : am_M} (h : D_X8_goesOver a1 a2 f = some f') : am_Ev X 124 0 [some (.ref 91), some (.int a1), some (.int a2)] [] f none f' := by
  rw [D_X8_goesOver] at h
  refine am_Ew.start [2] 2 (am_Ew.conv (fun k => (k 2 [some (.ref 91), some (.int a1), some (.int a2)] [.int a2, .ref 91] am_G0 f)) (fun k => rfl) ?_)
  obtain ⟨v1, f1, h1, h⟩ := am_bI_some h
  refine am_Ew.run (am_Ev.call (fun n => rfl) (lk_X8_kindOf h1) ?_)
  refine am_Ew.start [] 40 (am_Ew.conv (fun k => (if v1 = 1 then (am_chk ((7 : Int32) + a1) 1026 (am_chk ((7 : Int32) + a1) 1026 (am_chk ((13 : Int32) + a1) 1026 (am_chk ((26 : Int32) + a2) 1026 (am_chk ((13 : Int32) + a1) 1026 (some (none, am_G0, (am_wr (am_wr f1 95 ((7 : Int32) + a1).toNatClampNeg ((f1 95 ((7 : Int32) + a1).toNatClampNeg) + 1)) 95 ((13 : Int32) + a1).toNatClampNeg (((((31 : Int32) * ((am_wr f1 95 ((7 : Int32) + a1).toNatClampNeg ((f1 95 ((7 : Int32) + a1).toNatClampNeg) + 1)) 95 ((13 : Int32) + a1).toNatClampNeg)) + (((am_wr f1 95 ((7 : Int32) + a1).toNatClampNeg ((f1 95 ((7 : Int32) + a1).toNatClampNeg) + 1)) 95 ((26 : Int32) + a2).toNatClampNeg) / 16)) + a1) - ((((31 : Int32) * ((am_wr f1 95 ((7 : Int32) + a1).toNatClampNeg ((f1 95 ((7 : Int32) + a1).toNatClampNeg) + 1)) 95 ((13 : Int32) + a1).toNatClampNeg)) + (((am_wr f1 95 ((7 : Int32) + a1).toNatClampNeg ((f1 95 ((7 : Int32) + a1).toNatClampNeg) + 1)) 95 ((26 : Int32) + a2).toNatClampNeg) / 16)) + a1) / (am_int 9973) * (am_int 9973)))))))))) else (some (none, am_G0, f1)))) (fun k => rfl) ?_)
  refine am_Ew.ite h (fun _ h => ?_) (fun _ h => ?_)
  · refine am_Ew.chk h (fun h => ?_)
    refine am_Ew.chk h (fun h => ?_)
    refine am_Ew.chk h (fun h => ?_)
    refine am_Ew.chk h (fun h => ?_)
    refine am_Ew.chk h (fun h => ?_)
    exact am_Ew.retV h
  · exact am_Ew.retV h
set_option maxHeartbeats 400000 in
set_option maxRecDepth 100000 in
theorem lk_X8_tellMaker {X : am_X} {a1 a2 : Int32} {f f' : am_M} {v' : Int32} (h : D_X8_tellMaker a1 a2 f = some (v', f')) : am_Ev X 133 0 [some (.ref 91), some (.int a1), some (.int a2), none] [] f (some (.int v')) f' := by
  rw [D_X8_tellMaker] at h
  refine am_Ew.start [2] 2 (am_Ew.conv (fun k => (k 2 [some (.ref 91), some (.int a1), some (.int a2), none] [.int a1, .ref 91] am_G0 f)) (fun k => rfl) ?_)
  obtain ⟨v1, f1, h1, h⟩ := am_bI_some h
  refine am_Ew.run (am_Ev.call (fun n => rfl) (lk_X8_placeOf h1) ?_)
  refine am_Ew.start [57] 17 (am_Ew.conv (fun k => (if a2 = 0 then (am_chk a1 3 (some (some (.int (f1 92 a1.toNatClampNeg)), am_G0, f1))) else (if a2 = 1 then (if v1 = (-9) then (some (some (.int 0), am_G0, f1)) else (am_chk ((23 : Int32) + v1) 1026 (some (some (.int (f1 95 ((23 : Int32) + v1).toNatClampNeg)), am_G0, f1)))) else (if a2 = 2 then (some (some (.int v1), am_G0, f1)) else (k 57 [some (.ref 91), some (.int a1), some (.int a2), some (.int v1)] [.int a1, .ref 91] am_G0 f1))))) (fun k => rfl) ?_)
  refine am_Ew.ite h (fun _ h => ?_) (fun _ h => ?_)
  · refine am_Ew.chk h (fun h => ?_)
    exact am_Ew.retI h
  · refine am_Ew.ite h (fun _ h => ?_) (fun _ h => ?_)
    · refine am_Ew.ite h (fun _ h => ?_) (fun _ h => ?_)
      · exact am_Ew.retI h
      · refine am_Ew.chk h (fun h => ?_)
        exact am_Ew.retI h
    · refine am_Ew.ite h (fun _ h => ?_) (fun _ h => ?_)
      · exact am_Ew.retI h
      · obtain ⟨v2, f2, h1, h⟩ := am_bI_some h
        refine am_Ew.run (am_Ev.call (fun n => rfl) (lk_X8_openOf h1) ?_)
        refine am_Ew.start [] 1 (am_Ew.conv (fun k => (some (some (.int v2), am_G0, f2))) (fun k => rfl) ?_)
        exact am_Ew.retI h
set_option maxHeartbeats 400000 in
set_option maxRecDepth 100000 in
theorem lk_X8_slowest_5 {X : am_X} : ∀ (n : Nat) (x1 x2 x3 : Int32) (f : am_M) (v' : Int32) (f' : am_M), D_X8_slowest_5 n x1 x2 x3 f = some (v', f') → ∀ d4 : Option Value, am_Ev X 135 5 [some (.ref 91), some (.int x1), some (.int x2), some (.int x3), d4] [] f (some (.int v')) f'
  | 0, _, _, _, _, _, _, h, _ => by cases h
  | n + 1, x1, x2, x3, f, v', f', h, d4 => by
    rw [D_X8_slowest_5] at h
    refine am_Ew.start [15] 6 (am_Ew.conv (fun k => (if x3 < (f 91 3) then (k 15 [some (.ref 91), some (.int x1), some (.int x2), some (.int x3), d4] [.int x3, .int x1] am_G0 f) else (some (some (.int x2), am_G0, f)))) (fun k => rfl) ?_)
    refine am_Ew.ite h (fun _ h => ?_) (fun _ h => ?_)
    · obtain ⟨v1, f1, h1, h⟩ := am_bI_some h
      refine am_Ew.run (am_Ev.call (fun n => rfl) (lk_X8_has h1) ?_)
      refine am_Ew.start [5] 27 (am_Ew.conv (fun k => (if v1 = 0 then (k 5 [some (.ref 91), some (.int x1), some (.int x2), some (.int (x3 + 1)), some (.int 0)] [] am_G0 f1) else (if x2 = (-9) then (k 5 [some (.ref 91), some (.int x1), some (.int x3), some (.int (x3 + 1)), some (.int 1)] [] am_G0 f1) else (am_chk ((1 : Int32) + x3) 1026 (am_chk ((1 : Int32) + x2) 1026 (if (f1 95 ((1 : Int32) + x3).toNatClampNeg) < (f1 95 ((1 : Int32) + x2).toNatClampNeg) then (k 5 [some (.ref 91), some (.int x1), some (.int x3), some (.int (x3 + 1)), some (.int 1)] [] am_G0 f1) else (k 5 [some (.ref 91), some (.int x1), some (.int x2), some (.int (x3 + 1)), some (.int 0)] [] am_G0 f1))))))) (fun k => rfl) ?_)
      refine am_Ew.ite h (fun _ h => ?_) (fun _ h => ?_)
      · exact am_Ew.run (lk_X8_slowest_5  n _ _ _ _ _ _ h _ )
      · refine am_Ew.ite h (fun _ h => ?_) (fun _ h => ?_)
        · exact am_Ew.run (lk_X8_slowest_5  n _ _ _ _ _ _ h _ )
        · refine am_Ew.chk h (fun h => ?_)
          refine am_Ew.chk h (fun h => ?_)
          refine am_Ew.ite h (fun _ h => ?_) (fun _ h => ?_)
          · exact am_Ew.run (lk_X8_slowest_5  n _ _ _ _ _ _ h _ )
          · exact am_Ew.run (lk_X8_slowest_5  n _ _ _ _ _ _ h _ )
    · exact am_Ew.retI h
set_option maxHeartbeats 400000 in
set_option maxRecDepth 100000 in
theorem lk_X8_slowest {X : am_X} {a1 : Int32} {f f' : am_M} {v' : Int32} (h : D_X8_slowest a1 f = some (v', f')) : am_Ev X 135 0 [some (.ref 91), some (.int a1), none, none, none] [] f (some (.int v')) f' := by
  rw [D_X8_slowest] at h
  refine am_Ew.start [5] 4 (am_Ew.conv (fun k => (k 5 [some (.ref 91), some (.int a1), some (.int (-9)), some (.int 0), none] [] am_G0 f)) (fun k => rfl) ?_)
  exact am_Ew.run (lk_X8_slowest_5 _ _ _ _ _ _ _ h _ )
set_option maxHeartbeats 400000 in
set_option maxRecDepth 100000 in
theorem lk_X8_letsByRule_57 {X : am_X} {K : am_M → Option am_M} (hK : ∀ (f : am_M) (f' : am_M), K  f = some f' → ∀ d1 : Option Value, am_Ev X 139 0 [some (.ref 91), d1] [] f none f') : ∀ (n : Nat) (x1 : Int32) (f : am_M) (f' : am_M), D_X8_letsByRule_57 K n x1 f = some f' → am_Ev X 139 57 [some (.ref 91), some (.int x1)] [] f none f'
  | 0, _, _, _, h => by cases h
  | n + 1, x1, f, f', h => by
    rw [D_X8_letsByRule_57] at h
    refine am_Ew.start [0, 57] 26 (am_Ew.conv (fun k => (if x1 < (f 91 30) then (am_chk (x1 + 1) 3 (am_chk x1 3 (am_chk (x1 + 1) 3 (am_chk x1 3 (k 57 [some (.ref 91), some (.int (x1 + 1))] [] am_G0 (am_wr (am_wr f 109 x1.toNatClampNeg (f 109 (x1 + 1).toNatClampNeg)) 110 x1.toNatClampNeg (f 110 (x1 + 1).toNatClampNeg))))))) else (k 0 [some (.ref 91), some (.int x1)] [] am_G0 f))) (fun k => rfl) ?_)
    refine am_Ew.ite h (fun _ h => ?_) (fun _ h => ?_)
    · refine am_Ew.chk h (fun h => ?_)
      refine am_Ew.chk h (fun h => ?_)
      refine am_Ew.chk h (fun h => ?_)
      refine am_Ew.chk h (fun h => ?_)
      exact am_Ew.run (lk_X8_letsByRule_57 hK n _ _ _ h )
    · exact am_Ew.run (hK _ _ h _ )
set_option maxHeartbeats 400000 in
set_option maxRecDepth 100000 in
theorem lk_X8_letsByRule_0 {X : am_X} : ∀ (n : Nat) (f : am_M) (f' : am_M), D_X8_letsByRule_0 n  f = some f' → ∀ d1 : Option Value, am_Ev X 139 0 [some (.ref 91), d1] [] f none f'
  | 0, _, _, h, _ => by cases h
  | n + 1, f, f', h, d1 => by
    rw [D_X8_letsByRule_0] at h
    refine am_Ew.start [18] 10 (am_Ew.conv (fun k => (if 0 < (f 91 30) then (k 18 [some (.ref 91), d1] [.ref 91, .int (f 91 0), .int (f 110 0)] am_G0 f) else (some (none, am_G0, f)))) (fun k => rfl) ?_)
    refine am_Ew.ite h (fun _ h => ?_) (fun _ h => ?_)
    · obtain ⟨v1, f1, h1, h⟩ := am_bI_some h
      refine am_Ew.run (am_Ev.call (fun n => rfl) (lk_X8_leastOver h1) ?_)
      refine am_Ew.start [57] 22 (am_Ew.conv (fun k => (if (((f 91 0) + v1) - (f1 91 29)) < (f 110 0) then (some (none, am_G0, f1)) else (k 57 [some (.ref 91), some (.int 0)] [] am_G0 (am_wr (am_wr f1 91 29 ((f1 91 29) + (f1 110 0))) 91 30 ((f1 91 30) - 1))))) (fun k => rfl) ?_)
      refine am_Ew.ite h (fun _ h => ?_) (fun _ h => ?_)
      · exact am_Ew.retV h
      · exact am_Ew.run (lk_X8_letsByRule_57 (fun  f9 f8 h9 e0 => lk_X8_letsByRule_0 n  f9 f8 h9 e0) _ _ _ _ h )
    · exact am_Ew.retV h
set_option maxHeartbeats 400000 in
set_option maxRecDepth 100000 in
theorem lk_X8_letsByRule {X : am_X} {f f' : am_M} (h : D_X8_letsByRule f = some f') : am_Ev X 139 0 [some (.ref 91), none] [] f none f' := by
  rw [D_X8_letsByRule] at h
  exact (lk_X8_letsByRule_0 _ _ _ h _ )
set_option maxHeartbeats 400000 in
set_option maxRecDepth 100000 in
theorem lk_X8_claimsByRule {X : am_X} {a1 : Int32} {f f' : am_M} (h : D_X8_claimsByRule a1 f = some f') : am_Ev X 141 0 [some (.ref 91), some (.int a1)] [] f none f' := by
  rw [D_X8_claimsByRule] at h
  refine am_Ew.start [11] 7 (am_Ew.conv (fun k => (am_chk a1 3 (if (f 92 a1.toNatClampNeg) = 0 then (some (none, am_G0, f)) else (k 11 [some (.ref 91), some (.int a1)] [.int a1, .ref 91] am_G0 f)))) (fun k => rfl) ?_)
  refine am_Ew.chk h (fun h => ?_)
  refine am_Ew.ite h (fun _ h => ?_) (fun _ h => ?_)
  · exact am_Ew.retV h
  · obtain ⟨v1, f1, h1, h⟩ := am_bI_some h
    refine am_Ew.run (am_Ev.call (fun n => rfl) (lk_X8_doesWait h1) ?_)
    refine am_Ew.start [36] 26 (am_Ew.conv (fun k => (if v1 = 0 then (if (f1 91 30) = 0 then (am_chk a1 3 (k 36 [some (.ref 91), some (.int a1)] [.ref 91, .int (f1 91 0), .int (f1 92 a1.toNatClampNeg)] am_G0 f1)) else (am_chk (f1 91 30) 3 (am_chk a1 3 (am_chk (f1 91 30) 3 (some (none, am_G0, (am_wr (am_wr (am_wr f1 109 (f1 91 30).toNatClampNeg a1) 110 (f1 91 30).toNatClampNeg (f1 92 a1.toNatClampNeg)) 91 30 ((f1 91 30) + 1)))))))) else (some (none, am_G0, f1)))) (fun k => rfl) ?_)
    refine am_Ew.ite h (fun _ h => ?_) (fun _ h => ?_)
    · refine am_Ew.ite h (fun _ h => ?_) (fun _ h => ?_)
      · refine am_Ew.chk h (fun h => ?_)
        obtain ⟨v2, f2, h1, h⟩ := am_bI_some h
        refine am_Ew.run (am_Ev.call (fun n => rfl) (lk_X8_leastOver h1) ?_)
        refine am_Ew.start [] 27 (am_Ew.conv (fun k => (if (((f1 91 0) + v2) - (f2 91 29)) < (f1 92 a1.toNatClampNeg) then (am_chk (f2 91 30) 3 (am_chk a1 3 (am_chk (f2 91 30) 3 (some (none, am_G0, (am_wr (am_wr (am_wr f2 109 (f2 91 30).toNatClampNeg a1) 110 (f2 91 30).toNatClampNeg (f2 92 a1.toNatClampNeg)) 91 30 ((f2 91 30) + 1))))))) else (am_chk a1 3 (some (none, am_G0, (am_wr f2 91 29 ((f2 91 29) + (f2 92 a1.toNatClampNeg)))))))) (fun k => rfl) ?_)
        refine am_Ew.ite h (fun _ h => ?_) (fun _ h => ?_)
        · refine am_Ew.chk h (fun h => ?_)
          refine am_Ew.chk h (fun h => ?_)
          refine am_Ew.chk h (fun h => ?_)
          exact am_Ew.retV h
        · refine am_Ew.chk h (fun h => ?_)
          exact am_Ew.retV h
      · refine am_Ew.chk h (fun h => ?_)
        refine am_Ew.chk h (fun h => ?_)
        refine am_Ew.chk h (fun h => ?_)
        exact am_Ew.retV h
    · exact am_Ew.retV h
set_option maxHeartbeats 400000 in
set_option maxRecDepth 100000 in
theorem lk_X8_mostByRule_26 {X : am_X} : ∀ (n : Nat) (x1 x3 x4 : Int32) (f : am_M) (v' : Int32) (f' : am_M), D_X8_mostByRule_26 n x1 x3 x4 f = some (v', f') → ∀ d2 : Option Value, am_Ev X 142 26 [some (.ref 91), some (.int x1), d2, some (.int x3), some (.int x4)] [] f (some (.int v')) f'
  | 0, _, _, _, _, _, _, h, _ => by cases h
  | n + 1, x1, x3, x4, f, v', f', h, d2 => by
    rw [D_X8_mostByRule_26] at h
    refine am_Ew.start [40] 8 (am_Ew.conv (fun k => (if x4 < x1 then (am_chk x1 6 (k 40 [some (.ref 91), some (.int x1), d2, some (.int x3), some (.int x4)] [.int x4, .int (f 94 x1.toNatClampNeg)] am_G0 f)) else (some (some (.int x3), am_G0, f)))) (fun k => rfl) ?_)
    refine am_Ew.ite h (fun _ h => ?_) (fun _ h => ?_)
    · refine am_Ew.chk h (fun h => ?_)
      obtain ⟨v1, f1, h1, h⟩ := am_bI_some h
      refine am_Ew.run (am_Ev.call (fun n => rfl) (lk_X8_has h1) ?_)
      refine am_Ew.start [26] 15 (am_Ew.conv (fun k => (if v1 = 0 then (k 26 [some (.ref 91), some (.int x1), d2, some (.int x3), some (.int (x4 + 1))] [] am_G0 f1) else (am_chk x4 6 (if (f1 111 x4.toNatClampNeg) < x3 then (am_chk x4 6 (k 26 [some (.ref 91), some (.int x1), d2, some (.int (f1 111 x4.toNatClampNeg)), some (.int (x4 + 1))] [] am_G0 f1)) else (k 26 [some (.ref 91), some (.int x1), d2, some (.int x3), some (.int (x4 + 1))] [] am_G0 f1))))) (fun k => rfl) ?_)
      refine am_Ew.ite h (fun _ h => ?_) (fun _ h => ?_)
      · exact am_Ew.run (lk_X8_mostByRule_26  n _ _ _ _ _ _ h _ )
      · refine am_Ew.chk h (fun h => ?_)
        refine am_Ew.ite h (fun _ h => ?_) (fun _ h => ?_)
        · refine am_Ew.chk h (fun h => ?_)
          exact am_Ew.run (lk_X8_mostByRule_26  n _ _ _ _ _ _ h _ )
        · exact am_Ew.run (lk_X8_mostByRule_26  n _ _ _ _ _ _ h _ )
    · exact am_Ew.retI h
set_option maxHeartbeats 400000 in
set_option maxRecDepth 100000 in
theorem lk_X8_mostByRule {X : am_X} {a1 a2 : Int32} {f f' : am_M} {v' : Int32} (h : D_X8_mostByRule a1 a2 f = some (v', f')) : am_Ev X 142 0 [some (.ref 91), some (.int a1), some (.int a2), none, none] [] f (some (.int v')) f' := by
  rw [D_X8_mostByRule] at h
  refine am_Ew.start [26] 14 (am_Ew.conv (fun k => (am_chk a1 6 (if (f 94 a1.toNatClampNeg) = 0 then (k 26 [some (.ref 91), some (.int a1), some (.int a2), some (.int a2), some (.int 0)] [] am_G0 f) else (am_chk a1 6 (k 26 [some (.ref 91), some (.int a1), some (.int a2), some (.int ((f 111 a1.toNatClampNeg) + 16)), some (.int 0)] [] am_G0 f))))) (fun k => rfl) ?_)
  refine am_Ew.chk h (fun h => ?_)
  refine am_Ew.ite h (fun _ h => ?_) (fun _ h => ?_)
  · exact am_Ew.run (lk_X8_mostByRule_26 _ _ _ _ _ _ _ h _ )
  · refine am_Ew.chk h (fun h => ?_)
    exact am_Ew.run (lk_X8_mostByRule_26 _ _ _ _ _ _ _ h _ )
set_option maxHeartbeats 400000 in
set_option maxRecDepth 100000 in
theorem lk_X8_saves_55 {X : am_X} : ∀ (n : Nat) (x1 x2 : Int32) (f : am_M) (f' : am_M), D_X8_saves_55 n x1 x2 f = some f' → am_Ev X 144 55 [some (.ref 91), some (.int x1), some (.int x2)] [] f none f'
  | 0, _, _, _, _, h => by cases h
  | n + 1, x1, x2, f, f', h => by
    rw [D_X8_saves_55] at h
    refine am_Ew.start [55, 94] 25 (am_Ew.conv (fun k => (if x2 < (f 91 1) then (if x1 = 0 then (am_chk (((3 : Int32) * x1) + x2) 183 (k 55 [some (.ref 91), some (.int x1), some (.int (x2 + 1))] [] am_G0 (am_wr f 108 (((3 : Int32) * x1) + x2).toNatClampNeg 0))) else (am_chk (((3 : Int32) * (x1 - 1)) + x2) 183 (k 94 [some (.ref 91), some (.int x1), some (.int x2)] [.int x2, .ref 91, .int (f 108 (((3 : Int32) * (x1 - 1)) + x2).toNatClampNeg), .int (((3 : Int32) * x1) + x2), .ref 108] am_G0 f))) else (some (none, am_G0, f)))) (fun k => rfl) ?_)
    refine am_Ew.ite h (fun _ h => ?_) (fun _ h => ?_)
    · refine am_Ew.ite h (fun _ h => ?_) (fun _ h => ?_)
      · refine am_Ew.chk h (fun h => ?_)
        exact am_Ew.run (lk_X8_saves_55  n _ _ _ _ h )
      · refine am_Ew.chk h (fun h => ?_)
        obtain ⟨v1, f1, h1, h⟩ := am_bI_some h
        refine am_Ew.run (am_Ev.call (fun n => rfl) (lk_X8_doesWait h1) ?_)
        refine am_Ew.start [55] 7 (am_Ew.conv (fun k => (if v1 = 0 then (am_chk (((3 : Int32) * x1) + x2) 183 (k 55 [some (.ref 91), some (.int x1), some (.int (x2 + 1))] [] am_G0 (am_wr f1 108 (((3 : Int32) * x1) + x2).toNatClampNeg ((f 108 (((3 : Int32) * (x1 - 1)) + x2).toNatClampNeg) + 0)))) else (am_chk (((3 : Int32) * x1) + x2) 183 (k 55 [some (.ref 91), some (.int x1), some (.int (x2 + 1))] [] am_G0 (am_wr f1 108 (((3 : Int32) * x1) + x2).toNatClampNeg ((f 108 (((3 : Int32) * (x1 - 1)) + x2).toNatClampNeg) + 1)))))) (fun k => rfl) ?_)
        refine am_Ew.ite h (fun _ h => ?_) (fun _ h => ?_)
        · refine am_Ew.chk h (fun h => ?_)
          exact am_Ew.run (lk_X8_saves_55  n _ _ _ _ h )
        · refine am_Ew.chk h (fun h => ?_)
          exact am_Ew.run (lk_X8_saves_55  n _ _ _ _ h )
    · exact am_Ew.retV h
set_option maxHeartbeats 400000 in
set_option maxRecDepth 100000 in
theorem lk_X8_saves_22 {X : am_X} : ∀ (n : Nat) (x1 x2 : Int32) (f : am_M) (f' : am_M), D_X8_saves_22 n x1 x2 f = some f' → am_Ev X 144 22 [some (.ref 91), some (.int x1), some (.int x2)] [] f none f'
  | 0, _, _, _, _, h => by cases h
  | n + 1, x1, x2, f, f', h => by
    rw [D_X8_saves_22] at h
    refine am_Ew.start [22, 55] 18 (am_Ew.conv (fun k => (if x2 < (f 91 3) then (am_chk x2 6 (am_chk (((6 : Int32) * x1) + x2) 366 (k 22 [some (.ref 91), some (.int x1), some (.int (x2 + 1))] [] am_G0 (am_wr f 107 (((6 : Int32) * x1) + x2).toNatClampNeg (f 111 x2.toNatClampNeg))))) else (k 55 [some (.ref 91), some (.int x1), some (.int 0)] [] am_G0 f))) (fun k => rfl) ?_)
    refine am_Ew.ite h (fun _ h => ?_) (fun _ h => ?_)
    · refine am_Ew.chk h (fun h => ?_)
      refine am_Ew.chk h (fun h => ?_)
      exact am_Ew.run (lk_X8_saves_22  n _ _ _ _ h )
    · exact am_Ew.run (lk_X8_saves_55 _ _ _ _ _ h )
set_option maxHeartbeats 400000 in
set_option maxRecDepth 100000 in
theorem lk_X8_saves {X : am_X} {a1 : Int32} {f f' : am_M} (h : D_X8_saves a1 f = some f') : am_Ev X 144 0 [some (.ref 91), some (.int a1), none] [] f none f' := by
  rw [D_X8_saves] at h
  refine am_Ew.start [22] 14 (am_Ew.conv (fun k => (am_chk a1 61 (am_chk a1 61 (k 22 [some (.ref 91), some (.int a1), some (.int 0)] [] am_G0 (am_wr (am_wr f 105 a1.toNatClampNeg (f 91 29)) 106 a1.toNatClampNeg (f 91 30)))))) (fun k => rfl) ?_)
  refine am_Ew.chk h (fun h => ?_)
  refine am_Ew.chk h (fun h => ?_)
  exact am_Ew.run (lk_X8_saves_22 _ _ _ _ _ h )
set_option maxHeartbeats 400000 in
set_option maxRecDepth 100000 in
theorem lk_X8_leastAt {X : am_X} {a1 : Int32} {f f' : am_M} {v' : Int32} (h : D_X8_leastAt a1 f = some (v', f')) : am_Ev X 147 0 [some (.ref 91), some (.int a1)] [] f (some (.int v')) f' := by
  rw [D_X8_leastAt] at h
  refine am_Ew.start [26] 10 (am_Ew.conv (fun k => (if (f 91 3) = 0 then (am_chk a1 61 (some (some (.int (f 105 a1.toNatClampNeg)), am_G0, f))) else (k 26 [some (.ref 91), some (.int a1)] [.int a1, .ref 91, .int ((6 : Int32) * a1), .ref 107] am_G0 f))) (fun k => rfl) ?_)
  refine am_Ew.ite h (fun _ h => ?_) (fun _ h => ?_)
  · refine am_Ew.chk h (fun h => ?_)
    exact am_Ew.retI h
  · obtain ⟨v1, f1, h1, h⟩ := am_bI_some h
    refine am_Ew.run (am_Ev.call (fun n => rfl) (lk_X8_slowAt h1) ?_)
    refine am_Ew.start [] 3 (am_Ew.conv (fun k => (am_chk (((6 : Int32) * a1) + v1) 366 (some (some (.int (f1 107 (((6 : Int32) * a1) + v1).toNatClampNeg)), am_G0, f1)))) (fun k => rfl) ?_)
    refine am_Ew.chk h (fun h => ?_)
    exact am_Ew.retI h
set_option maxHeartbeats 400000 in
set_option maxRecDepth 100000 in
theorem lk_X8_isTicks {X : am_X} {a0 : Int32} {f f' : am_M} {v' : Int32} (h : D_X8_isTicks a0 f = some (v', f')) : am_Ev X 148 0 [some (.int a0)] [] f (some (.int v')) f' := by
  rw [D_X8_isTicks] at h
  refine am_Ew.start [4] 3 (am_Ew.conv (fun k => (k 4 [some (.int a0)] [.int 60, .int 0, .int a0] am_G0 f)) (fun k => rfl) ?_)
  obtain ⟨v1, f1, h1, h⟩ := am_bI_some h
  refine am_Ew.run (am_Ev.call (fun n => rfl) (lk_X8_within h1) ?_)
  refine am_Ew.start [] 1 (am_Ew.conv (fun k => (if v1 = 0 ∨ v1 = 1 then some (some (.int v1), am_G0, f1) else none)) (fun k => rfl) ?_)
  exact am_Ew.ite h (fun _ h => am_Ew.retI h) (fun _ h => am_Ew.none h)
set_option maxHeartbeats 400000 in
set_option maxRecDepth 100000 in
theorem lk_X8_mostAlike_20 {X : am_X} {K : Int32 → Int32 → Int32 → Int32 → am_M → Option (Int32 × am_M)} (hK : ∀ (x1 x2 x3 x4 : Int32) (f : am_M) (v' : Int32) (f' : am_M), K x1 x2 x3 x4 f = some (v', f') → ∀ d5 d6 : Option Value, am_Ev X 157 5 [some (.ref 91), some (.int x1), some (.int x2), some (.int x3), some (.int x4), d5, d6] [] f (some (.int v')) f') : ∀ (n : Nat) (x1 x2 x3 x4 x5 x6 : Int32) (f : am_M) (v' : Int32) (f' : am_M), D_X8_mostAlike_20 K n x1 x2 x3 x4 x5 x6 f = some (v', f') → am_Ev X 157 20 [some (.ref 91), some (.int x1), some (.int x2), some (.int x3), some (.int x4), some (.int x5), some (.int x6)] [] f (some (.int v')) f'
  | 0, _, _, _, _, _, _, _, _, _, h => by cases h
  | n + 1, x1, x2, x3, x4, x5, x6, f, v', f', h => by
    rw [D_X8_mostAlike_20] at h
    refine am_Ew.start [5, 34] 12 (am_Ew.conv (fun k => (if x6 < (f 91 3) then (k 34 [some (.ref 91), some (.int x1), some (.int x2), some (.int x3), some (.int x4), some (.int x5), some (.int x6)] [.int x4, .int x1, .int x5] am_G0 f) else (if x3 < x5 then (k 5 [some (.ref 91), some (.int x1), some (.int x2), some (.int x5), some (.int (x4 + 1)), some (.int x5), some (.int x6)] [] am_G0 f) else (k 5 [some (.ref 91), some (.int x1), some (.int x2), some (.int x3), some (.int (x4 + 1)), some (.int x5), some (.int x6)] [] am_G0 f)))) (fun k => rfl) ?_)
    refine am_Ew.ite h (fun _ h => ?_) (fun _ h => ?_)
    · obtain ⟨v1, f1, h1, h⟩ := am_bI_some h
      refine am_Ew.run (am_Ev.call (fun n => rfl) (lk_X8_has h1) ?_)
      refine am_Ew.start [20, 43] 6 (am_Ew.conv (fun k => (if v1 = 0 then (k 20 [some (.ref 91), some (.int x1), some (.int x2), some (.int x3), some (.int x4), some (.int (x5 + 0)), some (.int (x6 + 1))] [] am_G0 f1) else (k 43 [some (.ref 91), some (.int x1), some (.int x2), some (.int x3), some (.int x4), some (.int x5), some (.int x6)] [.int x6, .int x1, .int x5] am_G0 f1))) (fun k => rfl) ?_)
      refine am_Ew.ite h (fun _ h => ?_) (fun _ h => ?_)
      · exact am_Ew.run (lk_X8_mostAlike_20 hK n _ _ _ _ _ _ _ _ _ h )
      · obtain ⟨v2, f2, h1, h⟩ := am_bI_some h
        refine am_Ew.run (am_Ev.call (fun n => rfl) (lk_X8_has h1) ?_)
        refine am_Ew.start [20] 24 (am_Ew.conv (fun k => (if v2 = 0 then (k 20 [some (.ref 91), some (.int x1), some (.int x2), some (.int x3), some (.int x4), some (.int (x5 + 0)), some (.int (x6 + 1))] [] am_G0 f2) else (am_chk (((6 : Int32) * x2) + x4) 366 (am_chk (((6 : Int32) * x2) + x6) 366 (if (f2 107 (((6 : Int32) * x2) + x4).toNatClampNeg) = (f2 107 (((6 : Int32) * x2) + x6).toNatClampNeg) then (k 20 [some (.ref 91), some (.int x1), some (.int x2), some (.int x3), some (.int x4), some (.int (x5 + 1)), some (.int (x6 + 1))] [] am_G0 f2) else (k 20 [some (.ref 91), some (.int x1), some (.int x2), some (.int x3), some (.int x4), some (.int (x5 + 0)), some (.int (x6 + 1))] [] am_G0 f2)))))) (fun k => rfl) ?_)
        refine am_Ew.ite h (fun _ h => ?_) (fun _ h => ?_)
        · exact am_Ew.run (lk_X8_mostAlike_20 hK n _ _ _ _ _ _ _ _ _ h )
        · refine am_Ew.chk h (fun h => ?_)
          refine am_Ew.chk h (fun h => ?_)
          refine am_Ew.ite h (fun _ h => ?_) (fun _ h => ?_)
          · exact am_Ew.run (lk_X8_mostAlike_20 hK n _ _ _ _ _ _ _ _ _ h )
          · exact am_Ew.run (lk_X8_mostAlike_20 hK n _ _ _ _ _ _ _ _ _ h )
    · refine am_Ew.ite h (fun _ h => ?_) (fun _ h => ?_)
      · exact am_Ew.run (hK _ _ _ _ _ _ _ h _ _ )
      · exact am_Ew.run (hK _ _ _ _ _ _ _ h _ _ )
set_option maxHeartbeats 400000 in
set_option maxRecDepth 100000 in
theorem lk_X8_mostAlike_5 {X : am_X} : ∀ (n : Nat) (x1 x2 x3 x4 : Int32) (f : am_M) (v' : Int32) (f' : am_M), D_X8_mostAlike_5 n x1 x2 x3 x4 f = some (v', f') → ∀ d5 d6 : Option Value, am_Ev X 157 5 [some (.ref 91), some (.int x1), some (.int x2), some (.int x3), some (.int x4), d5, d6] [] f (some (.int v')) f'
  | 0, _, _, _, _, _, _, _, h, _, _ => by cases h
  | n + 1, x1, x2, x3, x4, f, v', f', h, d5, d6 => by
    rw [D_X8_mostAlike_5] at h
    refine am_Ew.start [20] 8 (am_Ew.conv (fun k => (if x4 < (f 91 3) then (k 20 [some (.ref 91), some (.int x1), some (.int x2), some (.int x3), some (.int x4), some (.int 0), some (.int 0)] [] am_G0 f) else (some (some (.int x3), am_G0, f)))) (fun k => rfl) ?_)
    refine am_Ew.ite h (fun _ h => ?_) (fun _ h => ?_)
    · exact am_Ew.run (lk_X8_mostAlike_20 (fun y1 y2 y3 y4 f9 v9 f8 h9 e0 e1 => lk_X8_mostAlike_5 n y1 y2 y3 y4 f9 v9 f8 h9 e0 e1) _ _ _ _ _ _ _ _ _ _ h )
    · exact am_Ew.retI h
set_option maxHeartbeats 400000 in
set_option maxRecDepth 100000 in
theorem lk_X8_mostAlike {X : am_X} {a1 a2 : Int32} {f f' : am_M} {v' : Int32} (h : D_X8_mostAlike a1 a2 f = some (v', f')) : am_Ev X 157 0 [some (.ref 91), some (.int a1), some (.int a2), none, none, none, none] [] f (some (.int v')) f' := by
  rw [D_X8_mostAlike] at h
  refine am_Ew.start [5] 4 (am_Ew.conv (fun k => (k 5 [some (.ref 91), some (.int a1), some (.int a2), some (.int 0), some (.int 0), none, none] [] am_G0 f)) (fun k => rfl) ?_)
  exact am_Ew.run (lk_X8_mostAlike_5 _ _ _ _ _ _ _ _ h _ _ )
set_option maxHeartbeats 400000 in
set_option maxRecDepth 100000 in
theorem lk_X8_keep_13 {X : am_X} : ∀ (n : Nat) (x1 x2 : Int32) (f : am_M) (v' : Int32) (f' : am_M), D_X8_keep_13 n x1 x2 f = some (v', f') → am_Ev X 159 13 [some (.ref 91), some (.int x1), some (.int x2)] [] f (some (.int v')) f'
  | 0, _, _, _, _, _, h => by cases h
  | n + 1, x1, x2, f, v', f', h => by
    rw [D_X8_keep_13] at h
    refine am_Ew.start [37] 14 (am_Ew.conv (fun k => (if x2 < (am_int 1026) then (am_chk x2 1026 (k 37 [some (.ref 91), some (.int x1), some (.int x2)] [.int (f 95 x2.toNatClampNeg), .int ((((am_int 1026) : Int32) * x1) + x2), .ref 97] am_G0 f)) else (am_chk x1 2 (some (some (.int (f 95 0)), am_G0, (am_wr f 98 x1.toNatClampNeg 1)))))) (fun k => rfl) ?_)
    refine am_Ew.ite h (fun _ h => ?_) (fun _ h => ?_)
    · refine am_Ew.chk h (fun h => ?_)
      refine am_Ew.run (?_)
      refine am_Ew.start [13] 3 (am_Ew.conv (fun k => (am_chk ((((am_int 1026) : Int32) * x1) + x2) 2052 (k 13 [some (.ref 91), some (.int x1), some (.int (x2 + 1))] [] am_G0 (am_wr f 97 ((((am_int 1026) : Int32) * x1) + x2).toNatClampNeg (f 95 x2.toNatClampNeg))))) (fun k => rfl) ?_)
      refine am_Ew.chk h (fun h => ?_)
      exact am_Ew.run (lk_X8_keep_13  n _ _ _ _ _ h )
    · refine am_Ew.chk h (fun h => ?_)
      exact am_Ew.retI h
set_option maxHeartbeats 400000 in
set_option maxRecDepth 100000 in
theorem lk_X8_keep {X : am_X} {a1 : Int32} {f f' : am_M} {v' : Int32} (h : D_X8_keep a1 f = some (v', f')) : am_Ev X 159 0 [some (.ref 91), some (.int a1), none] [] f (some (.int v')) f' := by
  rw [D_X8_keep] at h
  refine am_Ew.start [3] 3 (am_Ew.conv (fun k => (k 3 [some (.ref 91), some (.int a1), none] [.int 1, .int 0, .int a1] am_G0 f)) (fun k => rfl) ?_)
  obtain ⟨v1, f1, h1, h⟩ := am_bI_some h
  refine am_Ew.run (am_Ev.call (fun n => rfl) (lk_X8_within h1) ?_)
  refine am_Ew.start [13] 3 (am_Ew.conv (fun k => (if v1 = 0 then (some (some (.int (-1)), am_G0, f1)) else (k 13 [some (.ref 91), some (.int a1), some (.int 0)] [] am_G0 f1))) (fun k => rfl) ?_)
  refine am_Ew.ite h (fun _ h => ?_) (fun _ h => ?_)
  · exact am_Ew.retI h
  · exact am_Ew.run (lk_X8_keep_13 _ _ _ _ _ _ h )
set_option maxHeartbeats 400000 in
set_option maxRecDepth 100000 in
theorem lk_X8_back_25 {X : am_X} : ∀ (n : Nat) (x1 x2 : Int32) (f : am_M) (v' : Int32) (f' : am_M), D_X8_back_25 n x1 x2 f = some (v', f') → am_Ev X 160 25 [some (.ref 91), some (.int x1), some (.int x2)] [] f (some (.int v')) f'
  | 0, _, _, _, _, _, h => by cases h
  | n + 1, x1, x2, f, v', f', h => by
    rw [D_X8_back_25] at h
    refine am_Ew.start [48] 13 (am_Ew.conv (fun k => (if x2 < (am_int 1026) then (k 48 [some (.ref 91), some (.int x1), some (.int x2)] [.int ((((am_int 1026) : Int32) * x1) + x2), .ref 97, .int x2, .ref 95] am_G0 f) else (some (some (.int (f 95 0)), am_G0, (am_wr f 91 8 0))))) (fun k => rfl) ?_)
    refine am_Ew.ite h (fun _ h => ?_) (fun _ h => ?_)
    · refine am_Ew.run (?_)
      refine am_Ew.start [25] 4 (am_Ew.conv (fun k => (am_chk ((((am_int 1026) : Int32) * x1) + x2) 2052 (am_chk x2 1026 (k 25 [some (.ref 91), some (.int x1), some (.int (x2 + 1))] [] am_G0 (am_wr f 95 x2.toNatClampNeg (f 97 ((((am_int 1026) : Int32) * x1) + x2).toNatClampNeg)))))) (fun k => rfl) ?_)
      refine am_Ew.chk h (fun h => ?_)
      refine am_Ew.chk h (fun h => ?_)
      exact am_Ew.run (lk_X8_back_25  n _ _ _ _ _ h )
    · exact am_Ew.retI h
set_option maxHeartbeats 400000 in
set_option maxRecDepth 100000 in
theorem lk_X8_back {X : am_X} {a1 : Int32} {f f' : am_M} {v' : Int32} (h : D_X8_back a1 f = some (v', f')) : am_Ev X 160 0 [some (.ref 91), some (.int a1), none] [] f (some (.int v')) f' := by
  rw [D_X8_back] at h
  refine am_Ew.start [3] 3 (am_Ew.conv (fun k => (k 3 [some (.ref 91), some (.int a1), none] [.int 1, .int 0, .int a1] am_G0 f)) (fun k => rfl) ?_)
  obtain ⟨v1, f1, h1, h⟩ := am_bI_some h
  refine am_Ew.run (am_Ev.call (fun n => rfl) (lk_X8_within h1) ?_)
  refine am_Ew.start [25] 8 (am_Ew.conv (fun k => (if v1 = 0 then (some (some (.int (-1)), am_G0, f1)) else (am_chk a1 2 (if (f1 98 a1.toNatClampNeg) = 0 then (some (some (.int (-2)), am_G0, f1)) else (k 25 [some (.ref 91), some (.int a1), some (.int 0)] [] am_G0 f1))))) (fun k => rfl) ?_)
  refine am_Ew.ite h (fun _ h => ?_) (fun _ h => ?_)
  · exact am_Ew.retI h
  · refine am_Ew.chk h (fun h => ?_)
    refine am_Ew.ite h (fun _ h => ?_) (fun _ h => ?_)
    · exact am_Ew.retI h
    · exact am_Ew.run (lk_X8_back_25 _ _ _ _ _ _ h )
