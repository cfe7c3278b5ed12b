set_option maxHeartbeats 400000 in
set_option maxRecDepth 100000 in
theorem lk_X8_passesEnd {X : am_X} {f f' : am_M} {v' : Int32} (h : D_X8_passesEnd f = some (v', f')) : am_Ev X 95 0 [some (.ref 91), none] [] f (some (.int v')) f' := by
  rw [D_X8_passesEnd] at h
  refine am_Ew.start [1] 1 (am_Ew.conv (fun k => (k 1 [some (.ref 91), none] [.ref 91] am_G0 f)) (fun k => rfl) ?_)
  obtain ⟨f1, h1, h⟩ := am_bV_some h
  refine am_Ew.run (am_Ev.call (fun n => rfl) (lk_X8_skips h1) ?_)
  refine am_Ew.start [9] 3 (am_Ew.conv (fun k => (k 9 [some (.ref 91), none] [.int 59, .int 59, .ref 91] am_G0 f1)) (fun k => rfl) ?_)
  obtain ⟨v2, f2, h1, h⟩ := am_bI_some h
  refine am_Ew.run (am_Ev.call (fun n => rfl) (lk_X8_isAt h1) ?_)
  refine am_Ew.start [] 12 (am_Ew.conv (fun k => (if v2 = 0 then (if v2 = 0 ∨ v2 = 1 then some (some (.int v2), am_G0, (am_wr f2 91 16 ((f2 91 16) + 0))) else none) else (if v2 = 0 ∨ v2 = 1 then some (some (.int v2), am_G0, (am_wr f2 91 16 ((f2 91 16) + 1))) else none))) (fun k => rfl) ?_)
  refine am_Ew.ite h (fun _ h => ?_) (fun _ h => ?_)
  · exact am_Ew.ite h (fun _ h => am_Ew.retI h) (fun _ h => am_Ew.none h)
  · exact am_Ew.ite h (fun _ h => am_Ew.retI h) (fun _ h => am_Ew.none h)
set_option maxHeartbeats 400000 in
set_option maxRecDepth 100000 in
theorem lk_X8_number_9 {X : am_X} : ∀ (n : Nat) (x1 x2 x3 x4 : Int32) (f : am_M) (v' : Int32) (f' : am_M), D_X8_number_9 n x1 x2 x3 x4 f = some (v', f') → ∀ d5 : Option Value, am_Ev X 96 9 [some (.ref 91), some (.int x1), some (.int x2), some (.int x3), some (.int x4), d5] [] f (some (.int v')) f'
  | 0, _, _, _, _, _, _, _, h, _ => by cases h
  | n + 1, x1, x2, x3, x4, f, v', f', h, d5 => by
    rw [D_X8_number_9] at h
    refine am_Ew.start [14] 3 (am_Ew.conv (fun k => (k 14 [some (.ref 91), some (.int x1), some (.int x2), some (.int x3), some (.int x4), d5] [.int 57, .int 48, .ref 91] am_G0 f)) (fun k => rfl) ?_)
    obtain ⟨v2, f2, h1, h⟩ := am_bI_some h
    refine am_Ew.run (am_Ev.call (fun n => rfl) (lk_X8_isAt h1) ?_)
    refine am_Ew.start [9, 99] 24 (am_Ew.conv (fun k => (if v2 = 0 then (if 0 < x4 then (if 99 < x3 then (some (some (.int (-1)), am_G0, f2)) else (if x4 = 1 then (k 99 [some (.ref 91), some (.int x1), some (.int x2), some (.int x3), some (.int x4), d5] [.int x2, .int x1, .int x3] am_G0 f2) else (am_chk (f2 91 17) 120 (if (f2 101 (f2 91 17).toNatClampNeg) = 48 then (some (some (.int (-1)), am_G0, f2)) else (k 99 [some (.ref 91), some (.int x1), some (.int x2), some (.int x3), some (.int x4), d5] [.int x2, .int x1, .int x3] am_G0 f2))))) else (some (some (.int (-1)), am_G0, f2))) else (if 99 < x3 then (k 9 [some (.ref 91), some (.int x1), some (.int x2), some (.int 100), some (.int (x4 + 1)), d5] [] am_G0 (am_wr f2 91 16 ((f2 91 16) + 1))) else (am_chk (f2 91 16) 120 (k 9 [some (.ref 91), some (.int x1), some (.int x2), some (.int ((((10 : Int32) * x3) + (f2 101 (f2 91 16).toNatClampNeg)) - 48)), some (.int (x4 + 1)), d5] [] am_G0 (am_wr f2 91 16 ((f2 91 16) + 1))))))) (fun k => rfl) ?_)
    refine am_Ew.ite h (fun _ h => ?_) (fun _ h => ?_)
    · refine am_Ew.ite h (fun _ h => ?_) (fun _ h => ?_)
      · refine am_Ew.ite h (fun _ h => ?_) (fun _ h => ?_)
        · exact am_Ew.retI h
        · refine am_Ew.ite h (fun _ h => ?_) (fun _ h => ?_)
          · obtain ⟨v3, f3, h1, h⟩ := am_bI_some h
            refine am_Ew.run (am_Ev.call (fun n => rfl) (lk_X8_within h1) ?_)
            refine am_Ew.start [] 9 (am_Ew.conv (fun k => (if v3 = 0 then (some (some (.int (-1)), am_G0, f3)) else (some (some (.int x3), am_G0, f3)))) (fun k => rfl) ?_)
            refine am_Ew.ite h (fun _ h => ?_) (fun _ h => ?_)
            · exact am_Ew.retI h
            · exact am_Ew.retI h
          · refine am_Ew.chk h (fun h => ?_)
            refine am_Ew.ite h (fun _ h => ?_) (fun _ h => ?_)
            · exact am_Ew.retI h
            · obtain ⟨v4, f4, h1, h⟩ := am_bI_some h
              refine am_Ew.run (am_Ev.call (fun n => rfl) (lk_X8_within h1) ?_)
              refine am_Ew.start [] 9 (am_Ew.conv (fun k => (if v4 = 0 then (some (some (.int (-1)), am_G0, f4)) else (some (some (.int x3), am_G0, f4)))) (fun k => rfl) ?_)
              refine am_Ew.ite h (fun _ h => ?_) (fun _ h => ?_)
              · exact am_Ew.retI h
              · exact am_Ew.retI h
      · exact am_Ew.retI h
    · refine am_Ew.ite h (fun _ h => ?_) (fun _ h => ?_)
      · exact am_Ew.run (lk_X8_number_9  n _ _ _ _ _ _ _ h _ )
      · refine am_Ew.chk h (fun h => ?_)
        exact am_Ew.run (lk_X8_number_9  n _ _ _ _ _ _ _ h _ )
set_option maxHeartbeats 400000 in
set_option maxRecDepth 100000 in
theorem lk_X8_number {X : am_X} {a1 a2 : Int32} {f f' : am_M} {v' : Int32} (h : D_X8_number a1 a2 f = some (v', f')) : am_Ev X 96 0 [some (.ref 91), some (.int a1), some (.int a2), none, none, none] [] f (some (.int v')) f' := by
  rw [D_X8_number] at h
  refine am_Ew.start [1] 1 (am_Ew.conv (fun k => (k 1 [some (.ref 91), some (.int a1), some (.int a2), none, none, none] [.ref 91] am_G0 f)) (fun k => rfl) ?_)
  obtain ⟨f1, h1, h⟩ := am_bV_some h
  refine am_Ew.run (am_Ev.call (fun n => rfl) (lk_X8_skips h1) ?_)
  refine am_Ew.start [9] 4 (am_Ew.conv (fun k => (k 9 [some (.ref 91), some (.int a1), some (.int a2), some (.int 0), some (.int 0), none] [] am_G0 f1)) (fun k => rfl) ?_)
  exact am_Ew.run (lk_X8_number_9 _ _ _ _ _ _ _ _ h _ )
set_option maxHeartbeats 400000 in
set_option maxRecDepth 100000 in
theorem lk_X8_wordPassed_4 {X : am_X} : ∀ (n : Nat) (f : am_M) (v' : Int32) (f' : am_M), D_X8_wordPassed_4 n  f = some (v', f') → am_Ev X 98 4 [some (.ref 91)] [] f (some (.int v')) f'
  | 0, _, _, _, h => by cases h
  | n + 1, f, v', f', h => by
    rw [D_X8_wordPassed_4] at h
    refine am_Ew.start [9] 3 (am_Ew.conv (fun k => (k 9 [some (.ref 91)] [.int 122, .int 97, .ref 91] am_G0 f)) (fun k => rfl) ?_)
    obtain ⟨v2, f2, h1, h⟩ := am_bI_some h
    refine am_Ew.run (am_Ev.call (fun n => rfl) (lk_X8_isAt h1) ?_)
    refine am_Ew.start [4, 39] 8 (am_Ew.conv (fun k => (if v2 = 0 then (k 39 [some (.ref 91)] [.int 115, .int 116, .int 111, .int 108, .int 115, .ref 91] am_G0 f2) else (k 4 [some (.ref 91)] [] am_G0 (am_wr f2 91 16 ((f2 91 16) + 1))))) (fun k => rfl) ?_)
    refine am_Ew.ite h (fun _ h => ?_) (fun _ h => ?_)
    · obtain ⟨v3, f3, h1, h⟩ := am_bI_some h
      refine am_Ew.run (am_Ev.call (fun n => rfl) (lk_X8_spells h1) ?_)
      refine am_Ew.start [70] 7 (am_Ew.conv (fun k => (if v3 = 0 then (k 70 [some (.ref 91)] [.int 114, .int 101, .int 107, .int 97, .int 109, .ref 91] am_G0 f3) else (if (f3 91 18) = 0 then (some (some (.int 0), am_G0, f3)) else (some (some (.int (-9)), am_G0, f3))))) (fun k => rfl) ?_)
      refine am_Ew.ite h (fun _ h => ?_) (fun _ h => ?_)
      · obtain ⟨v4, f4, h1, h⟩ := am_bI_some h
        refine am_Ew.run (am_Ev.call (fun n => rfl) (lk_X8_spells h1) ?_)
        refine am_Ew.start [102] 8 (am_Ew.conv (fun k => (if v4 = 0 then (k 102 [some (.ref 91)] [.int 114, .int 101, .int 107, .int 97, .int 116, .ref 91] am_G0 f4) else (if (f4 91 20) < 3 then (some (some (.int 1), am_G0, f4)) else (some (some (.int (-9)), am_G0, f4))))) (fun k => rfl) ?_)
        refine am_Ew.ite h (fun _ h => ?_) (fun _ h => ?_)
        · obtain ⟨v5, f5, h1, h⟩ := am_bI_some h
          refine am_Ew.run (am_Ev.call (fun n => rfl) (lk_X8_spells h1) ?_)
          refine am_Ew.start [] 8 (am_Ew.conv (fun k => (if v5 = 0 then (some (some (.int (-9)), am_G0, f5)) else (if (f5 91 21) < 6 then (some (some (.int 2), am_G0, f5)) else (some (some (.int (-9)), am_G0, f5))))) (fun k => rfl) ?_)
          refine am_Ew.ite h (fun _ h => ?_) (fun _ h => ?_)
          · exact am_Ew.retI h
          · refine am_Ew.ite h (fun _ h => ?_) (fun _ h => ?_)
            · exact am_Ew.retI h
            · exact am_Ew.retI h
        · refine am_Ew.ite h (fun _ h => ?_) (fun _ h => ?_)
          · exact am_Ew.retI h
          · exact am_Ew.retI h
      · refine am_Ew.ite h (fun _ h => ?_) (fun _ h => ?_)
        · exact am_Ew.retI h
        · exact am_Ew.retI h
    · exact am_Ew.run (lk_X8_wordPassed_4  n _ _ _ h )
set_option maxHeartbeats 400000 in
set_option maxRecDepth 100000 in
theorem lk_X8_wordPassed {X : am_X} {f f' : am_M} {v' : Int32} (h : D_X8_wordPassed f = some (v', f')) : am_Ev X 98 0 [some (.ref 91)] [] f (some (.int v')) f' := by
  rw [D_X8_wordPassed] at h
  refine am_Ew.start [1] 1 (am_Ew.conv (fun k => (k 1 [some (.ref 91)] [.ref 91] am_G0 f)) (fun k => rfl) ?_)
  obtain ⟨f1, h1, h⟩ := am_bV_some h
  refine am_Ew.run (am_Ev.call (fun n => rfl) (lk_X8_skips h1) ?_)
  exact (lk_X8_wordPassed_4 _ _ _ _ h )
set_option maxHeartbeats 400000 in
set_option maxRecDepth 100000 in
theorem lk_X8_atMost_20 {X : am_X} : ∀ (n : Nat) (x1 x2 x3 : Int32) (f : am_M) (v' : Int32) (f' : am_M), D_X8_atMost_20 n x1 x2 x3 f = some (v', f') → am_Ev X 113 20 [some (.ref 91), some (.int x1), some (.int x2), some (.int x3)] [] f (some (.int v')) f'
  | 0, _, _, _, _, _, _, h => by cases h
  | n + 1, x1, x2, x3, f, v', f', h => by
    rw [D_X8_atMost_20] at h
    refine am_Ew.start [35] 9 (am_Ew.conv (fun k => (if x3 < (f 91 3) then (am_chk x1 6 (k 35 [some (.ref 91), some (.int x1), some (.int x2), some (.int x3)] [.int x3, .int (f 94 x1.toNatClampNeg)] am_G0 f)) else (some (some (.int x2), am_G0, f)))) (fun k => rfl) ?_)
    refine am_Ew.ite h (fun _ h => ?_) (fun _ h => ?_)
    · refine am_Ew.chk h (fun h => ?_)
      obtain ⟨v2, f2, h1, h⟩ := am_bI_some h
      refine am_Ew.run (am_Ev.call (fun n => rfl) (lk_X8_has h1) ?_)
      refine am_Ew.start [20] 19 (am_Ew.conv (fun k => (if v2 = 0 then (k 20 [some (.ref 91), some (.int x1), some (.int x2), some (.int (x3 + 1))] [] am_G0 f2) else (am_chk ((1 : Int32) + x3) 1026 (if (f2 95 ((1 : Int32) + x3).toNatClampNeg) < x2 then (am_chk ((1 : Int32) + x3) 1026 (k 20 [some (.ref 91), some (.int x1), some (.int (f2 95 ((1 : Int32) + x3).toNatClampNeg)), some (.int (x3 + 1))] [] am_G0 f2)) else (k 20 [some (.ref 91), some (.int x1), some (.int x2), some (.int (x3 + 1))] [] am_G0 f2))))) (fun k => rfl) ?_)
      refine am_Ew.ite h (fun _ h => ?_) (fun _ h => ?_)
      · exact am_Ew.run (lk_X8_atMost_20  n _ _ _ _ _ _ h )
      · refine am_Ew.chk h (fun h => ?_)
        refine am_Ew.ite h (fun _ h => ?_) (fun _ h => ?_)
        · refine am_Ew.chk h (fun h => ?_)
          exact am_Ew.run (lk_X8_atMost_20  n _ _ _ _ _ _ h )
        · exact am_Ew.run (lk_X8_atMost_20  n _ _ _ _ _ _ h )
    · exact am_Ew.retI h
set_option maxHeartbeats 400000 in
set_option maxRecDepth 100000 in
theorem lk_X8_atMost {X : am_X} {a1 : Int32} {f f' : am_M} {v' : Int32} (h : D_X8_atMost a1 f = some (v', f')) : am_Ev X 113 0 [some (.ref 91), some (.int a1), none, none] [] f (some (.int v')) f' := by
  rw [D_X8_atMost] at h
  refine am_Ew.start [10, 20] 9 (am_Ew.conv (fun k => (am_chk a1 6 (if (f 94 a1.toNatClampNeg) = 0 then (k 10 [some (.ref 91), some (.int a1), none, none] [.ref 91] am_G0 f) else (k 20 [some (.ref 91), some (.int a1), some (.int (am_int 1000)), some (.int 0)] [] am_G0 f)))) (fun k => rfl) ?_)
  refine am_Ew.chk h (fun h => ?_)
  refine am_Ew.ite h (fun _ h => ?_) (fun _ h => ?_)
  · obtain ⟨v1, f1, h1, h⟩ := am_bI_some h
    refine am_Ew.run (am_Ev.call (fun n => rfl) (lk_X8_cursor h1) ?_)
    refine am_Ew.start [] 1 (am_Ew.conv (fun k => (some (some (.int v1), am_G0, f1))) (fun k => rfl) ?_)
    exact am_Ew.retI h
  · exact am_Ew.run (lk_X8_atMost_20 _ _ _ _ _ _ _ h )
set_option maxHeartbeats 400000 in
set_option maxRecDepth 100000 in
theorem lk_X8_lets_0 {X : am_X} : ∀ (n : Nat) (f : am_M) (f' : am_M), D_X8_lets_0 n  f = some f' → am_Ev X 117 0 [some (.ref 91)] [] f none f'
  | 0, _, _, h => by cases h
  | n + 1, f, f', h => by
    rw [D_X8_lets_0] at h
    refine am_Ew.start [18] 10 (am_Ew.conv (fun k => (if 0 < (f 95 19) then (k 18 [some (.ref 91)] [.ref 91, .int (f 95 23)] am_G0 f) else (some (none, am_G0, f)))) (fun k => rfl) ?_)
    refine am_Ew.ite h (fun _ h => ?_) (fun _ h => ?_)
    · obtain ⟨v1, f1, h1, h⟩ := am_bI_some h
      refine am_Ew.run (am_Ev.call (fun n => rfl) (lk_X8_room h1) ?_)
      refine am_Ew.start [39] 10 (am_Ew.conv (fun k => (if v1 < (f 95 23) then (some (none, am_G0, f1)) else (k 39 [some (.ref 91)] [.int (f1 95 23), .int (f1 95 20), .ref 91] am_G0 f1))) (fun k => rfl) ?_)
      refine am_Ew.ite h (fun _ h => ?_) (fun _ h => ?_)
      · exact am_Ew.retV h
      · obtain ⟨f2, h1, h⟩ := am_bV_some h
        refine am_Ew.run (am_Ev.call (fun n => rfl) (lk_X8_claimsNow h1) ?_)
        refine am_Ew.start [44] 2 (am_Ew.conv (fun k => (k 44 [some (.ref 91)] [.int 0, .ref 91] am_G0 f2)) (fun k => rfl) ?_)
        obtain ⟨f3, h1, h⟩ := am_bV_some h
        refine am_Ew.run (am_Ev.call (fun n => rfl) (lk_X8_leavesRow h1) ?_)
        refine am_Ew.start [0] 1 (am_Ew.conv (fun k => (k 0 [some (.ref 91)] [] am_G0 f3)) (fun k => rfl) ?_)
        exact am_Ew.run (lk_X8_lets_0  n _ _ h )
    · exact am_Ew.retV h
set_option maxHeartbeats 400000 in
set_option maxRecDepth 100000 in
theorem lk_X8_lets {X : am_X} {f f' : am_M} (h : D_X8_lets f = some f') : am_Ev X 117 0 [some (.ref 91)] [] f none f' := by
  rw [D_X8_lets] at h
  exact (lk_X8_lets_0 _ _ _ h )
set_option maxHeartbeats 400000 in
set_option maxRecDepth 100000 in
theorem lk_X8_claims {X : am_X} {a1 a2 : Int32} {f f' : am_M} {v' : Int32} (h : D_X8_claims a1 a2 f = some (v', f')) : am_Ev X 120 0 [some (.ref 91), some (.int a1), some (.int a2), none] [] f (some (.int v')) f' := by
  rw [D_X8_claims] at h
  refine am_Ew.start [2] 2 (am_Ew.conv (fun k => (k 2 [some (.ref 91), some (.int a1), some (.int a2), none] [.int a1, .ref 91] am_G0 f)) (fun k => rfl) ?_)
  obtain ⟨v1, f1, h1, h⟩ := am_bI_some h
  refine am_Ew.run (am_Ev.call (fun n => rfl) (lk_X8_isMaker h1) ?_)
  refine am_Ew.start [12] 4 (am_Ew.conv (fun k => (if v1 = 0 then (some (some (.int (-1)), am_G0, f1)) else (k 12 [some (.ref 91), some (.int a1), some (.int a2), none] [.int 9, .int 1, .int a2] am_G0 f1))) (fun k => rfl) ?_)
  refine am_Ew.ite h (fun _ h => ?_) (fun _ h => ?_)
  · exact am_Ew.retI h
  · obtain ⟨v2, f2, h1, h⟩ := am_bI_some h
    refine am_Ew.run (am_Ev.call (fun n => rfl) (lk_X8_within h1) ?_)
    refine am_Ew.start [22] 3 (am_Ew.conv (fun k => (if v2 = 0 then (some (some (.int (-1)), am_G0, f2)) else (k 22 [some (.ref 91), some (.int a1), some (.int a2), none] [.int a1, .ref 91] am_G0 f2))) (fun k => rfl) ?_)
    refine am_Ew.ite h (fun _ h => ?_) (fun _ h => ?_)
    · exact am_Ew.retI h
    · obtain ⟨v3, f3, h1, h⟩ := am_bI_some h
      refine am_Ew.run (am_Ev.call (fun n => rfl) (lk_X8_placeOf h1) ?_)
      refine am_Ew.start [40] 7 (am_Ew.conv (fun k => (if v3 = (-9) then (k 40 [some (.ref 91), some (.int a1), some (.int a2), none] [.ref 91, .int (f3 95 0)] am_G0 f3) else (some (some (.int (-2)), am_G0, f3)))) (fun k => rfl) ?_)
      refine am_Ew.ite h (fun _ h => ?_) (fun _ h => ?_)
      · obtain ⟨v4, f4, h1, h⟩ := am_bI_some h
        refine am_Ew.run (am_Ev.call (fun n => rfl) (lk_X8_wanted h1) ?_)
        refine am_Ew.start [56] 7 (am_Ew.conv (fun k => (if (am_int 999) < (((f3 95 0) + v4) + a2) then (some (some (.int (-3)), am_G0, f4)) else (k 56 [some (.ref 91), some (.int a1), some (.int a2), none] [.ref 91] am_G0 f4))) (fun k => rfl) ?_)
        refine am_Ew.ite h (fun _ h => ?_) (fun _ h => ?_)
        · exact am_Ew.retI h
        · obtain ⟨f5, h1, h⟩ := am_bV_some h
          refine am_Ew.run (am_Ev.call (fun n => rfl) (lk_X8_keeps h1) ?_)
          refine am_Ew.start [71] 35 (am_Ew.conv (fun k => (if (f5 95 19) = 0 then (k 71 [some (.ref 91), some (.int a1), some (.int a2), none] [.ref 91, .int a2] am_G0 f5) else (am_chk ((20 : Int32) + (f5 95 19)) 1026 (am_chk ((23 : Int32) + ((am_wr f5 95 ((20 : Int32) + (f5 95 19)).toNatClampNeg a1) 95 19)) 1026 (some (some (.int (-9)), am_G0, (am_wr (am_wr (am_wr f5 95 ((20 : Int32) + (f5 95 19)).toNatClampNeg a1) 95 ((23 : Int32) + ((am_wr f5 95 ((20 : Int32) + (f5 95 19)).toNatClampNeg a1) 95 19)).toNatClampNeg a2) 95 19 (((am_wr (am_wr f5 95 ((20 : Int32) + (f5 95 19)).toNatClampNeg a1) 95 ((23 : Int32) + ((am_wr f5 95 ((20 : Int32) + (f5 95 19)).toNatClampNeg a1) 95 19)).toNatClampNeg a2) 95 19) + 1)))))))) (fun k => rfl) ?_)
          refine am_Ew.ite h (fun _ h => ?_) (fun _ h => ?_)
          · obtain ⟨v6, f6, h1, h⟩ := am_bI_some h
            refine am_Ew.run (am_Ev.call (fun n => rfl) (lk_X8_room h1) ?_)
            refine am_Ew.start [87] 31 (am_Ew.conv (fun k => (if v6 < a2 then (am_chk ((20 : Int32) + (f6 95 19)) 1026 (am_chk ((23 : Int32) + ((am_wr f6 95 ((20 : Int32) + (f6 95 19)).toNatClampNeg a1) 95 19)) 1026 (some (some (.int (-9)), am_G0, (am_wr (am_wr (am_wr f6 95 ((20 : Int32) + (f6 95 19)).toNatClampNeg a1) 95 ((23 : Int32) + ((am_wr f6 95 ((20 : Int32) + (f6 95 19)).toNatClampNeg a1) 95 19)).toNatClampNeg a2) 95 19 (((am_wr (am_wr f6 95 ((20 : Int32) + (f6 95 19)).toNatClampNeg a1) 95 ((23 : Int32) + ((am_wr f6 95 ((20 : Int32) + (f6 95 19)).toNatClampNeg a1) 95 19)).toNatClampNeg a2) 95 19) + 1)))))) else (k 87 [some (.ref 91), some (.int a1), some (.int a2), some (.int (f6 95 0))] [.int a2, .int a1, .ref 91] am_G0 f6))) (fun k => rfl) ?_)
            refine am_Ew.ite h (fun _ h => ?_) (fun _ h => ?_)
            · refine am_Ew.chk h (fun h => ?_)
              refine am_Ew.chk h (fun h => ?_)
              exact am_Ew.retI h
            · obtain ⟨f7, h1, h⟩ := am_bV_some h
              refine am_Ew.run (am_Ev.call (fun n => rfl) (lk_X8_claimsNow h1) ?_)
              refine am_Ew.start [] 2 (am_Ew.conv (fun k => (some (some (.int (f6 95 0)), am_G0, f7))) (fun k => rfl) ?_)
              exact am_Ew.retI h
          · refine am_Ew.chk h (fun h => ?_)
            refine am_Ew.chk h (fun h => ?_)
            exact am_Ew.retI h
      · exact am_Ew.retI h
set_option maxHeartbeats 400000 in
set_option maxRecDepth 100000 in
theorem lk_X8_becomes {X : am_X} {a1 a2 a3 : Int32} {f f' : am_M} {v' : Int32} (h : D_X8_becomes a1 a2 a3 f = some (v', f')) : am_Ev X 121 0 [some (.ref 91), some (.int a1), some (.int a2), some (.int a3)] [] f (some (.int v')) f' := by
  rw [D_X8_becomes] at h
  refine am_Ew.start [2] 2 (am_Ew.conv (fun k => (k 2 [some (.ref 91), some (.int a1), some (.int a2), some (.int a3)] [.int a1, .ref 91] am_G0 f)) (fun k => rfl) ?_)
  obtain ⟨v1, f1, h1, h⟩ := am_bI_some h
  refine am_Ew.run (am_Ev.call (fun n => rfl) (lk_X8_kindOf h1) ?_)
  refine am_Ew.start [12] 3 (am_Ew.conv (fun k => (if v1 = 0 then (k 12 [some (.ref 91), some (.int a1), some (.int a2), some (.int a3)] [.ref 91] am_G0 f1) else (some (some (.int (-2)), am_G0, f1)))) (fun k => rfl) ?_)
  refine am_Ew.ite h (fun _ h => ?_) (fun _ h => ?_)
  · obtain ⟨f2, h1, h⟩ := am_bV_some h
    refine am_Ew.run (am_Ev.call (fun n => rfl) (lk_X8_keeps h1) ?_)
    refine am_Ew.start [34] 15 (am_Ew.conv (fun k => (am_chk ((26 : Int32) + a1) 1026 (am_chk ((26 : Int32) + a1) 1026 (k 34 [some (.ref 91), some (.int a1), some (.int a2), some (.int a3)] [.ref 91] am_G0 (am_wr f2 95 ((26 : Int32) + a1).toNatClampNeg ((f2 95 ((26 : Int32) + a1).toNatClampNeg) + (a2 + ((16 : Int32) * a3)))))))) (fun k => rfl) ?_)
    refine am_Ew.chk h (fun h => ?_)
    refine am_Ew.chk h (fun h => ?_)
    obtain ⟨v3, f3, h1, h⟩ := am_bI_some h
    refine am_Ew.run (am_Ev.call (fun n => rfl) (lk_X8_cursor h1) ?_)
    refine am_Ew.start [] 1 (am_Ew.conv (fun k => (some (some (.int v3), am_G0, f3))) (fun k => rfl) ?_)
    exact am_Ew.retI h
  · exact am_Ew.retI h
set_option maxHeartbeats 400000 in
set_option maxRecDepth 100000 in
theorem lk_X8_event {X : am_X} {a1 a2 : Int32} {f f' : am_M} {v' : Int32} (h : D_X8_event a1 a2 f = some (v', f')) : am_Ev X 129 0 [some (.ref 91), some (.int a1), some (.int a2)] [] f (some (.int v')) f' := by
  rw [D_X8_event] at h
  refine am_Ew.start [2] 2 (am_Ew.conv (fun k => (k 2 [some (.ref 91), some (.int a1), some (.int a2)] [.int a1, .ref 91] am_G0 f)) (fun k => rfl) ?_)
  obtain ⟨v1, f1, h1, h⟩ := am_bI_some h
  refine am_Ew.run (am_Ev.call (fun n => rfl) (lk_X8_isEvent h1) ?_)
  refine am_Ew.start [11] 4 (am_Ew.conv (fun k => (if v1 = 0 then (some (some (.int (-1)), am_G0, f1)) else (k 11 [some (.ref 91), some (.int a1), some (.int a2)] [.int 2, .int 0, .int a2] am_G0 f1))) (fun k => rfl) ?_)
  refine am_Ew.ite h (fun _ h => ?_) (fun _ h => ?_)
  · exact am_Ew.retI h
  · obtain ⟨v2, f2, h1, h⟩ := am_bI_some h
    refine am_Ew.run (am_Ev.call (fun n => rfl) (lk_X8_within h1) ?_)
    refine am_Ew.start [20] 4 (am_Ew.conv (fun k => (if v2 = 0 then (some (some (.int (-1)), am_G0, f2)) else (k 20 [some (.ref 91), some (.int a1), some (.int a2)] [.int a2, .int a1, .ref 91] am_G0 f2))) (fun k => rfl) ?_)
    refine am_Ew.ite h (fun _ h => ?_) (fun _ h => ?_)
    · exact am_Ew.retI h
    · obtain ⟨v3, f3, h1, h⟩ := am_bI_some h
      refine am_Ew.run (am_Ev.call (fun n => rfl) (lk_X8_tellEvent h1) ?_)
      refine am_Ew.start [] 2 (am_Ew.conv (fun k => (some (some (.int v3), am_G0, f3))) (fun k => rfl) ?_)
      exact am_Ew.retI h
set_option maxHeartbeats 400000 in
set_option maxRecDepth 100000 in
theorem lk_X8_maker {X : am_X} {a1 a2 : Int32} {f f' : am_M} {v' : Int32} (h : D_X8_maker a1 a2 f = some (v', f')) : am_Ev X 134 0 [some (.ref 91), some (.int a1), some (.int a2)] [] f (some (.int v')) f' := by
  rw [D_X8_maker] at h
  refine am_Ew.start [2] 2 (am_Ew.conv (fun k => (k 2 [some (.ref 91), some (.int a1), some (.int a2)] [.int a1, .ref 91] am_G0 f)) (fun k => rfl) ?_)
  obtain ⟨v1, f1, h1, h⟩ := am_bI_some h
  refine am_Ew.run (am_Ev.call (fun n => rfl) (lk_X8_isMaker h1) ?_)
  refine am_Ew.start [11] 4 (am_Ew.conv (fun k => (if v1 = 0 then (some (some (.int (-1)), am_G0, f1)) else (k 11 [some (.ref 91), some (.int a1), some (.int a2)] [.int 3, .int 0, .int a2] am_G0 f1))) (fun k => rfl) ?_)
  refine am_Ew.ite h (fun _ h => ?_) (fun _ h => ?_)
  · exact am_Ew.retI h
  · obtain ⟨v2, f2, h1, h⟩ := am_bI_some h
    refine am_Ew.run (am_Ev.call (fun n => rfl) (lk_X8_within h1) ?_)
    refine am_Ew.start [20] 4 (am_Ew.conv (fun k => (if v2 = 0 then (some (some (.int (-1)), am_G0, f2)) else (k 20 [some (.ref 91), some (.int a1), some (.int a2)] [.int a2, .int a1, .ref 91] am_G0 f2))) (fun k => rfl) ?_)
    refine am_Ew.ite h (fun _ h => ?_) (fun _ h => ?_)
    · exact am_Ew.retI h
    · obtain ⟨v3, f3, h1, h⟩ := am_bI_some h
      refine am_Ew.run (am_Ev.call (fun n => rfl) (lk_X8_tellMaker h1) ?_)
      refine am_Ew.start [] 2 (am_Ew.conv (fun k => (some (some (.int v3), am_G0, f3))) (fun k => rfl) ?_)
      exact am_Ew.retI h
set_option maxHeartbeats 400000 in
set_option maxRecDepth 100000 in
theorem lk_X8_steps_51 {X : am_X} : ∀ (n : Nat) (x1 x2 x3 : Int32) (f : am_M) (v' : Int32) (f' : am_M), D_X8_steps_51 n x1 x2 x3 f = some (v', f') → am_Ev X 137 51 [some (.ref 91), some (.int x1), some (.int x2), some (.int x3)] [] f (some (.int v')) f'
  | 0, _, _, _, _, _, _, h => by cases h
  | n + 1, x1, x2, x3, f, v', f', h => by
    rw [D_X8_steps_51] at h
    refine am_Ew.start [51] 19 (am_Ew.conv (fun k => (if x3 < (f 91 3) then (am_chk ((1 : Int32) + x3) 1026 (if (f 95 ((1 : Int32) + x3).toNatClampNeg) < x1 then (k 51 [some (.ref 91), some (.int x1), some (.int (x2 + 1)), some (.int (x3 + 1))] [] am_G0 f) else (k 51 [some (.ref 91), some (.int x1), some (.int (x2 + 0)), some (.int (x3 + 1))] [] am_G0 f))) else (some (some (.int x2), am_G0, f)))) (fun k => rfl) ?_)
    refine am_Ew.ite h (fun _ h => ?_) (fun _ h => ?_)
    · refine am_Ew.chk h (fun h => ?_)
      refine am_Ew.ite h (fun _ h => ?_) (fun _ h => ?_)
      · exact am_Ew.run (lk_X8_steps_51  n _ _ _ _ _ _ h )
      · exact am_Ew.run (lk_X8_steps_51  n _ _ _ _ _ _ h )
    · exact am_Ew.retI h
set_option maxHeartbeats 400000 in
set_option maxRecDepth 100000 in
theorem lk_X8_steps {X : am_X} {f f' : am_M} {v' : Int32} (h : D_X8_steps f = some (v', f')) : am_Ev X 137 0 [some (.ref 91), none, none, none] [] f (some (.int v')) f' := by
  rw [D_X8_steps] at h
  refine am_Ew.start [38] 20 (am_Ew.conv (fun k => (if (f 95 19) = 0 then (k 38 [some (.ref 91), some (.int (am_int 1000)), none, none] [.ref 91, .int (am_int 1000)] am_G0 f) else (k 38 [some (.ref 91), some (.int (((f 95 0) + (f 95 23)) - (f 91 0))), none, none] [.ref 91, .int (((f 95 0) + (f 95 23)) - (f 91 0))] am_G0 f))) (fun k => rfl) ?_)
  refine am_Ew.ite h (fun _ h => ?_) (fun _ h => ?_)
  · obtain ⟨v1, f1, h1, h⟩ := am_bI_some h
    refine am_Ew.run (am_Ev.call (fun n => rfl) (lk_X8_cursor h1) ?_)
    refine am_Ew.start [51] 5 (am_Ew.conv (fun k => (if v1 < ((am_int 1000) : Int32) then (some (some (.int (-9)), am_G0, f1)) else (k 51 [some (.ref 91), some (.int (am_int 1000)), some (.int 0), some (.int 0)] [] am_G0 f1))) (fun k => rfl) ?_)
    refine am_Ew.ite h (fun _ h => ?_) (fun _ h => ?_)
    · exact am_Ew.retI h
    · exact am_Ew.run (lk_X8_steps_51 _ _ _ _ _ _ _ h )
  · obtain ⟨v2, f2, h1, h⟩ := am_bI_some h
    refine am_Ew.run (am_Ev.call (fun n => rfl) (lk_X8_cursor h1) ?_)
    refine am_Ew.start [51] 5 (am_Ew.conv (fun k => (if v2 < (((f 95 0) + (f 95 23)) - (f 91 0)) then (some (some (.int (-9)), am_G0, f2)) else (k 51 [some (.ref 91), some (.int (((f 95 0) + (f 95 23)) - (f 91 0))), some (.int 0), some (.int 0)] [] am_G0 f2))) (fun k => rfl) ?_)
    refine am_Ew.ite h (fun _ h => ?_) (fun _ h => ?_)
    · exact am_Ew.retI h
    · exact am_Ew.run (lk_X8_steps_51 _ _ _ _ _ _ _ h )
set_option maxHeartbeats 400000 in
set_option maxRecDepth 100000 in
theorem lk_X8_ticks_28 {X : am_X} : ∀ (n : Nat) (x1 x2 : Int32) (f : am_M) (f' : am_M), D_X8_ticks_28 n x1 x2 f = some f' → ∀ d3 d4 : Option Value, am_Ev X 143 28 [some (.ref 91), some (.int x1), some (.int x2), d3, d4] [] f none f'
  | 0, _, _, _, _, h, _, _ => by cases h
  | n + 1, x1, x2, f, f', h, d3, d4 => by
    rw [D_X8_ticks_28] at h
    refine am_Ew.start [39] 7 (am_Ew.conv (fun k => (if x2 < (f 91 3) then (k 39 [some (.ref 91), some (.int x1), some (.int x2), d3, d4] [.int x1, .int x2, .ref 91] am_G0 f) else (some (none, am_G0, f)))) (fun k => rfl) ?_)
    refine am_Ew.ite h (fun _ h => ?_) (fun _ h => ?_)
    · obtain ⟨v2, f2, h1, h⟩ := am_bI_some h
      refine am_Ew.run (am_Ev.call (fun n => rfl) (lk_X8_mostByRule h1) ?_)
      refine am_Ew.start [77] 21 (am_Ew.conv (fun k => (am_chk x2 6 (am_chk x2 6 (if ((f2 111 x2.toNatClampNeg) + (f2 93 x2.toNatClampNeg)) < v2 then (am_chk x2 6 (k 77 [some (.ref 91), some (.int x1), some (.int x2), some (.int v2), some (.int ((f2 111 x2.toNatClampNeg) + (f2 93 x2.toNatClampNeg)))] [.ref 91] am_G0 (am_wr f2 111 x2.toNatClampNeg ((f2 111 x2.toNatClampNeg) + (f2 93 x2.toNatClampNeg))))) else (am_chk x2 6 (k 77 [some (.ref 91), some (.int x1), some (.int x2), some (.int v2), some (.int ((f2 111 x2.toNatClampNeg) + (f2 93 x2.toNatClampNeg)))] [.ref 91] am_G0 (am_wr f2 111 x2.toNatClampNeg v2))))))) (fun k => rfl) ?_)
      refine am_Ew.chk h (fun h => ?_)
      refine am_Ew.chk h (fun h => ?_)
      refine am_Ew.ite h (fun _ h => ?_) (fun _ h => ?_)
      · refine am_Ew.chk h (fun h => ?_)
        obtain ⟨f3, h1, h⟩ := am_bV_some h
        refine am_Ew.run (am_Ev.call (fun n => rfl) (lk_X8_letsByRule h1) ?_)
        refine am_Ew.start [28] 2 (am_Ew.conv (fun k => (k 28 [some (.ref 91), some (.int x1), some (.int (x2 + 1)), some (.int v2), some (.int ((f2 111 x2.toNatClampNeg) + (f2 93 x2.toNatClampNeg)))] [] am_G0 f3)) (fun k => rfl) ?_)
        exact am_Ew.run (lk_X8_ticks_28  n _ _ _ _ h _ _ )
      · refine am_Ew.chk h (fun h => ?_)
        obtain ⟨f4, h1, h⟩ := am_bV_some h
        refine am_Ew.run (am_Ev.call (fun n => rfl) (lk_X8_letsByRule h1) ?_)
        refine am_Ew.start [28] 2 (am_Ew.conv (fun k => (k 28 [some (.ref 91), some (.int x1), some (.int (x2 + 1)), some (.int v2), some (.int ((f2 111 x2.toNatClampNeg) + (f2 93 x2.toNatClampNeg)))] [] am_G0 f4)) (fun k => rfl) ?_)
        exact am_Ew.run (lk_X8_ticks_28  n _ _ _ _ h _ _ )
    · exact am_Ew.retV h
set_option maxHeartbeats 400000 in
set_option maxRecDepth 100000 in
theorem lk_X8_ticks_7 {X : am_X} : ∀ (n : Nat) (x1 x2 : Int32) (f : am_M) (f' : am_M), D_X8_ticks_7 n x1 x2 f = some f' → ∀ d3 d4 : Option Value, am_Ev X 143 7 [some (.ref 91), some (.int x1), some (.int x2), d3, d4] [] f none f'
  | 0, _, _, _, _, h, _, _ => by cases h
  | n + 1, x1, x2, f, f', h, d3, d4 => by
    rw [D_X8_ticks_7] at h
    refine am_Ew.start [17, 28] 6 (am_Ew.conv (fun k => (if x2 < (f 91 1) then (k 17 [some (.ref 91), some (.int x1), some (.int x2), d3, d4] [.int x2, .ref 91] am_G0 f) else (k 28 [some (.ref 91), some (.int x1), some (.int 0), d3, d4] [] am_G0 f))) (fun k => rfl) ?_)
    refine am_Ew.ite h (fun _ h => ?_) (fun _ h => ?_)
    · obtain ⟨f1, h1, h⟩ := am_bV_some h
      refine am_Ew.run (am_Ev.call (fun n => rfl) (lk_X8_claimsByRule h1) ?_)
      refine am_Ew.start [7] 2 (am_Ew.conv (fun k => (k 7 [some (.ref 91), some (.int x1), some (.int (x2 + 1)), d3, d4] [] am_G0 f1)) (fun k => rfl) ?_)
      exact am_Ew.run (lk_X8_ticks_7  n _ _ _ _ h _ _ )
    · exact am_Ew.run (lk_X8_ticks_28 _ _ _ _ _ h _ _ )
set_option maxHeartbeats 400000 in
set_option maxRecDepth 100000 in
theorem lk_X8_ticks {X : am_X} {f f' : am_M} (h : D_X8_ticks f = some f') : am_Ev X 143 0 [some (.ref 91), none, none, none, none] [] f none f' := by
  rw [D_X8_ticks] at h
  refine am_Ew.start [7] 5 (am_Ew.conv (fun k => (k 7 [some (.ref 91), some (.int (f 91 29)), some (.int 0), none, none] [] am_G0 f)) (fun k => rfl) ?_)
  exact am_Ew.run (lk_X8_ticks_7 _ _ _ _ _ h _ _ )
set_option maxHeartbeats 400000 in
set_option maxRecDepth 100000 in
theorem lk_X8_sees {X : am_X} {a1 a2 : Int32} {f f' : am_M} {v' : Int32} (h : D_X8_sees a1 a2 f = some (v', f')) : am_Ev X 153 0 [some (.ref 91), some (.int a1), some (.int a2)] [] f (some (.int v')) f' := by
  rw [D_X8_sees] at h
  refine am_Ew.start [1] 1 (am_Ew.conv (fun k => (k 1 [some (.ref 91), some (.int a1), some (.int a2)] [.int a1] am_G0 f)) (fun k => rfl) ?_)
  obtain ⟨v1, f1, h1, h⟩ := am_bI_some h
  refine am_Ew.run (am_Ev.call (fun n => rfl) (lk_X8_isTicks h1) ?_)
  refine am_Ew.start [12] 4 (am_Ew.conv (fun k => (if v1 = 0 then (some (some (.int (-1)), am_G0, f1)) else (k 12 [some (.ref 91), some (.int a1), some (.int a2)] [.int (am_int 9999), .int 0, .int a2] am_G0 f1))) (fun k => rfl) ?_)
  refine am_Ew.ite h (fun _ h => ?_) (fun _ h => ?_)
  · exact am_Ew.retI h
  · obtain ⟨v2, f2, h1, h⟩ := am_bI_some h
    refine am_Ew.run (am_Ev.call (fun n => rfl) (lk_X8_within h1) ?_)
    refine am_Ew.start [] 26 (am_Ew.conv (fun k => (if v2 = 0 then (some (some (.int (-1)), am_G0, f2)) else (if (f2 91 11) = 6 then (some (some (.int (-3)), am_G0, f2)) else (am_chk (f2 91 11) 6 (am_chk (f2 91 11) 6 (some (some (.int ((f2 91 11) + 1)), am_G0, (am_wr (am_wr (am_wr f2 99 (f2 91 11).toNatClampNeg a1) 100 (f2 91 11).toNatClampNeg a2) 91 11 ((f2 91 11) + 1))))))))) (fun k => rfl) ?_)
    refine am_Ew.ite h (fun _ h => ?_) (fun _ h => ?_)
    · exact am_Ew.retI h
    · refine am_Ew.ite h (fun _ h => ?_) (fun _ h => ?_)
      · exact am_Ew.retI h
      · refine am_Ew.chk h (fun h => ?_)
        refine am_Ew.chk h (fun h => ?_)
        exact am_Ew.retI h
set_option maxHeartbeats 400000 in
set_option maxRecDepth 100000 in
theorem lk_X8_count {X : am_X} {a1 : Int32} {f f' : am_M} {v' : Int32} (h : D_X8_count a1 f = some (v', f')) : am_Ev X 161 0 [some (.ref 91), some (.int a1)] [] f (some (.int v')) f' := by
  rw [D_X8_count] at h
  refine am_Ew.start [83, 88, 93] 7 (am_Ew.conv (fun k => (if a1 = 0 then (some (some (.int (f 91 0)), am_G0, f)) else (if a1 = 1 then (some (some (.int (f 91 1)), am_G0, f)) else (if a1 = 2 then (some (some (.int (f 91 3)), am_G0, f)) else (if a1 = 3 then (some (some (.int (f 95 0)), am_G0, f)) else (if a1 = 4 then (k 83 [some (.ref 91), some (.int a1)] [.ref 91] am_G0 f) else (if a1 = 5 then (k 88 [some (.ref 91), some (.int a1)] [.ref 91] am_G0 f) else (if a1 = 6 then (k 93 [some (.ref 91), some (.int a1)] [.ref 91] am_G0 f) else (if a1 = 7 then (some (some (.int (f 95 19)), am_G0, f)) else (if a1 = 8 then (some (some (.int (f 91 11)), am_G0, f)) else (if a1 = 9 then (some (some (.int (f 91 15)), am_G0, f)) else (if a1 = 10 then (some (some (.int (f 91 8)), am_G0, f)) else (some (some (.int (-1)), am_G0, f)))))))))))))) (fun k => rfl) ?_)
  refine am_Ew.ite h (fun _ h => ?_) (fun _ h => ?_)
  · exact am_Ew.retI h
  · refine am_Ew.ite h (fun _ h => ?_) (fun _ h => ?_)
    · exact am_Ew.retI h
    · refine am_Ew.ite h (fun _ h => ?_) (fun _ h => ?_)
      · exact am_Ew.retI h
      · refine am_Ew.ite h (fun _ h => ?_) (fun _ h => ?_)
        · exact am_Ew.retI h
        · refine am_Ew.ite h (fun _ h => ?_) (fun _ h => ?_)
          · obtain ⟨v1, f1, h1, h⟩ := am_bI_some h
            refine am_Ew.run (am_Ev.call (fun n => rfl) (lk_X8_cursor h1) ?_)
            refine am_Ew.start [] 1 (am_Ew.conv (fun k => (some (some (.int v1), am_G0, f1))) (fun k => rfl) ?_)
            exact am_Ew.retI h
          · refine am_Ew.ite h (fun _ h => ?_) (fun _ h => ?_)
            · obtain ⟨v2, f2, h1, h⟩ := am_bI_some h
              refine am_Ew.run (am_Ev.call (fun n => rfl) (lk_X8_least h1) ?_)
              refine am_Ew.start [] 1 (am_Ew.conv (fun k => (some (some (.int v2), am_G0, f2))) (fun k => rfl) ?_)
              exact am_Ew.retI h
            · refine am_Ew.ite h (fun _ h => ?_) (fun _ h => ?_)
              · obtain ⟨v3, f3, h1, h⟩ := am_bI_some h
                refine am_Ew.run (am_Ev.call (fun n => rfl) (lk_X8_room h1) ?_)
                refine am_Ew.start [] 1 (am_Ew.conv (fun k => (some (some (.int v3), am_G0, f3))) (fun k => rfl) ?_)
                exact am_Ew.retI h
              · refine am_Ew.ite h (fun _ h => ?_) (fun _ h => ?_)
                · exact am_Ew.retI h
                · refine am_Ew.ite h (fun _ h => ?_) (fun _ h => ?_)
                  · exact am_Ew.retI h
                  · refine am_Ew.ite h (fun _ h => ?_) (fun _ h => ?_)
                    · exact am_Ew.retI h
                    · refine am_Ew.ite h (fun _ h => ?_) (fun _ h => ?_)
                      · exact am_Ew.retI h
                      · exact am_Ew.retI h
set_option maxHeartbeats 400000 in
set_option maxRecDepth 100000 in
theorem lk_X8_readsSlots {X : am_X} {f f' : am_M} {v' : Int32} (h : D_X8_readsSlots f = some (v', f')) : am_Ev X 99 0 [some (.ref 91)] [] f (some (.int v')) f' := by
  rw [D_X8_readsSlots] at h
  refine am_Ew.start [5] 4 (am_Ew.conv (fun k => (k 5 [some (.ref 91)] [.int 16, .int 2, .ref 91, .ref 91] am_G0 f)) (fun k => rfl) ?_)
  obtain ⟨v1, f1, h1, h⟩ := am_bI_some h
  refine am_Ew.run (am_Ev.call (fun n => rfl) (lk_X8_number h1) ?_)
  refine am_Ew.start [24] 9 (am_Ew.conv (fun k => (if 0 < v1 then (k 24 [some (.ref 91)] [.ref 91] am_G0 (am_wr (am_wr f1 91 19 v1) 91 18 1)) else (some (some (.int 0), am_G0, (am_wr (am_wr f1 91 19 v1) 91 18 1))))) (fun k => rfl) ?_)
  refine am_Ew.ite h (fun _ h => ?_) (fun _ h => ?_)
  · obtain ⟨v2, f2, h1, h⟩ := am_bI_some h
    refine am_Ew.run (am_Ev.call (fun n => rfl) (lk_X8_passesEnd h1) ?_)
    refine am_Ew.start [] 4 (am_Ew.conv (fun k => (if v2 = 0 then (some (some (.int 0), am_G0, f2)) else (some (some (.int 1), am_G0, f2)))) (fun k => rfl) ?_)
    refine am_Ew.ite h (fun _ h => ?_) (fun _ h => ?_)
    · exact am_Ew.retI h
    · exact am_Ew.retI h
  · exact am_Ew.retI h
set_option maxHeartbeats 400000 in
set_option maxRecDepth 100000 in
theorem lk_X8_readsMaker {X : am_X} {f f' : am_M} {v' : Int32} (h : D_X8_readsMaker f = some (v', f')) : am_Ev X 100 0 [some (.ref 91)] [] f (some (.int v')) f' := by
  rw [D_X8_readsMaker] at h
  refine am_Ew.start [12] 7 (am_Ew.conv (fun k => (k 12 [some (.ref 91)] [.int 9, .int 0, .ref 91, .int (f 91 20), .ref 102] am_G0 f)) (fun k => rfl) ?_)
  obtain ⟨v1, f1, h1, h⟩ := am_bI_some h
  refine am_Ew.run (am_Ev.call (fun n => rfl) (lk_X8_number h1) ?_)
  refine am_Ew.start [29] 9 (am_Ew.conv (fun k => (am_chk (f 91 20) 3 (am_chk (f1 91 20) 3 (if ((am_wr f1 102 (f 91 20).toNatClampNeg v1) 102 (f1 91 20).toNatClampNeg) < 0 then (some (some (.int 0), am_G0, (am_wr f1 102 (f 91 20).toNatClampNeg v1))) else (k 29 [some (.ref 91)] [.ref 91] am_G0 (am_wr f1 102 (f 91 20).toNatClampNeg v1)))))) (fun k => rfl) ?_)
  refine am_Ew.chk h (fun h => ?_)
  refine am_Ew.chk h (fun h => ?_)
  refine am_Ew.ite h (fun _ h => ?_) (fun _ h => ?_)
  · exact am_Ew.retI h
  · obtain ⟨v2, f2, h1, h⟩ := am_bI_some h
    refine am_Ew.run (am_Ev.call (fun n => rfl) (lk_X8_passesEnd h1) ?_)
    refine am_Ew.start [] 9 (am_Ew.conv (fun k => (if v2 = 0 then (some (some (.int 0), am_G0, f2)) else (some (some (.int 1), am_G0, (am_wr f2 91 20 ((f2 91 20) + 1)))))) (fun k => rfl) ?_)
    refine am_Ew.ite h (fun _ h => ?_) (fun _ h => ?_)
    · exact am_Ew.retI h
    · exact am_Ew.retI h
set_option maxHeartbeats 400000 in
set_option maxRecDepth 100000 in
theorem lk_X8_readsTaker {X : am_X} {f f' : am_M} {v' : Int32} (h : D_X8_readsTaker f = some (v', f')) : am_Ev X 101 0 [some (.ref 91)] [] f (some (.int v')) f' := by
  rw [D_X8_readsTaker] at h
  refine am_Ew.start [12] 7 (am_Ew.conv (fun k => (k 12 [some (.ref 91)] [.int 9, .int 1, .ref 91, .int (f 91 21), .ref 103] am_G0 f)) (fun k => rfl) ?_)
  obtain ⟨v1, f1, h1, h⟩ := am_bI_some h
  refine am_Ew.run (am_Ev.call (fun n => rfl) (lk_X8_number h1) ?_)
  refine am_Ew.start [50, 67] 22 (am_Ew.conv (fun k => (am_chk (f 91 21) 6 (am_chk (f1 91 21) 6 (if ((am_wr f1 103 (f 91 21).toNatClampNeg v1) 103 (f1 91 21).toNatClampNeg) < 0 then (am_chk (f1 91 21) 6 (am_chk (f1 91 21) 6 (if ((am_wr (am_wr f1 103 (f 91 21).toNatClampNeg v1) 104 (f1 91 21).toNatClampNeg (-1)) 104 (f1 91 21).toNatClampNeg) < 0 then (some (some (.int 0), am_G0, (am_wr (am_wr f1 103 (f 91 21).toNatClampNeg v1) 104 (f1 91 21).toNatClampNeg (-1)))) else (k 67 [some (.ref 91)] [.ref 91] am_G0 (am_wr (am_wr f1 103 (f 91 21).toNatClampNeg v1) 104 (f1 91 21).toNatClampNeg (-1)))))) else (k 50 [some (.ref 91)] [.int (((1 : Int32) <<< ((f1 91 21) &&& 31)) - 1), .int 0, .ref 91, .int (f1 91 21), .ref 104] am_G0 (am_wr f1 103 (f 91 21).toNatClampNeg v1)))))) (fun k => rfl) ?_)
  refine am_Ew.chk h (fun h => ?_)
  refine am_Ew.chk h (fun h => ?_)
  refine am_Ew.ite h (fun _ h => ?_) (fun _ h => ?_)
  · refine am_Ew.chk h (fun h => ?_)
    refine am_Ew.chk h (fun h => ?_)
    refine am_Ew.ite h (fun _ h => ?_) (fun _ h => ?_)
    · exact am_Ew.retI h
    · obtain ⟨v2, f2, h1, h⟩ := am_bI_some h
      refine am_Ew.run (am_Ev.call (fun n => rfl) (lk_X8_passesEnd h1) ?_)
      refine am_Ew.start [] 9 (am_Ew.conv (fun k => (if v2 = 0 then (some (some (.int 0), am_G0, f2)) else (some (some (.int 1), am_G0, (am_wr f2 91 21 ((f2 91 21) + 1)))))) (fun k => rfl) ?_)
      refine am_Ew.ite h (fun _ h => ?_) (fun _ h => ?_)
      · exact am_Ew.retI h
      · exact am_Ew.retI h
  · obtain ⟨v3, f3, h1, h⟩ := am_bI_some h
    refine am_Ew.run (am_Ev.call (fun n => rfl) (lk_X8_number h1) ?_)
    refine am_Ew.start [67] 9 (am_Ew.conv (fun k => (am_chk (f1 91 21) 6 (am_chk (f3 91 21) 6 (if ((am_wr f3 104 (f1 91 21).toNatClampNeg v3) 104 (f3 91 21).toNatClampNeg) < 0 then (some (some (.int 0), am_G0, (am_wr f3 104 (f1 91 21).toNatClampNeg v3))) else (k 67 [some (.ref 91)] [.ref 91] am_G0 (am_wr f3 104 (f1 91 21).toNatClampNeg v3)))))) (fun k => rfl) ?_)
    refine am_Ew.chk h (fun h => ?_)
    refine am_Ew.chk h (fun h => ?_)
    refine am_Ew.ite h (fun _ h => ?_) (fun _ h => ?_)
    · exact am_Ew.retI h
    · obtain ⟨v4, f4, h1, h⟩ := am_bI_some h
      refine am_Ew.run (am_Ev.call (fun n => rfl) (lk_X8_passesEnd h1) ?_)
      refine am_Ew.start [] 9 (am_Ew.conv (fun k => (if v4 = 0 then (some (some (.int 0), am_G0, f4)) else (some (some (.int 1), am_G0, (am_wr f4 91 21 ((f4 91 21) + 1)))))) (fun k => rfl) ?_)
      refine am_Ew.ite h (fun _ h => ?_) (fun _ h => ?_)
      · exact am_Ew.retI h
      · exact am_Ew.retI h
set_option maxHeartbeats 400000 in
set_option maxRecDepth 100000 in
theorem lk_X8_fills {X : am_X} {a1 a2 : Int32} {f f' : am_M} {v' : Int32} (h : D_X8_fills a1 a2 f = some (v', f')) : am_Ev X 122 0 [some (.ref 91), some (.int a1), some (.int a2)] [] f (some (.int v')) f' := by
  rw [D_X8_fills] at h
  refine am_Ew.start [2] 2 (am_Ew.conv (fun k => (k 2 [some (.ref 91), some (.int a1), some (.int a2)] [.int a1, .ref 91] am_G0 f)) (fun k => rfl) ?_)
  obtain ⟨v1, f1, h1, h⟩ := am_bI_some h
  refine am_Ew.run (am_Ev.call (fun n => rfl) (lk_X8_isEvent h1) ?_)
  refine am_Ew.start [12] 4 (am_Ew.conv (fun k => (if v1 = 0 then (some (some (.int (-1)), am_G0, f1)) else (k 12 [some (.ref 91), some (.int a1), some (.int a2)] [.int 99, .int 0, .int a2] am_G0 f1))) (fun k => rfl) ?_)
  refine am_Ew.ite h (fun _ h => ?_) (fun _ h => ?_)
  · exact am_Ew.retI h
  · obtain ⟨v2, f2, h1, h⟩ := am_bI_some h
    refine am_Ew.run (am_Ev.call (fun n => rfl) (lk_X8_within h1) ?_)
    refine am_Ew.start [22] 5 (am_Ew.conv (fun k => (if v2 = 0 then (some (some (.int (-1)), am_G0, f2)) else (k 22 [some (.ref 91), some (.int a1), some (.int a2)] [.int a2, .int 1, .int a1, .ref 91] am_G0 f2))) (fun k => rfl) ?_)
    refine am_Ew.ite h (fun _ h => ?_) (fun _ h => ?_)
    · exact am_Ew.retI h
    · obtain ⟨v3, f3, h1, h⟩ := am_bI_some h
      refine am_Ew.run (am_Ev.call (fun n => rfl) (lk_X8_becomes h1) ?_)
      refine am_Ew.start [] 2 (am_Ew.conv (fun k => (some (some (.int v3), am_G0, f3))) (fun k => rfl) ?_)
      exact am_Ew.retI h
set_option maxHeartbeats 400000 in
set_option maxRecDepth 100000 in
theorem lk_X8_gaps {X : am_X} {a1 : Int32} {f f' : am_M} {v' : Int32} (h : D_X8_gaps a1 f = some (v', f')) : am_Ev X 123 0 [some (.ref 91), some (.int a1)] [] f (some (.int v')) f' := by
  rw [D_X8_gaps] at h
  refine am_Ew.start [2] 2 (am_Ew.conv (fun k => (k 2 [some (.ref 91), some (.int a1)] [.int a1, .ref 91] am_G0 f)) (fun k => rfl) ?_)
  obtain ⟨v1, f1, h1, h⟩ := am_bI_some h
  refine am_Ew.run (am_Ev.call (fun n => rfl) (lk_X8_isEvent h1) ?_)
  refine am_Ew.start [12] 5 (am_Ew.conv (fun k => (if v1 = 0 then (some (some (.int (-1)), am_G0, f1)) else (k 12 [some (.ref 91), some (.int a1)] [.int 0, .int 2, .int a1, .ref 91] am_G0 f1))) (fun k => rfl) ?_)
  refine am_Ew.ite h (fun _ h => ?_) (fun _ h => ?_)
  · exact am_Ew.retI h
  · obtain ⟨v2, f2, h1, h⟩ := am_bI_some h
    refine am_Ew.run (am_Ev.call (fun n => rfl) (lk_X8_becomes h1) ?_)
    refine am_Ew.start [] 2 (am_Ew.conv (fun k => (some (some (.int v2), am_G0, f2))) (fun k => rfl) ?_)
    exact am_Ew.retI h
set_option maxHeartbeats 400000 in
set_option maxRecDepth 100000 in
theorem lk_X8_takes_70 {X : am_X} : ∀ (n : Nat) (x1 x3 x4 x5 : Int32) (f : am_M) (v' : Int32) (f' : am_M), D_X8_takes_70 n x1 x3 x4 x5 f = some (v', f') → ∀ d2 : Option Value, am_Ev X 125 70 [some (.ref 91), some (.int x1), d2, some (.int x3), some (.int x4), some (.int x5)] [] f (some (.int v')) f'
  | 0, _, _, _, _, _, _, _, h, _ => by cases h
  | n + 1, x1, x3, x4, x5, f, v', f', h, d2 => by
    rw [D_X8_takes_70] at h
    refine am_Ew.start [81, 101] 11 (am_Ew.conv (fun k => (if x5 < x4 then (k 81 [some (.ref 91), some (.int x1), d2, some (.int x3), some (.int x4), some (.int x5)] [.int x5, .int x1, .ref 91] am_G0 f) else (am_chk ((1 : Int32) + x1) 1026 (k 101 [some (.ref 91), some (.int x1), d2, some (.int x3), some (.int x4), some (.int x5)] [.ref 91] am_G0 (am_wr f 95 ((1 : Int32) + x1).toNatClampNeg x4))))) (fun k => rfl) ?_)
    refine am_Ew.ite h (fun _ h => ?_) (fun _ h => ?_)
    · obtain ⟨f5, h1, h⟩ := am_bV_some h
      refine am_Ew.run (am_Ev.call (fun n => rfl) (lk_X8_goesOver h1) ?_)
      refine am_Ew.start [70] 2 (am_Ew.conv (fun k => (k 70 [some (.ref 91), some (.int x1), d2, some (.int x3), some (.int x4), some (.int (x5 + 1))] [] am_G0 f5)) (fun k => rfl) ?_)
      exact am_Ew.run (lk_X8_takes_70  n _ _ _ _ _ _ _ h _ )
    · refine am_Ew.chk h (fun h => ?_)
      obtain ⟨f6, h1, h⟩ := am_bV_some h
      refine am_Ew.run (am_Ev.call (fun n => rfl) (lk_X8_lets h1) ?_)
      refine am_Ew.start [] 4 (am_Ew.conv (fun k => (some (some (.int (x4 - x3)), am_G0, f6))) (fun k => rfl) ?_)
      exact am_Ew.retI h
set_option maxHeartbeats 400000 in
set_option maxRecDepth 100000 in
theorem lk_X8_takes {X : am_X} {a1 a2 : Int32} {f f' : am_M} {v' : Int32} (h : D_X8_takes a1 a2 f = some (v', f')) : am_Ev X 125 0 [some (.ref 91), some (.int a1), some (.int a2), none, none, none] [] f (some (.int v')) f' := by
  rw [D_X8_takes] at h
  refine am_Ew.start [2] 2 (am_Ew.conv (fun k => (k 2 [some (.ref 91), some (.int a1), some (.int a2), none, none, none] [.int a1, .ref 91] am_G0 f)) (fun k => rfl) ?_)
  obtain ⟨v1, f1, h1, h⟩ := am_bI_some h
  refine am_Ew.run (am_Ev.call (fun n => rfl) (lk_X8_isTaker h1) ?_)
  refine am_Ew.start [12] 4 (am_Ew.conv (fun k => (if v1 = 0 then (some (some (.int (-1)), am_G0, f1)) else (k 12 [some (.ref 91), some (.int a1), some (.int a2), none, none, none] [.int 16, .int 1, .int a2] am_G0 f1))) (fun k => rfl) ?_)
  refine am_Ew.ite h (fun _ h => ?_) (fun _ h => ?_)
  · exact am_Ew.retI h
  · obtain ⟨v2, f2, h1, h⟩ := am_bI_some h
    refine am_Ew.run (am_Ev.call (fun n => rfl) (lk_X8_within h1) ?_)
    refine am_Ew.start [31] 10 (am_Ew.conv (fun k => (if v2 = 0 then (some (some (.int (-1)), am_G0, f2)) else (am_chk ((1 : Int32) + a1) 1026 (k 31 [some (.ref 91), some (.int a1), some (.int a2), some (.int (f2 95 ((1 : Int32) + a1).toNatClampNeg)), none, none] [.int a1, .ref 91] am_G0 f2)))) (fun k => rfl) ?_)
    refine am_Ew.ite h (fun _ h => ?_) (fun _ h => ?_)
    · exact am_Ew.retI h
    · refine am_Ew.chk h (fun h => ?_)
      obtain ⟨v3, f3, h1, h⟩ := am_bI_some h
      refine am_Ew.run (am_Ev.call (fun n => rfl) (lk_X8_atMost h1) ?_)
      refine am_Ew.start [46] 6 (am_Ew.conv (fun k => (if (f2 95 ((1 : Int32) + a1).toNatClampNeg) < v3 then (k 46 [some (.ref 91), some (.int a1), some (.int a2), some (.int (f2 95 ((1 : Int32) + a1).toNatClampNeg)), some (.int v3), none] [.ref 91] am_G0 f3) else (some (some (.int (-2)), am_G0, f3)))) (fun k => rfl) ?_)
      refine am_Ew.ite h (fun _ h => ?_) (fun _ h => ?_)
      · obtain ⟨f4, h1, h⟩ := am_bV_some h
        refine am_Ew.run (am_Ev.call (fun n => rfl) (lk_X8_keeps h1) ?_)
        refine am_Ew.start [70] 12 (am_Ew.conv (fun k => (if ((f2 95 ((1 : Int32) + a1).toNatClampNeg) + a2) < v3 then (k 70 [some (.ref 91), some (.int a1), some (.int a2), some (.int (f2 95 ((1 : Int32) + a1).toNatClampNeg)), some (.int ((f2 95 ((1 : Int32) + a1).toNatClampNeg) + a2)), some (.int (f2 95 ((1 : Int32) + a1).toNatClampNeg))] [] am_G0 f4) else (k 70 [some (.ref 91), some (.int a1), some (.int a2), some (.int (f2 95 ((1 : Int32) + a1).toNatClampNeg)), some (.int v3), some (.int (f2 95 ((1 : Int32) + a1).toNatClampNeg))] [] am_G0 f4))) (fun k => rfl) ?_)
        refine am_Ew.ite h (fun _ h => ?_) (fun _ h => ?_)
        · exact am_Ew.run (lk_X8_takes_70 _ _ _ _ _ _ _ _ h _ )
        · exact am_Ew.run (lk_X8_takes_70 _ _ _ _ _ _ _ _ h _ )
      · exact am_Ew.retI h
set_option maxHeartbeats 400000 in
set_option maxRecDepth 100000 in
theorem lk_X8_calls {X : am_X} {a1 : Int32} {f f' : am_M} {v' : Int32} (h : D_X8_calls a1 f = some (v', f')) : am_Ev X 126 0 [some (.ref 91), some (.int a1), none, none] [] f (some (.int v')) f' := by
  rw [D_X8_calls] at h
  refine am_Ew.start [2] 2 (am_Ew.conv (fun k => (k 2 [some (.ref 91), some (.int a1), none, none] [.int a1, .ref 91] am_G0 f)) (fun k => rfl) ?_)
  obtain ⟨v1, f1, h1, h⟩ := am_bI_some h
  refine am_Ew.run (am_Ev.call (fun n => rfl) (lk_X8_isMaker h1) ?_)
  refine am_Ew.start [12] 3 (am_Ew.conv (fun k => (if v1 = 0 then (some (some (.int (-1)), am_G0, f1)) else (k 12 [some (.ref 91), some (.int a1), none, none] [.int a1, .ref 91] am_G0 f1))) (fun k => rfl) ?_)
  refine am_Ew.ite h (fun _ h => ?_) (fun _ h => ?_)
  · exact am_Ew.retI h
  · obtain ⟨v2, f2, h1, h⟩ := am_bI_some h
    refine am_Ew.run (am_Ev.call (fun n => rfl) (lk_X8_placeOf h1) ?_)
    refine am_Ew.start [26] 6 (am_Ew.conv (fun k => (if v2 = (-9) then (some (some (.int (-2)), am_G0, f2)) else (k 26 [some (.ref 91), some (.int a1), some (.int v2), none] [.ref 91] am_G0 f2))) (fun k => rfl) ?_)
    refine am_Ew.ite h (fun _ h => ?_) (fun _ h => ?_)
    · exact am_Ew.retI h
    · obtain ⟨f3, h1, h⟩ := am_bV_some h
      refine am_Ew.run (am_Ev.call (fun n => rfl) (lk_X8_keeps h1) ?_)
      refine am_Ew.start [41] 9 (am_Ew.conv (fun k => (am_chk ((23 : Int32) + v2) 1026 (k 41 [some (.ref 91), some (.int a1), some (.int v2), some (.int (f3 95 ((23 : Int32) + v2).toNatClampNeg))] [.int v2, .ref 91] am_G0 f3))) (fun k => rfl) ?_)
      refine am_Ew.chk h (fun h => ?_)
      obtain ⟨f4, h1, h⟩ := am_bV_some h
      refine am_Ew.run (am_Ev.call (fun n => rfl) (lk_X8_leavesRow h1) ?_)
      refine am_Ew.start [45] 1 (am_Ew.conv (fun k => (k 45 [some (.ref 91), some (.int a1), some (.int v2), some (.int (f3 95 ((23 : Int32) + v2).toNatClampNeg))] [.ref 91] am_G0 f4)) (fun k => rfl) ?_)
      obtain ⟨f5, h1, h⟩ := am_bV_some h
      refine am_Ew.run (am_Ev.call (fun n => rfl) (lk_X8_lets h1) ?_)
      refine am_Ew.start [] 2 (am_Ew.conv (fun k => (some (some (.int (f3 95 ((23 : Int32) + v2).toNatClampNeg)), am_G0, f5))) (fun k => rfl) ?_)
      exact am_Ew.retI h
set_option maxHeartbeats 400000 in
set_option maxRecDepth 100000 in
theorem lk_X8_tellTaker {X : am_X} {a1 a2 : Int32} {f f' : am_M} {v' : Int32} (h : D_X8_tellTaker a1 a2 f = some (v', f')) : am_Ev X 130 0 [some (.ref 91), some (.int a1), some (.int a2)] [] f (some (.int v')) f' := by
  rw [D_X8_tellTaker] at h
  refine am_Ew.start [65, 70] 9 (am_Ew.conv (fun k => (if a2 = 0 then (am_chk a1 6 (some (some (.int (f 93 a1.toNatClampNeg)), am_G0, f))) else (if a2 = 1 then (am_chk a1 6 (some (some (.int (f 94 a1.toNatClampNeg)), am_G0, f))) else (if a2 = 2 then (am_chk ((1 : Int32) + a1) 1026 (some (some (.int (f 95 ((1 : Int32) + a1).toNatClampNeg)), am_G0, f))) else (if a2 = 3 then (k 65 [some (.ref 91), some (.int a1), some (.int a2)] [.int a1, .ref 91] am_G0 f) else (if a2 = 4 then (k 70 [some (.ref 91), some (.int a1), some (.int a2)] [.ref 91] am_G0 f) else (if a2 = 5 then (am_chk ((7 : Int32) + a1) 1026 (some (some (.int (f 95 ((7 : Int32) + a1).toNatClampNeg)), am_G0, f))) else (am_chk ((13 : Int32) + a1) 1026 (some (some (.int (f 95 ((13 : Int32) + a1).toNatClampNeg)), am_G0, f)))))))))) (fun k => rfl) ?_)
  refine am_Ew.ite h (fun _ h => ?_) (fun _ h => ?_)
  · refine am_Ew.chk h (fun h => ?_)
    exact am_Ew.retI h
  · refine am_Ew.ite h (fun _ h => ?_) (fun _ h => ?_)
    · refine am_Ew.chk h (fun h => ?_)
      exact am_Ew.retI h
    · refine am_Ew.ite h (fun _ h => ?_) (fun _ h => ?_)
      · refine am_Ew.chk h (fun h => ?_)
        exact am_Ew.retI h
      · refine am_Ew.ite h (fun _ h => ?_) (fun _ h => ?_)
        · obtain ⟨v1, f1, h1, h⟩ := am_bI_some h
          refine am_Ew.run (am_Ev.call (fun n => rfl) (lk_X8_atMost h1) ?_)
          refine am_Ew.start [] 1 (am_Ew.conv (fun k => (some (some (.int v1), am_G0, f1))) (fun k => rfl) ?_)
          exact am_Ew.retI h
        · refine am_Ew.ite h (fun _ h => ?_) (fun _ h => ?_)
          · obtain ⟨v2, f2, h1, h⟩ := am_bI_some h
            refine am_Ew.run (am_Ev.call (fun n => rfl) (lk_X8_cursor h1) ?_)
            refine am_Ew.start [] 8 (am_Ew.conv (fun k => (am_chk ((1 : Int32) + a1) 1026 (some (some (.int (v2 - (f2 95 ((1 : Int32) + a1).toNatClampNeg))), am_G0, f2)))) (fun k => rfl) ?_)
            refine am_Ew.chk h (fun h => ?_)
            exact am_Ew.retI h
          · refine am_Ew.ite h (fun _ h => ?_) (fun _ h => ?_)
            · refine am_Ew.chk h (fun h => ?_)
              exact am_Ew.retI h
            · refine am_Ew.chk h (fun h => ?_)
              exact am_Ew.retI h
set_option maxHeartbeats 400000 in
set_option maxRecDepth 100000 in
theorem lk_X8_blamed_33 {X : am_X} : ∀ (n : Nat) (x1 : Int32) (f : am_M) (v' : Int32) (f' : am_M), D_X8_blamed_33 n x1 f = some (v', f') → ∀ d2 : Option Value, am_Ev X 136 33 [some (.ref 91), some (.int x1), d2] [] f (some (.int v')) f'
  | 0, _, _, _, _, h, _ => by cases h
  | n + 1, x1, f, v', f', h, d2 => by
    rw [D_X8_blamed_33] at h
    refine am_Ew.start [43] 8 (am_Ew.conv (fun k => (am_chk ((1 : Int32) + x1) 1026 (k 43 [some (.ref 91), some (.int x1), d2] [.int x1, .ref 91, .int (f 95 ((1 : Int32) + x1).toNatClampNeg)] am_G0 f))) (fun k => rfl) ?_)
    refine am_Ew.chk h (fun h => ?_)
    obtain ⟨v2, f2, h1, h⟩ := am_bI_some h
    refine am_Ew.run (am_Ev.call (fun n => rfl) (lk_X8_atMost h1) ?_)
    refine am_Ew.start [59, 102] 11 (am_Ew.conv (fun k => (if (f 95 ((1 : Int32) + x1).toNatClampNeg) = v2 then (am_chk x1 6 (if (f2 94 x1.toNatClampNeg) = 0 then (k 59 [some (.ref 91), some (.int x1), d2] [.ref 91] am_G0 f2) else (am_chk x1 6 (k 102 [some (.ref 91), some (.int x1), d2] [.int (f2 94 x1.toNatClampNeg), .ref 91] am_G0 f2)))) else (some (some (.int x1), am_G0, f2)))) (fun k => rfl) ?_)
    refine am_Ew.ite h (fun _ h => ?_) (fun _ h => ?_)
    · refine am_Ew.chk h (fun h => ?_)
      refine am_Ew.ite h (fun _ h => ?_) (fun _ h => ?_)
      · obtain ⟨v3, f3, h1, h⟩ := am_bI_some h
        refine am_Ew.run (am_Ev.call (fun n => rfl) (lk_X8_cursor h1) ?_)
        refine am_Ew.start [] 21 (am_Ew.conv (fun k => (if v3 < (f3 95 0) then (am_chk ((26 : Int32) + v3) 1026 (some (some (.int ((10 : Int32) + (((f3 95 ((26 : Int32) + v3).toNatClampNeg) >>> ((2 : Int32) &&& 31)) &&& 3))), am_G0, f3))) else (some (some (.int (-9)), am_G0, f3)))) (fun k => rfl) ?_)
        refine am_Ew.ite h (fun _ h => ?_) (fun _ h => ?_)
        · refine am_Ew.chk h (fun h => ?_)
          exact am_Ew.retI h
        · exact am_Ew.retI h
      · refine am_Ew.chk h (fun h => ?_)
        obtain ⟨v4, f4, h1, h⟩ := am_bI_some h
        refine am_Ew.run (am_Ev.call (fun n => rfl) (lk_X8_slowest h1) ?_)
        refine am_Ew.start [33] 2 (am_Ew.conv (fun k => (k 33 [some (.ref 91), some (.int v4), d2] [] am_G0 f4)) (fun k => rfl) ?_)
        exact am_Ew.run (lk_X8_blamed_33  n _ _ _ _ h _ )
    · exact am_Ew.retI h
set_option maxHeartbeats 400000 in
set_option maxRecDepth 100000 in
theorem lk_X8_blamed {X : am_X} {f f' : am_M} {v' : Int32} (h : D_X8_blamed f = some (v', f')) : am_Ev X 136 0 [some (.ref 91), none, none] [] f (some (.int v')) f' := by
  rw [D_X8_blamed] at h
  refine am_Ew.start [29] 15 (am_Ew.conv (fun k => (if (f 95 19) = 0 then (some (some (.int (-9)), am_G0, f)) else (if (f 91 3) = 0 then (some (some (.int (-9)), am_G0, f)) else (k 29 [some (.ref 91), none, none] [.int (((1 : Int32) <<< ((f 91 3) &&& 31)) - 1), .ref 91] am_G0 f)))) (fun k => rfl) ?_)
  refine am_Ew.ite h (fun _ h => ?_) (fun _ h => ?_)
  · exact am_Ew.retI h
  · refine am_Ew.ite h (fun _ h => ?_) (fun _ h => ?_)
    · exact am_Ew.retI h
    · obtain ⟨v1, f1, h1, h⟩ := am_bI_some h
      refine am_Ew.run (am_Ev.call (fun n => rfl) (lk_X8_slowest h1) ?_)
      refine am_Ew.start [33] 1 (am_Ew.conv (fun k => (k 33 [some (.ref 91), some (.int v1), none] [] am_G0 f1)) (fun k => rfl) ?_)
      exact am_Ew.run (lk_X8_blamed_33 _ _ _ _ _ h _ )
set_option maxHeartbeats 400000 in
set_option maxRecDepth 100000 in
theorem lk_X8_laysRule_99 {X : am_X} : ∀ (n : Nat) (x1 x2 : Int32) (f : am_M) (f' : am_M), D_X8_laysRule_99 n x1 x2 f = some f' → am_Ev X 145 99 [some (.ref 91), some (.int x1), some (.int x2)] [] f none f'
  | 0, _, _, _, _, h => by cases h
  | n + 1, x1, x2, f, f', h => by
    rw [D_X8_laysRule_99] at h
    refine am_Ew.start [105] 4 (am_Ew.conv (fun k => (if x1 < x2 then (some (none, am_G0, f)) else (k 105 [some (.ref 91), some (.int x1), some (.int x2)] [.ref 91] am_G0 f))) (fun k => rfl) ?_)
    refine am_Ew.ite h (fun _ h => ?_) (fun _ h => ?_)
    · exact am_Ew.retV h
    · obtain ⟨f2, h1, h⟩ := am_bV_some h
      refine am_Ew.run (am_Ev.call (fun n => rfl) (lk_X8_ticks h1) ?_)
      refine am_Ew.start [110] 2 (am_Ew.conv (fun k => (k 110 [some (.ref 91), some (.int x1), some (.int x2)] [.int x2, .ref 91] am_G0 f2)) (fun k => rfl) ?_)
      obtain ⟨f3, h1, h⟩ := am_bV_some h
      refine am_Ew.run (am_Ev.call (fun n => rfl) (lk_X8_saves h1) ?_)
      refine am_Ew.start [99] 2 (am_Ew.conv (fun k => (k 99 [some (.ref 91), some (.int x1), some (.int (x2 + 1))] [] am_G0 f3)) (fun k => rfl) ?_)
      exact am_Ew.run (lk_X8_laysRule_99  n _ _ _ _ h )
set_option maxHeartbeats 400000 in
set_option maxRecDepth 100000 in
theorem lk_X8_laysRule_66 {X : am_X} : ∀ (n : Nat) (x1 x2 : Int32) (f : am_M) (f' : am_M), D_X8_laysRule_66 n x1 x2 f = some f' → am_Ev X 145 66 [some (.ref 91), some (.int x1), some (.int x2)] [] f none f'
  | 0, _, _, _, _, h => by cases h
  | n + 1, x1, x2, f, f', h => by
    rw [D_X8_laysRule_66] at h
    refine am_Ew.start [66, 94] 15 (am_Ew.conv (fun k => (if x2 < 6 then (am_chk ((1 : Int32) + x2) 1026 (am_chk x2 6 (k 66 [some (.ref 91), some (.int x1), some (.int (x2 + 1))] [] am_G0 (am_wr f 111 x2.toNatClampNeg (f 95 ((1 : Int32) + x2).toNatClampNeg))))) else (k 94 [some (.ref 91), some (.int x1), some (.int x2)] [.int 0, .ref 91] am_G0 f))) (fun k => rfl) ?_)
    refine am_Ew.ite h (fun _ h => ?_) (fun _ h => ?_)
    · refine am_Ew.chk h (fun h => ?_)
      refine am_Ew.chk h (fun h => ?_)
      exact am_Ew.run (lk_X8_laysRule_66  n _ _ _ _ h )
    · obtain ⟨f1, h1, h⟩ := am_bV_some h
      refine am_Ew.run (am_Ev.call (fun n => rfl) (lk_X8_saves h1) ?_)
      refine am_Ew.start [99] 2 (am_Ew.conv (fun k => (k 99 [some (.ref 91), some (.int x1), some (.int 1)] [] am_G0 f1)) (fun k => rfl) ?_)
      exact am_Ew.run (lk_X8_laysRule_99 _ _ _ _ _ h )
set_option maxHeartbeats 400000 in
set_option maxRecDepth 100000 in
theorem lk_X8_laysRule_23 {X : am_X} : ∀ (n : Nat) (x1 x2 : Int32) (f : am_M) (f' : am_M), D_X8_laysRule_23 n x1 x2 f = some f' → am_Ev X 145 23 [some (.ref 91), some (.int x1), some (.int x2)] [] f none f'
  | 0, _, _, _, _, h => by cases h
  | n + 1, x1, x2, f, f', h => by
    rw [D_X8_laysRule_23] at h
    refine am_Ew.start [23, 66] 25 (am_Ew.conv (fun k => (if x2 < 3 then (am_chk ((20 : Int32) + x2) 1026 (am_chk x2 3 (am_chk ((23 : Int32) + x2) 1026 (am_chk x2 3 (k 23 [some (.ref 91), some (.int x1), some (.int (x2 + 1))] [] am_G0 (am_wr (am_wr f 109 x2.toNatClampNeg (f 95 ((20 : Int32) + x2).toNatClampNeg)) 110 x2.toNatClampNeg (f 95 ((23 : Int32) + x2).toNatClampNeg))))))) else (k 66 [some (.ref 91), some (.int x1), some (.int 0)] [] am_G0 f))) (fun k => rfl) ?_)
    refine am_Ew.ite h (fun _ h => ?_) (fun _ h => ?_)
    · refine am_Ew.chk h (fun h => ?_)
      refine am_Ew.chk h (fun h => ?_)
      refine am_Ew.chk h (fun h => ?_)
      refine am_Ew.chk h (fun h => ?_)
      exact am_Ew.run (lk_X8_laysRule_23  n _ _ _ _ h )
    · exact am_Ew.run (lk_X8_laysRule_66 _ _ _ _ _ h )
set_option maxHeartbeats 400000 in
set_option maxRecDepth 100000 in
theorem lk_X8_laysRule {X : am_X} {a1 : Int32} {f f' : am_M} (h : D_X8_laysRule a1 f = some f') : am_Ev X 145 0 [some (.ref 91), some (.int a1), none] [] f none f' := by
  rw [D_X8_laysRule] at h
  refine am_Ew.start [23] 14 (am_Ew.conv (fun k => (k 23 [some (.ref 91), some (.int a1), some (.int 0)] [] am_G0 (am_wr (am_wr f 91 29 (f 95 0)) 91 30 (f 95 19)))) (fun k => rfl) ?_)
  exact am_Ew.run (lk_X8_laysRule_23 _ _ _ _ _ h )
set_option maxHeartbeats 400000 in
set_option maxRecDepth 100000 in
theorem lk_X8_reads_32 {X : am_X} : ∀ (n : Nat) (x1 : Int32) (f : am_M) (v' : Int32) (f' : am_M), D_X8_reads_32 n x1 f = some (v', f') → ∀ d2 d3 : Option Value, am_Ev X 102 32 [some (.ref 91), some (.int x1), d2, d3] [] f (some (.int v')) f'
  | 0, _, _, _, _, h, _, _ => by cases h
  | n + 1, x1, f, v', f', h, d2, d3 => by
    rw [D_X8_reads_32] at h
    refine am_Ew.start [44] 7 (am_Ew.conv (fun k => (if (f 91 16) < (f 91 15) then (k 44 [some (.ref 91), some (.int x1), d2, d3] [.ref 91] am_G0 f) else (some (some (.int x1), am_G0, f)))) (fun k => rfl) ?_)
    refine am_Ew.ite h (fun _ h => ?_) (fun _ h => ?_)
    · obtain ⟨v2, f2, h1, h⟩ := am_bI_some h
      refine am_Ew.run (am_Ev.call (fun n => rfl) (lk_X8_wordPassed h1) ?_)
      refine am_Ew.start [53, 65, 77] 15 (am_Ew.conv (fun k => (if v2 = 0 then (k 53 [some (.ref 91), some (.int x1), some (.int v2), d3] [.ref 91] am_G0 f2) else (if v2 = 1 then (k 65 [some (.ref 91), some (.int x1), some (.int v2), d3] [.ref 91] am_G0 f2) else (if v2 = 2 then (k 77 [some (.ref 91), some (.int x1), some (.int v2), d3] [.ref 91] am_G0 f2) else (some (some (.int (-1)), am_G0, f2)))))) (fun k => rfl) ?_)
      refine am_Ew.ite h (fun _ h => ?_) (fun _ h => ?_)
      · obtain ⟨v3, f3, h1, h⟩ := am_bI_some h
        refine am_Ew.run (am_Ev.call (fun n => rfl) (lk_X8_readsSlots h1) ?_)
        refine am_Ew.start [99] 6 (am_Ew.conv (fun k => (if v3 = 0 then (some (some (.int (-1)), am_G0, f3)) else (k 99 [some (.ref 91), some (.int (x1 + 1)), some (.int v2), some (.int v3)] [.ref 91] am_G0 f3))) (fun k => rfl) ?_)
        refine am_Ew.ite h (fun _ h => ?_) (fun _ h => ?_)
        · exact am_Ew.retI h
        · obtain ⟨f4, h1, h⟩ := am_bV_some h
          refine am_Ew.run (am_Ev.call (fun n => rfl) (lk_X8_skips h1) ?_)
          refine am_Ew.start [32] 1 (am_Ew.conv (fun k => (k 32 [some (.ref 91), some (.int (x1 + 1)), some (.int v2), some (.int v3)] [] am_G0 f4)) (fun k => rfl) ?_)
          exact am_Ew.run (lk_X8_reads_32  n _ _ _ _ h _ _ )
      · refine am_Ew.ite h (fun _ h => ?_) (fun _ h => ?_)
        · obtain ⟨v5, f5, h1, h⟩ := am_bI_some h
          refine am_Ew.run (am_Ev.call (fun n => rfl) (lk_X8_readsMaker h1) ?_)
          refine am_Ew.start [99] 6 (am_Ew.conv (fun k => (if v5 = 0 then (some (some (.int (-1)), am_G0, f5)) else (k 99 [some (.ref 91), some (.int (x1 + 1)), some (.int v2), some (.int v5)] [.ref 91] am_G0 f5))) (fun k => rfl) ?_)
          refine am_Ew.ite h (fun _ h => ?_) (fun _ h => ?_)
          · exact am_Ew.retI h
          · obtain ⟨f6, h1, h⟩ := am_bV_some h
            refine am_Ew.run (am_Ev.call (fun n => rfl) (lk_X8_skips h1) ?_)
            refine am_Ew.start [32] 1 (am_Ew.conv (fun k => (k 32 [some (.ref 91), some (.int (x1 + 1)), some (.int v2), some (.int v5)] [] am_G0 f6)) (fun k => rfl) ?_)
            exact am_Ew.run (lk_X8_reads_32  n _ _ _ _ h _ _ )
        · refine am_Ew.ite h (fun _ h => ?_) (fun _ h => ?_)
          · obtain ⟨v7, f7, h1, h⟩ := am_bI_some h
            refine am_Ew.run (am_Ev.call (fun n => rfl) (lk_X8_readsTaker h1) ?_)
            refine am_Ew.start [99] 8 (am_Ew.conv (fun k => (if v7 = 0 then (some (some (.int (-1)), am_G0, f7)) else (k 99 [some (.ref 91), some (.int (x1 + 1)), some (.int v2), some (.int 1)] [.ref 91] am_G0 f7))) (fun k => rfl) ?_)
            refine am_Ew.ite h (fun _ h => ?_) (fun _ h => ?_)
            · exact am_Ew.retI h
            · obtain ⟨f8, h1, h⟩ := am_bV_some h
              refine am_Ew.run (am_Ev.call (fun n => rfl) (lk_X8_skips h1) ?_)
              refine am_Ew.start [32] 1 (am_Ew.conv (fun k => (k 32 [some (.ref 91), some (.int (x1 + 1)), some (.int v2), some (.int 1)] [] am_G0 f8)) (fun k => rfl) ?_)
              exact am_Ew.run (lk_X8_reads_32  n _ _ _ _ h _ _ )
          · exact am_Ew.retI h
    · exact am_Ew.retI h
set_option maxHeartbeats 400000 in
set_option maxRecDepth 100000 in
theorem lk_X8_reads {X : am_X} {f f' : am_M} {v' : Int32} (h : D_X8_reads f = some (v', f')) : am_Ev X 102 0 [some (.ref 91), none, none, none] [] f (some (.int v')) f' := by
  rw [D_X8_reads] at h
  refine am_Ew.start [29] 18 (am_Ew.conv (fun k => (k 29 [some (.ref 91), some (.int 0), none, none] [.ref 91] am_G0 (am_wr (am_wr (am_wr (am_wr (am_wr f 91 16 0) 91 18 0) 91 19 8) 91 20 0) 91 21 0))) (fun k => rfl) ?_)
  obtain ⟨f1, h1, h⟩ := am_bV_some h
  refine am_Ew.run (am_Ev.call (fun n => rfl) (lk_X8_skips h1) ?_)
  exact (lk_X8_reads_32 _ _ _ _ _ h _ _ )
set_option maxHeartbeats 400000 in
set_option maxRecDepth 100000 in
theorem lk_X8_taker {X : am_X} {a1 a2 : Int32} {f f' : am_M} {v' : Int32} (h : D_X8_taker a1 a2 f = some (v', f')) : am_Ev X 131 0 [some (.ref 91), some (.int a1), some (.int a2)] [] f (some (.int v')) f' := by
  rw [D_X8_taker] at h
  refine am_Ew.start [2] 2 (am_Ew.conv (fun k => (k 2 [some (.ref 91), some (.int a1), some (.int a2)] [.int a1, .ref 91] am_G0 f)) (fun k => rfl) ?_)
  obtain ⟨v1, f1, h1, h⟩ := am_bI_some h
  refine am_Ew.run (am_Ev.call (fun n => rfl) (lk_X8_isTaker h1) ?_)
  refine am_Ew.start [12] 4 (am_Ew.conv (fun k => (if v1 = 0 then (some (some (.int (-1)), am_G0, f1)) else (k 12 [some (.ref 91), some (.int a1), some (.int a2)] [.int 6, .int 0, .int a2] am_G0 f1))) (fun k => rfl) ?_)
  refine am_Ew.ite h (fun _ h => ?_) (fun _ h => ?_)
  · exact am_Ew.retI h
  · obtain ⟨v2, f2, h1, h⟩ := am_bI_some h
    refine am_Ew.run (am_Ev.call (fun n => rfl) (lk_X8_within h1) ?_)
    refine am_Ew.start [21] 4 (am_Ew.conv (fun k => (if v2 = 0 then (some (some (.int (-1)), am_G0, f2)) else (k 21 [some (.ref 91), some (.int a1), some (.int a2)] [.int a2, .int a1, .ref 91] am_G0 f2))) (fun k => rfl) ?_)
    refine am_Ew.ite h (fun _ h => ?_) (fun _ h => ?_)
    · exact am_Ew.retI h
    · obtain ⟨v3, f3, h1, h⟩ := am_bI_some h
      refine am_Ew.run (am_Ev.call (fun n => rfl) (lk_X8_tellTaker h1) ?_)
      refine am_Ew.start [] 2 (am_Ew.conv (fun k => (some (some (.int v3), am_G0, f3))) (fun k => rfl) ?_)
      exact am_Ew.retI h
set_option maxHeartbeats 400000 in
set_option maxRecDepth 100000 in
theorem lk_X8_tellRule {X : am_X} {a1 a2 : Int32} {f f' : am_M} {v' : Int32} (h : D_X8_tellRule a1 a2 f = some (v', f')) : am_Ev X 149 0 [some (.ref 91), some (.int a1), some (.int a2)] [] f (some (.int v')) f' := by
  rw [D_X8_tellRule] at h
  refine am_Ew.start [2] 2 (am_Ew.conv (fun k => (k 2 [some (.ref 91), some (.int a1), some (.int a2)] [.int a1, .ref 91] am_G0 f)) (fun k => rfl) ?_)
  obtain ⟨f1, h1, h⟩ := am_bV_some h
  refine am_Ew.run (am_Ev.call (fun n => rfl) (lk_X8_laysRule h1) ?_)
  refine am_Ew.start [25, 38] 13 (am_Ew.conv (fun k => (if a2 = 0 then (am_chk a1 61 (some (some (.int (f1 105 a1.toNatClampNeg)), am_G0, f1))) else (if a2 = 1 then (k 25 [some (.ref 91), some (.int a1), some (.int a2)] [.int a1, .ref 91] am_G0 f1) else (if a2 = 2 then (k 38 [some (.ref 91), some (.int a1), some (.int a2)] [.int a1, .ref 91] am_G0 f1) else (am_chk a1 61 (some (some (.int (f1 106 a1.toNatClampNeg)), am_G0, f1))))))) (fun k => rfl) ?_)
  refine am_Ew.ite h (fun _ h => ?_) (fun _ h => ?_)
  · refine am_Ew.chk h (fun h => ?_)
    exact am_Ew.retI h
  · refine am_Ew.ite h (fun _ h => ?_) (fun _ h => ?_)
    · obtain ⟨v2, f2, h1, h⟩ := am_bI_some h
      refine am_Ew.run (am_Ev.call (fun n => rfl) (lk_X8_leastAt h1) ?_)
      refine am_Ew.start [] 2 (am_Ew.conv (fun k => (some (some (.int v2), am_G0, f2))) (fun k => rfl) ?_)
      exact am_Ew.retI h
    · refine am_Ew.ite h (fun _ h => ?_) (fun _ h => ?_)
      · obtain ⟨v3, f3, h1, h⟩ := am_bI_some h
        refine am_Ew.run (am_Ev.call (fun n => rfl) (lk_X8_slowAt h1) ?_)
        refine am_Ew.start [] 2 (am_Ew.conv (fun k => (some (some (.int v3), am_G0, f3))) (fun k => rfl) ?_)
        exact am_Ew.retI h
      · refine am_Ew.chk h (fun h => ?_)
        exact am_Ew.retI h
set_option maxHeartbeats 400000 in
set_option maxRecDepth 100000 in
theorem lk_X8_waited {X : am_X} {a1 a2 : Int32} {f f' : am_M} {v' : Int32} (h : D_X8_waited a1 a2 f = some (v', f')) : am_Ev X 151 0 [some (.ref 91), some (.int a1), some (.int a2)] [] f (some (.int v')) f' := by
  rw [D_X8_waited] at h
  refine am_Ew.start [1] 1 (am_Ew.conv (fun k => (k 1 [some (.ref 91), some (.int a1), some (.int a2)] [.int a1] am_G0 f)) (fun k => rfl) ?_)
  obtain ⟨v1, f1, h1, h⟩ := am_bI_some h
  refine am_Ew.run (am_Ev.call (fun n => rfl) (lk_X8_isTicks h1) ?_)
  refine am_Ew.start [9] 3 (am_Ew.conv (fun k => (if v1 = 0 then (some (some (.int (-1)), am_G0, f1)) else (k 9 [some (.ref 91), some (.int a1), some (.int a2)] [.int a2, .ref 91] am_G0 f1))) (fun k => rfl) ?_)
  refine am_Ew.ite h (fun _ h => ?_) (fun _ h => ?_)
  · exact am_Ew.retI h
  · obtain ⟨v2, f2, h1, h⟩ := am_bI_some h
    refine am_Ew.run (am_Ev.call (fun n => rfl) (lk_X8_isMaker h1) ?_)
    refine am_Ew.start [19] 3 (am_Ew.conv (fun k => (if v2 = 0 then (some (some (.int (-1)), am_G0, f2)) else (k 19 [some (.ref 91), some (.int a1), some (.int a2)] [.int a1, .ref 91] am_G0 f2))) (fun k => rfl) ?_)
    refine am_Ew.ite h (fun _ h => ?_) (fun _ h => ?_)
    · exact am_Ew.retI h
    · obtain ⟨f3, h1, h⟩ := am_bV_some h
      refine am_Ew.run (am_Ev.call (fun n => rfl) (lk_X8_laysRule h1) ?_)
      refine am_Ew.start [] 9 (am_Ew.conv (fun k => (am_chk (((3 : Int32) * a1) + a2) 183 (some (some (.int (f3 108 (((3 : Int32) * a1) + a2).toNatClampNeg)), am_G0, f3)))) (fun k => rfl) ?_)
      refine am_Ew.chk h (fun h => ?_)
      exact am_Ew.retI h
set_option maxHeartbeats 400000 in
set_option maxRecDepth 100000 in
theorem lk_X8_done {X : am_X} {a1 a2 : Int32} {f f' : am_M} {v' : Int32} (h : D_X8_done a1 a2 f = some (v', f')) : am_Ev X 152 0 [some (.ref 91), some (.int a1), some (.int a2)] [] f (some (.int v')) f' := by
  rw [D_X8_done] at h
  refine am_Ew.start [1] 1 (am_Ew.conv (fun k => (k 1 [some (.ref 91), some (.int a1), some (.int a2)] [.int a1] am_G0 f)) (fun k => rfl) ?_)
  obtain ⟨v1, f1, h1, h⟩ := am_bI_some h
  refine am_Ew.run (am_Ev.call (fun n => rfl) (lk_X8_isTicks h1) ?_)
  refine am_Ew.start [9] 3 (am_Ew.conv (fun k => (if v1 = 0 then (some (some (.int (-1)), am_G0, f1)) else (k 9 [some (.ref 91), some (.int a1), some (.int a2)] [.int a2, .ref 91] am_G0 f1))) (fun k => rfl) ?_)
  refine am_Ew.ite h (fun _ h => ?_) (fun _ h => ?_)
  · exact am_Ew.retI h
  · obtain ⟨v2, f2, h1, h⟩ := am_bI_some h
    refine am_Ew.run (am_Ev.call (fun n => rfl) (lk_X8_isTaker h1) ?_)
    refine am_Ew.start [19] 3 (am_Ew.conv (fun k => (if v2 = 0 then (some (some (.int (-1)), am_G0, f2)) else (k 19 [some (.ref 91), some (.int a1), some (.int a2)] [.int a1, .ref 91] am_G0 f2))) (fun k => rfl) ?_)
    refine am_Ew.ite h (fun _ h => ?_) (fun _ h => ?_)
    · exact am_Ew.retI h
    · obtain ⟨f3, h1, h⟩ := am_bV_some h
      refine am_Ew.run (am_Ev.call (fun n => rfl) (lk_X8_laysRule h1) ?_)
      refine am_Ew.start [] 9 (am_Ew.conv (fun k => (am_chk (((6 : Int32) * a1) + a2) 366 (some (some (.int (f3 107 (((6 : Int32) * a1) + a2).toNatClampNeg)), am_G0, f3)))) (fun k => rfl) ?_)
      refine am_Ew.chk h (fun h => ?_)
      exact am_Ew.retI h
set_option maxHeartbeats 400000 in
set_option maxRecDepth 100000 in
theorem lk_X8_candidates_23 {X : am_X} {K : Int32 → Int32 → am_M → Option (Int32 × am_M)} (hK : ∀ (x1 x2 : Int32) (f : am_M) (v' : Int32) (f' : am_M), K x1 x2 f = some (v', f') → ∀ d3 d4 : Option Value, am_Ev X 155 10 [some (.ref 91), some (.int x1), some (.int x2), d3, d4] [] f (some (.int v')) f') : ∀ (n : Nat) (x1 x2 x3 x4 : Int32) (f : am_M) (v' : Int32) (f' : am_M), D_X8_candidates_23 K n x1 x2 x3 x4 f = some (v', f') → am_Ev X 155 23 [some (.ref 91), some (.int x1), some (.int x2), some (.int x3), some (.int x4)] [] f (some (.int v')) f'
  | 0, _, _, _, _, _, _, _, h => by cases h
  | n + 1, x1, x2, x3, x4, f, v', f', h => by
    rw [D_X8_candidates_23] at h
    refine am_Ew.start [10, 23] 27 (am_Ew.conv (fun k => (if x4 < (f 91 11) then (if x3 = 0 then (k 23 [some (.ref 91), some (.int x1), some (.int x2), some (.int 0), some (.int (x4 + 1))] [] am_G0 f) else (am_chk x4 6 (am_chk (((6 : Int32) * (f 99 x4.toNatClampNeg)) + x2) 366 (am_chk x4 6 (if (f 107 (((6 : Int32) * (f 99 x4.toNatClampNeg)) + x2).toNatClampNeg) = (f 100 x4.toNatClampNeg) then (k 23 [some (.ref 91), some (.int x1), some (.int x2), some (.int 1), some (.int (x4 + 1))] [] am_G0 f) else (k 23 [some (.ref 91), some (.int x1), some (.int x2), some (.int 0), some (.int (x4 + 1))] [] am_G0 f)))))) else (if x3 = 0 then (k 10 [some (.ref 91), some (.int (x1 ||| 0)), some (.int (x2 + 1)), some (.int x3), some (.int x4)] [] am_G0 f) else (k 10 [some (.ref 91), some (.int (x1 ||| ((1 : Int32) <<< (x2 &&& 31)))), some (.int (x2 + 1)), some (.int x3), some (.int x4)] [] am_G0 f)))) (fun k => rfl) ?_)
    refine am_Ew.ite h (fun _ h => ?_) (fun _ h => ?_)
    · refine am_Ew.ite h (fun _ h => ?_) (fun _ h => ?_)
      · exact am_Ew.run (lk_X8_candidates_23 hK n _ _ _ _ _ _ _ h )
      · refine am_Ew.chk h (fun h => ?_)
        refine am_Ew.chk h (fun h => ?_)
        refine am_Ew.chk h (fun h => ?_)
        refine am_Ew.ite h (fun _ h => ?_) (fun _ h => ?_)
        · exact am_Ew.run (lk_X8_candidates_23 hK n _ _ _ _ _ _ _ h )
        · exact am_Ew.run (lk_X8_candidates_23 hK n _ _ _ _ _ _ _ h )
    · refine am_Ew.ite h (fun _ h => ?_) (fun _ h => ?_)
      · exact am_Ew.run (hK _ _ _ _ _ h _ _ )
      · exact am_Ew.run (hK _ _ _ _ _ h _ _ )
set_option maxHeartbeats 400000 in
set_option maxRecDepth 100000 in
theorem lk_X8_candidates_10 {X : am_X} : ∀ (n : Nat) (x1 x2 : Int32) (f : am_M) (v' : Int32) (f' : am_M), D_X8_candidates_10 n x1 x2 f = some (v', f') → ∀ d3 d4 : Option Value, am_Ev X 155 10 [some (.ref 91), some (.int x1), some (.int x2), d3, d4] [] f (some (.int v')) f'
  | 0, _, _, _, _, _, h, _, _ => by cases h
  | n + 1, x1, x2, f, v', f', h, d3, d4 => by
    rw [D_X8_candidates_10] at h
    refine am_Ew.start [23] 8 (am_Ew.conv (fun k => (if x2 < (f 91 3) then (k 23 [some (.ref 91), some (.int x1), some (.int x2), some (.int 1), some (.int 0)] [] am_G0 f) else (some (some (.int x1), am_G0, f)))) (fun k => rfl) ?_)
    refine am_Ew.ite h (fun _ h => ?_) (fun _ h => ?_)
    · exact am_Ew.run (lk_X8_candidates_23 (fun y1 y2 f9 v9 f8 h9 e0 e1 => lk_X8_candidates_10 n y1 y2 f9 v9 f8 h9 e0 e1) _ _ _ _ _ _ _ _ h )
    · exact am_Ew.retI h
set_option maxHeartbeats 400000 in
set_option maxRecDepth 100000 in
theorem lk_X8_candidates {X : am_X} {f f' : am_M} {v' : Int32} (h : D_X8_candidates f = some (v', f')) : am_Ev X 155 0 [some (.ref 91), none, none, none, none] [] f (some (.int v')) f' := by
  rw [D_X8_candidates] at h
  refine am_Ew.start [3] 2 (am_Ew.conv (fun k => (k 3 [some (.ref 91), none, none, none, none] [.int 60, .ref 91] am_G0 f)) (fun k => rfl) ?_)
  obtain ⟨f1, h1, h⟩ := am_bV_some h
  refine am_Ew.run (am_Ev.call (fun n => rfl) (lk_X8_laysRule h1) ?_)
  refine am_Ew.start [10] 4 (am_Ew.conv (fun k => (k 10 [some (.ref 91), some (.int 0), some (.int 0), none, none] [] am_G0 f1)) (fun k => rfl) ?_)
  exact am_Ew.run (lk_X8_candidates_10 _ _ _ _ _ _ h _ _ )
set_option maxHeartbeats 400000 in
set_option maxRecDepth 100000 in
theorem lk_X8_tells_106 {X : am_X} : ∀ (n : Nat) (x1 x2 : Int32) (f : am_M) (v' : Int32) (f' : am_M), D_X8_tells_106 n x1 x2 f = some (v', f') → am_Ev X 105 106 [some (.ref 91), some (.int x1), some (.int x2)] [] f (some (.int v')) f'
  | 0, _, _, _, _, _, h => by cases h
  | n + 1, x1, x2, f, v', f', h => by
    rw [D_X8_tells_106] at h
    refine am_Ew.start [106] 24 (am_Ew.conv (fun k => (if x2 < (am_int 1026) then (am_chk x2 1026 (k 106 [some (.ref 91), some (.int x1), some (.int (x2 + 1))] [] am_G0 (am_wr f 95 x2.toNatClampNeg 0))) else (some (some (.int x1), am_G0, (am_wr (am_wr (am_wr (am_wr (am_wr f 91 11 0) 91 8 0) 98 0 0) 98 1 0) 91 15 0))))) (fun k => rfl) ?_)
    refine am_Ew.ite h (fun _ h => ?_) (fun _ h => ?_)
    · refine am_Ew.chk h (fun h => ?_)
      exact am_Ew.run (lk_X8_tells_106  n _ _ _ _ _ h )
    · exact am_Ew.retI h
set_option maxHeartbeats 400000 in
set_option maxRecDepth 100000 in
theorem lk_X8_tells_68 {X : am_X} : ∀ (n : Nat) (x1 x2 : Int32) (f : am_M) (v' : Int32) (f' : am_M), D_X8_tells_68 n x1 x2 f = some (v', f') → am_Ev X 105 68 [some (.ref 91), some (.int x1), some (.int x2)] [] f (some (.int v')) f'
  | 0, _, _, _, _, _, h => by cases h
  | n + 1, x1, x2, f, v', f', h => by
    rw [D_X8_tells_68] at h
    refine am_Ew.start [68, 106] 21 (am_Ew.conv (fun k => (if x2 < 6 then (am_chk x2 6 (am_chk x2 6 (am_chk x2 6 (am_chk x2 6 (k 68 [some (.ref 91), some (.int x1), some (.int (x2 + 1))] [] am_G0 (am_wr (am_wr f 93 x2.toNatClampNeg (f 103 x2.toNatClampNeg)) 94 x2.toNatClampNeg (f 104 x2.toNatClampNeg))))))) else (k 106 [some (.ref 91), some (.int x1), some (.int 0)] [] am_G0 f))) (fun k => rfl) ?_)
    refine am_Ew.ite h (fun _ h => ?_) (fun _ h => ?_)
    · refine am_Ew.chk h (fun h => ?_)
      refine am_Ew.chk h (fun h => ?_)
      refine am_Ew.chk h (fun h => ?_)
      refine am_Ew.chk h (fun h => ?_)
      exact am_Ew.run (lk_X8_tells_68  n _ _ _ _ _ h )
    · exact am_Ew.run (lk_X8_tells_106 _ _ _ _ _ _ h )
set_option maxHeartbeats 400000 in
set_option maxRecDepth 100000 in
theorem lk_X8_tells_43 {X : am_X} : ∀ (n : Nat) (x1 x2 : Int32) (f : am_M) (v' : Int32) (f' : am_M), D_X8_tells_43 n x1 x2 f = some (v', f') → am_Ev X 105 43 [some (.ref 91), some (.int x1), some (.int x2)] [] f (some (.int v')) f'
  | 0, _, _, _, _, _, h => by cases h
  | n + 1, x1, x2, f, v', f', h => by
    rw [D_X8_tells_43] at h
    refine am_Ew.start [43, 68] 13 (am_Ew.conv (fun k => (if x2 < 3 then (am_chk x2 3 (am_chk x2 3 (k 43 [some (.ref 91), some (.int x1), some (.int (x2 + 1))] [] am_G0 (am_wr f 92 x2.toNatClampNeg (f 102 x2.toNatClampNeg))))) else (k 68 [some (.ref 91), some (.int x1), some (.int 0)] [] am_G0 f))) (fun k => rfl) ?_)
    refine am_Ew.ite h (fun _ h => ?_) (fun _ h => ?_)
    · refine am_Ew.chk h (fun h => ?_)
      refine am_Ew.chk h (fun h => ?_)
      exact am_Ew.run (lk_X8_tells_43  n _ _ _ _ _ h )
    · exact am_Ew.run (lk_X8_tells_68 _ _ _ _ _ _ h )
set_option maxHeartbeats 400000 in
set_option maxRecDepth 100000 in
theorem lk_X8_tells {X : am_X} {f f' : am_M} {v' : Int32} (h : D_X8_tells f = some (v', f')) : am_Ev X 105 0 [some (.ref 91), none, none] [] f (some (.int v')) f' := by
  rw [D_X8_tells] at h
  refine am_Ew.start [1] 1 (am_Ew.conv (fun k => (k 1 [some (.ref 91), none, none] [.ref 91] am_G0 f)) (fun k => rfl) ?_)
  obtain ⟨v1, f1, h1, h⟩ := am_bI_some h
  refine am_Ew.run (am_Ev.call (fun n => rfl) (lk_X8_reads h1) ?_)
  refine am_Ew.start [43] 17 (am_Ew.conv (fun k => (if v1 < 0 then (some (some (.int (((-10) : Int32) - (f1 91 17))), am_G0, f1)) else (k 43 [some (.ref 91), some (.int v1), some (.int 0)] [] am_G0 (am_wr (am_wr (am_wr f1 91 0 (f1 91 19)) 91 1 (f1 91 20)) 91 3 (f1 91 21))))) (fun k => rfl) ?_)
  refine am_Ew.ite h (fun _ h => ?_) (fun _ h => ?_)
  · exact am_Ew.retI h
  · exact am_Ew.run (lk_X8_tells_43 _ _ _ _ _ _ h )
set_option maxHeartbeats 400000 in
set_option maxRecDepth 100000 in
theorem lk_X8_rule {X : am_X} {a1 a2 : Int32} {f f' : am_M} {v' : Int32} (h : D_X8_rule a1 a2 f = some (v', f')) : am_Ev X 150 0 [some (.ref 91), some (.int a1), some (.int a2)] [] f (some (.int v')) f' := by
  rw [D_X8_rule] at h
  refine am_Ew.start [1] 1 (am_Ew.conv (fun k => (k 1 [some (.ref 91), some (.int a1), some (.int a2)] [.int a1] am_G0 f)) (fun k => rfl) ?_)
  obtain ⟨v1, f1, h1, h⟩ := am_bI_some h
  refine am_Ew.run (am_Ev.call (fun n => rfl) (lk_X8_isTicks h1) ?_)
  refine am_Ew.start [10] 4 (am_Ew.conv (fun k => (if v1 = 0 then (some (some (.int (-1)), am_G0, f1)) else (k 10 [some (.ref 91), some (.int a1), some (.int a2)] [.int 3, .int 0, .int a2] am_G0 f1))) (fun k => rfl) ?_)
  refine am_Ew.ite h (fun _ h => ?_) (fun _ h => ?_)
  · exact am_Ew.retI h
  · obtain ⟨v2, f2, h1, h⟩ := am_bI_some h
    refine am_Ew.run (am_Ev.call (fun n => rfl) (lk_X8_within h1) ?_)
    refine am_Ew.start [19] 4 (am_Ew.conv (fun k => (if v2 = 0 then (some (some (.int (-1)), am_G0, f2)) else (k 19 [some (.ref 91), some (.int a1), some (.int a2)] [.int a2, .int a1, .ref 91] am_G0 f2))) (fun k => rfl) ?_)
    refine am_Ew.ite h (fun _ h => ?_) (fun _ h => ?_)
    · exact am_Ew.retI h
    · obtain ⟨v3, f3, h1, h⟩ := am_bI_some h
      refine am_Ew.run (am_Ev.call (fun n => rfl) (lk_X8_tellRule h1) ?_)
      refine am_Ew.start [] 2 (am_Ew.conv (fun k => (some (some (.int v3), am_G0, f3))) (fun k => rfl) ?_)
      exact am_Ew.retI h
set_option maxHeartbeats 400000 in
set_option maxRecDepth 100000 in
theorem lk_X8_which {X : am_X} {f f' : am_M} {v' : Int32} (h : D_X8_which f = some (v', f')) : am_Ev X 156 0 [some (.ref 91)] [] f (some (.int v')) f' := by
  rw [D_X8_which] at h
  refine am_Ew.start [1] 1 (am_Ew.conv (fun k => (k 1 [some (.ref 91)] [.ref 91] am_G0 f)) (fun k => rfl) ?_)
  obtain ⟨v1, f1, h1, h⟩ := am_bI_some h
  refine am_Ew.run (am_Ev.call (fun n => rfl) (lk_X8_candidates h1) ?_)
  refine am_Ew.start [] 1 (am_Ew.conv (fun k => (some (some (.int v1), am_G0, f1))) (fun k => rfl) ?_)
  exact am_Ew.retI h
set_option maxHeartbeats 400000 in
set_option maxRecDepth 100000 in
theorem lk_X8_look_20 {X : am_X} : ∀ (n : Nat) (x1 x2 x3 : Int32) (f : am_M) (v' : Int32) (f' : am_M), D_X8_look_20 n x1 x2 x3 f = some (v', f') → am_Ev X 158 20 [some (.ref 91), some (.int x1), some (.int x2), some (.int x3)] [] f (some (.int v')) f'
  | 0, _, _, _, _, _, _, h => by cases h
  | n + 1, x1, x2, x3, f, v', f', h => by
    rw [D_X8_look_20] at h
    refine am_Ew.start [29] 6 (am_Ew.conv (fun k => (if 60 < x3 then (some (some (.int x2), am_G0, f)) else (k 29 [some (.ref 91), some (.int x1), some (.int x2), some (.int x3)] [.int x3, .int x1, .ref 91] am_G0 f))) (fun k => rfl) ?_)
    refine am_Ew.ite h (fun _ h => ?_) (fun _ h => ?_)
    · exact am_Ew.retI h
    · obtain ⟨v2, f2, h1, h⟩ := am_bI_some h
      refine am_Ew.run (am_Ev.call (fun n => rfl) (lk_X8_mostAlike h1) ?_)
      refine am_Ew.start [35] 3 (am_Ew.conv (fun k => (k 35 [some (.ref 91), some (.int x1), some (.int x2), some (.int x3)] [.int x2, .int x1, .ref 91, .int v2] am_G0 f2)) (fun k => rfl) ?_)
      obtain ⟨v3, f3, h1, h⟩ := am_bI_some h
      refine am_Ew.run (am_Ev.call (fun n => rfl) (lk_X8_mostAlike h1) ?_)
      refine am_Ew.start [20] 6 (am_Ew.conv (fun k => (if v2 < v3 then (k 20 [some (.ref 91), some (.int x1), some (.int x3), some (.int (x3 + 1))] [] am_G0 f3) else (k 20 [some (.ref 91), some (.int x1), some (.int x2), some (.int (x3 + 1))] [] am_G0 f3))) (fun k => rfl) ?_)
      refine am_Ew.ite h (fun _ h => ?_) (fun _ h => ?_)
      · exact am_Ew.run (lk_X8_look_20  n _ _ _ _ _ _ h )
      · exact am_Ew.run (lk_X8_look_20  n _ _ _ _ _ _ h )
set_option maxHeartbeats 400000 in
set_option maxRecDepth 100000 in
theorem lk_X8_look {X : am_X} {f f' : am_M} {v' : Int32} (h : D_X8_look f = some (v', f')) : am_Ev X 158 0 [some (.ref 91), none, none, none] [] f (some (.int v')) f' := by
  rw [D_X8_look] at h
  refine am_Ew.start [1] 1 (am_Ew.conv (fun k => (k 1 [some (.ref 91), none, none, none] [.ref 91] am_G0 f)) (fun k => rfl) ?_)
  obtain ⟨v1, f1, h1, h⟩ := am_bI_some h
  refine am_Ew.run (am_Ev.call (fun n => rfl) (lk_X8_candidates h1) ?_)
  refine am_Ew.start [20] 11 (am_Ew.conv (fun k => (if (v1 &&& (v1 - 1)) = 0 then (some (some (.int (-9)), am_G0, f1)) else (k 20 [some (.ref 91), some (.int v1), some (.int 0), some (.int 1)] [] am_G0 f1))) (fun k => rfl) ?_)
  refine am_Ew.ite h (fun _ h => ?_) (fun _ h => ?_)
  · exact am_Ew.retI h
  · exact am_Ew.run (lk_X8_look_20 _ _ _ _ _ _ _ h )
