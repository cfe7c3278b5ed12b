set_option maxHeartbeats 400000 in
set_option maxRecDepth 100000 in
theorem lk_X7_clear {X : am_X} {f f' : am_M} {v' : Int32} (h : D_X7_clear f = some (v', f')) : am_Ev X 64 0 [some (.ref 0), none] [] f (some (.int v')) f' := by
  rw [D_X7_clear] at h
  refine am_Ew.start [] 10 (am_Ew.conv (fun k => (some (some (.int (f 1 1)), am_G0, (am_wr f 1 1 0)))) (fun k => rfl) ?_)
  exact am_Ew.retI h
set_option maxHeartbeats 400000 in
set_option maxRecDepth 100000 in
theorem lk_X7_isTicks {X : am_X} {a0 : Int32} {f f' : am_M} {v' : Int32} (h : D_X7_isTicks a0 f = some (v', f')) : am_Ev X 81 0 [some (.int a0)] [] f (some (.int v')) f' := by
  rw [D_X7_isTicks] at h
  refine am_Ew.start [] 8 (am_Ew.conv (fun k => (if a0 < 0 then (some (some (.int 0), am_G0, f)) else (if 60 < a0 then (some (some (.int 0), am_G0, f)) else (some (some (.int 1), am_G0, f))))) (fun k => rfl) ?_)
  refine am_Ew.ite h (fun _ h => ?_) (fun _ h => ?_)
  · exact am_Ew.retI h
  · refine am_Ew.ite h (fun _ h => ?_) (fun _ h => ?_)
    · exact am_Ew.retI h
    · exact am_Ew.retI h
set_option maxHeartbeats 400000 in
set_option maxRecDepth 100000 in
theorem lk_X7_forget {X : am_X} {f f' : am_M} {v' : Int32} (h : D_X7_forget f = some (v', f')) : am_Ev X 83 0 [some (.ref 0), none] [] f (some (.int v')) f' := by
  rw [D_X7_forget] at h
  refine am_Ew.start [] 10 (am_Ew.conv (fun k => (some (some (.int (f 88 2)), am_G0, (am_wr f 88 2 0)))) (fun k => rfl) ?_)
  exact am_Ew.retI h
set_option maxHeartbeats 400000 in
set_option maxRecDepth 100000 in
theorem lk_X7_type {X : am_X} {a1 : Int32} {f f' : am_M} {v' : Int32} (h : D_X7_type a1 f = some (v', f')) : am_Ev X 63 0 [some (.ref 0), some (.int a1)] [] f (some (.int v')) f' := by
  rw [D_X7_type] at h
  refine am_Ew.start [18] 8 (am_Ew.conv (fun k => (if a1 < 0 then (some (some (.int (-1)), am_G0, f)) else (if (am_int 255) < a1 then (some (some (.int (-1)), am_G0, f)) else (k 18 [some (.ref 0), some (.int a1)] [.int a1, .ref 1] am_G0 f)))) (fun k => rfl) ?_)
  refine am_Ew.ite h (fun _ h => ?_) (fun _ h => ?_)
  · exact am_Ew.retI h
  · refine am_Ew.ite h (fun _ h => ?_) (fun _ h => ?_)
    · exact am_Ew.retI h
    · obtain ⟨v1, f1, h1, h⟩ := am_bI_some h
      refine am_Ew.run (am_Ev.call (fun n => rfl) (lk_X5_append h1) ?_)
      refine am_Ew.start [] 6 (am_Ew.conv (fun k => (if v1 = 0 then (some (some (.int (-3)), am_G0, f1)) else (some (some (.int (f1 1 1)), am_G0, f1)))) (fun k => rfl) ?_)
      refine am_Ew.ite h (fun _ h => ?_) (fun _ h => ?_)
      · exact am_Ew.retI h
      · exact am_Ew.retI h
set_option maxHeartbeats 400000 in
set_option maxRecDepth 100000 in
theorem lk_X7_event {X : am_X} {a1 a2 : Int32} {f f' : am_M} {v' : Int32} (h : D_X7_event a1 a2 f = some (v', f')) : am_Ev X 73 0 [some (.ref 0), some (.int a1), some (.int a2)] [] f (some (.int v')) f' := by
  rw [D_X7_event] at h
  refine am_Ew.start [5] 3 (am_Ew.conv (fun k => (k 5 [some (.ref 0), some (.int a1), some (.int a2)] [.int a1, .ref 11] am_G0 f)) (fun k => rfl) ?_)
  obtain ⟨v1, f1, h1, h⟩ := am_bI_some h
  refine am_Ew.run (am_Ev.call (fun n => rfl) (lk_X4_hasEvent_11 h1) ?_)
  refine am_Ew.start [45, 54, 63] 6 (am_Ew.conv (fun k => (if v1 = 0 then (some (some (.int (-1)), am_G0, f1)) else (if a2 = 0 then (k 45 [some (.ref 0), some (.int a1), some (.int a2)] [.int a1, .ref 11] am_G0 f1) else (if a2 = 1 then (k 54 [some (.ref 0), some (.int a1), some (.int a2)] [.int a1, .ref 11] am_G0 f1) else (if a2 = 2 then (k 63 [some (.ref 0), some (.int a1), some (.int a2)] [.int a1, .ref 11] am_G0 f1) else (some (some (.int (-1)), am_G0, f1))))))) (fun k => rfl) ?_)
  refine am_Ew.ite h (fun _ h => ?_) (fun _ h => ?_)
  · exact am_Ew.retI h
  · refine am_Ew.ite h (fun _ h => ?_) (fun _ h => ?_)
    · obtain ⟨v2, f2, h1, h⟩ := am_bI_some h
      refine am_Ew.run (am_Ev.call (fun n => rfl) (lk_X4_kindOf_11 h1) ?_)
      refine am_Ew.start [] 1 (am_Ew.conv (fun k => (some (some (.int v2), am_G0, f2))) (fun k => rfl) ?_)
      exact am_Ew.retI h
    · refine am_Ew.ite h (fun _ h => ?_) (fun _ h => ?_)
      · obtain ⟨v3, f3, h1, h⟩ := am_bI_some h
        refine am_Ew.run (am_Ev.call (fun n => rfl) (lk_X4_makerOf_11 h1) ?_)
        refine am_Ew.start [] 1 (am_Ew.conv (fun k => (some (some (.int v3), am_G0, f3))) (fun k => rfl) ?_)
        exact am_Ew.retI h
      · refine am_Ew.ite h (fun _ h => ?_) (fun _ h => ?_)
        · obtain ⟨v4, f4, h1, h⟩ := am_bI_some h
          refine am_Ew.run (am_Ev.call (fun n => rfl) (lk_X4_kindOf_11 h1) ?_)
          refine am_Ew.start [75] 5 (am_Ew.conv (fun k => (if v4 = 1 then (k 75 [some (.ref 0), some (.int a1), some (.int a2)] [.int a1, .ref 11] am_G0 f4) else (some (some (.int (-9)), am_G0, f4)))) (fun k => rfl) ?_)
          refine am_Ew.ite h (fun _ h => ?_) (fun _ h => ?_)
          · obtain ⟨v5, f5, h1, h⟩ := am_bI_some h
            refine am_Ew.run (am_Ev.call (fun n => rfl) (lk_X4_valueOf_11 h1) ?_)
            refine am_Ew.start [] 2 (am_Ew.conv (fun k => (some (some (.int v5), am_G0, f5))) (fun k => rfl) ?_)
            exact am_Ew.retI h
          · exact am_Ew.retI h
        · exact am_Ew.retI h
set_option maxHeartbeats 400000 in
set_option maxRecDepth 100000 in
theorem lk_X7_steps {X : am_X} {f f' : am_M} {v' : Int32} (h : D_X7_steps f = some (v', f')) : am_Ev X 77 0 [some (.ref 0)] [] f (some (.int v')) f' := by
  rw [D_X7_steps] at h
  refine am_Ew.start [4] 2 (am_Ew.conv (fun k => (k 4 [some (.ref 0)] [.ref 11] am_G0 f)) (fun k => rfl) ?_)
  obtain ⟨v1, f1, h1, h⟩ := am_bI_some h
  refine am_Ew.run (am_Ev.call (fun n => rfl) (lk_X4_takesToAdmitFirst_11 h1) ?_)
  refine am_Ew.start [] 1 (am_Ew.conv (fun k => (some (some (.int v1), am_G0, f1))) (fun k => rfl) ?_)
  exact am_Ew.retI h
set_option maxHeartbeats 400000 in
set_option maxRecDepth 100000 in
theorem lk_X7_sees {X : am_X} {a1 a2 : Int32} {f f' : am_M} {v' : Int32} (h : D_X7_sees a1 a2 f = some (v', f')) : am_Ev X 82 0 [some (.ref 0), some (.int a1), some (.int a2)] [] f (some (.int v')) f' := by
  rw [D_X7_sees] at h
  refine am_Ew.start [1] 1 (am_Ew.conv (fun k => (k 1 [some (.ref 0), some (.int a1), some (.int a2)] [.int a1] am_G0 f)) (fun k => rfl) ?_)
  obtain ⟨v1, f1, h1, h⟩ := am_bI_some h
  refine am_Ew.run (am_Ev.call (fun n => rfl) (lk_X7_isTicks h1) ?_)
  refine am_Ew.start [26] 10 (am_Ew.conv (fun k => (if v1 = 0 then (some (some (.int (-1)), am_G0, f1)) else (if a2 < 0 then (some (some (.int (-1)), am_G0, f1)) else (if (am_int 9999) < a2 then (some (some (.int (-1)), am_G0, f1)) else (k 26 [some (.ref 0), some (.int a1), some (.int a2)] [.int a2, .int a1, .ref 88] am_G0 f1))))) (fun k => rfl) ?_)
  refine am_Ew.ite h (fun _ h => ?_) (fun _ h => ?_)
  · exact am_Ew.retI h
  · refine am_Ew.ite h (fun _ h => ?_) (fun _ h => ?_)
    · exact am_Ew.retI h
    · refine am_Ew.ite h (fun _ h => ?_) (fun _ h => ?_)
      · exact am_Ew.retI h
      · obtain ⟨v2, f2, h1, h⟩ := am_bI_some h
        refine am_Ew.run (am_Ev.call (fun n => rfl) (lk_X3_add h1) ?_)
        refine am_Ew.start [] 6 (am_Ew.conv (fun k => (if v2 = 0 then (some (some (.int (-3)), am_G0, f2)) else (some (some (.int (f2 88 2)), am_G0, f2)))) (fun k => rfl) ?_)
        refine am_Ew.ite h (fun _ h => ?_) (fun _ h => ?_)
        · exact am_Ew.retI h
        · exact am_Ew.retI h
set_option maxHeartbeats 400000 in
set_option maxRecDepth 100000 in
theorem lk_X7_taker {X : am_X} {a1 a2 : Int32} {f f' : am_M} {v' : Int32} (h : D_X7_taker a1 a2 f = some (v', f')) : am_Ev X 74 0 [some (.ref 0), some (.int a1), some (.int a2)] [] f (some (.int v')) f' := by
  rw [D_X7_taker] at h
  refine am_Ew.start [5] 3 (am_Ew.conv (fun k => (k 5 [some (.ref 0), some (.int a1), some (.int a2)] [.int a1, .ref 3] am_G0 f)) (fun k => rfl) ?_)
  obtain ⟨v1, f1, h1, h⟩ := am_bI_some h
  refine am_Ew.run (am_Ev.call (fun n => rfl) (lk_X6_hasTaker h1) ?_)
  refine am_Ew.start [91] 13 (am_Ew.conv (fun k => (if v1 = 0 then (some (some (.int (-1)), am_G0, f1)) else (if a2 = 0 then (am_chk a1 6 (some (some (.int (f1 5 a1.toNatClampNeg)), am_G0, f1))) else (if a2 = 1 then (am_chk a1 6 (some (some (.int (f1 6 a1.toNatClampNeg)), am_G0, f1))) else (if a2 = 2 then (am_chk a1 6 (some (some (.int (f1 12 a1.toNatClampNeg)), am_G0, f1))) else (if a2 = 3 then (k 91 [some (.ref 0), some (.int a1), some (.int a2)] [.int a1, .ref 11] am_G0 f1) else (if a2 = 4 then (am_chk a1 6 (some (some (.int ((f1 11 3) - (f1 12 a1.toNatClampNeg))), am_G0, f1))) else (if a2 = 5 then (am_chk a1 6 (some (some (.int (f1 13 a1.toNatClampNeg)), am_G0, f1))) else (if a2 = 6 then (am_chk a1 6 (some (some (.int (f1 14 a1.toNatClampNeg)), am_G0, f1))) else (some (some (.int (-1)), am_G0, f1))))))))))) (fun k => rfl) ?_)
  refine am_Ew.ite h (fun _ h => ?_) (fun _ h => ?_)
  · exact am_Ew.retI h
  · refine am_Ew.ite h (fun _ h => ?_) (fun _ h => ?_)
    · refine am_Ew.chk h (fun h => ?_)
      exact am_Ew.retI h
    · refine am_Ew.ite h (fun _ h => ?_) (fun _ h => ?_)
      · refine am_Ew.chk h (fun h => ?_)
        exact am_Ew.retI h
      · refine am_Ew.ite h (fun _ h => ?_) (fun _ h => ?_)
        · refine am_Ew.chk h (fun h => ?_)
          exact am_Ew.retI h
        · refine am_Ew.ite h (fun _ h => ?_) (fun _ h => ?_)
          · obtain ⟨v2, f2, h1, h⟩ := am_bI_some h
            refine am_Ew.run (am_Ev.call (fun n => rfl) (lk_X4_atMost_11 h1) ?_)
            refine am_Ew.start [] 1 (am_Ew.conv (fun k => (some (some (.int v2), am_G0, f2))) (fun k => rfl) ?_)
            exact am_Ew.retI h
          · refine am_Ew.ite h (fun _ h => ?_) (fun _ h => ?_)
            · refine am_Ew.chk h (fun h => ?_)
              exact am_Ew.retI h
            · refine am_Ew.ite h (fun _ h => ?_) (fun _ h => ?_)
              · refine am_Ew.chk h (fun h => ?_)
                exact am_Ew.retI h
              · refine am_Ew.ite h (fun _ h => ?_) (fun _ h => ?_)
                · refine am_Ew.chk h (fun h => ?_)
                  exact am_Ew.retI h
                · exact am_Ew.retI h
set_option maxHeartbeats 400000 in
set_option maxRecDepth 100000 in
theorem lk_X7_maker {X : am_X} {a1 a2 : Int32} {f f' : am_M} {v' : Int32} (h : D_X7_maker a1 a2 f = some (v', f')) : am_Ev X 75 0 [some (.ref 0), some (.int a1), some (.int a2)] [] f (some (.int v')) f' := by
  rw [D_X7_maker] at h
  refine am_Ew.start [5] 3 (am_Ew.conv (fun k => (k 5 [some (.ref 0), some (.int a1), some (.int a2)] [.int a1, .ref 3] am_G0 f)) (fun k => rfl) ?_)
  obtain ⟨v1, f1, h1, h⟩ := am_bI_some h
  refine am_Ew.run (am_Ev.call (fun n => rfl) (lk_X6_hasMaker h1) ?_)
  refine am_Ew.start [69, 78] 9 (am_Ew.conv (fun k => (if v1 = 0 then (some (some (.int (-1)), am_G0, f1)) else (if a2 = 0 then (am_chk a1 3 (some (some (.int (f1 4 a1.toNatClampNeg)), am_G0, f1))) else (if a2 = 1 then (am_chk a1 3 (some (some (.int (f1 16 a1.toNatClampNeg)), am_G0, f1))) else (if a2 = 2 then (k 69 [some (.ref 0), some (.int a1), some (.int a2)] [.int a1, .ref 11] am_G0 f1) else (if a2 = 3 then (k 78 [some (.ref 0), some (.int a1), some (.int a2)] [.int a1, .ref 11] am_G0 f1) else (some (some (.int (-1)), am_G0, f1)))))))) (fun k => rfl) ?_)
  refine am_Ew.ite h (fun _ h => ?_) (fun _ h => ?_)
  · exact am_Ew.retI h
  · refine am_Ew.ite h (fun _ h => ?_) (fun _ h => ?_)
    · refine am_Ew.chk h (fun h => ?_)
      exact am_Ew.retI h
    · refine am_Ew.ite h (fun _ h => ?_) (fun _ h => ?_)
      · refine am_Ew.chk h (fun h => ?_)
        exact am_Ew.retI h
      · refine am_Ew.ite h (fun _ h => ?_) (fun _ h => ?_)
        · obtain ⟨v2, f2, h1, h⟩ := am_bI_some h
          refine am_Ew.run (am_Ev.call (fun n => rfl) (lk_X4_placeInRow_11 h1) ?_)
          refine am_Ew.start [] 1 (am_Ew.conv (fun k => (some (some (.int v2), am_G0, f2))) (fun k => rfl) ?_)
          exact am_Ew.retI h
        · refine am_Ew.ite h (fun _ h => ?_) (fun _ h => ?_)
          · obtain ⟨v3, f3, h1, h⟩ := am_bI_some h
            refine am_Ew.run (am_Ev.call (fun n => rfl) (lk_X4_openOf_11 h1) ?_)
            refine am_Ew.start [] 1 (am_Ew.conv (fun k => (some (some (.int v3), am_G0, f3))) (fun k => rfl) ?_)
            exact am_Ew.retI h
          · exact am_Ew.retI h
set_option maxHeartbeats 400000 in
set_option maxRecDepth 100000 in
theorem lk_X7_keep {X : am_X} {a1 : Int32} {f f' : am_M} {v' : Int32} (h : D_X7_keep a1 f = some (v', f')) : am_Ev X 86 0 [some (.ref 0), some (.int a1), none] [] f (some (.int v')) f' := by
  rw [D_X7_keep] at h
  refine am_Ew.start [13] 7 (am_Ew.conv (fun k => (if a1 = 0 then (k 13 [some (.ref 0), some (.int a1), none] [.int a1, .ref 0] am_G0 f) else (if a1 = 1 then (k 13 [some (.ref 0), some (.int a1), none] [.int a1, .ref 0] am_G0 f) else (some (some (.int (-1)), am_G0, f))))) (fun k => rfl) ?_)
  refine am_Ew.ite h (fun _ h => ?_) (fun _ h => ?_)
  · by_cases c9 : a1 = 0
    · rw [if_pos c9] at h
      refine am_Ew.run (am_Ev.call (fun n => rfl) (lk_img_0 c9) ?_)
      refine am_Ew.start [25] 5 (am_Ew.conv (fun k => (k 25 [some (.ref 0), some (.int a1), some (.ref 63)] [.ref 11, .ref 64] am_G0 f)) (fun k => rfl) ?_)
      obtain ⟨f2, h1, h⟩ := am_bV_some h
      refine am_Ew.run (am_Ev.call (fun n => rfl) (lk_X4_copyFrom_64_11 h1) ?_)
      refine am_Ew.start [] 7 (am_Ew.conv (fun k => (some (some (.int (f2 11 2)), am_G0, (am_wr f2 63 1 1)))) (fun k => rfl) ?_)
      exact am_Ew.retI h
    · rw [if_neg c9] at h
      refine am_Ew.run (am_Ev.call (fun n => rfl) (lk_img_1 c9) ?_)
      refine am_Ew.start [25] 5 (am_Ew.conv (fun k => (k 25 [some (.ref 0), some (.int a1), some (.ref 71)] [.ref 11, .ref 72] am_G0 f)) (fun k => rfl) ?_)
      obtain ⟨f3, h1, h⟩ := am_bV_some h
      refine am_Ew.run (am_Ev.call (fun n => rfl) (lk_X4_copyFrom_72_11 h1) ?_)
      refine am_Ew.start [] 7 (am_Ew.conv (fun k => (some (some (.int (f3 11 2)), am_G0, (am_wr f3 71 1 1)))) (fun k => rfl) ?_)
      exact am_Ew.retI h
  · refine am_Ew.ite h (fun _ h => ?_) (fun _ h => ?_)
    · by_cases c9 : a1 = 0
      · rw [if_pos c9] at h
        refine am_Ew.run (am_Ev.call (fun n => rfl) (lk_img_0 c9) ?_)
        refine am_Ew.start [25] 5 (am_Ew.conv (fun k => (k 25 [some (.ref 0), some (.int a1), some (.ref 63)] [.ref 11, .ref 64] am_G0 f)) (fun k => rfl) ?_)
        obtain ⟨f5, h1, h⟩ := am_bV_some h
        refine am_Ew.run (am_Ev.call (fun n => rfl) (lk_X4_copyFrom_64_11 h1) ?_)
        refine am_Ew.start [] 7 (am_Ew.conv (fun k => (some (some (.int (f5 11 2)), am_G0, (am_wr f5 63 1 1)))) (fun k => rfl) ?_)
        exact am_Ew.retI h
      · rw [if_neg c9] at h
        refine am_Ew.run (am_Ev.call (fun n => rfl) (lk_img_1 c9) ?_)
        refine am_Ew.start [25] 5 (am_Ew.conv (fun k => (k 25 [some (.ref 0), some (.int a1), some (.ref 71)] [.ref 11, .ref 72] am_G0 f)) (fun k => rfl) ?_)
        obtain ⟨f6, h1, h⟩ := am_bV_some h
        refine am_Ew.run (am_Ev.call (fun n => rfl) (lk_X4_copyFrom_72_11 h1) ?_)
        refine am_Ew.start [] 7 (am_Ew.conv (fun k => (some (some (.int (f6 11 2)), am_G0, (am_wr f6 71 1 1)))) (fun k => rfl) ?_)
        exact am_Ew.retI h
    · exact am_Ew.retI h
set_option maxHeartbeats 400000 in
set_option maxRecDepth 100000 in
theorem lk_X7_back {X : am_X} {a1 : Int32} {f f' : am_M} {v' : Int32} (h : D_X7_back a1 f = some (v', f')) : am_Ev X 87 0 [some (.ref 0), some (.int a1), none] [] f (some (.int v')) f' := by
  rw [D_X7_back] at h
  refine am_Ew.start [13] 7 (am_Ew.conv (fun k => (if a1 = 0 then (k 13 [some (.ref 0), some (.int a1), none] [.int a1, .ref 0] am_G0 f) else (if a1 = 1 then (k 13 [some (.ref 0), some (.int a1), none] [.int a1, .ref 0] am_G0 f) else (some (some (.int (-1)), am_G0, f))))) (fun k => rfl) ?_)
  refine am_Ew.ite h (fun _ h => ?_) (fun _ h => ?_)
  · by_cases c9 : a1 = 0
    · rw [if_pos c9] at h
      refine am_Ew.run (am_Ev.call (fun n => rfl) (lk_img_0 c9) ?_)
      refine am_Ew.start [35] 8 (am_Ew.conv (fun k => (if (f 63 1) = 0 then (some (some (.int (-2)), am_G0, f)) else (k 35 [some (.ref 0), some (.int a1), some (.ref 63)] [.ref 64, .ref 11] am_G0 f))) (fun k => rfl) ?_)
      refine am_Ew.ite h (fun _ h => ?_) (fun _ h => ?_)
      · exact am_Ew.retI h
      · obtain ⟨f2, h1, h⟩ := am_bV_some h
        refine am_Ew.run (am_Ev.call (fun n => rfl) (lk_X4_copyFrom_11_64 h1) ?_)
        refine am_Ew.start [] 8 (am_Ew.conv (fun k => (some (some (.int (f2 11 2)), am_G0, (am_wr f2 18 3 0)))) (fun k => rfl) ?_)
        exact am_Ew.retI h
    · rw [if_neg c9] at h
      refine am_Ew.run (am_Ev.call (fun n => rfl) (lk_img_1 c9) ?_)
      refine am_Ew.start [35] 8 (am_Ew.conv (fun k => (if (f 71 1) = 0 then (some (some (.int (-2)), am_G0, f)) else (k 35 [some (.ref 0), some (.int a1), some (.ref 71)] [.ref 72, .ref 11] am_G0 f))) (fun k => rfl) ?_)
      refine am_Ew.ite h (fun _ h => ?_) (fun _ h => ?_)
      · exact am_Ew.retI h
      · obtain ⟨f3, h1, h⟩ := am_bV_some h
        refine am_Ew.run (am_Ev.call (fun n => rfl) (lk_X4_copyFrom_11_72 h1) ?_)
        refine am_Ew.start [] 8 (am_Ew.conv (fun k => (some (some (.int (f3 11 2)), am_G0, (am_wr f3 18 3 0)))) (fun k => rfl) ?_)
        exact am_Ew.retI h
  · refine am_Ew.ite h (fun _ h => ?_) (fun _ h => ?_)
    · by_cases c9 : a1 = 0
      · rw [if_pos c9] at h
        refine am_Ew.run (am_Ev.call (fun n => rfl) (lk_img_0 c9) ?_)
        refine am_Ew.start [35] 8 (am_Ew.conv (fun k => (if (f 63 1) = 0 then (some (some (.int (-2)), am_G0, f)) else (k 35 [some (.ref 0), some (.int a1), some (.ref 63)] [.ref 64, .ref 11] am_G0 f))) (fun k => rfl) ?_)
        refine am_Ew.ite h (fun _ h => ?_) (fun _ h => ?_)
        · exact am_Ew.retI h
        · obtain ⟨f5, h1, h⟩ := am_bV_some h
          refine am_Ew.run (am_Ev.call (fun n => rfl) (lk_X4_copyFrom_11_64 h1) ?_)
          refine am_Ew.start [] 8 (am_Ew.conv (fun k => (some (some (.int (f5 11 2)), am_G0, (am_wr f5 18 3 0)))) (fun k => rfl) ?_)
          exact am_Ew.retI h
      · rw [if_neg c9] at h
        refine am_Ew.run (am_Ev.call (fun n => rfl) (lk_img_1 c9) ?_)
        refine am_Ew.start [35] 8 (am_Ew.conv (fun k => (if (f 71 1) = 0 then (some (some (.int (-2)), am_G0, f)) else (k 35 [some (.ref 0), some (.int a1), some (.ref 71)] [.ref 72, .ref 11] am_G0 f))) (fun k => rfl) ?_)
        refine am_Ew.ite h (fun _ h => ?_) (fun _ h => ?_)
        · exact am_Ew.retI h
        · obtain ⟨f6, h1, h⟩ := am_bV_some h
          refine am_Ew.run (am_Ev.call (fun n => rfl) (lk_X4_copyFrom_11_72 h1) ?_)
          refine am_Ew.start [] 8 (am_Ew.conv (fun k => (some (some (.int (f6 11 2)), am_G0, (am_wr f6 18 3 0)))) (fun k => rfl) ?_)
          exact am_Ew.retI h
    · exact am_Ew.retI h
set_option maxHeartbeats 400000 in
set_option maxRecDepth 100000 in
theorem lk_X7_count {X : am_X} {a1 : Int32} {f f' : am_M} {v' : Int32} (h : D_X7_count a1 f = some (v', f')) : am_Ev X 89 0 [some (.ref 0), some (.int a1)] [] f (some (.int v')) f' := by
  rw [D_X7_count] at h
  refine am_Ew.start [104, 112] 6 (am_Ew.conv (fun k => (if a1 = 0 then (some (some (.int (f 3 0)), am_G0, f)) else (if a1 = 1 then (some (some (.int (f 3 1)), am_G0, f)) else (if a1 = 2 then (some (some (.int (f 3 2)), am_G0, f)) else (if a1 = 3 then (some (some (.int (f 11 2)), am_G0, f)) else (if a1 = 4 then (some (some (.int (f 11 3)), am_G0, f)) else (if a1 = 5 then (k 104 [some (.ref 0), some (.int a1)] [.ref 11] am_G0 f) else (if a1 = 6 then (k 112 [some (.ref 0), some (.int a1)] [.ref 11] am_G0 f) else (if a1 = 7 then (some (some (.int (f 11 9)), am_G0, f)) else (if a1 = 8 then (some (some (.int (f 88 2)), am_G0, f)) else (if a1 = 9 then (some (some (.int (f 1 1)), am_G0, f)) else (if a1 = 10 then (some (some (.int (f 18 3)), am_G0, f)) else (some (some (.int (-1)), am_G0, f)))))))))))))) (fun k => rfl) ?_)
  refine am_Ew.ite h (fun _ h => ?_) (fun _ h => ?_)
  · exact am_Ew.retI h
  · refine am_Ew.ite h (fun _ h => ?_) (fun _ h => ?_)
    · exact am_Ew.retI h
    · refine am_Ew.ite h (fun _ h => ?_) (fun _ h => ?_)
      · exact am_Ew.retI h
      · refine am_Ew.ite h (fun _ h => ?_) (fun _ h => ?_)
        · exact am_Ew.retI h
        · refine am_Ew.ite h (fun _ h => ?_) (fun _ h => ?_)
          · exact am_Ew.retI h
          · refine am_Ew.ite h (fun _ h => ?_) (fun _ h => ?_)
            · obtain ⟨v1, f1, h1, h⟩ := am_bI_some h
              refine am_Ew.run (am_Ev.call (fun n => rfl) (lk_X4_least_11 h1) ?_)
              refine am_Ew.start [] 1 (am_Ew.conv (fun k => (some (some (.int v1), am_G0, f1))) (fun k => rfl) ?_)
              exact am_Ew.retI h
            · refine am_Ew.ite h (fun _ h => ?_) (fun _ h => ?_)
              · obtain ⟨v2, f2, h1, h⟩ := am_bI_some h
                refine am_Ew.run (am_Ev.call (fun n => rfl) (lk_X4_room_11 h1) ?_)
                refine am_Ew.start [] 1 (am_Ew.conv (fun k => (some (some (.int v2), am_G0, f2))) (fun k => rfl) ?_)
                exact am_Ew.retI h
              · refine am_Ew.ite h (fun _ h => ?_) (fun _ h => ?_)
                · exact am_Ew.retI h
                · refine am_Ew.ite h (fun _ h => ?_) (fun _ h => ?_)
                  · exact am_Ew.retI h
                  · refine am_Ew.ite h (fun _ h => ?_) (fun _ h => ?_)
                    · exact am_Ew.retI h
                    · refine am_Ew.ite h (fun _ h => ?_) (fun _ h => ?_)
                      · exact am_Ew.retI h
                      · exact am_Ew.retI h
set_option maxHeartbeats 400000 in
set_option maxRecDepth 100000 in
theorem lk_X7_claims {X : am_X} {a1 a2 : Int32} {f f' : am_M} {v' : Int32} (h : D_X7_claims a1 a2 f = some (v', f')) : am_Ev X 66 0 [some (.ref 0), some (.int a1), some (.int a2)] [] f (some (.int v')) f' := by
  rw [D_X7_claims] at h
  refine am_Ew.start [5] 3 (am_Ew.conv (fun k => (k 5 [some (.ref 0), some (.int a1), some (.int a2)] [.int a1, .ref 3] am_G0 f)) (fun k => rfl) ?_)
  obtain ⟨v1, f1, h1, h⟩ := am_bI_some h
  refine am_Ew.run (am_Ev.call (fun n => rfl) (lk_X6_hasMaker h1) ?_)
  refine am_Ew.start [50] 18 (am_Ew.conv (fun k => (if v1 = 0 then (some (some (.int (-1)), am_G0, f1)) else (if a2 < 1 then (some (some (.int (-1)), am_G0, f1)) else (if 9 < a2 then (some (some (.int (-1)), am_G0, f1)) else (am_chk a1 3 (if 0 < (f1 16 a1.toNatClampNeg) then (some (some (.int (-2)), am_G0, f1)) else (k 50 [some (.ref 0), some (.int a1), some (.int a2)] [.ref 11, .int (f1 11 2)] am_G0 f1))))))) (fun k => rfl) ?_)
  refine am_Ew.ite h (fun _ h => ?_) (fun _ h => ?_)
  · exact am_Ew.retI h
  · refine am_Ew.ite h (fun _ h => ?_) (fun _ h => ?_)
    · exact am_Ew.retI h
    · refine am_Ew.ite h (fun _ h => ?_) (fun _ h => ?_)
      · exact am_Ew.retI h
      · refine am_Ew.chk h (fun h => ?_)
        refine am_Ew.ite h (fun _ h => ?_) (fun _ h => ?_)
        · exact am_Ew.retI h
        · obtain ⟨v2, f2, h1, h⟩ := am_bI_some h
          refine am_Ew.run (am_Ev.call (fun n => rfl) (lk_X4_wantedByAll_11 h1) ?_)
          refine am_Ew.start [75] 10 (am_Ew.conv (fun k => (if (am_int 999) < (((f1 11 2) + v2) + a2) then (some (some (.int (-3)), am_G0, f2)) else (k 75 [some (.ref 0), some (.int a1), some (.int a2)] [.int (-9), .ref 11, .ref 18] am_G0 f2))) (fun k => rfl) ?_)
          refine am_Ew.ite h (fun _ h => ?_) (fun _ h => ?_)
          · exact am_Ew.retI h
          · obtain ⟨f3, h1, h⟩ := am_bV_some h
            refine am_Ew.run (am_Ev.call (fun n => rfl) (lk_X2_remember h1) ?_)
            refine am_Ew.start [84] 4 (am_Ew.conv (fun k => (k 84 [some (.ref 0), some (.int a1), some (.int a2)] [.int a2, .int a1, .ref 11] am_G0 f3)) (fun k => rfl) ?_)
            obtain ⟨v4, f4, h1, h⟩ := am_bI_some h
            refine am_Ew.run (am_Ev.call (fun n => rfl) (lk_X4_claimOrWait_11 h1) ?_)
            refine am_Ew.start [] 1 (am_Ew.conv (fun k => (some (some (.int v4), am_G0, f4))) (fun k => rfl) ?_)
            exact am_Ew.retI h
set_option maxHeartbeats 400000 in
set_option maxRecDepth 100000 in
theorem lk_X7_closeOpen {X : am_X} {a1 a2 a3 : Int32} {f f' : am_M} {v' : Int32} (h : D_X7_closeOpen a1 a2 a3 f = some (v', f')) : am_Ev X 69 0 [some (.ref 0), some (.int a1), some (.int a2), some (.int a3)] [] f (some (.int v')) f' := by
  rw [D_X7_closeOpen] at h
  refine am_Ew.start [5] 3 (am_Ew.conv (fun k => (k 5 [some (.ref 0), some (.int a1), some (.int a2), some (.int a3)] [.int a1, .ref 11] am_G0 f)) (fun k => rfl) ?_)
  obtain ⟨v1, f1, h1, h⟩ := am_bI_some h
  refine am_Ew.run (am_Ev.call (fun n => rfl) (lk_X4_kindOf_11 h1) ?_)
  refine am_Ew.start [23] 6 (am_Ew.conv (fun k => (if v1 = 0 then (k 23 [some (.ref 0), some (.int a1), some (.int a2), some (.int a3)] [.int a1, .ref 11, .ref 18] am_G0 f1) else (some (some (.int (-2)), am_G0, f1)))) (fun k => rfl) ?_)
  refine am_Ew.ite h (fun _ h => ?_) (fun _ h => ?_)
  · obtain ⟨f2, h1, h⟩ := am_bV_some h
    refine am_Ew.run (am_Ev.call (fun n => rfl) (lk_X2_remember h1) ?_)
    refine am_Ew.start [33] 5 (am_Ew.conv (fun k => (k 33 [some (.ref 0), some (.int a1), some (.int a2), some (.int a3)] [.int a3, .int a2, .int a1, .ref 11] am_G0 f2)) (fun k => rfl) ?_)
    obtain ⟨f3, h1, h⟩ := am_bV_some h
    refine am_Ew.run (am_Ev.call (fun n => rfl) (lk_X4_close_11 h1) ?_)
    refine am_Ew.start [] 4 (am_Ew.conv (fun k => (some (some (.int (f3 11 3)), am_G0, f3))) (fun k => rfl) ?_)
    exact am_Ew.retI h
  · exact am_Ew.retI h
set_option maxHeartbeats 400000 in
set_option maxRecDepth 100000 in
theorem lk_X7_calls {X : am_X} {a1 : Int32} {f f' : am_M} {v' : Int32} (h : D_X7_calls a1 f = some (v', f')) : am_Ev X 71 0 [some (.ref 0), some (.int a1), none] [] f (some (.int v')) f' := by
  rw [D_X7_calls] at h
  refine am_Ew.start [5] 3 (am_Ew.conv (fun k => (k 5 [some (.ref 0), some (.int a1), none] [.int a1, .ref 3] am_G0 f)) (fun k => rfl) ?_)
  obtain ⟨v1, f1, h1, h⟩ := am_bI_some h
  refine am_Ew.run (am_Ev.call (fun n => rfl) (lk_X6_hasMaker h1) ?_)
  refine am_Ew.start [40] 14 (am_Ew.conv (fun k => (if v1 = 0 then (some (some (.int (-1)), am_G0, f1)) else (am_chk a1 3 (if (f1 16 a1.toNatClampNeg) = 0 then (some (some (.int (-2)), am_G0, f1)) else (k 40 [some (.ref 0), some (.int a1), some (.int (f1 16 a1.toNatClampNeg))] [.int (-9), .ref 11, .ref 18] am_G0 f1))))) (fun k => rfl) ?_)
  refine am_Ew.ite h (fun _ h => ?_) (fun _ h => ?_)
  · exact am_Ew.retI h
  · refine am_Ew.chk h (fun h => ?_)
    refine am_Ew.ite h (fun _ h => ?_) (fun _ h => ?_)
    · exact am_Ew.retI h
    · obtain ⟨f2, h1, h⟩ := am_bV_some h
      refine am_Ew.run (am_Ev.call (fun n => rfl) (lk_X2_remember h1) ?_)
      refine am_Ew.start [48] 3 (am_Ew.conv (fun k => (k 48 [some (.ref 0), some (.int a1), some (.int (f1 16 a1.toNatClampNeg))] [.int a1, .ref 11] am_G0 f2)) (fun k => rfl) ?_)
      obtain ⟨f3, h1, h⟩ := am_bV_some h
      refine am_Ew.run (am_Ev.call (fun n => rfl) (lk_X4_leaveRow_11 h1) ?_)
      refine am_Ew.start [55] 2 (am_Ew.conv (fun k => (k 55 [some (.ref 0), some (.int a1), some (.int (f1 16 a1.toNatClampNeg))] [.ref 11] am_G0 f3)) (fun k => rfl) ?_)
      obtain ⟨f4, h1, h⟩ := am_bV_some h
      refine am_Ew.run (am_Ev.call (fun n => rfl) (lk_X4_admit_11 h1) ?_)
      refine am_Ew.start [] 2 (am_Ew.conv (fun k => (some (some (.int (f1 16 a1.toNatClampNeg)), am_G0, f4))) (fun k => rfl) ?_)
      exact am_Ew.retI h
set_option maxHeartbeats 400000 in
set_option maxRecDepth 100000 in
theorem lk_X7_undo {X : am_X} {f f' : am_M} {v' : Int32} (h : D_X7_undo f = some (v', f')) : am_Ev X 72 0 [some (.ref 0)] [] f (some (.int v')) f' := by
  rw [D_X7_undo] at h
  refine am_Ew.start [8] 4 (am_Ew.conv (fun k => (k 8 [some (.ref 0)] [.ref 11, .ref 18] am_G0 f)) (fun k => rfl) ?_)
  obtain ⟨v1, f1, h1, h⟩ := am_bI_some h
  refine am_Ew.run (am_Ev.call (fun n => rfl) (lk_X2_restore h1) ?_)
  refine am_Ew.start [] 6 (am_Ew.conv (fun k => (if v1 = 0 then (some (some (.int (-2)), am_G0, f1)) else (some (some (.int (f1 18 3)), am_G0, f1)))) (fun k => rfl) ?_)
  refine am_Ew.ite h (fun _ h => ?_) (fun _ h => ?_)
  · exact am_Ew.retI h
  · exact am_Ew.retI h
set_option maxHeartbeats 400000 in
set_option maxRecDepth 100000 in
theorem lk_X7_fills {X : am_X} {a1 a2 : Int32} {f f' : am_M} {v' : Int32} (h : D_X7_fills a1 a2 f = some (v', f')) : am_Ev X 67 0 [some (.ref 0), some (.int a1), some (.int a2)] [] f (some (.int v')) f' := by
  rw [D_X7_fills] at h
  refine am_Ew.start [5] 3 (am_Ew.conv (fun k => (k 5 [some (.ref 0), some (.int a1), some (.int a2)] [.int a1, .ref 11] am_G0 f)) (fun k => rfl) ?_)
  obtain ⟨v1, f1, h1, h⟩ := am_bI_some h
  refine am_Ew.run (am_Ev.call (fun n => rfl) (lk_X4_hasEvent_11 h1) ?_)
  refine am_Ew.start [27] 10 (am_Ew.conv (fun k => (if v1 = 0 then (some (some (.int (-1)), am_G0, f1)) else (if a2 < 0 then (some (some (.int (-1)), am_G0, f1)) else (if 99 < a2 then (some (some (.int (-1)), am_G0, f1)) else (k 27 [some (.ref 0), some (.int a1), some (.int a2)] [.int a2, .int 1, .int a1, .ref 0] am_G0 f1))))) (fun k => rfl) ?_)
  refine am_Ew.ite h (fun _ h => ?_) (fun _ h => ?_)
  · exact am_Ew.retI h
  · refine am_Ew.ite h (fun _ h => ?_) (fun _ h => ?_)
    · exact am_Ew.retI h
    · refine am_Ew.ite h (fun _ h => ?_) (fun _ h => ?_)
      · exact am_Ew.retI h
      · obtain ⟨v2, f2, h1, h⟩ := am_bI_some h
        refine am_Ew.run (am_Ev.call (fun n => rfl) (lk_X7_closeOpen h1) ?_)
        refine am_Ew.start [] 1 (am_Ew.conv (fun k => (some (some (.int v2), am_G0, f2))) (fun k => rfl) ?_)
        exact am_Ew.retI h
set_option maxHeartbeats 400000 in
set_option maxRecDepth 100000 in
theorem lk_X7_gaps {X : am_X} {a1 : Int32} {f f' : am_M} {v' : Int32} (h : D_X7_gaps a1 f = some (v', f')) : am_Ev X 68 0 [some (.ref 0), some (.int a1)] [] f (some (.int v')) f' := by
  rw [D_X7_gaps] at h
  refine am_Ew.start [5] 3 (am_Ew.conv (fun k => (k 5 [some (.ref 0), some (.int a1)] [.int a1, .ref 11] am_G0 f)) (fun k => rfl) ?_)
  obtain ⟨v1, f1, h1, h⟩ := am_bI_some h
  refine am_Ew.run (am_Ev.call (fun n => rfl) (lk_X4_hasEvent_11 h1) ?_)
  refine am_Ew.start [17] 5 (am_Ew.conv (fun k => (if v1 = 0 then (some (some (.int (-1)), am_G0, f1)) else (k 17 [some (.ref 0), some (.int a1)] [.int 0, .int 2, .int a1, .ref 0] am_G0 f1))) (fun k => rfl) ?_)
  refine am_Ew.ite h (fun _ h => ?_) (fun _ h => ?_)
  · exact am_Ew.retI h
  · obtain ⟨v2, f2, h1, h⟩ := am_bI_some h
    refine am_Ew.run (am_Ev.call (fun n => rfl) (lk_X7_closeOpen h1) ?_)
    refine am_Ew.start [] 1 (am_Ew.conv (fun k => (some (some (.int v2), am_G0, f2))) (fun k => rfl) ?_)
    exact am_Ew.retI h
set_option maxHeartbeats 400000 in
set_option maxRecDepth 100000 in
theorem lk_X7_takes {X : am_X} {a1 a2 : Int32} {f f' : am_M} {v' : Int32} (h : D_X7_takes a1 a2 f = some (v', f')) : am_Ev X 70 0 [some (.ref 0), some (.int a1), some (.int a2)] [] f (some (.int v')) f' := by
  rw [D_X7_takes] at h
  refine am_Ew.start [5] 3 (am_Ew.conv (fun k => (k 5 [some (.ref 0), some (.int a1), some (.int a2)] [.int a1, .ref 3] am_G0 f)) (fun k => rfl) ?_)
  obtain ⟨v1, f1, h1, h⟩ := am_bI_some h
  refine am_Ew.run (am_Ev.call (fun n => rfl) (lk_X6_hasTaker h1) ?_)
  refine am_Ew.start [29] 10 (am_Ew.conv (fun k => (if v1 = 0 then (some (some (.int (-1)), am_G0, f1)) else (if a2 < 1 then (some (some (.int (-1)), am_G0, f1)) else (if 16 < a2 then (some (some (.int (-1)), am_G0, f1)) else (k 29 [some (.ref 0), some (.int a1), some (.int a2)] [.int a1, .ref 11] am_G0 f1))))) (fun k => rfl) ?_)
  refine am_Ew.ite h (fun _ h => ?_) (fun _ h => ?_)
  · exact am_Ew.retI h
  · refine am_Ew.ite h (fun _ h => ?_) (fun _ h => ?_)
    · exact am_Ew.retI h
    · refine am_Ew.ite h (fun _ h => ?_) (fun _ h => ?_)
      · exact am_Ew.retI h
      · obtain ⟨v2, f2, h1, h⟩ := am_bI_some h
        refine am_Ew.run (am_Ev.call (fun n => rfl) (lk_X4_hasAhead_11 h1) ?_)
        refine am_Ew.start [48] 6 (am_Ew.conv (fun k => (if v2 = 0 then (some (some (.int (-2)), am_G0, f2)) else (k 48 [some (.ref 0), some (.int a1), some (.int a2)] [.int (-9), .ref 11, .ref 18] am_G0 f2))) (fun k => rfl) ?_)
        refine am_Ew.ite h (fun _ h => ?_) (fun _ h => ?_)
        · exact am_Ew.retI h
        · obtain ⟨f3, h1, h⟩ := am_bV_some h
          refine am_Ew.run (am_Ev.call (fun n => rfl) (lk_X2_remember h1) ?_)
          refine am_Ew.start [57] 4 (am_Ew.conv (fun k => (k 57 [some (.ref 0), some (.int a1), some (.int a2)] [.int a2, .int a1, .ref 11] am_G0 f3)) (fun k => rfl) ?_)
          obtain ⟨v4, f4, h1, h⟩ := am_bI_some h
          refine am_Ew.run (am_Ev.call (fun n => rfl) (lk_X4_goOver_11 h1) ?_)
          refine am_Ew.start [] 1 (am_Ew.conv (fun k => (some (some (.int v4), am_G0, f4))) (fun k => rfl) ?_)
          exact am_Ew.retI h
set_option maxHeartbeats 400000 in
set_option maxRecDepth 100000 in
theorem lk_X7_blamed {X : am_X} {f f' : am_M} {v' : Int32} (h : D_X7_blamed f = some (v', f')) : am_Ev X 76 0 [some (.ref 0)] [] f (some (.int v')) f' := by
  rw [D_X7_blamed] at h
  refine am_Ew.start [4] 2 (am_Ew.conv (fun k => (k 4 [some (.ref 0)] [.ref 11] am_G0 f)) (fun k => rfl) ?_)
  obtain ⟨v1, f1, h1, h⟩ := am_bI_some h
  refine am_Ew.run (am_Ev.call (fun n => rfl) (lk_X4_toBlame_11 h1) ?_)
  refine am_Ew.start [] 1 (am_Ew.conv (fun k => (some (some (.int v1), am_G0, f1))) (fun k => rfl) ?_)
  exact am_Ew.retI h
set_option maxHeartbeats 400000 in
set_option maxRecDepth 100000 in
theorem lk_X7_rule {X : am_X} {a1 a2 : Int32} {f f' : am_M} {v' : Int32} (h : D_X7_rule a1 a2 f = some (v', f')) : am_Ev X 78 0 [some (.ref 0), some (.int a1), some (.int a2), none] [] f (some (.int v')) f' := by
  rw [D_X7_rule] at h
  refine am_Ew.start [1] 1 (am_Ew.conv (fun k => (k 1 [some (.ref 0), some (.int a1), some (.int a2), none] [.int a1] am_G0 f)) (fun k => rfl) ?_)
  obtain ⟨v1, f1, h1, h⟩ := am_bI_some h
  refine am_Ew.run (am_Ev.call (fun n => rfl) (lk_X7_isTicks h1) ?_)
  refine am_Ew.start [27] 11 (am_Ew.conv (fun k => (if v1 = 0 then (some (some (.int (-1)), am_G0, f1)) else (if a2 < 0 then (some (some (.int (-1)), am_G0, f1)) else (if 3 < a2 then (some (some (.int (-1)), am_G0, f1)) else (k 27 [some (.ref 0), some (.int a1), some (.int a2), none] [.int a1, .ref 11, .ref 79] am_G0 f1))))) (fun k => rfl) ?_)
  refine am_Ew.ite h (fun _ h => ?_) (fun _ h => ?_)
  · exact am_Ew.retI h
  · refine am_Ew.ite h (fun _ h => ?_) (fun _ h => ?_)
    · exact am_Ew.retI h
    · refine am_Ew.ite h (fun _ h => ?_) (fun _ h => ?_)
      · exact am_Ew.retI h
      · obtain ⟨f2, h1, h⟩ := am_bV_some h
        refine am_Ew.run (am_Ev.call (fun n => rfl) (lk_X0_after h1) ?_)
        refine am_Ew.start [66, 71] 6 (am_Ew.conv (fun k => (if a2 = 0 then (some (some (.int (f2 81 2)), am_G0, f2)) else (if a2 = 1 then (k 66 [some (.ref 0), some (.int a1), some (.int a2), some (.ref 81)] [.ref 81] am_G0 f2) else (if a2 = 2 then (k 71 [some (.ref 0), some (.int a1), some (.int a2), some (.ref 81)] [.ref 81] am_G0 f2) else (some (some (.int (f2 81 9)), am_G0, f2)))))) (fun k => rfl) ?_)
        refine am_Ew.ite h (fun _ h => ?_) (fun _ h => ?_)
        · exact am_Ew.retI h
        · refine am_Ew.ite h (fun _ h => ?_) (fun _ h => ?_)
          · obtain ⟨v3, f3, h1, h⟩ := am_bI_some h
            refine am_Ew.run (am_Ev.call (fun n => rfl) (lk_X4_least_81 h1) ?_)
            refine am_Ew.start [] 1 (am_Ew.conv (fun k => (some (some (.int v3), am_G0, f3))) (fun k => rfl) ?_)
            exact am_Ew.retI h
          · refine am_Ew.ite h (fun _ h => ?_) (fun _ h => ?_)
            · obtain ⟨v4, f4, h1, h⟩ := am_bI_some h
              refine am_Ew.run (am_Ev.call (fun n => rfl) (lk_X4_slowest_81 h1) ?_)
              refine am_Ew.start [] 1 (am_Ew.conv (fun k => (some (some (.int v4), am_G0, f4))) (fun k => rfl) ?_)
              exact am_Ew.retI h
            · exact am_Ew.retI h
set_option maxHeartbeats 400000 in
set_option maxRecDepth 100000 in
theorem lk_X7_waited {X : am_X} {a1 a2 : Int32} {f f' : am_M} {v' : Int32} (h : D_X7_waited a1 a2 f = some (v', f')) : am_Ev X 79 0 [some (.ref 0), some (.int a1), some (.int a2)] [] f (some (.int v')) f' := by
  rw [D_X7_waited] at h
  refine am_Ew.start [1] 1 (am_Ew.conv (fun k => (k 1 [some (.ref 0), some (.int a1), some (.int a2)] [.int a1] am_G0 f)) (fun k => rfl) ?_)
  obtain ⟨v1, f1, h1, h⟩ := am_bI_some h
  refine am_Ew.run (am_Ev.call (fun n => rfl) (lk_X7_isTicks h1) ?_)
  refine am_Ew.start [12] 4 (am_Ew.conv (fun k => (if v1 = 0 then (some (some (.int (-1)), am_G0, f1)) else (k 12 [some (.ref 0), some (.int a1), some (.int a2)] [.int a2, .ref 3] am_G0 f1))) (fun k => rfl) ?_)
  refine am_Ew.ite h (fun _ h => ?_) (fun _ h => ?_)
  · exact am_Ew.retI h
  · obtain ⟨v2, f2, h1, h⟩ := am_bI_some h
    refine am_Ew.run (am_Ev.call (fun n => rfl) (lk_X6_hasMaker h1) ?_)
    refine am_Ew.start [29] 6 (am_Ew.conv (fun k => (if v2 = 0 then (some (some (.int (-1)), am_G0, f2)) else (k 29 [some (.ref 0), some (.int a1), some (.int a2)] [.int a1, .ref 11, .ref 79] am_G0 f2))) (fun k => rfl) ?_)
    refine am_Ew.ite h (fun _ h => ?_) (fun _ h => ?_)
    · exact am_Ew.retI h
    · obtain ⟨f3, h1, h⟩ := am_bV_some h
      refine am_Ew.run (am_Ev.call (fun n => rfl) (lk_X0_after h1) ?_)
      refine am_Ew.start [] 7 (am_Ew.conv (fun k => (am_chk a2 3 (some (some (.int (f3 80 a2.toNatClampNeg)), am_G0, f3)))) (fun k => rfl) ?_)
      refine am_Ew.chk h (fun h => ?_)
      exact am_Ew.retI h
set_option maxHeartbeats 400000 in
set_option maxRecDepth 100000 in
theorem lk_X7_done {X : am_X} {a1 a2 : Int32} {f f' : am_M} {v' : Int32} (h : D_X7_done a1 a2 f = some (v', f')) : am_Ev X 80 0 [some (.ref 0), some (.int a1), some (.int a2)] [] f (some (.int v')) f' := by
  rw [D_X7_done] at h
  refine am_Ew.start [1] 1 (am_Ew.conv (fun k => (k 1 [some (.ref 0), some (.int a1), some (.int a2)] [.int a1] am_G0 f)) (fun k => rfl) ?_)
  obtain ⟨v1, f1, h1, h⟩ := am_bI_some h
  refine am_Ew.run (am_Ev.call (fun n => rfl) (lk_X7_isTicks h1) ?_)
  refine am_Ew.start [12] 4 (am_Ew.conv (fun k => (if v1 = 0 then (some (some (.int (-1)), am_G0, f1)) else (k 12 [some (.ref 0), some (.int a1), some (.int a2)] [.int a2, .ref 3] am_G0 f1))) (fun k => rfl) ?_)
  refine am_Ew.ite h (fun _ h => ?_) (fun _ h => ?_)
  · exact am_Ew.retI h
  · obtain ⟨v2, f2, h1, h⟩ := am_bI_some h
    refine am_Ew.run (am_Ev.call (fun n => rfl) (lk_X6_hasTaker h1) ?_)
    refine am_Ew.start [29] 6 (am_Ew.conv (fun k => (if v2 = 0 then (some (some (.int (-1)), am_G0, f2)) else (k 29 [some (.ref 0), some (.int a1), some (.int a2)] [.int a1, .ref 11, .ref 79] am_G0 f2))) (fun k => rfl) ?_)
    refine am_Ew.ite h (fun _ h => ?_) (fun _ h => ?_)
    · exact am_Ew.retI h
    · obtain ⟨f3, h1, h⟩ := am_bV_some h
      refine am_Ew.run (am_Ev.call (fun n => rfl) (lk_X0_after h1) ?_)
      refine am_Ew.start [] 4 (am_Ew.conv (fun k => (am_chk a2 6 (some (some (.int (f3 82 a2.toNatClampNeg)), am_G0, f3)))) (fun k => rfl) ?_)
      refine am_Ew.chk h (fun h => ?_)
      exact am_Ew.retI h
set_option maxHeartbeats 400000 in
set_option maxRecDepth 100000 in
theorem lk_X7_which {X : am_X} {f f' : am_M} {v' : Int32} (h : D_X7_which f = some (v', f')) : am_Ev X 84 0 [some (.ref 0)] [] f (some (.int v')) f' := by
  rw [D_X7_which] at h
  refine am_Ew.start [12] 6 (am_Ew.conv (fun k => (k 12 [some (.ref 0)] [.ref 88, .ref 11, .ref 79] am_G0 f)) (fun k => rfl) ?_)
  obtain ⟨v1, f1, h1, h⟩ := am_bI_some h
  refine am_Ew.run (am_Ev.call (fun n => rfl) (lk_X0_takersSeen h1) ?_)
  refine am_Ew.start [] 1 (am_Ew.conv (fun k => (some (some (.int v1), am_G0, f1))) (fun k => rfl) ?_)
  exact am_Ew.retI h
set_option maxHeartbeats 400000 in
set_option maxRecDepth 100000 in
theorem lk_X7_look {X : am_X} {f f' : am_M} {v' : Int32} (h : D_X7_look f = some (v', f')) : am_Ev X 85 0 [some (.ref 0), none] [] f (some (.int v')) f' := by
  rw [D_X7_look] at h
  refine am_Ew.start [12] 6 (am_Ew.conv (fun k => (k 12 [some (.ref 0), none] [.ref 88, .ref 11, .ref 79] am_G0 f)) (fun k => rfl) ?_)
  obtain ⟨v1, f1, h1, h⟩ := am_bI_some h
  refine am_Ew.run (am_Ev.call (fun n => rfl) (lk_X0_takersSeen h1) ?_)
  refine am_Ew.start [17] 2 (am_Ew.conv (fun k => (k 17 [some (.ref 0), some (.int v1)] [.int v1] am_G0 f1)) (fun k => rfl) ?_)
  obtain ⟨v2, f2, h1, h⟩ := am_bI_some h
  refine am_Ew.run (am_Ev.call (fun n => rfl) (lk_J6_bitCount_0f7a4 h1) ?_)
  refine am_Ew.start [38] 7 (am_Ew.conv (fun k => (if v2 < 2 then (some (some (.int (-9)), am_G0, f2)) else (k 38 [some (.ref 0), some (.int v1)] [.int v1, .ref 11, .ref 79] am_G0 f2))) (fun k => rfl) ?_)
  refine am_Ew.ite h (fun _ h => ?_) (fun _ h => ?_)
  · exact am_Ew.retI h
  · obtain ⟨v3, f3, h1, h⟩ := am_bI_some h
    refine am_Ew.run (am_Ev.call (fun n => rfl) (lk_X0_ticksThatPart h1) ?_)
    refine am_Ew.start [] 1 (am_Ew.conv (fun k => (some (some (.int v3), am_G0, f3))) (fun k => rfl) ?_)
    exact am_Ew.retI h
set_option maxHeartbeats 400000 in
set_option maxRecDepth 100000 in
theorem lk_X7_tells {X : am_X} {f f' : am_M} {v' : Int32} (h : D_X7_tells f = some (v', f')) : am_Ev X 65 0 [some (.ref 0), none] [] f (some (.int v')) f' := by
  rw [D_X7_tells] at h
  refine am_Ew.start [8] 4 (am_Ew.conv (fun k => (k 8 [some (.ref 0), none] [.ref 7, .ref 1] am_G0 f)) (fun k => rfl) ?_)
  obtain ⟨v1, f1, h1, h⟩ := am_bI_some h
  refine am_Ew.run (am_Ev.call (fun n => rfl) (lk_X5_readInto h1) ?_)
  refine am_Ew.start [26] 7 (am_Ew.conv (fun k => (if v1 < 0 then (some (some (.int v1), am_G0, f1)) else (k 26 [some (.ref 0), some (.int v1)] [.ref 7, .ref 3] am_G0 f1))) (fun k => rfl) ?_)
  refine am_Ew.ite h (fun _ h => ?_) (fun _ h => ?_)
  · exact am_Ew.retI h
  · obtain ⟨f2, h1, h⟩ := am_bV_some h
    refine am_Ew.run (am_Ev.call (fun n => rfl) (lk_X6_copyFrom h1) ?_)
    refine am_Ew.start [33] 2 (am_Ew.conv (fun k => (k 33 [some (.ref 0), some (.int v1)] [.ref 11] am_G0 f2)) (fun k => rfl) ?_)
    obtain ⟨f3, h1, h⟩ := am_bV_some h
    refine am_Ew.run (am_Ev.call (fun n => rfl) (lk_X4_reset_11 h1) ?_)
    refine am_Ew.start [] 22 (am_Ew.conv (fun k => (some (some (.int v1), am_G0, (am_wr (am_wr (am_wr (am_wr (am_wr f3 18 3 0) 63 1 0) 71 1 0) 88 2 0) 1 1 0)))) (fun k => rfl) ?_)
    exact am_Ew.retI h
