theorem lk_len_0 (X : am_X) (f : am_M) : am_Ev X 165 0 [some (.ref 1010)] [] f (some (.int 5)) f := ⟨60, rfl⟩
theorem lk_chr_0_0 (X : am_X) (f : am_M) : am_Ev X 166 0 [some (.ref 1010), some (.int 0)] [] f (some (.int 115)) f := ⟨60, rfl⟩
theorem lk_chr_0_1 (X : am_X) (f : am_M) : am_Ev X 166 0 [some (.ref 1010), some (.int 1)] [] f (some (.int 108)) f := ⟨60, rfl⟩
theorem lk_chr_0_2 (X : am_X) (f : am_M) : am_Ev X 166 0 [some (.ref 1010), some (.int 2)] [] f (some (.int 111)) f := ⟨60, rfl⟩
theorem lk_chr_0_3 (X : am_X) (f : am_M) : am_Ev X 166 0 [some (.ref 1010), some (.int 3)] [] f (some (.int 116)) f := ⟨60, rfl⟩
theorem lk_chr_0_4 (X : am_X) (f : am_M) : am_Ev X 166 0 [some (.ref 1010), some (.int 4)] [] f (some (.int 115)) f := ⟨60, rfl⟩
theorem lk_len_1 (X : am_X) (f : am_M) : am_Ev X 165 0 [some (.ref 1011)] [] f (some (.int 5)) f := ⟨60, rfl⟩
theorem lk_chr_1_0 (X : am_X) (f : am_M) : am_Ev X 166 0 [some (.ref 1011), some (.int 0)] [] f (some (.int 109)) f := ⟨60, rfl⟩
theorem lk_chr_1_1 (X : am_X) (f : am_M) : am_Ev X 166 0 [some (.ref 1011), some (.int 1)] [] f (some (.int 97)) f := ⟨60, rfl⟩
theorem lk_chr_1_2 (X : am_X) (f : am_M) : am_Ev X 166 0 [some (.ref 1011), some (.int 2)] [] f (some (.int 107)) f := ⟨60, rfl⟩
theorem lk_chr_1_3 (X : am_X) (f : am_M) : am_Ev X 166 0 [some (.ref 1011), some (.int 3)] [] f (some (.int 101)) f := ⟨60, rfl⟩
theorem lk_chr_1_4 (X : am_X) (f : am_M) : am_Ev X 166 0 [some (.ref 1011), some (.int 4)] [] f (some (.int 114)) f := ⟨60, rfl⟩
theorem lk_len_2 (X : am_X) (f : am_M) : am_Ev X 165 0 [some (.ref 1012)] [] f (some (.int 5)) f := ⟨60, rfl⟩
theorem lk_chr_2_0 (X : am_X) (f : am_M) : am_Ev X 166 0 [some (.ref 1012), some (.int 0)] [] f (some (.int 116)) f := ⟨60, rfl⟩
theorem lk_chr_2_1 (X : am_X) (f : am_M) : am_Ev X 166 0 [some (.ref 1012), some (.int 1)] [] f (some (.int 97)) f := ⟨60, rfl⟩
theorem lk_chr_2_2 (X : am_X) (f : am_M) : am_Ev X 166 0 [some (.ref 1012), some (.int 2)] [] f (some (.int 107)) f := ⟨60, rfl⟩
theorem lk_chr_2_3 (X : am_X) (f : am_M) : am_Ev X 166 0 [some (.ref 1012), some (.int 3)] [] f (some (.int 101)) f := ⟨60, rfl⟩
theorem lk_chr_2_4 (X : am_X) (f : am_M) : am_Ev X 166 0 [some (.ref 1012), some (.int 4)] [] f (some (.int 114)) f := ⟨60, rfl⟩
theorem lk_img_0 {X : am_X} {a : Int32} {f : am_M} (h : a = 0) : am_Ev X 88 0 [some (.ref 0), some (.int a)] [] f (some (.ref 63)) f := by
  subst h
  exact ⟨60, rfl⟩
theorem lk_img_1 {X : am_X} {a : Int32} {f : am_M} (h : ¬ a = 0) : am_Ev X 88 0 [some (.ref 0), some (.int a)] [] f (some (.ref 71)) f := by
  refine am_Ew.start [] 20 (am_Ew.conv (fun k => if a = 0 then some (some (.ref 63), am_G0, f) else some (some (.ref 71), am_G0, f)) (fun k => rfl) ⟨0, if_neg h⟩)
set_option maxHeartbeats 400000 in
set_option maxRecDepth 100000 in
theorem lk_X3_add {X : am_X} {a1 a2 : Int32} {f f' : am_M} {v' : Int32} (h : D_X3_add a1 a2 f = some (v', f')) : am_Ev X 12 0 [some (.ref 88), some (.int a1), some (.int a2)] [] f (some (.int v')) f' := by
  rw [D_X3_add] at h
  refine am_Ew.start [] 24 (am_Ew.conv (fun k => (if (f 88 2) < 6 then (am_chk (f 88 2) 6 (am_chk (f 88 2) 6 (some (some (.int 1), am_G0, (am_wr (am_wr (am_wr f 89 (f 88 2).toNatClampNeg a1) 90 (f 88 2).toNatClampNeg a2) 88 2 ((f 88 2) + 1)))))) else (some (some (.int 0), am_G0, f)))) (fun k => rfl) ?_)
  refine am_Ew.ite h (fun _ h => ?_) (fun _ h => ?_)
  · refine am_Ew.chk h (fun h => ?_)
    refine am_Ew.chk h (fun h => ?_)
    exact am_Ew.retI h
  · exact am_Ew.retI h
set_option maxHeartbeats 400000 in
set_option maxRecDepth 100000 in
theorem lk_X3_allows_2 {X : am_X} : ∀ (n : Nat) (x1 x2 x3 : Int32) (f : am_M) (v' : Int32) (f' : am_M), D_X3_allows_2 n x1 x2 x3 f = some (v', f') → am_Ev X 14 2 [some (.ref 88), some (.int x1), some (.int x2), some (.int x3)] [] f (some (.int v')) f'
  | 0, _, _, _, _, _, _, h => by cases h
  | n + 1, x1, x2, x3, f, v', f', h => by
    rw [D_X3_allows_2] at h
    refine am_Ew.start [2] 18 (am_Ew.conv (fun k => (if x3 < (f 88 2) then (am_chk x3 6 (if (f 89 x3.toNatClampNeg) = x1 then (am_chk x3 6 (if (f 90 x3.toNatClampNeg) = x2 then (k 2 [some (.ref 88), some (.int x1), some (.int x2), some (.int (x3 + 1))] [] am_G0 f) else (some (some (.int 0), am_G0, f)))) else (k 2 [some (.ref 88), some (.int x1), some (.int x2), some (.int (x3 + 1))] [] am_G0 f))) else (some (some (.int 1), am_G0, f)))) (fun k => rfl) ?_)
    refine am_Ew.ite h (fun _ h => ?_) (fun _ h => ?_)
    · refine am_Ew.chk h (fun h => ?_)
      refine am_Ew.ite h (fun _ h => ?_) (fun _ h => ?_)
      · refine am_Ew.chk h (fun h => ?_)
        refine am_Ew.ite h (fun _ h => ?_) (fun _ h => ?_)
        · exact am_Ew.run (lk_X3_allows_2  n _ _ _ _ _ _ h )
        · exact am_Ew.retI h
      · exact am_Ew.run (lk_X3_allows_2  n _ _ _ _ _ _ h )
    · exact am_Ew.retI h
set_option maxHeartbeats 400000 in
set_option maxRecDepth 100000 in
theorem lk_X3_allows {X : am_X} {a1 a2 : Int32} {f f' : am_M} {v' : Int32} (h : D_X3_allows a1 a2 f = some (v', f')) : am_Ev X 14 0 [some (.ref 88), some (.int a1), some (.int a2), none] [] f (some (.int v')) f' := by
  rw [D_X3_allows] at h
  refine am_Ew.start [2] 2 (am_Ew.conv (fun k => (k 2 [some (.ref 88), some (.int a1), some (.int a2), some (.int 0)] [] am_G0 f)) (fun k => rfl) ?_)
  exact am_Ew.run (lk_X3_allows_2 _ _ _ _ _ _ _ h )
set_option maxHeartbeats 400000 in
set_option maxRecDepth 100000 in
theorem lk_X5_append {X : am_X} {a1 : Int32} {f f' : am_M} {v' : Int32} (h : D_X5_append a1 f = some (v', f')) : am_Ev X 42 0 [some (.ref 1), some (.int a1)] [] f (some (.int v')) f' := by
  rw [D_X5_append] at h
  refine am_Ew.start [] 18 (am_Ew.conv (fun k => (if (f 1 1) < 120 then (am_chk (f 1 1) 120 (some (some (.int 1), am_G0, (am_wr (am_wr f 2 (f 1 1).toNatClampNeg a1) 1 1 ((f 1 1) + 1))))) else (some (some (.int 0), am_G0, f)))) (fun k => rfl) ?_)
  refine am_Ew.ite h (fun _ h => ?_) (fun _ h => ?_)
  · refine am_Ew.chk h (fun h => ?_)
    exact am_Ew.retI h
  · exact am_Ew.retI h
set_option maxHeartbeats 400000 in
set_option maxRecDepth 100000 in
theorem lk_X5_isWordLetter {X : am_X} {a0 : Int32} {f f' : am_M} {v' : Int32} (h : D_X5_isWordLetter a0 f = some (v', f')) : am_Ev X 53 0 [some (.int a0)] [] f (some (.int v')) f' := by
  rw [D_X5_isWordLetter] at h
  refine am_Ew.start [] 9 (am_Ew.conv (fun k => (if a0 < 97 then (some (some (.int 0), am_G0, f)) else (if 122 < a0 then (some (some (.int 0), am_G0, f)) else (some (some (.int 1), am_G0, f))))) (fun k => rfl) ?_)
  refine am_Ew.ite h (fun _ h => ?_) (fun _ h => ?_)
  · exact am_Ew.retI h
  · refine am_Ew.ite h (fun _ h => ?_) (fun _ h => ?_)
    · exact am_Ew.retI h
    · exact am_Ew.retI h
set_option maxHeartbeats 400000 in
set_option maxRecDepth 100000 in
theorem lk_X5_isFigure {X : am_X} {a0 : Int32} {f f' : am_M} {v' : Int32} (h : D_X5_isFigure a0 f = some (v', f')) : am_Ev X 54 0 [some (.int a0)] [] f (some (.int v')) f' := by
  rw [D_X5_isFigure] at h
  refine am_Ew.start [] 9 (am_Ew.conv (fun k => (if a0 < 48 then (some (some (.int 0), am_G0, f)) else (if 57 < a0 then (some (some (.int 0), am_G0, f)) else (some (some (.int 1), am_G0, f))))) (fun k => rfl) ?_)
  refine am_Ew.ite h (fun _ h => ?_) (fun _ h => ?_)
  · exact am_Ew.retI h
  · refine am_Ew.ite h (fun _ h => ?_) (fun _ h => ?_)
    · exact am_Ew.retI h
    · exact am_Ew.retI h
set_option maxHeartbeats 400000 in
set_option maxRecDepth 100000 in
theorem lk_X6_reset {X : am_X} {f f' : am_M} (h : D_X6_reset f = some f') : am_Ev X 56 0 [some (.ref 7)] [] f none f' := by
  rw [D_X6_reset] at h
  refine am_Ew.start [] 10 (am_Ew.conv (fun k => (some (none, am_G0, (am_wr (am_wr (am_wr f 7 0 8) 7 1 0) 7 2 0)))) (fun k => rfl) ?_)
  exact am_Ew.retV h
set_option maxHeartbeats 400000 in
set_option maxRecDepth 100000 in
theorem lk_X6_hasMaker {X : am_X} {a1 : Int32} {f f' : am_M} {v' : Int32} (h : D_X6_hasMaker a1 f = some (v', f')) : am_Ev X 58 0 [some (.ref 3), some (.int a1)] [] f (some (.int v')) f' := by
  rw [D_X6_hasMaker] at h
  refine am_Ew.start [] 9 (am_Ew.conv (fun k => (if a1 < 0 then (some (some (.int 0), am_G0, f)) else (if a1 < (f 3 1) then (some (some (.int 1), am_G0, f)) else (some (some (.int 0), am_G0, f))))) (fun k => rfl) ?_)
  refine am_Ew.ite h (fun _ h => ?_) (fun _ h => ?_)
  · exact am_Ew.retI h
  · refine am_Ew.ite h (fun _ h => ?_) (fun _ h => ?_)
    · exact am_Ew.retI h
    · exact am_Ew.retI h
set_option maxHeartbeats 400000 in
set_option maxRecDepth 100000 in
theorem lk_X6_hasTaker {X : am_X} {a1 : Int32} {f f' : am_M} {v' : Int32} (h : D_X6_hasTaker a1 f = some (v', f')) : am_Ev X 59 0 [some (.ref 3), some (.int a1)] [] f (some (.int v')) f' := by
  rw [D_X6_hasTaker] at h
  refine am_Ew.start [] 9 (am_Ew.conv (fun k => (if a1 < 0 then (some (some (.int 0), am_G0, f)) else (if a1 < (f 3 2) then (some (some (.int 1), am_G0, f)) else (some (some (.int 0), am_G0, f))))) (fun k => rfl) ?_)
  refine am_Ew.ite h (fun _ h => ?_) (fun _ h => ?_)
  · exact am_Ew.retI h
  · refine am_Ew.ite h (fun _ h => ?_) (fun _ h => ?_)
    · exact am_Ew.retI h
    · exact am_Ew.retI h
set_option maxHeartbeats 400000 in
set_option maxRecDepth 100000 in
theorem lk_X6_addMaker {X : am_X} {a1 : Int32} {f f' : am_M} {v' : Int32} (h : D_X6_addMaker a1 f = some (v', f')) : am_Ev X 60 0 [some (.ref 7), some (.int a1)] [] f (some (.int v')) f' := by
  rw [D_X6_addMaker] at h
  refine am_Ew.start [] 18 (am_Ew.conv (fun k => (if (f 7 1) < 3 then (am_chk (f 7 1) 3 (some (some (.int 1), am_G0, (am_wr (am_wr f 8 (f 7 1).toNatClampNeg a1) 7 1 ((f 7 1) + 1))))) else (some (some (.int 0), am_G0, f)))) (fun k => rfl) ?_)
  refine am_Ew.ite h (fun _ h => ?_) (fun _ h => ?_)
  · refine am_Ew.chk h (fun h => ?_)
    exact am_Ew.retI h
  · exact am_Ew.retI h
set_option maxHeartbeats 400000 in
set_option maxRecDepth 100000 in
theorem lk_X6_addTaker {X : am_X} {a1 a2 : Int32} {f f' : am_M} {v' : Int32} (h : D_X6_addTaker a1 a2 f = some (v', f')) : am_Ev X 61 0 [some (.ref 7), some (.int a1), some (.int a2)] [] f (some (.int v')) f' := by
  rw [D_X6_addTaker] at h
  refine am_Ew.start [] 24 (am_Ew.conv (fun k => (if (f 7 2) < 6 then (am_chk (f 7 2) 6 (am_chk (f 7 2) 6 (some (some (.int 1), am_G0, (am_wr (am_wr (am_wr f 9 (f 7 2).toNatClampNeg a1) 10 (f 7 2).toNatClampNeg a2) 7 2 ((f 7 2) + 1)))))) else (some (some (.int 0), am_G0, f)))) (fun k => rfl) ?_)
  refine am_Ew.ite h (fun _ h => ?_) (fun _ h => ?_)
  · refine am_Ew.chk h (fun h => ?_)
    refine am_Ew.chk h (fun h => ?_)
    exact am_Ew.retI h
  · exact am_Ew.retI h
set_option maxHeartbeats 400000 in
set_option maxRecDepth 100000 in
theorem lk_J6_bitCount_0f7a4 {X : am_X} {a0 : Int32} {f f' : am_M} {v' : Int32} (h : D_J6_bitCount_0f7a4 a0 f = some (v', f')) : am_Ev X 162 0 [some (.int a0)] [] f (some (.int v')) f' := by
  rw [D_J6_bitCount_0f7a4] at h
  refine am_Ew.start [] 42 (am_Ew.conv (fun k => (some (some (.int ((((((((a0 - ((a0.toUInt32 >>> ((1 : Int32).toUInt32 &&& Int32.toUInt32 31)).toInt32 &&& (am_int 1431655765))) &&& (am_int 858993459)) + (((a0 - ((a0.toUInt32 >>> ((1 : Int32).toUInt32 &&& Int32.toUInt32 31)).toInt32 &&& (am_int 1431655765))).toUInt32 >>> ((2 : Int32).toUInt32 &&& Int32.toUInt32 31)).toInt32 &&& (am_int 858993459))) + ((((a0 - ((a0.toUInt32 >>> ((1 : Int32).toUInt32 &&& Int32.toUInt32 31)).toInt32 &&& (am_int 1431655765))) &&& (am_int 858993459)) + (((a0 - ((a0.toUInt32 >>> ((1 : Int32).toUInt32 &&& Int32.toUInt32 31)).toInt32 &&& (am_int 1431655765))).toUInt32 >>> ((2 : Int32).toUInt32 &&& Int32.toUInt32 31)).toInt32 &&& (am_int 858993459))).toUInt32 >>> ((4 : Int32).toUInt32 &&& Int32.toUInt32 31)).toInt32) &&& (am_int 252645135)) + ((((((a0 - ((a0.toUInt32 >>> ((1 : Int32).toUInt32 &&& Int32.toUInt32 31)).toInt32 &&& (am_int 1431655765))) &&& (am_int 858993459)) + (((a0 - ((a0.toUInt32 >>> ((1 : Int32).toUInt32 &&& Int32.toUInt32 31)).toInt32 &&& (am_int 1431655765))).toUInt32 >>> ((2 : Int32).toUInt32 &&& Int32.toUInt32 31)).toInt32 &&& (am_int 858993459))) + ((((a0 - ((a0.toUInt32 >>> ((1 : Int32).toUInt32 &&& Int32.toUInt32 31)).toInt32 &&& (am_int 1431655765))) &&& (am_int 858993459)) + (((a0 - ((a0.toUInt32 >>> ((1 : Int32).toUInt32 &&& Int32.toUInt32 31)).toInt32 &&& (am_int 1431655765))).toUInt32 >>> ((2 : Int32).toUInt32 &&& Int32.toUInt32 31)).toInt32 &&& (am_int 858993459))).toUInt32 >>> ((4 : Int32).toUInt32 &&& Int32.toUInt32 31)).toInt32) &&& (am_int 252645135)).toUInt32 >>> ((8 : Int32).toUInt32 &&& Int32.toUInt32 31)).toInt32) + (((((((a0 - ((a0.toUInt32 >>> ((1 : Int32).toUInt32 &&& Int32.toUInt32 31)).toInt32 &&& (am_int 1431655765))) &&& (am_int 858993459)) + (((a0 - ((a0.toUInt32 >>> ((1 : Int32).toUInt32 &&& Int32.toUInt32 31)).toInt32 &&& (am_int 1431655765))).toUInt32 >>> ((2 : Int32).toUInt32 &&& Int32.toUInt32 31)).toInt32 &&& (am_int 858993459))) + ((((a0 - ((a0.toUInt32 >>> ((1 : Int32).toUInt32 &&& Int32.toUInt32 31)).toInt32 &&& (am_int 1431655765))) &&& (am_int 858993459)) + (((a0 - ((a0.toUInt32 >>> ((1 : Int32).toUInt32 &&& Int32.toUInt32 31)).toInt32 &&& (am_int 1431655765))).toUInt32 >>> ((2 : Int32).toUInt32 &&& Int32.toUInt32 31)).toInt32 &&& (am_int 858993459))).toUInt32 >>> ((4 : Int32).toUInt32 &&& Int32.toUInt32 31)).toInt32) &&& (am_int 252645135)) + ((((((a0 - ((a0.toUInt32 >>> ((1 : Int32).toUInt32 &&& Int32.toUInt32 31)).toInt32 &&& (am_int 1431655765))) &&& (am_int 858993459)) + (((a0 - ((a0.toUInt32 >>> ((1 : Int32).toUInt32 &&& Int32.toUInt32 31)).toInt32 &&& (am_int 1431655765))).toUInt32 >>> ((2 : Int32).toUInt32 &&& Int32.toUInt32 31)).toInt32 &&& (am_int 858993459))) + ((((a0 - ((a0.toUInt32 >>> ((1 : Int32).toUInt32 &&& Int32.toUInt32 31)).toInt32 &&& (am_int 1431655765))) &&& (am_int 858993459)) + (((a0 - ((a0.toUInt32 >>> ((1 : Int32).toUInt32 &&& Int32.toUInt32 31)).toInt32 &&& (am_int 1431655765))).toUInt32 >>> ((2 : Int32).toUInt32 &&& Int32.toUInt32 31)).toInt32 &&& (am_int 858993459))).toUInt32 >>> ((4 : Int32).toUInt32 &&& Int32.toUInt32 31)).toInt32) &&& (am_int 252645135)).toUInt32 >>> ((8 : Int32).toUInt32 &&& Int32.toUInt32 31)).toInt32).toUInt32 >>> ((16 : Int32).toUInt32 &&& Int32.toUInt32 31)).toInt32) &&& 63)), am_G0, f))) (fun k => rfl) ?_)
  exact am_Ew.retI h
set_option maxHeartbeats 400000 in
set_option maxRecDepth 100000 in
theorem lk_J9_max_7cf53 {X : am_X} {a0 a1 : Int32} {f f' : am_M} {v' : Int32} (h : D_J9_max_7cf53 a0 a1 f = some (v', f')) : am_Ev X 163 0 [some (.int a0), some (.int a1)] [] f (some (.int v')) f' := by
  rw [D_J9_max_7cf53] at h
  refine am_Ew.start [] 6 (am_Ew.conv (fun k => (if a0 < a1 then (some (some (.int a1), am_G0, f)) else (some (some (.int a0), am_G0, f)))) (fun k => rfl) ?_)
  refine am_Ew.ite h (fun _ h => ?_) (fun _ h => ?_)
  · exact am_Ew.retI h
  · exact am_Ew.retI h
set_option maxHeartbeats 400000 in
set_option maxRecDepth 100000 in
theorem lk_J9_min_7cf53 {X : am_X} {a0 a1 : Int32} {f f' : am_M} {v' : Int32} (h : D_J9_min_7cf53 a0 a1 f = some (v', f')) : am_Ev X 164 0 [some (.int a0), some (.int a1)] [] f (some (.int v')) f' := by
  rw [D_J9_min_7cf53] at h
  refine am_Ew.start [] 6 (am_Ew.conv (fun k => (if a1 < a0 then (some (some (.int a1), am_G0, f)) else (some (some (.int a0), am_G0, f)))) (fun k => rfl) ?_)
  refine am_Ew.ite h (fun _ h => ?_) (fun _ h => ?_)
  · exact am_Ew.retI h
  · exact am_Ew.retI h
set_option maxHeartbeats 400000 in
set_option maxRecDepth 100000 in
theorem lk_X3_lastTick_4 {X : am_X} : ∀ (n : Nat) (x1 x2 : Int32) (f : am_M) (v' : Int32) (f' : am_M), D_X3_lastTick_4 n x1 x2 f = some (v', f') → am_Ev X 13 4 [some (.ref 88), some (.int x1), some (.int x2)] [] f (some (.int v')) f'
  | 0, _, _, _, _, _, h => by cases h
  | n + 1, x1, x2, f, v', f', h => by
    rw [D_X3_lastTick_4] at h
    refine am_Ew.start [19] 9 (am_Ew.conv (fun k => (if x2 < (f 88 2) then (am_chk x2 6 (k 19 [some (.ref 88), some (.int x1), some (.int x2)] [.int (f 89 x2.toNatClampNeg), .int x1] am_G0 f)) else (some (some (.int x1), am_G0, f)))) (fun k => rfl) ?_)
    refine am_Ew.ite h (fun _ h => ?_) (fun _ h => ?_)
    · refine am_Ew.chk h (fun h => ?_)
      obtain ⟨v1, f1, h1, h⟩ := am_bI_some h
      refine am_Ew.run (am_Ev.call (fun n => rfl) (lk_J9_max_7cf53 h1) ?_)
      refine am_Ew.start [4] 3 (am_Ew.conv (fun k => (k 4 [some (.ref 88), some (.int v1), some (.int (x2 + 1))] [] am_G0 f1)) (fun k => rfl) ?_)
      exact am_Ew.run (lk_X3_lastTick_4  n _ _ _ _ _ h )
    · exact am_Ew.retI h
set_option maxHeartbeats 400000 in
set_option maxRecDepth 100000 in
theorem lk_X3_lastTick {X : am_X} {f f' : am_M} {v' : Int32} (h : D_X3_lastTick f = some (v', f')) : am_Ev X 13 0 [some (.ref 88), none, none] [] f (some (.int v')) f' := by
  rw [D_X3_lastTick] at h
  refine am_Ew.start [4] 4 (am_Ew.conv (fun k => (k 4 [some (.ref 88), some (.int 0), some (.int 0)] [] am_G0 f)) (fun k => rfl) ?_)
  exact am_Ew.run (lk_X3_lastTick_4 _ _ _ _ _ _ h )
set_option maxHeartbeats 400000 in
set_option maxRecDepth 100000 in
theorem lk_X5_readNumber_13 {X : am_X} : ∀ (n : Nat) (f : am_M) (f' : am_M), D_X5_readNumber_13 n  f = some f' → ∀ d1 : Option Value, am_Ev X 51 13 [some (.ref 1), d1] [] f none f'
  | 0, _, _, h, _ => by cases h
  | n + 1, f, f', h, d1 => by
    rw [D_X5_readNumber_13] at h
    refine am_Ew.start [33] 32 (am_Ew.conv (fun k => (if (f 1 4) < (f 1 1) then (am_chk (f 1 4) 120 (k 33 [some (.ref 1), d1] [.int (f 2 (f 1 4).toNatClampNeg)] am_G0 f)) else (am_chk (f 1 3) 120 (if (f 2 (f 1 3).toNatClampNeg) = 48 then (if ((f 1 3) + 1) < (f 1 4) then (some (none, am_G0, (am_wr f 1 2 6))) else (if 99 < (f 1 5) then (some (none, am_G0, (am_wr f 1 2 6))) else (some (none, am_G0, (am_wr f 1 2 4))))) else (if 99 < (f 1 5) then (some (none, am_G0, (am_wr f 1 2 6))) else (some (none, am_G0, (am_wr f 1 2 4)))))))) (fun k => rfl) ?_)
    refine am_Ew.ite h (fun _ h => ?_) (fun _ h => ?_)
    · refine am_Ew.chk h (fun h => ?_)
      obtain ⟨v1, f1, h1, h⟩ := am_bI_some h
      refine am_Ew.run (am_Ev.call (fun n => rfl) (lk_X5_isFigure h1) ?_)
      refine am_Ew.start [62] 28 (am_Ew.conv (fun k => (if v1 = 0 then (am_chk (f1 1 3) 120 (if (f1 2 (f1 1 3).toNatClampNeg) = 48 then (if ((f1 1 3) + 1) < (f1 1 4) then (some (none, am_G0, (am_wr f1 1 2 6))) else (if 99 < (f1 1 5) then (some (none, am_G0, (am_wr f1 1 2 6))) else (some (none, am_G0, (am_wr f1 1 2 4))))) else (if 99 < (f1 1 5) then (some (none, am_G0, (am_wr f1 1 2 6))) else (some (none, am_G0, (am_wr f1 1 2 4)))))) else (am_chk (f1 1 4) 120 (k 62 [some (.ref 1), d1] [.int 100, .int ((((10 : Int32) * (f1 1 5)) + (f1 2 (f1 1 4).toNatClampNeg)) - 48), .ref 1] am_G0 f1)))) (fun k => rfl) ?_)
      refine am_Ew.ite h (fun _ h => ?_) (fun _ h => ?_)
      · refine am_Ew.chk h (fun h => ?_)
        refine am_Ew.ite h (fun _ h => ?_) (fun _ h => ?_)
        · refine am_Ew.ite h (fun _ h => ?_) (fun _ h => ?_)
          · exact am_Ew.retV h
          · refine am_Ew.ite h (fun _ h => ?_) (fun _ h => ?_)
            · exact am_Ew.retV h
            · exact am_Ew.retV h
        · refine am_Ew.ite h (fun _ h => ?_) (fun _ h => ?_)
          · exact am_Ew.retV h
          · exact am_Ew.retV h
      · refine am_Ew.chk h (fun h => ?_)
        obtain ⟨v2, f2, h1, h⟩ := am_bI_some h
        refine am_Ew.run (am_Ev.call (fun n => rfl) (lk_J9_min_7cf53 h1) ?_)
        refine am_Ew.start [13] 8 (am_Ew.conv (fun k => (k 13 [some (.ref 1), d1] [] am_G0 (am_wr (am_wr f2 1 5 v2) 1 4 ((f2 1 4) + 1)))) (fun k => rfl) ?_)
        exact am_Ew.run (lk_X5_readNumber_13  n _ _ h _ )
    · refine am_Ew.chk h (fun h => ?_)
      refine am_Ew.ite h (fun _ h => ?_) (fun _ h => ?_)
      · refine am_Ew.ite h (fun _ h => ?_) (fun _ h => ?_)
        · exact am_Ew.retV h
        · refine am_Ew.ite h (fun _ h => ?_) (fun _ h => ?_)
          · exact am_Ew.retV h
          · exact am_Ew.retV h
      · refine am_Ew.ite h (fun _ h => ?_) (fun _ h => ?_)
        · exact am_Ew.retV h
        · exact am_Ew.retV h
set_option maxHeartbeats 400000 in
set_option maxRecDepth 100000 in
theorem lk_X5_readNumber {X : am_X} {f f' : am_M} (h : D_X5_readNumber f = some f') : am_Ev X 51 0 [some (.ref 1), none] [] f none f' := by
  rw [D_X5_readNumber] at h
  refine am_Ew.start [13] 7 (am_Ew.conv (fun k => (k 13 [some (.ref 1), none] [] am_G0 (am_wr (am_wr f 1 5 0) 1 4 (f 1 3)))) (fun k => rfl) ?_)
  exact am_Ew.run (lk_X5_readNumber_13 _ _ _ h _ )
set_option maxHeartbeats 400000 in
set_option maxRecDepth 100000 in
theorem lk_X6_copyFrom {X : am_X} {f f' : am_M} (h : D_X6_copyFrom f = some f') : am_Ev X 57 0 [some (.ref 3), some (.ref 7)] [] f none f' := by
  rw [D_X6_copyFrom] at h
  refine am_Ew.start [] 37 (am_Ew.conv (fun k => (some (none, am_G0, (am_cp (am_cp (am_cp (am_wr (am_wr (am_wr f 3 0 (f 7 0)) 3 1 (f 7 1)) 3 2 (f 7 2)) 8 4 0 0 3) 9 5 0 0 6) 10 6 0 0 6)))) (fun k => rfl) ?_)
  exact am_Ew.retV h
set_option maxHeartbeats 400000 in
set_option maxRecDepth 100000 in
theorem lk_X5_isWord_0 {X : am_X} {f f' : am_M} {v' : Int32} (h : D_X5_isWord_0 f = some (v', f')) : am_Ev X 52 0 [some (.ref 1), some (.ref 1010), none] [] f (some (.int v')) f' := by
  rw [D_X5_isWord_0] at h
  refine am_Ew.start [10] 6 (am_Ew.conv (fun k => (k 10 [some (.ref 1), some (.ref 1010), none] [.ref 1010, .int ((f 1 4) - (f 1 3))] am_G0 f)) (fun k => rfl) ?_)
  refine am_Ew.run (am_Ev.call (fun n => rfl) (lk_len_0 X f) ?_)
  refine am_Ew.start [22] 5 (am_Ew.conv (fun k => (if ((f 1 4) - (f 1 3)) = 5 then (k 22 [some (.ref 1), some (.ref 1010), some (.int 0)] [.ref 1010, .int 0] am_G0 f) else (some (some (.int 0), am_G0, f)))) (fun k => rfl) ?_)
  refine am_Ew.ite h (fun _ h => ?_) (fun _ h => ?_)
  · refine am_Ew.run (am_Ev.call (fun n => rfl) (lk_len_0 X f) ?_)
    refine am_Ew.start [41] 10 (am_Ew.conv (fun k => (am_chk ((f 1 3) + 0) 120 (k 41 [some (.ref 1), some (.ref 1010), some (.int 0)] [.int 0, .ref 1010, .int (f 2 ((f 1 3) + 0).toNatClampNeg)] am_G0 f))) (fun k => rfl) ?_)
    refine am_Ew.chk h (fun h => ?_)
    refine am_Ew.run (am_Ev.call (fun n => rfl) (lk_chr_0_0 X f) ?_)
    refine am_Ew.start [22] 5 (am_Ew.conv (fun k => (if (f 2 ((f 1 3) + 0).toNatClampNeg) = 115 then (k 22 [some (.ref 1), some (.ref 1010), some (.int 1)] [.ref 1010, .int 1] am_G0 f) else (some (some (.int 0), am_G0, f)))) (fun k => rfl) ?_)
    refine am_Ew.ite h (fun _ h => ?_) (fun _ h => ?_)
    · refine am_Ew.run (am_Ev.call (fun n => rfl) (lk_len_0 X f) ?_)
      refine am_Ew.start [41] 10 (am_Ew.conv (fun k => (am_chk ((f 1 3) + 1) 120 (k 41 [some (.ref 1), some (.ref 1010), some (.int 1)] [.int 1, .ref 1010, .int (f 2 ((f 1 3) + 1).toNatClampNeg)] am_G0 f))) (fun k => rfl) ?_)
      refine am_Ew.chk h (fun h => ?_)
      refine am_Ew.run (am_Ev.call (fun n => rfl) (lk_chr_0_1 X f) ?_)
      refine am_Ew.start [22] 5 (am_Ew.conv (fun k => (if (f 2 ((f 1 3) + 1).toNatClampNeg) = 108 then (k 22 [some (.ref 1), some (.ref 1010), some (.int 2)] [.ref 1010, .int 2] am_G0 f) else (some (some (.int 0), am_G0, f)))) (fun k => rfl) ?_)
      refine am_Ew.ite h (fun _ h => ?_) (fun _ h => ?_)
      · refine am_Ew.run (am_Ev.call (fun n => rfl) (lk_len_0 X f) ?_)
        refine am_Ew.start [41] 10 (am_Ew.conv (fun k => (am_chk ((f 1 3) + 2) 120 (k 41 [some (.ref 1), some (.ref 1010), some (.int 2)] [.int 2, .ref 1010, .int (f 2 ((f 1 3) + 2).toNatClampNeg)] am_G0 f))) (fun k => rfl) ?_)
        refine am_Ew.chk h (fun h => ?_)
        refine am_Ew.run (am_Ev.call (fun n => rfl) (lk_chr_0_2 X f) ?_)
        refine am_Ew.start [22] 5 (am_Ew.conv (fun k => (if (f 2 ((f 1 3) + 2).toNatClampNeg) = 111 then (k 22 [some (.ref 1), some (.ref 1010), some (.int 3)] [.ref 1010, .int 3] am_G0 f) else (some (some (.int 0), am_G0, f)))) (fun k => rfl) ?_)
        refine am_Ew.ite h (fun _ h => ?_) (fun _ h => ?_)
        · refine am_Ew.run (am_Ev.call (fun n => rfl) (lk_len_0 X f) ?_)
          refine am_Ew.start [41] 10 (am_Ew.conv (fun k => (am_chk ((f 1 3) + 3) 120 (k 41 [some (.ref 1), some (.ref 1010), some (.int 3)] [.int 3, .ref 1010, .int (f 2 ((f 1 3) + 3).toNatClampNeg)] am_G0 f))) (fun k => rfl) ?_)
          refine am_Ew.chk h (fun h => ?_)
          refine am_Ew.run (am_Ev.call (fun n => rfl) (lk_chr_0_3 X f) ?_)
          refine am_Ew.start [22] 5 (am_Ew.conv (fun k => (if (f 2 ((f 1 3) + 3).toNatClampNeg) = 116 then (k 22 [some (.ref 1), some (.ref 1010), some (.int 4)] [.ref 1010, .int 4] am_G0 f) else (some (some (.int 0), am_G0, f)))) (fun k => rfl) ?_)
          refine am_Ew.ite h (fun _ h => ?_) (fun _ h => ?_)
          · refine am_Ew.run (am_Ev.call (fun n => rfl) (lk_len_0 X f) ?_)
            refine am_Ew.start [41] 10 (am_Ew.conv (fun k => (am_chk ((f 1 3) + 4) 120 (k 41 [some (.ref 1), some (.ref 1010), some (.int 4)] [.int 4, .ref 1010, .int (f 2 ((f 1 3) + 4).toNatClampNeg)] am_G0 f))) (fun k => rfl) ?_)
            refine am_Ew.chk h (fun h => ?_)
            refine am_Ew.run (am_Ev.call (fun n => rfl) (lk_chr_0_4 X f) ?_)
            refine am_Ew.start [22] 5 (am_Ew.conv (fun k => (if (f 2 ((f 1 3) + 4).toNatClampNeg) = 115 then (k 22 [some (.ref 1), some (.ref 1010), some (.int 5)] [.ref 1010, .int 5] am_G0 f) else (some (some (.int 0), am_G0, f)))) (fun k => rfl) ?_)
            refine am_Ew.ite h (fun _ h => ?_) (fun _ h => ?_)
            · refine am_Ew.run (am_Ev.call (fun n => rfl) (lk_len_0 X f) ?_)
              refine am_Ew.start [] 3 (am_Ew.conv (fun k => (some (some (.int 1), am_G0, f))) (fun k => rfl) ?_)
              exact am_Ew.retI h
            · exact am_Ew.retI h
          · exact am_Ew.retI h
        · exact am_Ew.retI h
      · exact am_Ew.retI h
    · exact am_Ew.retI h
  · exact am_Ew.retI h
set_option maxHeartbeats 400000 in
set_option maxRecDepth 100000 in
theorem lk_X5_isWord_1 {X : am_X} {f f' : am_M} {v' : Int32} (h : D_X5_isWord_1 f = some (v', f')) : am_Ev X 52 0 [some (.ref 1), some (.ref 1011), none] [] f (some (.int v')) f' := by
  rw [D_X5_isWord_1] at h
  refine am_Ew.start [10] 6 (am_Ew.conv (fun k => (k 10 [some (.ref 1), some (.ref 1011), none] [.ref 1011, .int ((f 1 4) - (f 1 3))] am_G0 f)) (fun k => rfl) ?_)
  refine am_Ew.run (am_Ev.call (fun n => rfl) (lk_len_1 X f) ?_)
  refine am_Ew.start [22] 5 (am_Ew.conv (fun k => (if ((f 1 4) - (f 1 3)) = 5 then (k 22 [some (.ref 1), some (.ref 1011), some (.int 0)] [.ref 1011, .int 0] am_G0 f) else (some (some (.int 0), am_G0, f)))) (fun k => rfl) ?_)
  refine am_Ew.ite h (fun _ h => ?_) (fun _ h => ?_)
  · refine am_Ew.run (am_Ev.call (fun n => rfl) (lk_len_1 X f) ?_)
    refine am_Ew.start [41] 10 (am_Ew.conv (fun k => (am_chk ((f 1 3) + 0) 120 (k 41 [some (.ref 1), some (.ref 1011), some (.int 0)] [.int 0, .ref 1011, .int (f 2 ((f 1 3) + 0).toNatClampNeg)] am_G0 f))) (fun k => rfl) ?_)
    refine am_Ew.chk h (fun h => ?_)
    refine am_Ew.run (am_Ev.call (fun n => rfl) (lk_chr_1_0 X f) ?_)
    refine am_Ew.start [22] 5 (am_Ew.conv (fun k => (if (f 2 ((f 1 3) + 0).toNatClampNeg) = 109 then (k 22 [some (.ref 1), some (.ref 1011), some (.int 1)] [.ref 1011, .int 1] am_G0 f) else (some (some (.int 0), am_G0, f)))) (fun k => rfl) ?_)
    refine am_Ew.ite h (fun _ h => ?_) (fun _ h => ?_)
    · refine am_Ew.run (am_Ev.call (fun n => rfl) (lk_len_1 X f) ?_)
      refine am_Ew.start [41] 10 (am_Ew.conv (fun k => (am_chk ((f 1 3) + 1) 120 (k 41 [some (.ref 1), some (.ref 1011), some (.int 1)] [.int 1, .ref 1011, .int (f 2 ((f 1 3) + 1).toNatClampNeg)] am_G0 f))) (fun k => rfl) ?_)
      refine am_Ew.chk h (fun h => ?_)
      refine am_Ew.run (am_Ev.call (fun n => rfl) (lk_chr_1_1 X f) ?_)
      refine am_Ew.start [22] 5 (am_Ew.conv (fun k => (if (f 2 ((f 1 3) + 1).toNatClampNeg) = 97 then (k 22 [some (.ref 1), some (.ref 1011), some (.int 2)] [.ref 1011, .int 2] am_G0 f) else (some (some (.int 0), am_G0, f)))) (fun k => rfl) ?_)
      refine am_Ew.ite h (fun _ h => ?_) (fun _ h => ?_)
      · refine am_Ew.run (am_Ev.call (fun n => rfl) (lk_len_1 X f) ?_)
        refine am_Ew.start [41] 10 (am_Ew.conv (fun k => (am_chk ((f 1 3) + 2) 120 (k 41 [some (.ref 1), some (.ref 1011), some (.int 2)] [.int 2, .ref 1011, .int (f 2 ((f 1 3) + 2).toNatClampNeg)] am_G0 f))) (fun k => rfl) ?_)
        refine am_Ew.chk h (fun h => ?_)
        refine am_Ew.run (am_Ev.call (fun n => rfl) (lk_chr_1_2 X f) ?_)
        refine am_Ew.start [22] 5 (am_Ew.conv (fun k => (if (f 2 ((f 1 3) + 2).toNatClampNeg) = 107 then (k 22 [some (.ref 1), some (.ref 1011), some (.int 3)] [.ref 1011, .int 3] am_G0 f) else (some (some (.int 0), am_G0, f)))) (fun k => rfl) ?_)
        refine am_Ew.ite h (fun _ h => ?_) (fun _ h => ?_)
        · refine am_Ew.run (am_Ev.call (fun n => rfl) (lk_len_1 X f) ?_)
          refine am_Ew.start [41] 10 (am_Ew.conv (fun k => (am_chk ((f 1 3) + 3) 120 (k 41 [some (.ref 1), some (.ref 1011), some (.int 3)] [.int 3, .ref 1011, .int (f 2 ((f 1 3) + 3).toNatClampNeg)] am_G0 f))) (fun k => rfl) ?_)
          refine am_Ew.chk h (fun h => ?_)
          refine am_Ew.run (am_Ev.call (fun n => rfl) (lk_chr_1_3 X f) ?_)
          refine am_Ew.start [22] 5 (am_Ew.conv (fun k => (if (f 2 ((f 1 3) + 3).toNatClampNeg) = 101 then (k 22 [some (.ref 1), some (.ref 1011), some (.int 4)] [.ref 1011, .int 4] am_G0 f) else (some (some (.int 0), am_G0, f)))) (fun k => rfl) ?_)
          refine am_Ew.ite h (fun _ h => ?_) (fun _ h => ?_)
          · refine am_Ew.run (am_Ev.call (fun n => rfl) (lk_len_1 X f) ?_)
            refine am_Ew.start [41] 10 (am_Ew.conv (fun k => (am_chk ((f 1 3) + 4) 120 (k 41 [some (.ref 1), some (.ref 1011), some (.int 4)] [.int 4, .ref 1011, .int (f 2 ((f 1 3) + 4).toNatClampNeg)] am_G0 f))) (fun k => rfl) ?_)
            refine am_Ew.chk h (fun h => ?_)
            refine am_Ew.run (am_Ev.call (fun n => rfl) (lk_chr_1_4 X f) ?_)
            refine am_Ew.start [22] 5 (am_Ew.conv (fun k => (if (f 2 ((f 1 3) + 4).toNatClampNeg) = 114 then (k 22 [some (.ref 1), some (.ref 1011), some (.int 5)] [.ref 1011, .int 5] am_G0 f) else (some (some (.int 0), am_G0, f)))) (fun k => rfl) ?_)
            refine am_Ew.ite h (fun _ h => ?_) (fun _ h => ?_)
            · refine am_Ew.run (am_Ev.call (fun n => rfl) (lk_len_1 X f) ?_)
              refine am_Ew.start [] 3 (am_Ew.conv (fun k => (some (some (.int 1), am_G0, f))) (fun k => rfl) ?_)
              exact am_Ew.retI h
            · exact am_Ew.retI h
          · exact am_Ew.retI h
        · exact am_Ew.retI h
      · exact am_Ew.retI h
    · exact am_Ew.retI h
  · exact am_Ew.retI h
set_option maxHeartbeats 400000 in
set_option maxRecDepth 100000 in
theorem lk_X5_isWord_2 {X : am_X} {f f' : am_M} {v' : Int32} (h : D_X5_isWord_2 f = some (v', f')) : am_Ev X 52 0 [some (.ref 1), some (.ref 1012), none] [] f (some (.int v')) f' := by
  rw [D_X5_isWord_2] at h
  refine am_Ew.start [10] 6 (am_Ew.conv (fun k => (k 10 [some (.ref 1), some (.ref 1012), none] [.ref 1012, .int ((f 1 4) - (f 1 3))] am_G0 f)) (fun k => rfl) ?_)
  refine am_Ew.run (am_Ev.call (fun n => rfl) (lk_len_2 X f) ?_)
  refine am_Ew.start [22] 5 (am_Ew.conv (fun k => (if ((f 1 4) - (f 1 3)) = 5 then (k 22 [some (.ref 1), some (.ref 1012), some (.int 0)] [.ref 1012, .int 0] am_G0 f) else (some (some (.int 0), am_G0, f)))) (fun k => rfl) ?_)
  refine am_Ew.ite h (fun _ h => ?_) (fun _ h => ?_)
  · refine am_Ew.run (am_Ev.call (fun n => rfl) (lk_len_2 X f) ?_)
    refine am_Ew.start [41] 10 (am_Ew.conv (fun k => (am_chk ((f 1 3) + 0) 120 (k 41 [some (.ref 1), some (.ref 1012), some (.int 0)] [.int 0, .ref 1012, .int (f 2 ((f 1 3) + 0).toNatClampNeg)] am_G0 f))) (fun k => rfl) ?_)
    refine am_Ew.chk h (fun h => ?_)
    refine am_Ew.run (am_Ev.call (fun n => rfl) (lk_chr_2_0 X f) ?_)
    refine am_Ew.start [22] 5 (am_Ew.conv (fun k => (if (f 2 ((f 1 3) + 0).toNatClampNeg) = 116 then (k 22 [some (.ref 1), some (.ref 1012), some (.int 1)] [.ref 1012, .int 1] am_G0 f) else (some (some (.int 0), am_G0, f)))) (fun k => rfl) ?_)
    refine am_Ew.ite h (fun _ h => ?_) (fun _ h => ?_)
    · refine am_Ew.run (am_Ev.call (fun n => rfl) (lk_len_2 X f) ?_)
      refine am_Ew.start [41] 10 (am_Ew.conv (fun k => (am_chk ((f 1 3) + 1) 120 (k 41 [some (.ref 1), some (.ref 1012), some (.int 1)] [.int 1, .ref 1012, .int (f 2 ((f 1 3) + 1).toNatClampNeg)] am_G0 f))) (fun k => rfl) ?_)
      refine am_Ew.chk h (fun h => ?_)
      refine am_Ew.run (am_Ev.call (fun n => rfl) (lk_chr_2_1 X f) ?_)
      refine am_Ew.start [22] 5 (am_Ew.conv (fun k => (if (f 2 ((f 1 3) + 1).toNatClampNeg) = 97 then (k 22 [some (.ref 1), some (.ref 1012), some (.int 2)] [.ref 1012, .int 2] am_G0 f) else (some (some (.int 0), am_G0, f)))) (fun k => rfl) ?_)
      refine am_Ew.ite h (fun _ h => ?_) (fun _ h => ?_)
      · refine am_Ew.run (am_Ev.call (fun n => rfl) (lk_len_2 X f) ?_)
        refine am_Ew.start [41] 10 (am_Ew.conv (fun k => (am_chk ((f 1 3) + 2) 120 (k 41 [some (.ref 1), some (.ref 1012), some (.int 2)] [.int 2, .ref 1012, .int (f 2 ((f 1 3) + 2).toNatClampNeg)] am_G0 f))) (fun k => rfl) ?_)
        refine am_Ew.chk h (fun h => ?_)
        refine am_Ew.run (am_Ev.call (fun n => rfl) (lk_chr_2_2 X f) ?_)
        refine am_Ew.start [22] 5 (am_Ew.conv (fun k => (if (f 2 ((f 1 3) + 2).toNatClampNeg) = 107 then (k 22 [some (.ref 1), some (.ref 1012), some (.int 3)] [.ref 1012, .int 3] am_G0 f) else (some (some (.int 0), am_G0, f)))) (fun k => rfl) ?_)
        refine am_Ew.ite h (fun _ h => ?_) (fun _ h => ?_)
        · refine am_Ew.run (am_Ev.call (fun n => rfl) (lk_len_2 X f) ?_)
          refine am_Ew.start [41] 10 (am_Ew.conv (fun k => (am_chk ((f 1 3) + 3) 120 (k 41 [some (.ref 1), some (.ref 1012), some (.int 3)] [.int 3, .ref 1012, .int (f 2 ((f 1 3) + 3).toNatClampNeg)] am_G0 f))) (fun k => rfl) ?_)
          refine am_Ew.chk h (fun h => ?_)
          refine am_Ew.run (am_Ev.call (fun n => rfl) (lk_chr_2_3 X f) ?_)
          refine am_Ew.start [22] 5 (am_Ew.conv (fun k => (if (f 2 ((f 1 3) + 3).toNatClampNeg) = 101 then (k 22 [some (.ref 1), some (.ref 1012), some (.int 4)] [.ref 1012, .int 4] am_G0 f) else (some (some (.int 0), am_G0, f)))) (fun k => rfl) ?_)
          refine am_Ew.ite h (fun _ h => ?_) (fun _ h => ?_)
          · refine am_Ew.run (am_Ev.call (fun n => rfl) (lk_len_2 X f) ?_)
            refine am_Ew.start [41] 10 (am_Ew.conv (fun k => (am_chk ((f 1 3) + 4) 120 (k 41 [some (.ref 1), some (.ref 1012), some (.int 4)] [.int 4, .ref 1012, .int (f 2 ((f 1 3) + 4).toNatClampNeg)] am_G0 f))) (fun k => rfl) ?_)
            refine am_Ew.chk h (fun h => ?_)
            refine am_Ew.run (am_Ev.call (fun n => rfl) (lk_chr_2_4 X f) ?_)
            refine am_Ew.start [22] 5 (am_Ew.conv (fun k => (if (f 2 ((f 1 3) + 4).toNatClampNeg) = 114 then (k 22 [some (.ref 1), some (.ref 1012), some (.int 5)] [.ref 1012, .int 5] am_G0 f) else (some (some (.int 0), am_G0, f)))) (fun k => rfl) ?_)
            refine am_Ew.ite h (fun _ h => ?_) (fun _ h => ?_)
            · refine am_Ew.run (am_Ev.call (fun n => rfl) (lk_len_2 X f) ?_)
              refine am_Ew.start [] 3 (am_Ew.conv (fun k => (some (some (.int 1), am_G0, f))) (fun k => rfl) ?_)
              exact am_Ew.retI h
            · exact am_Ew.retI h
          · exact am_Ew.retI h
        · exact am_Ew.retI h
      · exact am_Ew.retI h
    · exact am_Ew.retI h
  · exact am_Ew.retI h
set_option maxHeartbeats 400000 in
set_option maxRecDepth 100000 in
theorem lk_X5_readWord_8 {X : am_X} : ∀ (n : Nat) (f : am_M) (f' : am_M), D_X5_readWord_8 n  f = some f' → am_Ev X 50 8 [some (.ref 1)] [] f none f'
  | 0, _, _, h => by cases h
  | n + 1, f, f', h => by
    rw [D_X5_readWord_8] at h
    refine am_Ew.start [28, 50] 10 (am_Ew.conv (fun k => (if (f 1 4) < (f 1 1) then (am_chk (f 1 4) 120 (k 28 [some (.ref 1)] [.int (f 2 (f 1 4).toNatClampNeg)] am_G0 f)) else (k 50 [some (.ref 1)] [.ref 1010, .ref 1] am_G0 f))) (fun k => rfl) ?_)
    refine am_Ew.ite h (fun _ h => ?_) (fun _ h => ?_)
    · refine am_Ew.chk h (fun h => ?_)
      obtain ⟨v1, f1, h1, h⟩ := am_bI_some h
      refine am_Ew.run (am_Ev.call (fun n => rfl) (lk_X5_isWordLetter h1) ?_)
      refine am_Ew.start [8, 50] 8 (am_Ew.conv (fun k => (if v1 = 0 then (k 50 [some (.ref 1)] [.ref 1010, .ref 1] am_G0 f1) else (k 8 [some (.ref 1)] [] am_G0 (am_wr f1 1 4 ((f1 1 4) + 1))))) (fun k => rfl) ?_)
      refine am_Ew.ite h (fun _ h => ?_) (fun _ h => ?_)
      · obtain ⟨v2, f2, h1, h⟩ := am_bI_some h
        refine am_Ew.run (am_Ev.call (fun n => rfl) (lk_X5_isWord_0 h1) ?_)
        refine am_Ew.start [67] 6 (am_Ew.conv (fun k => (if v2 = 0 then (k 67 [some (.ref 1)] [.ref 1011, .ref 1] am_G0 f2) else (some (none, am_G0, (am_wr f2 1 2 1))))) (fun k => rfl) ?_)
        refine am_Ew.ite h (fun _ h => ?_) (fun _ h => ?_)
        · obtain ⟨v3, f3, h1, h⟩ := am_bI_some h
          refine am_Ew.run (am_Ev.call (fun n => rfl) (lk_X5_isWord_1 h1) ?_)
          refine am_Ew.start [84] 6 (am_Ew.conv (fun k => (if v3 = 0 then (k 84 [some (.ref 1)] [.ref 1012, .ref 1] am_G0 f3) else (some (none, am_G0, (am_wr f3 1 2 2))))) (fun k => rfl) ?_)
          refine am_Ew.ite h (fun _ h => ?_) (fun _ h => ?_)
          · obtain ⟨v4, f4, h1, h⟩ := am_bI_some h
            refine am_Ew.run (am_Ev.call (fun n => rfl) (lk_X5_isWord_2 h1) ?_)
            refine am_Ew.start [] 6 (am_Ew.conv (fun k => (if v4 = 0 then (some (none, am_G0, (am_wr f4 1 2 6))) else (some (none, am_G0, (am_wr f4 1 2 3))))) (fun k => rfl) ?_)
            refine am_Ew.ite h (fun _ h => ?_) (fun _ h => ?_)
            · exact am_Ew.retV h
            · exact am_Ew.retV h
          · exact am_Ew.retV h
        · exact am_Ew.retV h
      · exact am_Ew.run (lk_X5_readWord_8  n _ _ h )
    · obtain ⟨v5, f5, h1, h⟩ := am_bI_some h
      refine am_Ew.run (am_Ev.call (fun n => rfl) (lk_X5_isWord_0 h1) ?_)
      refine am_Ew.start [67] 6 (am_Ew.conv (fun k => (if v5 = 0 then (k 67 [some (.ref 1)] [.ref 1011, .ref 1] am_G0 f5) else (some (none, am_G0, (am_wr f5 1 2 1))))) (fun k => rfl) ?_)
      refine am_Ew.ite h (fun _ h => ?_) (fun _ h => ?_)
      · obtain ⟨v6, f6, h1, h⟩ := am_bI_some h
        refine am_Ew.run (am_Ev.call (fun n => rfl) (lk_X5_isWord_1 h1) ?_)
        refine am_Ew.start [84] 6 (am_Ew.conv (fun k => (if v6 = 0 then (k 84 [some (.ref 1)] [.ref 1012, .ref 1] am_G0 f6) else (some (none, am_G0, (am_wr f6 1 2 2))))) (fun k => rfl) ?_)
        refine am_Ew.ite h (fun _ h => ?_) (fun _ h => ?_)
        · obtain ⟨v7, f7, h1, h⟩ := am_bI_some h
          refine am_Ew.run (am_Ev.call (fun n => rfl) (lk_X5_isWord_2 h1) ?_)
          refine am_Ew.start [] 6 (am_Ew.conv (fun k => (if v7 = 0 then (some (none, am_G0, (am_wr f7 1 2 6))) else (some (none, am_G0, (am_wr f7 1 2 3))))) (fun k => rfl) ?_)
          refine am_Ew.ite h (fun _ h => ?_) (fun _ h => ?_)
          · exact am_Ew.retV h
          · exact am_Ew.retV h
        · exact am_Ew.retV h
      · exact am_Ew.retV h
set_option maxHeartbeats 400000 in
set_option maxRecDepth 100000 in
theorem lk_X5_readWord {X : am_X} {f f' : am_M} (h : D_X5_readWord f = some f') : am_Ev X 50 0 [some (.ref 1)] [] f none f' := by
  rw [D_X5_readWord] at h
  refine am_Ew.start [8] 4 (am_Ew.conv (fun k => (k 8 [some (.ref 1)] [] am_G0 (am_wr f 1 4 (f 1 3)))) (fun k => rfl) ?_)
  exact am_Ew.run (lk_X5_readWord_8 _ _ _ h )
set_option maxHeartbeats 400000 in
set_option maxRecDepth 100000 in
theorem lk_X5_next_8 {X : am_X} : ∀ (n : Nat) (f : am_M) (f' : am_M), D_X5_next_8 n  f = some f' → am_Ev X 49 8 [some (.ref 1)] [] f none f'
  | 0, _, _, h => by cases h
  | n + 1, f, f', h => by
    rw [D_X5_next_8] at h
    refine am_Ew.start [8, 82] 26 (am_Ew.conv (fun k => (if (f 1 3) < (f 1 1) then (am_chk (f 1 3) 120 (if (f 2 (f 1 3).toNatClampNeg) = 32 then (k 8 [some (.ref 1)] [] am_G0 (am_wr f 1 3 ((f 1 3) + 1))) else (if (f 1 3) < (f 1 1) then (am_chk (f 1 3) 120 (k 82 [some (.ref 1)] [.int (f 2 (f 1 3).toNatClampNeg)] am_G0 f)) else (some (none, am_G0, (am_wr (am_wr f 1 4 (f 1 3)) 1 2 0)))))) else (if (f 1 3) < (f 1 1) then (am_chk (f 1 3) 120 (k 82 [some (.ref 1)] [.int (f 2 (f 1 3).toNatClampNeg)] am_G0 f)) else (some (none, am_G0, (am_wr (am_wr f 1 4 (f 1 3)) 1 2 0)))))) (fun k => rfl) ?_)
    refine am_Ew.ite h (fun _ h => ?_) (fun _ h => ?_)
    · refine am_Ew.chk h (fun h => ?_)
      refine am_Ew.ite h (fun _ h => ?_) (fun _ h => ?_)
      · exact am_Ew.run (lk_X5_next_8  n _ _ h )
      · refine am_Ew.ite h (fun _ h => ?_) (fun _ h => ?_)
        · refine am_Ew.chk h (fun h => ?_)
          obtain ⟨v1, f1, h1, h⟩ := am_bI_some h
          refine am_Ew.run (am_Ev.call (fun n => rfl) (lk_X5_isWordLetter h1) ?_)
          refine am_Ew.start [89, 104] 6 (am_Ew.conv (fun k => (if v1 = 0 then (am_chk (f1 1 3) 120 (k 104 [some (.ref 1)] [.int (f1 2 (f1 1 3).toNatClampNeg)] am_G0 f1)) else (k 89 [some (.ref 1)] [.ref 1] am_G0 f1))) (fun k => rfl) ?_)
          refine am_Ew.ite h (fun _ h => ?_) (fun _ h => ?_)
          · refine am_Ew.chk h (fun h => ?_)
            obtain ⟨v2, f2, h1, h⟩ := am_bI_some h
            refine am_Ew.run (am_Ev.call (fun n => rfl) (lk_X5_isFigure h1) ?_)
            refine am_Ew.start [111] 19 (am_Ew.conv (fun k => (if v2 = 0 then (am_chk (f2 1 3) 120 (if (f2 2 (f2 1 3).toNatClampNeg) = 59 then (some (none, am_G0, (am_wr (am_wr f2 1 4 ((f2 1 3) + 1)) 1 2 5))) else (some (none, am_G0, (am_wr (am_wr f2 1 4 ((f2 1 3) + 1)) 1 2 6))))) else (k 111 [some (.ref 1)] [.ref 1] am_G0 f2))) (fun k => rfl) ?_)
            refine am_Ew.ite h (fun _ h => ?_) (fun _ h => ?_)
            · refine am_Ew.chk h (fun h => ?_)
              refine am_Ew.ite h (fun _ h => ?_) (fun _ h => ?_)
              · exact am_Ew.retV h
              · exact am_Ew.retV h
            · obtain ⟨f3, h1, h⟩ := am_bV_some h
              refine am_Ew.run (am_Ev.call (fun n => rfl) (lk_X5_readNumber h1) ?_)
              refine am_Ew.start [] 2 (am_Ew.conv (fun k => (some (none, am_G0, f3))) (fun k => rfl) ?_)
              exact am_Ew.retV h
          · obtain ⟨f4, h1, h⟩ := am_bV_some h
            refine am_Ew.run (am_Ev.call (fun n => rfl) (lk_X5_readWord h1) ?_)
            refine am_Ew.start [] 2 (am_Ew.conv (fun k => (some (none, am_G0, f4))) (fun k => rfl) ?_)
            exact am_Ew.retV h
        · exact am_Ew.retV h
    · refine am_Ew.ite h (fun _ h => ?_) (fun _ h => ?_)
      · refine am_Ew.chk h (fun h => ?_)
        obtain ⟨v5, f5, h1, h⟩ := am_bI_some h
        refine am_Ew.run (am_Ev.call (fun n => rfl) (lk_X5_isWordLetter h1) ?_)
        refine am_Ew.start [89, 104] 6 (am_Ew.conv (fun k => (if v5 = 0 then (am_chk (f5 1 3) 120 (k 104 [some (.ref 1)] [.int (f5 2 (f5 1 3).toNatClampNeg)] am_G0 f5)) else (k 89 [some (.ref 1)] [.ref 1] am_G0 f5))) (fun k => rfl) ?_)
        refine am_Ew.ite h (fun _ h => ?_) (fun _ h => ?_)
        · refine am_Ew.chk h (fun h => ?_)
          obtain ⟨v6, f6, h1, h⟩ := am_bI_some h
          refine am_Ew.run (am_Ev.call (fun n => rfl) (lk_X5_isFigure h1) ?_)
          refine am_Ew.start [111] 19 (am_Ew.conv (fun k => (if v6 = 0 then (am_chk (f6 1 3) 120 (if (f6 2 (f6 1 3).toNatClampNeg) = 59 then (some (none, am_G0, (am_wr (am_wr f6 1 4 ((f6 1 3) + 1)) 1 2 5))) else (some (none, am_G0, (am_wr (am_wr f6 1 4 ((f6 1 3) + 1)) 1 2 6))))) else (k 111 [some (.ref 1)] [.ref 1] am_G0 f6))) (fun k => rfl) ?_)
          refine am_Ew.ite h (fun _ h => ?_) (fun _ h => ?_)
          · refine am_Ew.chk h (fun h => ?_)
            refine am_Ew.ite h (fun _ h => ?_) (fun _ h => ?_)
            · exact am_Ew.retV h
            · exact am_Ew.retV h
          · obtain ⟨f7, h1, h⟩ := am_bV_some h
            refine am_Ew.run (am_Ev.call (fun n => rfl) (lk_X5_readNumber h1) ?_)
            refine am_Ew.start [] 2 (am_Ew.conv (fun k => (some (none, am_G0, f7))) (fun k => rfl) ?_)
            exact am_Ew.retV h
        · obtain ⟨f8, h1, h⟩ := am_bV_some h
          refine am_Ew.run (am_Ev.call (fun n => rfl) (lk_X5_readWord h1) ?_)
          refine am_Ew.start [] 2 (am_Ew.conv (fun k => (some (none, am_G0, f8))) (fun k => rfl) ?_)
          exact am_Ew.retV h
      · exact am_Ew.retV h
set_option maxHeartbeats 400000 in
set_option maxRecDepth 100000 in
theorem lk_X5_next {X : am_X} {f f' : am_M} (h : D_X5_next f = some f') : am_Ev X 49 0 [some (.ref 1)] [] f none f' := by
  rw [D_X5_next] at h
  refine am_Ew.start [8] 4 (am_Ew.conv (fun k => (k 8 [some (.ref 1)] [] am_G0 (am_wr f 1 3 (f 1 4)))) (fun k => rfl) ?_)
  exact am_Ew.run (lk_X5_next_8 _ _ _ h )
set_option maxHeartbeats 400000 in
set_option maxRecDepth 100000 in
theorem lk_X5_accept {X : am_X} {a1 a2 : Int32} {f f' : am_M} {v' : Int32} (h : D_X5_accept a1 a2 f = some (v', f')) : am_Ev X 47 0 [some (.ref 1), some (.int a1), some (.int a2)] [] f (some (.int v')) f' := by
  rw [D_X5_accept] at h
  refine am_Ew.start [35] 17 (am_Ew.conv (fun k => (if (f 1 2) = 4 then (if (f 1 5) < a1 then (some (some (.int 0), am_G0, f)) else (if a2 < (f 1 5) then (some (some (.int 0), am_G0, f)) else (k 35 [some (.ref 1), some (.int a1), some (.int a2)] [.ref 1] am_G0 (am_wr f 1 6 (f 1 5))))) else (some (some (.int 0), am_G0, f)))) (fun k => rfl) ?_)
  refine am_Ew.ite h (fun _ h => ?_) (fun _ h => ?_)
  · refine am_Ew.ite h (fun _ h => ?_) (fun _ h => ?_)
    · exact am_Ew.retI h
    · refine am_Ew.ite h (fun _ h => ?_) (fun _ h => ?_)
      · exact am_Ew.retI h
      · obtain ⟨f1, h1, h⟩ := am_bV_some h
        refine am_Ew.run (am_Ev.call (fun n => rfl) (lk_X5_next h1) ?_)
        refine am_Ew.start [] 2 (am_Ew.conv (fun k => (some (some (.int 1), am_G0, f1))) (fun k => rfl) ?_)
        exact am_Ew.retI h
  · exact am_Ew.retI h
set_option maxHeartbeats 400000 in
set_option maxRecDepth 100000 in
theorem lk_X5_acceptSemicolon {X : am_X} {f f' : am_M} {v' : Int32} (h : D_X5_acceptSemicolon f = some (v', f')) : am_Ev X 48 0 [some (.ref 1)] [] f (some (.int v')) f' := by
  rw [D_X5_acceptSemicolon] at h
  refine am_Ew.start [11] 6 (am_Ew.conv (fun k => (if (f 1 2) = 5 then (k 11 [some (.ref 1)] [.ref 1] am_G0 f) else (some (some (.int 0), am_G0, f)))) (fun k => rfl) ?_)
  refine am_Ew.ite h (fun _ h => ?_) (fun _ h => ?_)
  · obtain ⟨f1, h1, h⟩ := am_bV_some h
    refine am_Ew.run (am_Ev.call (fun n => rfl) (lk_X5_next h1) ?_)
    refine am_Ew.start [] 2 (am_Ew.conv (fun k => (some (some (.int 1), am_G0, f1))) (fun k => rfl) ?_)
    exact am_Ew.retI h
  · exact am_Ew.retI h
set_option maxHeartbeats 400000 in
set_option maxRecDepth 100000 in
theorem lk_X5_readSlots {X : am_X} {f f' : am_M} {v' : Int32} (h : D_X5_readSlots f = some (v', f')) : am_Ev X 44 0 [some (.ref 1), some (.ref 7)] [] f (some (.int v')) f' := by
  rw [D_X5_readSlots] at h
  refine am_Ew.start [10] 5 (am_Ew.conv (fun k => (if (f 1 7) = 0 then (k 10 [some (.ref 1), some (.ref 7)] [.ref 1] am_G0 f) else (some (some (.int 0), am_G0, f)))) (fun k => rfl) ?_)
  refine am_Ew.ite h (fun _ h => ?_) (fun _ h => ?_)
  · obtain ⟨f1, h1, h⟩ := am_bV_some h
    refine am_Ew.run (am_Ev.call (fun n => rfl) (lk_X5_next h1) ?_)
    refine am_Ew.start [17] 3 (am_Ew.conv (fun k => (k 17 [some (.ref 1), some (.ref 7)] [.int 16, .int 2, .ref 1] am_G0 f1)) (fun k => rfl) ?_)
    obtain ⟨v2, f2, h1, h⟩ := am_bI_some h
    refine am_Ew.run (am_Ev.call (fun n => rfl) (lk_X5_accept h1) ?_)
    refine am_Ew.start [39] 9 (am_Ew.conv (fun k => (if v2 = 0 then (some (some (.int 0), am_G0, f2)) else (k 39 [some (.ref 1), some (.ref 7)] [.ref 1] am_G0 (am_wr (am_wr f2 7 0 (f2 1 6)) 1 7 1)))) (fun k => rfl) ?_)
    refine am_Ew.ite h (fun _ h => ?_) (fun _ h => ?_)
    · exact am_Ew.retI h
    · obtain ⟨v3, f3, h1, h⟩ := am_bI_some h
      refine am_Ew.run (am_Ev.call (fun n => rfl) (lk_X5_acceptSemicolon h1) ?_)
      refine am_Ew.start [] 1 (am_Ew.conv (fun k => (if v3 = 0 ∨ v3 = 1 then some (some (.int v3), am_G0, f3) else none)) (fun k => rfl) ?_)
      exact am_Ew.ite h (fun _ h => am_Ew.retI h) (fun _ h => am_Ew.none h)
  · exact am_Ew.retI h
set_option maxHeartbeats 400000 in
set_option maxRecDepth 100000 in
theorem lk_X5_readMaker {X : am_X} {f f' : am_M} {v' : Int32} (h : D_X5_readMaker f = some (v', f')) : am_Ev X 45 0 [some (.ref 1), some (.ref 7)] [] f (some (.int v')) f' := by
  rw [D_X5_readMaker] at h
  refine am_Ew.start [11] 6 (am_Ew.conv (fun k => (if (f 7 1) < 3 then (k 11 [some (.ref 1), some (.ref 7)] [.ref 1] am_G0 f) else (some (some (.int 0), am_G0, f)))) (fun k => rfl) ?_)
  refine am_Ew.ite h (fun _ h => ?_) (fun _ h => ?_)
  · obtain ⟨f1, h1, h⟩ := am_bV_some h
    refine am_Ew.run (am_Ev.call (fun n => rfl) (lk_X5_next h1) ?_)
    refine am_Ew.start [18] 3 (am_Ew.conv (fun k => (k 18 [some (.ref 1), some (.ref 7)] [.int 9, .int 0, .ref 1] am_G0 f1)) (fun k => rfl) ?_)
    obtain ⟨v2, f2, h1, h⟩ := am_bI_some h
    refine am_Ew.run (am_Ev.call (fun n => rfl) (lk_X5_accept h1) ?_)
    refine am_Ew.start [29] 4 (am_Ew.conv (fun k => (if v2 = 0 then (some (some (.int 0), am_G0, f2)) else (k 29 [some (.ref 1), some (.ref 7)] [.int (f2 1 6), .ref 7] am_G0 f2))) (fun k => rfl) ?_)
    refine am_Ew.ite h (fun _ h => ?_) (fun _ h => ?_)
    · exact am_Ew.retI h
    · obtain ⟨v3, f3, h1, h⟩ := am_bI_some h
      refine am_Ew.run (am_Ev.call (fun n => rfl) (lk_X6_addMaker h1) ?_)
      refine am_Ew.start [36] 3 (am_Ew.conv (fun k => (if v3 = 0 then (some (some (.int 0), am_G0, f3)) else (k 36 [some (.ref 1), some (.ref 7)] [.ref 1] am_G0 f3))) (fun k => rfl) ?_)
      refine am_Ew.ite h (fun _ h => ?_) (fun _ h => ?_)
      · exact am_Ew.retI h
      · obtain ⟨v4, f4, h1, h⟩ := am_bI_some h
        refine am_Ew.run (am_Ev.call (fun n => rfl) (lk_X5_acceptSemicolon h1) ?_)
        refine am_Ew.start [] 4 (am_Ew.conv (fun k => (if v4 = 0 then (some (some (.int 0), am_G0, f4)) else (some (some (.int 1), am_G0, f4)))) (fun k => rfl) ?_)
        refine am_Ew.ite h (fun _ h => ?_) (fun _ h => ?_)
        · exact am_Ew.retI h
        · exact am_Ew.retI h
  · exact am_Ew.retI h
set_option maxHeartbeats 400000 in
set_option maxRecDepth 100000 in
theorem lk_X5_readTaker {X : am_X} {f f' : am_M} {v' : Int32} (h : D_X5_readTaker f = some (v', f')) : am_Ev X 46 0 [some (.ref 1), some (.ref 7), none, none] [] f (some (.int v')) f' := by
  rw [D_X5_readTaker] at h
  refine am_Ew.start [12] 6 (am_Ew.conv (fun k => (if (f 7 2) < 6 then (k 12 [some (.ref 1), some (.ref 7), none, none] [.ref 1] am_G0 f) else (some (some (.int 0), am_G0, f)))) (fun k => rfl) ?_)
  refine am_Ew.ite h (fun _ h => ?_) (fun _ h => ?_)
  · obtain ⟨f1, h1, h⟩ := am_bV_some h
    refine am_Ew.run (am_Ev.call (fun n => rfl) (lk_X5_next h1) ?_)
    refine am_Ew.start [19] 3 (am_Ew.conv (fun k => (k 19 [some (.ref 1), some (.ref 7), none, none] [.int 9, .int 1, .ref 1] am_G0 f1)) (fun k => rfl) ?_)
    obtain ⟨v2, f2, h1, h⟩ := am_bI_some h
    refine am_Ew.run (am_Ev.call (fun n => rfl) (lk_X5_accept h1) ?_)
    refine am_Ew.start [44] 14 (am_Ew.conv (fun k => (if v2 = 0 then (some (some (.int 0), am_G0, f2)) else (k 44 [some (.ref 1), some (.ref 7), some (.int (f2 1 6)), some (.int (((1 : Int32) <<< ((f2 7 2) &&& 31)) - 1))] [.int (((1 : Int32) <<< ((f2 7 2) &&& 31)) - 1), .int 0, .ref 1] am_G0 f2))) (fun k => rfl) ?_)
    refine am_Ew.ite h (fun _ h => ?_) (fun _ h => ?_)
    · exact am_Ew.retI h
    · obtain ⟨v3, f3, h1, h⟩ := am_bI_some h
      refine am_Ew.run (am_Ev.call (fun n => rfl) (lk_X5_accept h1) ?_)
      refine am_Ew.start [56] 5 (am_Ew.conv (fun k => (if v3 = 0 then (some (some (.int 0), am_G0, f3)) else (k 56 [some (.ref 1), some (.ref 7), some (.int (f2 1 6)), some (.int (((1 : Int32) <<< ((f2 7 2) &&& 31)) - 1))] [.int (f3 1 6), .int (f2 1 6), .ref 7] am_G0 f3))) (fun k => rfl) ?_)
      refine am_Ew.ite h (fun _ h => ?_) (fun _ h => ?_)
      · exact am_Ew.retI h
      · obtain ⟨v4, f4, h1, h⟩ := am_bI_some h
        refine am_Ew.run (am_Ev.call (fun n => rfl) (lk_X6_addTaker h1) ?_)
        refine am_Ew.start [63] 3 (am_Ew.conv (fun k => (if v4 = 0 then (some (some (.int 0), am_G0, f4)) else (k 63 [some (.ref 1), some (.ref 7), some (.int (f2 1 6)), some (.int (((1 : Int32) <<< ((f2 7 2) &&& 31)) - 1))] [.ref 1] am_G0 f4))) (fun k => rfl) ?_)
        refine am_Ew.ite h (fun _ h => ?_) (fun _ h => ?_)
        · exact am_Ew.retI h
        · obtain ⟨v5, f5, h1, h⟩ := am_bI_some h
          refine am_Ew.run (am_Ev.call (fun n => rfl) (lk_X5_acceptSemicolon h1) ?_)
          refine am_Ew.start [] 4 (am_Ew.conv (fun k => (if v5 = 0 then (some (some (.int 0), am_G0, f5)) else (some (some (.int 1), am_G0, f5)))) (fun k => rfl) ?_)
          refine am_Ew.ite h (fun _ h => ?_) (fun _ h => ?_)
          · exact am_Ew.retI h
          · exact am_Ew.retI h
  · exact am_Ew.retI h
set_option maxHeartbeats 400000 in
set_option maxRecDepth 100000 in
theorem lk_X5_readInto_20 {X : am_X} : ∀ (n : Nat) (x2 : Int32) (f : am_M) (v' : Int32) (f' : am_M), D_X5_readInto_20 n x2 f = some (v', f') → ∀ d3 : Option Value, am_Ev X 43 20 [some (.ref 1), some (.ref 7), some (.int x2), d3] [] f (some (.int v')) f'
  | 0, _, _, _, _, h, _ => by cases h
  | n + 1, x2, f, v', f', h, d3 => by
    rw [D_X5_readInto_20] at h
    refine am_Ew.start [66, 75, 84] 18 (am_Ew.conv (fun k => (if (f 1 2) = 0 then (some (some (.int x2), am_G0, f)) else (if x2 < 120 then (if (f 1 2) = 1 then (k 66 [some (.ref 1), some (.ref 7), some (.int x2), d3] [.ref 7, .ref 1] am_G0 f) else (if (f 1 2) = 2 then (k 75 [some (.ref 1), some (.ref 7), some (.int x2), d3] [.ref 7, .ref 1] am_G0 f) else (if (f 1 2) = 3 then (k 84 [some (.ref 1), some (.ref 7), some (.int x2), d3] [.ref 7, .ref 1] am_G0 f) else (some (some (.int (((-10) : Int32) - (f 1 3))), am_G0, f))))) else (some (some (.int x2), am_G0, f))))) (fun k => rfl) ?_)
    refine am_Ew.ite h (fun _ h => ?_) (fun _ h => ?_)
    · exact am_Ew.retI h
    · refine am_Ew.ite h (fun _ h => ?_) (fun _ h => ?_)
      · refine am_Ew.ite h (fun _ h => ?_) (fun _ h => ?_)
        · obtain ⟨v3, f3, h1, h⟩ := am_bI_some h
          refine am_Ew.run (am_Ev.call (fun n => rfl) (lk_X5_readSlots h1) ?_)
          refine am_Ew.start [20] 9 (am_Ew.conv (fun k => (if v3 = 0 then (some (some (.int (((-10) : Int32) - (f3 1 3))), am_G0, f3)) else (k 20 [some (.ref 1), some (.ref 7), some (.int (x2 + 1)), some (.int v3)] [] am_G0 f3))) (fun k => rfl) ?_)
          refine am_Ew.ite h (fun _ h => ?_) (fun _ h => ?_)
          · exact am_Ew.retI h
          · exact am_Ew.run (lk_X5_readInto_20  n _ _ _ _ h _ )
        · refine am_Ew.ite h (fun _ h => ?_) (fun _ h => ?_)
          · obtain ⟨v4, f4, h1, h⟩ := am_bI_some h
            refine am_Ew.run (am_Ev.call (fun n => rfl) (lk_X5_readMaker h1) ?_)
            refine am_Ew.start [20] 9 (am_Ew.conv (fun k => (if v4 = 0 then (some (some (.int (((-10) : Int32) - (f4 1 3))), am_G0, f4)) else (k 20 [some (.ref 1), some (.ref 7), some (.int (x2 + 1)), some (.int v4)] [] am_G0 f4))) (fun k => rfl) ?_)
            refine am_Ew.ite h (fun _ h => ?_) (fun _ h => ?_)
            · exact am_Ew.retI h
            · exact am_Ew.run (lk_X5_readInto_20  n _ _ _ _ h _ )
          · refine am_Ew.ite h (fun _ h => ?_) (fun _ h => ?_)
            · obtain ⟨v5, f5, h1, h⟩ := am_bI_some h
              refine am_Ew.run (am_Ev.call (fun n => rfl) (lk_X5_readTaker h1) ?_)
              refine am_Ew.start [20] 9 (am_Ew.conv (fun k => (if v5 = 0 then (some (some (.int (((-10) : Int32) - (f5 1 3))), am_G0, f5)) else (k 20 [some (.ref 1), some (.ref 7), some (.int (x2 + 1)), some (.int v5)] [] am_G0 f5))) (fun k => rfl) ?_)
              refine am_Ew.ite h (fun _ h => ?_) (fun _ h => ?_)
              · exact am_Ew.retI h
              · exact am_Ew.run (lk_X5_readInto_20  n _ _ _ _ h _ )
            · exact am_Ew.retI h
      · exact am_Ew.retI h
set_option maxHeartbeats 400000 in
set_option maxRecDepth 100000 in
theorem lk_X5_readInto {X : am_X} {f f' : am_M} {v' : Int32} (h : D_X5_readInto f = some (v', f')) : am_Ev X 43 0 [some (.ref 1), some (.ref 7), none, none] [] f (some (.int v')) f' := by
  rw [D_X5_readInto] at h
  refine am_Ew.start [1] 1 (am_Ew.conv (fun k => (k 1 [some (.ref 1), some (.ref 7), none, none] [.ref 7] am_G0 f)) (fun k => rfl) ?_)
  obtain ⟨f1, h1, h⟩ := am_bV_some h
  refine am_Ew.run (am_Ev.call (fun n => rfl) (lk_X6_reset h1) ?_)
  refine am_Ew.start [15] 7 (am_Ew.conv (fun k => (k 15 [some (.ref 1), some (.ref 7), none, none] [.ref 1] am_G0 (am_wr (am_wr f1 1 7 0) 1 4 0))) (fun k => rfl) ?_)
  obtain ⟨f2, h1, h⟩ := am_bV_some h
  refine am_Ew.run (am_Ev.call (fun n => rfl) (lk_X5_next h1) ?_)
  refine am_Ew.start [20] 2 (am_Ew.conv (fun k => (k 20 [some (.ref 1), some (.ref 7), some (.int 0), none] [] am_G0 f2)) (fun k => rfl) ?_)
  exact am_Ew.run (lk_X5_readInto_20 _ _ _ _ _ h _ )
