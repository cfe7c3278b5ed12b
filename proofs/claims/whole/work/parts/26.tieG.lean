set_option maxHeartbeats 400000 in
set_option maxRecDepth 100000 in
theorem lk_L_law_18 {X : am_X} : ∀ (n : Nat) (x3 : Int32) (f : am_M) (v' : Int32) (f' : am_M), D_L_law_18 X n x3 f = some (v', f') → am_Ev X 172 18 [some (.ref 1000), some (.ref 0), some (.ref 91), some (.int x3)] [] f (some (.int v')) f'
  | 0, _, _, _, _, h => by cases h
  | n + 1, x3, f, v', f', h => by
    rw [D_L_law_18] at h
    refine am_Ew.start [18, 150, 168, 181, 204, 237, 265, 293, 321, 339, 362, 395, 428, 451, 464, 487, 520, 553, 586, 609, 622, 635, 653, 676, 699] 23 (am_Ew.conv (fun k => (if ((Int32.ofNat X.1) - 3) < x3 then (some (some (.int 1), am_G0, f)) else (am_chk x3 X.1 (if ((X.2 x3.toNatClampNeg) &&& 31) = 0 then (am_chk (x3 + 1) X.1 (k 150 [some (.ref 1000), some (.ref 0), some (.ref 91), some (.int x3)] [.int (X.2 (x3 + 1).toNatClampNeg), .ref 0] am_G0 f)) else (if ((X.2 x3.toNatClampNeg) &&& 31) = 1 then (k 168 [some (.ref 1000), some (.ref 0), some (.ref 91), some (.int x3)] [.ref 0] am_G0 f) else (if ((X.2 x3.toNatClampNeg) &&& 31) = 2 then (k 181 [some (.ref 1000), some (.ref 0), some (.ref 91), some (.int x3)] [.ref 0] am_G0 f) else (if ((X.2 x3.toNatClampNeg) &&& 31) = 3 then (am_chk (x3 + 1) X.1 (am_chk (x3 + 2) X.1 (k 204 [some (.ref 1000), some (.ref 0), some (.ref 91), some (.int x3)] [.int (X.2 (x3 + 2).toNatClampNeg), .int (X.2 (x3 + 1).toNatClampNeg), .ref 0] am_G0 f))) else (if ((X.2 x3.toNatClampNeg) &&& 31) = 4 then (am_chk (x3 + 1) X.1 (am_chk (x3 + 2) X.1 (k 237 [some (.ref 1000), some (.ref 0), some (.ref 91), some (.int x3)] [.int (X.2 (x3 + 2).toNatClampNeg), .int (X.2 (x3 + 1).toNatClampNeg), .ref 0] am_G0 f))) else (if ((X.2 x3.toNatClampNeg) &&& 31) = 5 then (am_chk (x3 + 1) X.1 (k 265 [some (.ref 1000), some (.ref 0), some (.ref 91), some (.int x3)] [.int (X.2 (x3 + 1).toNatClampNeg), .ref 0] am_G0 f)) else (if ((X.2 x3.toNatClampNeg) &&& 31) = 6 then (am_chk (x3 + 1) X.1 (am_chk (x3 + 2) X.1 (k 293 [some (.ref 1000), some (.ref 0), some (.ref 91), some (.int x3)] [.int (X.2 (x3 + 2).toNatClampNeg), .int (X.2 (x3 + 1).toNatClampNeg), .ref 0] am_G0 f))) else (if ((X.2 x3.toNatClampNeg) &&& 31) = 7 then (am_chk (x3 + 1) X.1 (k 321 [some (.ref 1000), some (.ref 0), some (.ref 91), some (.int x3)] [.int (X.2 (x3 + 1).toNatClampNeg), .ref 0] am_G0 f)) else (if ((X.2 x3.toNatClampNeg) &&& 31) = 8 then (k 339 [some (.ref 1000), some (.ref 0), some (.ref 91), some (.int x3)] [.ref 0] am_G0 f) else (if ((X.2 x3.toNatClampNeg) &&& 31) = 9 then (am_chk (x3 + 1) X.1 (am_chk (x3 + 2) X.1 (k 362 [some (.ref 1000), some (.ref 0), some (.ref 91), some (.int x3)] [.int (X.2 (x3 + 2).toNatClampNeg), .int (X.2 (x3 + 1).toNatClampNeg), .ref 0] am_G0 f))) else (if ((X.2 x3.toNatClampNeg) &&& 31) = 10 then (am_chk (x3 + 1) X.1 (am_chk (x3 + 2) X.1 (k 395 [some (.ref 1000), some (.ref 0), some (.ref 91), some (.int x3)] [.int (X.2 (x3 + 2).toNatClampNeg), .int (X.2 (x3 + 1).toNatClampNeg), .ref 0] am_G0 f))) else (if ((X.2 x3.toNatClampNeg) &&& 31) = 11 then (am_chk (x3 + 1) X.1 (am_chk (x3 + 2) X.1 (k 428 [some (.ref 1000), some (.ref 0), some (.ref 91), some (.int x3)] [.int (X.2 (x3 + 2).toNatClampNeg), .int (X.2 (x3 + 1).toNatClampNeg), .ref 0] am_G0 f))) else (if ((X.2 x3.toNatClampNeg) &&& 31) = 12 then (k 451 [some (.ref 1000), some (.ref 0), some (.ref 91), some (.int x3)] [.ref 0] am_G0 f) else (if ((X.2 x3.toNatClampNeg) &&& 31) = 13 then (k 464 [some (.ref 1000), some (.ref 0), some (.ref 91), some (.int x3)] [.ref 0] am_G0 f) else (if ((X.2 x3.toNatClampNeg) &&& 31) = 14 then (am_chk (x3 + 1) X.1 (am_chk (x3 + 2) X.1 (k 487 [some (.ref 1000), some (.ref 0), some (.ref 91), some (.int x3)] [.int (X.2 (x3 + 2).toNatClampNeg), .int (X.2 (x3 + 1).toNatClampNeg), .ref 0] am_G0 f))) else (if ((X.2 x3.toNatClampNeg) &&& 31) = 15 then (am_chk (x3 + 1) X.1 (am_chk (x3 + 2) X.1 (k 520 [some (.ref 1000), some (.ref 0), some (.ref 91), some (.int x3)] [.int (X.2 (x3 + 2).toNatClampNeg), .int (X.2 (x3 + 1).toNatClampNeg), .ref 0] am_G0 f))) else (if ((X.2 x3.toNatClampNeg) &&& 31) = 16 then (am_chk (x3 + 1) X.1 (am_chk (x3 + 2) X.1 (k 553 [some (.ref 1000), some (.ref 0), some (.ref 91), some (.int x3)] [.int (X.2 (x3 + 2).toNatClampNeg), .int (X.2 (x3 + 1).toNatClampNeg), .ref 0] am_G0 f))) else (if ((X.2 x3.toNatClampNeg) &&& 31) = 17 then (am_chk (x3 + 1) X.1 (am_chk (x3 + 2) X.1 (k 586 [some (.ref 1000), some (.ref 0), some (.ref 91), some (.int x3)] [.int (X.2 (x3 + 2).toNatClampNeg), .int (X.2 (x3 + 1).toNatClampNeg), .ref 0] am_G0 f))) else (if ((X.2 x3.toNatClampNeg) &&& 31) = 18 then (k 609 [some (.ref 1000), some (.ref 0), some (.ref 91), some (.int x3)] [.ref 0] am_G0 f) else (if ((X.2 x3.toNatClampNeg) &&& 31) = 19 then (k 622 [some (.ref 1000), some (.ref 0), some (.ref 91), some (.int x3)] [.ref 0] am_G0 f) else (if ((X.2 x3.toNatClampNeg) &&& 31) = 20 then (k 635 [some (.ref 1000), some (.ref 0), some (.ref 91), some (.int x3)] [.ref 0] am_G0 f) else (if ((X.2 x3.toNatClampNeg) &&& 31) = 21 then (am_chk (x3 + 1) X.1 (k 653 [some (.ref 1000), some (.ref 0), some (.ref 91), some (.int x3)] [.int (X.2 (x3 + 1).toNatClampNeg), .ref 0] am_G0 f)) else (if ((X.2 x3.toNatClampNeg) &&& 31) = 22 then (am_chk (x3 + 1) X.1 (k 676 [some (.ref 1000), some (.ref 0), some (.ref 91), some (.int x3)] [.int (X.2 (x3 + 1).toNatClampNeg), .ref 0] am_G0 f)) else (if ((X.2 x3.toNatClampNeg) &&& 31) = 23 then (am_chk (x3 + 1) X.1 (k 699 [some (.ref 1000), some (.ref 0), some (.ref 91), some (.int x3)] [.int (X.2 (x3 + 1).toNatClampNeg), .ref 0] am_G0 f)) else (k 18 [some (.ref 1000), some (.ref 0), some (.ref 91), some (.int (x3 + 3))] [] am_G0 f)))))))))))))))))))))))))))) (fun k => rfl) ?_)
    refine am_Ew.ite h (fun _ h => ?_) (fun _ h => ?_)
    · exact am_Ew.retI h
    · refine am_Ew.chk h (fun h => ?_)
      refine am_Ew.ite h (fun _ h => ?_) (fun _ h => ?_)
      · refine am_Ew.chk h (fun h => ?_)
        obtain ⟨v1, f1, h1, h⟩ := am_bI_some h
        refine am_Ew.run (am_Ev.call (fun n => rfl) (lk_X7_type h1) ?_)
        refine am_Ew.start [159] 6 (am_Ew.conv (fun k => (am_chk (x3 + 1) X.1 (k 159 [some (.ref 1000), some (.ref 0), some (.ref 91), some (.int x3)] [.int (X.2 (x3 + 1).toNatClampNeg), .ref 91, .int v1] am_G0 f1))) (fun k => rfl) ?_)
        refine am_Ew.chk h (fun h => ?_)
        obtain ⟨v2, f2, h1, h⟩ := am_bI_some h
        refine am_Ew.run (am_Ev.call (fun n => rfl) (lk_X8_type h1) ?_)
        refine am_Ew.start [18] 3 (am_Ew.conv (fun k => (if v1 = v2 then (k 18 [some (.ref 1000), some (.ref 0), some (.ref 91), some (.int (x3 + 3))] [] am_G0 f2) else (some (some (.int 0), am_G0, f2)))) (fun k => rfl) ?_)
        refine am_Ew.ite h (fun _ h => ?_) (fun _ h => ?_)
        · exact am_Ew.run (lk_L_law_18  n _ _ _ _ h )
        · exact am_Ew.retI h
      · refine am_Ew.ite h (fun _ h => ?_) (fun _ h => ?_)
        · obtain ⟨v3, f3, h1, h⟩ := am_bI_some h
          refine am_Ew.run (am_Ev.call (fun n => rfl) (lk_X7_clear h1) ?_)
          refine am_Ew.start [172] 1 (am_Ew.conv (fun k => (k 172 [some (.ref 1000), some (.ref 0), some (.ref 91), some (.int x3)] [.ref 91, .int v3] am_G0 f3)) (fun k => rfl) ?_)
          obtain ⟨v4, f4, h1, h⟩ := am_bI_some h
          refine am_Ew.run (am_Ev.call (fun n => rfl) (lk_X8_clear h1) ?_)
          refine am_Ew.start [18] 3 (am_Ew.conv (fun k => (if v3 = v4 then (k 18 [some (.ref 1000), some (.ref 0), some (.ref 91), some (.int (x3 + 3))] [] am_G0 f4) else (some (some (.int 0), am_G0, f4)))) (fun k => rfl) ?_)
          refine am_Ew.ite h (fun _ h => ?_) (fun _ h => ?_)
          · exact am_Ew.run (lk_L_law_18  n _ _ _ _ h )
          · exact am_Ew.retI h
        · refine am_Ew.ite h (fun _ h => ?_) (fun _ h => ?_)
          · obtain ⟨v5, f5, h1, h⟩ := am_bI_some h
            refine am_Ew.run (am_Ev.call (fun n => rfl) (lk_X7_tells h1) ?_)
            refine am_Ew.start [185] 1 (am_Ew.conv (fun k => (k 185 [some (.ref 1000), some (.ref 0), some (.ref 91), some (.int x3)] [.ref 91, .int v5] am_G0 f5)) (fun k => rfl) ?_)
            obtain ⟨v6, f6, h1, h⟩ := am_bI_some h
            refine am_Ew.run (am_Ev.call (fun n => rfl) (lk_X8_tells h1) ?_)
            refine am_Ew.start [18] 3 (am_Ew.conv (fun k => (if v5 = v6 then (k 18 [some (.ref 1000), some (.ref 0), some (.ref 91), some (.int (x3 + 3))] [] am_G0 f6) else (some (some (.int 0), am_G0, f6)))) (fun k => rfl) ?_)
            refine am_Ew.ite h (fun _ h => ?_) (fun _ h => ?_)
            · exact am_Ew.run (lk_L_law_18  n _ _ _ _ h )
            · exact am_Ew.retI h
          · refine am_Ew.ite h (fun _ h => ?_) (fun _ h => ?_)
            · refine am_Ew.chk h (fun h => ?_)
              refine am_Ew.chk h (fun h => ?_)
              obtain ⟨v7, f7, h1, h⟩ := am_bI_some h
              refine am_Ew.run (am_Ev.call (fun n => rfl) (lk_X7_claims h1) ?_)
              refine am_Ew.start [218] 11 (am_Ew.conv (fun k => (am_chk (x3 + 1) X.1 (am_chk (x3 + 2) X.1 (k 218 [some (.ref 1000), some (.ref 0), some (.ref 91), some (.int x3)] [.int (X.2 (x3 + 2).toNatClampNeg), .int (X.2 (x3 + 1).toNatClampNeg), .ref 91, .int v7] am_G0 f7)))) (fun k => rfl) ?_)
              refine am_Ew.chk h (fun h => ?_)
              refine am_Ew.chk h (fun h => ?_)
              obtain ⟨v8, f8, h1, h⟩ := am_bI_some h
              refine am_Ew.run (am_Ev.call (fun n => rfl) (lk_X8_claims h1) ?_)
              refine am_Ew.start [18] 3 (am_Ew.conv (fun k => (if v7 = v8 then (k 18 [some (.ref 1000), some (.ref 0), some (.ref 91), some (.int (x3 + 3))] [] am_G0 f8) else (some (some (.int 0), am_G0, f8)))) (fun k => rfl) ?_)
              refine am_Ew.ite h (fun _ h => ?_) (fun _ h => ?_)
              · exact am_Ew.run (lk_L_law_18  n _ _ _ _ h )
              · exact am_Ew.retI h
            · refine am_Ew.ite h (fun _ h => ?_) (fun _ h => ?_)
              · refine am_Ew.chk h (fun h => ?_)
                refine am_Ew.chk h (fun h => ?_)
                obtain ⟨v9, f9, h1, h⟩ := am_bI_some h
                refine am_Ew.run (am_Ev.call (fun n => rfl) (lk_X7_fills h1) ?_)
                refine am_Ew.start [251] 11 (am_Ew.conv (fun k => (am_chk (x3 + 1) X.1 (am_chk (x3 + 2) X.1 (k 251 [some (.ref 1000), some (.ref 0), some (.ref 91), some (.int x3)] [.int (X.2 (x3 + 2).toNatClampNeg), .int (X.2 (x3 + 1).toNatClampNeg), .ref 91, .int v9] am_G0 f9)))) (fun k => rfl) ?_)
                refine am_Ew.chk h (fun h => ?_)
                refine am_Ew.chk h (fun h => ?_)
                obtain ⟨v10, f10, h1, h⟩ := am_bI_some h
                refine am_Ew.run (am_Ev.call (fun n => rfl) (lk_X8_fills h1) ?_)
                refine am_Ew.start [18] 3 (am_Ew.conv (fun k => (if v9 = v10 then (k 18 [some (.ref 1000), some (.ref 0), some (.ref 91), some (.int (x3 + 3))] [] am_G0 f10) else (some (some (.int 0), am_G0, f10)))) (fun k => rfl) ?_)
                refine am_Ew.ite h (fun _ h => ?_) (fun _ h => ?_)
                · exact am_Ew.run (lk_L_law_18  n _ _ _ _ h )
                · exact am_Ew.retI h
              · refine am_Ew.ite h (fun _ h => ?_) (fun _ h => ?_)
                · refine am_Ew.chk h (fun h => ?_)
                  obtain ⟨v11, f11, h1, h⟩ := am_bI_some h
                  refine am_Ew.run (am_Ev.call (fun n => rfl) (lk_X7_gaps h1) ?_)
                  refine am_Ew.start [274] 6 (am_Ew.conv (fun k => (am_chk (x3 + 1) X.1 (k 274 [some (.ref 1000), some (.ref 0), some (.ref 91), some (.int x3)] [.int (X.2 (x3 + 1).toNatClampNeg), .ref 91, .int v11] am_G0 f11))) (fun k => rfl) ?_)
                  refine am_Ew.chk h (fun h => ?_)
                  obtain ⟨v12, f12, h1, h⟩ := am_bI_some h
                  refine am_Ew.run (am_Ev.call (fun n => rfl) (lk_X8_gaps h1) ?_)
                  refine am_Ew.start [18] 3 (am_Ew.conv (fun k => (if v11 = v12 then (k 18 [some (.ref 1000), some (.ref 0), some (.ref 91), some (.int (x3 + 3))] [] am_G0 f12) else (some (some (.int 0), am_G0, f12)))) (fun k => rfl) ?_)
                  refine am_Ew.ite h (fun _ h => ?_) (fun _ h => ?_)
                  · exact am_Ew.run (lk_L_law_18  n _ _ _ _ h )
                  · exact am_Ew.retI h
                · refine am_Ew.ite h (fun _ h => ?_) (fun _ h => ?_)
                  · refine am_Ew.chk h (fun h => ?_)
                    refine am_Ew.chk h (fun h => ?_)
                    obtain ⟨v13, f13, h1, h⟩ := am_bI_some h
                    refine am_Ew.run (am_Ev.call (fun n => rfl) (lk_X7_takes h1) ?_)
                    refine am_Ew.start [307] 11 (am_Ew.conv (fun k => (am_chk (x3 + 1) X.1 (am_chk (x3 + 2) X.1 (k 307 [some (.ref 1000), some (.ref 0), some (.ref 91), some (.int x3)] [.int (X.2 (x3 + 2).toNatClampNeg), .int (X.2 (x3 + 1).toNatClampNeg), .ref 91, .int v13] am_G0 f13)))) (fun k => rfl) ?_)
                    refine am_Ew.chk h (fun h => ?_)
                    refine am_Ew.chk h (fun h => ?_)
                    obtain ⟨v14, f14, h1, h⟩ := am_bI_some h
                    refine am_Ew.run (am_Ev.call (fun n => rfl) (lk_X8_takes h1) ?_)
                    refine am_Ew.start [18] 3 (am_Ew.conv (fun k => (if v13 = v14 then (k 18 [some (.ref 1000), some (.ref 0), some (.ref 91), some (.int (x3 + 3))] [] am_G0 f14) else (some (some (.int 0), am_G0, f14)))) (fun k => rfl) ?_)
                    refine am_Ew.ite h (fun _ h => ?_) (fun _ h => ?_)
                    · exact am_Ew.run (lk_L_law_18  n _ _ _ _ h )
                    · exact am_Ew.retI h
                  · refine am_Ew.ite h (fun _ h => ?_) (fun _ h => ?_)
                    · refine am_Ew.chk h (fun h => ?_)
                      obtain ⟨v15, f15, h1, h⟩ := am_bI_some h
                      refine am_Ew.run (am_Ev.call (fun n => rfl) (lk_X7_calls h1) ?_)
                      refine am_Ew.start [330] 6 (am_Ew.conv (fun k => (am_chk (x3 + 1) X.1 (k 330 [some (.ref 1000), some (.ref 0), some (.ref 91), some (.int x3)] [.int (X.2 (x3 + 1).toNatClampNeg), .ref 91, .int v15] am_G0 f15))) (fun k => rfl) ?_)
                      refine am_Ew.chk h (fun h => ?_)
                      obtain ⟨v16, f16, h1, h⟩ := am_bI_some h
                      refine am_Ew.run (am_Ev.call (fun n => rfl) (lk_X8_calls h1) ?_)
                      refine am_Ew.start [18] 3 (am_Ew.conv (fun k => (if v15 = v16 then (k 18 [some (.ref 1000), some (.ref 0), some (.ref 91), some (.int (x3 + 3))] [] am_G0 f16) else (some (some (.int 0), am_G0, f16)))) (fun k => rfl) ?_)
                      refine am_Ew.ite h (fun _ h => ?_) (fun _ h => ?_)
                      · exact am_Ew.run (lk_L_law_18  n _ _ _ _ h )
                      · exact am_Ew.retI h
                    · refine am_Ew.ite h (fun _ h => ?_) (fun _ h => ?_)
                      · obtain ⟨v17, f17, h1, h⟩ := am_bI_some h
                        refine am_Ew.run (am_Ev.call (fun n => rfl) (lk_X7_undo h1) ?_)
                        refine am_Ew.start [343] 1 (am_Ew.conv (fun k => (k 343 [some (.ref 1000), some (.ref 0), some (.ref 91), some (.int x3)] [.ref 91, .int v17] am_G0 f17)) (fun k => rfl) ?_)
                        obtain ⟨v18, f18, h1, h⟩ := am_bI_some h
                        refine am_Ew.run (am_Ev.call (fun n => rfl) (lk_X8_undo h1) ?_)
                        refine am_Ew.start [18] 3 (am_Ew.conv (fun k => (if v17 = v18 then (k 18 [some (.ref 1000), some (.ref 0), some (.ref 91), some (.int (x3 + 3))] [] am_G0 f18) else (some (some (.int 0), am_G0, f18)))) (fun k => rfl) ?_)
                        refine am_Ew.ite h (fun _ h => ?_) (fun _ h => ?_)
                        · exact am_Ew.run (lk_L_law_18  n _ _ _ _ h )
                        · exact am_Ew.retI h
                      · refine am_Ew.ite h (fun _ h => ?_) (fun _ h => ?_)
                        · refine am_Ew.chk h (fun h => ?_)
                          refine am_Ew.chk h (fun h => ?_)
                          obtain ⟨v19, f19, h1, h⟩ := am_bI_some h
                          refine am_Ew.run (am_Ev.call (fun n => rfl) (lk_X7_event h1) ?_)
                          refine am_Ew.start [376] 11 (am_Ew.conv (fun k => (am_chk (x3 + 1) X.1 (am_chk (x3 + 2) X.1 (k 376 [some (.ref 1000), some (.ref 0), some (.ref 91), some (.int x3)] [.int (X.2 (x3 + 2).toNatClampNeg), .int (X.2 (x3 + 1).toNatClampNeg), .ref 91, .int v19] am_G0 f19)))) (fun k => rfl) ?_)
                          refine am_Ew.chk h (fun h => ?_)
                          refine am_Ew.chk h (fun h => ?_)
                          obtain ⟨v20, f20, h1, h⟩ := am_bI_some h
                          refine am_Ew.run (am_Ev.call (fun n => rfl) (lk_X8_event h1) ?_)
                          refine am_Ew.start [18] 3 (am_Ew.conv (fun k => (if v19 = v20 then (k 18 [some (.ref 1000), some (.ref 0), some (.ref 91), some (.int (x3 + 3))] [] am_G0 f20) else (some (some (.int 0), am_G0, f20)))) (fun k => rfl) ?_)
                          refine am_Ew.ite h (fun _ h => ?_) (fun _ h => ?_)
                          · exact am_Ew.run (lk_L_law_18  n _ _ _ _ h )
                          · exact am_Ew.retI h
                        · refine am_Ew.ite h (fun _ h => ?_) (fun _ h => ?_)
                          · refine am_Ew.chk h (fun h => ?_)
                            refine am_Ew.chk h (fun h => ?_)
                            obtain ⟨v21, f21, h1, h⟩ := am_bI_some h
                            refine am_Ew.run (am_Ev.call (fun n => rfl) (lk_X7_taker h1) ?_)
                            refine am_Ew.start [409] 11 (am_Ew.conv (fun k => (am_chk (x3 + 1) X.1 (am_chk (x3 + 2) X.1 (k 409 [some (.ref 1000), some (.ref 0), some (.ref 91), some (.int x3)] [.int (X.2 (x3 + 2).toNatClampNeg), .int (X.2 (x3 + 1).toNatClampNeg), .ref 91, .int v21] am_G0 f21)))) (fun k => rfl) ?_)
                            refine am_Ew.chk h (fun h => ?_)
                            refine am_Ew.chk h (fun h => ?_)
                            obtain ⟨v22, f22, h1, h⟩ := am_bI_some h
                            refine am_Ew.run (am_Ev.call (fun n => rfl) (lk_X8_taker h1) ?_)
                            refine am_Ew.start [18] 3 (am_Ew.conv (fun k => (if v21 = v22 then (k 18 [some (.ref 1000), some (.ref 0), some (.ref 91), some (.int (x3 + 3))] [] am_G0 f22) else (some (some (.int 0), am_G0, f22)))) (fun k => rfl) ?_)
                            refine am_Ew.ite h (fun _ h => ?_) (fun _ h => ?_)
                            · exact am_Ew.run (lk_L_law_18  n _ _ _ _ h )
                            · exact am_Ew.retI h
                          · refine am_Ew.ite h (fun _ h => ?_) (fun _ h => ?_)
                            · refine am_Ew.chk h (fun h => ?_)
                              refine am_Ew.chk h (fun h => ?_)
                              obtain ⟨v23, f23, h1, h⟩ := am_bI_some h
                              refine am_Ew.run (am_Ev.call (fun n => rfl) (lk_X7_maker h1) ?_)
                              refine am_Ew.start [442] 11 (am_Ew.conv (fun k => (am_chk (x3 + 1) X.1 (am_chk (x3 + 2) X.1 (k 442 [some (.ref 1000), some (.ref 0), some (.ref 91), some (.int x3)] [.int (X.2 (x3 + 2).toNatClampNeg), .int (X.2 (x3 + 1).toNatClampNeg), .ref 91, .int v23] am_G0 f23)))) (fun k => rfl) ?_)
                              refine am_Ew.chk h (fun h => ?_)
                              refine am_Ew.chk h (fun h => ?_)
                              obtain ⟨v24, f24, h1, h⟩ := am_bI_some h
                              refine am_Ew.run (am_Ev.call (fun n => rfl) (lk_X8_maker h1) ?_)
                              refine am_Ew.start [18] 3 (am_Ew.conv (fun k => (if v23 = v24 then (k 18 [some (.ref 1000), some (.ref 0), some (.ref 91), some (.int (x3 + 3))] [] am_G0 f24) else (some (some (.int 0), am_G0, f24)))) (fun k => rfl) ?_)
                              refine am_Ew.ite h (fun _ h => ?_) (fun _ h => ?_)
                              · exact am_Ew.run (lk_L_law_18  n _ _ _ _ h )
                              · exact am_Ew.retI h
                            · refine am_Ew.ite h (fun _ h => ?_) (fun _ h => ?_)
                              · obtain ⟨v25, f25, h1, h⟩ := am_bI_some h
                                refine am_Ew.run (am_Ev.call (fun n => rfl) (lk_X7_blamed h1) ?_)
                                refine am_Ew.start [455] 1 (am_Ew.conv (fun k => (k 455 [some (.ref 1000), some (.ref 0), some (.ref 91), some (.int x3)] [.ref 91, .int v25] am_G0 f25)) (fun k => rfl) ?_)
                                obtain ⟨v26, f26, h1, h⟩ := am_bI_some h
                                refine am_Ew.run (am_Ev.call (fun n => rfl) (lk_X8_blamed h1) ?_)
                                refine am_Ew.start [18] 3 (am_Ew.conv (fun k => (if v25 = v26 then (k 18 [some (.ref 1000), some (.ref 0), some (.ref 91), some (.int (x3 + 3))] [] am_G0 f26) else (some (some (.int 0), am_G0, f26)))) (fun k => rfl) ?_)
                                refine am_Ew.ite h (fun _ h => ?_) (fun _ h => ?_)
                                · exact am_Ew.run (lk_L_law_18  n _ _ _ _ h )
                                · exact am_Ew.retI h
                              · refine am_Ew.ite h (fun _ h => ?_) (fun _ h => ?_)
                                · obtain ⟨v27, f27, h1, h⟩ := am_bI_some h
                                  refine am_Ew.run (am_Ev.call (fun n => rfl) (lk_X7_steps h1) ?_)
                                  refine am_Ew.start [468] 1 (am_Ew.conv (fun k => (k 468 [some (.ref 1000), some (.ref 0), some (.ref 91), some (.int x3)] [.ref 91, .int v27] am_G0 f27)) (fun k => rfl) ?_)
                                  obtain ⟨v28, f28, h1, h⟩ := am_bI_some h
                                  refine am_Ew.run (am_Ev.call (fun n => rfl) (lk_X8_steps h1) ?_)
                                  refine am_Ew.start [18] 3 (am_Ew.conv (fun k => (if v27 = v28 then (k 18 [some (.ref 1000), some (.ref 0), some (.ref 91), some (.int (x3 + 3))] [] am_G0 f28) else (some (some (.int 0), am_G0, f28)))) (fun k => rfl) ?_)
                                  refine am_Ew.ite h (fun _ h => ?_) (fun _ h => ?_)
                                  · exact am_Ew.run (lk_L_law_18  n _ _ _ _ h )
                                  · exact am_Ew.retI h
                                · refine am_Ew.ite h (fun _ h => ?_) (fun _ h => ?_)
                                  · refine am_Ew.chk h (fun h => ?_)
                                    refine am_Ew.chk h (fun h => ?_)
                                    obtain ⟨v29, f29, h1, h⟩ := am_bI_some h
                                    refine am_Ew.run (am_Ev.call (fun n => rfl) (lk_X7_rule h1) ?_)
                                    refine am_Ew.start [501] 11 (am_Ew.conv (fun k => (am_chk (x3 + 1) X.1 (am_chk (x3 + 2) X.1 (k 501 [some (.ref 1000), some (.ref 0), some (.ref 91), some (.int x3)] [.int (X.2 (x3 + 2).toNatClampNeg), .int (X.2 (x3 + 1).toNatClampNeg), .ref 91, .int v29] am_G0 f29)))) (fun k => rfl) ?_)
                                    refine am_Ew.chk h (fun h => ?_)
                                    refine am_Ew.chk h (fun h => ?_)
                                    obtain ⟨v30, f30, h1, h⟩ := am_bI_some h
                                    refine am_Ew.run (am_Ev.call (fun n => rfl) (lk_X8_rule h1) ?_)
                                    refine am_Ew.start [18] 3 (am_Ew.conv (fun k => (if v29 = v30 then (k 18 [some (.ref 1000), some (.ref 0), some (.ref 91), some (.int (x3 + 3))] [] am_G0 f30) else (some (some (.int 0), am_G0, f30)))) (fun k => rfl) ?_)
                                    refine am_Ew.ite h (fun _ h => ?_) (fun _ h => ?_)
                                    · exact am_Ew.run (lk_L_law_18  n _ _ _ _ h )
                                    · exact am_Ew.retI h
                                  · refine am_Ew.ite h (fun _ h => ?_) (fun _ h => ?_)
                                    · refine am_Ew.chk h (fun h => ?_)
                                      refine am_Ew.chk h (fun h => ?_)
                                      obtain ⟨v31, f31, h1, h⟩ := am_bI_some h
                                      refine am_Ew.run (am_Ev.call (fun n => rfl) (lk_X7_waited h1) ?_)
                                      refine am_Ew.start [534] 11 (am_Ew.conv (fun k => (am_chk (x3 + 1) X.1 (am_chk (x3 + 2) X.1 (k 534 [some (.ref 1000), some (.ref 0), some (.ref 91), some (.int x3)] [.int (X.2 (x3 + 2).toNatClampNeg), .int (X.2 (x3 + 1).toNatClampNeg), .ref 91, .int v31] am_G0 f31)))) (fun k => rfl) ?_)
                                      refine am_Ew.chk h (fun h => ?_)
                                      refine am_Ew.chk h (fun h => ?_)
                                      obtain ⟨v32, f32, h1, h⟩ := am_bI_some h
                                      refine am_Ew.run (am_Ev.call (fun n => rfl) (lk_X8_waited h1) ?_)
                                      refine am_Ew.start [18] 3 (am_Ew.conv (fun k => (if v31 = v32 then (k 18 [some (.ref 1000), some (.ref 0), some (.ref 91), some (.int (x3 + 3))] [] am_G0 f32) else (some (some (.int 0), am_G0, f32)))) (fun k => rfl) ?_)
                                      refine am_Ew.ite h (fun _ h => ?_) (fun _ h => ?_)
                                      · exact am_Ew.run (lk_L_law_18  n _ _ _ _ h )
                                      · exact am_Ew.retI h
                                    · refine am_Ew.ite h (fun _ h => ?_) (fun _ h => ?_)
                                      · refine am_Ew.chk h (fun h => ?_)
                                        refine am_Ew.chk h (fun h => ?_)
                                        obtain ⟨v33, f33, h1, h⟩ := am_bI_some h
                                        refine am_Ew.run (am_Ev.call (fun n => rfl) (lk_X7_done h1) ?_)
                                        refine am_Ew.start [567] 11 (am_Ew.conv (fun k => (am_chk (x3 + 1) X.1 (am_chk (x3 + 2) X.1 (k 567 [some (.ref 1000), some (.ref 0), some (.ref 91), some (.int x3)] [.int (X.2 (x3 + 2).toNatClampNeg), .int (X.2 (x3 + 1).toNatClampNeg), .ref 91, .int v33] am_G0 f33)))) (fun k => rfl) ?_)
                                        refine am_Ew.chk h (fun h => ?_)
                                        refine am_Ew.chk h (fun h => ?_)
                                        obtain ⟨v34, f34, h1, h⟩ := am_bI_some h
                                        refine am_Ew.run (am_Ev.call (fun n => rfl) (lk_X8_done h1) ?_)
                                        refine am_Ew.start [18] 3 (am_Ew.conv (fun k => (if v33 = v34 then (k 18 [some (.ref 1000), some (.ref 0), some (.ref 91), some (.int (x3 + 3))] [] am_G0 f34) else (some (some (.int 0), am_G0, f34)))) (fun k => rfl) ?_)
                                        refine am_Ew.ite h (fun _ h => ?_) (fun _ h => ?_)
                                        · exact am_Ew.run (lk_L_law_18  n _ _ _ _ h )
                                        · exact am_Ew.retI h
                                      · refine am_Ew.ite h (fun _ h => ?_) (fun _ h => ?_)
                                        · refine am_Ew.chk h (fun h => ?_)
                                          refine am_Ew.chk h (fun h => ?_)
                                          obtain ⟨v35, f35, h1, h⟩ := am_bI_some h
                                          refine am_Ew.run (am_Ev.call (fun n => rfl) (lk_X7_sees h1) ?_)
                                          refine am_Ew.start [600] 11 (am_Ew.conv (fun k => (am_chk (x3 + 1) X.1 (am_chk (x3 + 2) X.1 (k 600 [some (.ref 1000), some (.ref 0), some (.ref 91), some (.int x3)] [.int (X.2 (x3 + 2).toNatClampNeg), .int (X.2 (x3 + 1).toNatClampNeg), .ref 91, .int v35] am_G0 f35)))) (fun k => rfl) ?_)
                                          refine am_Ew.chk h (fun h => ?_)
                                          refine am_Ew.chk h (fun h => ?_)
                                          obtain ⟨v36, f36, h1, h⟩ := am_bI_some h
                                          refine am_Ew.run (am_Ev.call (fun n => rfl) (lk_X8_sees h1) ?_)
                                          refine am_Ew.start [18] 3 (am_Ew.conv (fun k => (if v35 = v36 then (k 18 [some (.ref 1000), some (.ref 0), some (.ref 91), some (.int (x3 + 3))] [] am_G0 f36) else (some (some (.int 0), am_G0, f36)))) (fun k => rfl) ?_)
                                          refine am_Ew.ite h (fun _ h => ?_) (fun _ h => ?_)
                                          · exact am_Ew.run (lk_L_law_18  n _ _ _ _ h )
                                          · exact am_Ew.retI h
                                        · refine am_Ew.ite h (fun _ h => ?_) (fun _ h => ?_)
                                          · obtain ⟨v37, f37, h1, h⟩ := am_bI_some h
                                            refine am_Ew.run (am_Ev.call (fun n => rfl) (lk_X7_forget h1) ?_)
                                            refine am_Ew.start [613] 1 (am_Ew.conv (fun k => (k 613 [some (.ref 1000), some (.ref 0), some (.ref 91), some (.int x3)] [.ref 91, .int v37] am_G0 f37)) (fun k => rfl) ?_)
                                            obtain ⟨v38, f38, h1, h⟩ := am_bI_some h
                                            refine am_Ew.run (am_Ev.call (fun n => rfl) (lk_X8_forget h1) ?_)
                                            refine am_Ew.start [18] 3 (am_Ew.conv (fun k => (if v37 = v38 then (k 18 [some (.ref 1000), some (.ref 0), some (.ref 91), some (.int (x3 + 3))] [] am_G0 f38) else (some (some (.int 0), am_G0, f38)))) (fun k => rfl) ?_)
                                            refine am_Ew.ite h (fun _ h => ?_) (fun _ h => ?_)
                                            · exact am_Ew.run (lk_L_law_18  n _ _ _ _ h )
                                            · exact am_Ew.retI h
                                          · refine am_Ew.ite h (fun _ h => ?_) (fun _ h => ?_)
                                            · obtain ⟨v39, f39, h1, h⟩ := am_bI_some h
                                              refine am_Ew.run (am_Ev.call (fun n => rfl) (lk_X7_which h1) ?_)
                                              refine am_Ew.start [626] 1 (am_Ew.conv (fun k => (k 626 [some (.ref 1000), some (.ref 0), some (.ref 91), some (.int x3)] [.ref 91, .int v39] am_G0 f39)) (fun k => rfl) ?_)
                                              obtain ⟨v40, f40, h1, h⟩ := am_bI_some h
                                              refine am_Ew.run (am_Ev.call (fun n => rfl) (lk_X8_which h1) ?_)
                                              refine am_Ew.start [18] 3 (am_Ew.conv (fun k => (if v39 = v40 then (k 18 [some (.ref 1000), some (.ref 0), some (.ref 91), some (.int (x3 + 3))] [] am_G0 f40) else (some (some (.int 0), am_G0, f40)))) (fun k => rfl) ?_)
                                              refine am_Ew.ite h (fun _ h => ?_) (fun _ h => ?_)
                                              · exact am_Ew.run (lk_L_law_18  n _ _ _ _ h )
                                              · exact am_Ew.retI h
                                            · refine am_Ew.ite h (fun _ h => ?_) (fun _ h => ?_)
                                              · obtain ⟨v41, f41, h1, h⟩ := am_bI_some h
                                                refine am_Ew.run (am_Ev.call (fun n => rfl) (lk_X7_look h1) ?_)
                                                refine am_Ew.start [639] 1 (am_Ew.conv (fun k => (k 639 [some (.ref 1000), some (.ref 0), some (.ref 91), some (.int x3)] [.ref 91, .int v41] am_G0 f41)) (fun k => rfl) ?_)
                                                obtain ⟨v42, f42, h1, h⟩ := am_bI_some h
                                                refine am_Ew.run (am_Ev.call (fun n => rfl) (lk_X8_look h1) ?_)
                                                refine am_Ew.start [18] 3 (am_Ew.conv (fun k => (if v41 = v42 then (k 18 [some (.ref 1000), some (.ref 0), some (.ref 91), some (.int (x3 + 3))] [] am_G0 f42) else (some (some (.int 0), am_G0, f42)))) (fun k => rfl) ?_)
                                                refine am_Ew.ite h (fun _ h => ?_) (fun _ h => ?_)
                                                · exact am_Ew.run (lk_L_law_18  n _ _ _ _ h )
                                                · exact am_Ew.retI h
                                              · refine am_Ew.ite h (fun _ h => ?_) (fun _ h => ?_)
                                                · refine am_Ew.chk h (fun h => ?_)
                                                  obtain ⟨v43, f43, h1, h⟩ := am_bI_some h
                                                  refine am_Ew.run (am_Ev.call (fun n => rfl) (lk_X7_keep h1) ?_)
                                                  refine am_Ew.start [662] 6 (am_Ew.conv (fun k => (am_chk (x3 + 1) X.1 (k 662 [some (.ref 1000), some (.ref 0), some (.ref 91), some (.int x3)] [.int (X.2 (x3 + 1).toNatClampNeg), .ref 91, .int v43] am_G0 f43))) (fun k => rfl) ?_)
                                                  refine am_Ew.chk h (fun h => ?_)
                                                  obtain ⟨v44, f44, h1, h⟩ := am_bI_some h
                                                  refine am_Ew.run (am_Ev.call (fun n => rfl) (lk_X8_keep h1) ?_)
                                                  refine am_Ew.start [18] 3 (am_Ew.conv (fun k => (if v43 = v44 then (k 18 [some (.ref 1000), some (.ref 0), some (.ref 91), some (.int (x3 + 3))] [] am_G0 f44) else (some (some (.int 0), am_G0, f44)))) (fun k => rfl) ?_)
                                                  refine am_Ew.ite h (fun _ h => ?_) (fun _ h => ?_)
                                                  · exact am_Ew.run (lk_L_law_18  n _ _ _ _ h )
                                                  · exact am_Ew.retI h
                                                · refine am_Ew.ite h (fun _ h => ?_) (fun _ h => ?_)
                                                  · refine am_Ew.chk h (fun h => ?_)
                                                    obtain ⟨v45, f45, h1, h⟩ := am_bI_some h
                                                    refine am_Ew.run (am_Ev.call (fun n => rfl) (lk_X7_back h1) ?_)
                                                    refine am_Ew.start [685] 6 (am_Ew.conv (fun k => (am_chk (x3 + 1) X.1 (k 685 [some (.ref 1000), some (.ref 0), some (.ref 91), some (.int x3)] [.int (X.2 (x3 + 1).toNatClampNeg), .ref 91, .int v45] am_G0 f45))) (fun k => rfl) ?_)
                                                    refine am_Ew.chk h (fun h => ?_)
                                                    obtain ⟨v46, f46, h1, h⟩ := am_bI_some h
                                                    refine am_Ew.run (am_Ev.call (fun n => rfl) (lk_X8_back h1) ?_)
                                                    refine am_Ew.start [18] 3 (am_Ew.conv (fun k => (if v45 = v46 then (k 18 [some (.ref 1000), some (.ref 0), some (.ref 91), some (.int (x3 + 3))] [] am_G0 f46) else (some (some (.int 0), am_G0, f46)))) (fun k => rfl) ?_)
                                                    refine am_Ew.ite h (fun _ h => ?_) (fun _ h => ?_)
                                                    · exact am_Ew.run (lk_L_law_18  n _ _ _ _ h )
                                                    · exact am_Ew.retI h
                                                  · refine am_Ew.ite h (fun _ h => ?_) (fun _ h => ?_)
                                                    · refine am_Ew.chk h (fun h => ?_)
                                                      obtain ⟨v47, f47, h1, h⟩ := am_bI_some h
                                                      refine am_Ew.run (am_Ev.call (fun n => rfl) (lk_X7_count h1) ?_)
                                                      refine am_Ew.start [708] 6 (am_Ew.conv (fun k => (am_chk (x3 + 1) X.1 (k 708 [some (.ref 1000), some (.ref 0), some (.ref 91), some (.int x3)] [.int (X.2 (x3 + 1).toNatClampNeg), .ref 91, .int v47] am_G0 f47))) (fun k => rfl) ?_)
                                                      refine am_Ew.chk h (fun h => ?_)
                                                      obtain ⟨v48, f48, h1, h⟩ := am_bI_some h
                                                      refine am_Ew.run (am_Ev.call (fun n => rfl) (lk_X8_count h1) ?_)
                                                      refine am_Ew.start [18] 3 (am_Ew.conv (fun k => (if v47 = v48 then (k 18 [some (.ref 1000), some (.ref 0), some (.ref 91), some (.int (x3 + 3))] [] am_G0 f48) else (some (some (.int 0), am_G0, f48)))) (fun k => rfl) ?_)
                                                      refine am_Ew.ite h (fun _ h => ?_) (fun _ h => ?_)
                                                      · exact am_Ew.run (lk_L_law_18  n _ _ _ _ h )
                                                      · exact am_Ew.retI h
                                                    · exact am_Ew.run (lk_L_law_18  n _ _ _ _ h )
set_option maxHeartbeats 400000 in
set_option maxRecDepth 100000 in
theorem lk_L_law {X : am_X} {f f' : am_M} {v' : Int32} (h : D_L_law X f = some (v', f')) : am_Ev X 172 16 [some (.ref 1000), some (.ref 0), some (.ref 91), none] [] f (some (.int v')) f' := by
  rw [D_L_law] at h
  refine am_Ew.start [18] 2 (am_Ew.conv (fun k => (k 18 [some (.ref 1000), some (.ref 0), some (.ref 91), some (.int 0)] [] am_G0 f)) (fun k => rfl) ?_)
  exact am_Ew.run (lk_L_law_18 _ _ _ _ _ h )
