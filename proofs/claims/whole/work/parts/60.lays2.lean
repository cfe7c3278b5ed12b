/-! the model lays its course -/
theorem pu_l23 (x : Int32) (f : am_M) : D_X8_laysRule_23 am_fu x 0 f = D_X8_laysRule_66 am_fu x 0 (am_wr (am_wr (am_wr (am_wr (am_wr (am_wr f 109 0 (f 95 20)) 110 0 (f 95 23)) 109 1 (f 95 21)) 110 1 (f 95 24)) 109 2 (f 95 22)) 110 2 (f 95 25)) := rfl
theorem pu_l66 (x : Int32) (f : am_M) : D_X8_laysRule_66 am_fu x 0 f = am_bV (D_X8_saves 0 (am_wr (am_wr (am_wr (am_wr (am_wr (am_wr f 111 0 (f 95 1)) 111 1 (f 95 2)) 111 2 (f 95 3)) 111 3 (f 95 4)) 111 4 (f 95 5)) 111 5 (f 95 6))) (fun f1 => D_X8_laysRule_99 am_fu x 1 f1) := rfl
