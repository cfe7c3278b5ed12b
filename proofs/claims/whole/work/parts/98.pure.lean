theorem am_pure (X : am_X) (hL : X.1 ≤ 1536) : ∃ f', D_L_law X am_fb = some (1, f') := sorry
