theorem tt_1 (X : am_X) (n : Nat) (a b : Int32) (f : am_M) : am_run X (n + 16) 22 7 [some (.ref 11), some (.int a), some (.int b)] [] am_G0 f = 
  if b < f 3 2 then am_run X (n + 11) 22 18 [some (.ref 11), some (.int a), some (.int b)] [] am_G0 f else am_run X (n + 11) 22 41 [some (.ref 11), some (.int a), some (.int b)] [] am_G0 f := rfl
theorem tt_2 (X : am_X) (n : Nat) (a b : Int32) (f : am_M) : am_run X (n + 16) 22 41 [some (.ref 11), some (.int a), some (.int b)] [] am_G0 f = some (some (.int a), am_G0, f) := rfl
theorem tt_3 (X : am_X) (n : Nat) (a b : Int32) (f : am_M) : am_run X (n + 16) 22 7 [some (.ref 11), some (.int a), some (.int b)] [] am_G0 f = 
  if b < f 3 2 then am_chk b 6 (if f 12 b.toNatClampNeg < a then am_chk b 6 (am_run X n 22 35 [some (.ref 11), some (.int (f 12 b.toNatClampNeg)), some (.int b)] [] am_G0 f) else am_run X (n + 5) 22 35 [some (.ref 11), some (.int a), some (.int b)] [] am_G0 f) else some (some (.int a), am_G0, f) := rfl
