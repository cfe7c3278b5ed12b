/-! every method as a function over the ints of the made world (written by wip/whole/gen7.py out of the code) -/
def D_X3_add (a1 : Int32) (a2 : Int32) (f : am_M) : Option (Int32 × am_M) :=
  if (f 88 2) < 6 then
    am_chk (f 88 2) 6 (
    am_chk (f 88 2) 6 (
    some (1, (am_wr (am_wr (am_wr f 89 (f 88 2).toNatClampNeg a1) 90 (f 88 2).toNatClampNeg a2) 88 2 ((f 88 2) + 1)))))
  else
    some (0, f)
def D_X3_allows_2 : Nat → Int32 → Int32 → Int32 → am_M → Option (Int32 × am_M)
  | 0, _, _, _, _ => none
  | n + 1, x1, x2, x3, f =>
    if x3 < (f 88 2) then
      am_chk x3 6 (
      if (f 89 x3.toNatClampNeg) = x1 then
        am_chk x3 6 (
        if (f 90 x3.toNatClampNeg) = x2 then
          D_X3_allows_2 n x1 x2 (x3 + 1) f
        else
          some (0, f))
      else
        D_X3_allows_2 n x1 x2 (x3 + 1) f)
    else
      some (1, f)
def D_X3_allows (a1 : Int32) (a2 : Int32) (f : am_M) : Option (Int32 × am_M) :=
  D_X3_allows_2 am_fu a1 a2 0 f
def D_X4_reset_52 (p e : Nat) : Nat → Int32 → am_M → Option am_M
  | 0, _, _ => none
  | n + 1, x1, f =>
    if x1 < 3 then
      am_chk x1 3 (
      D_X4_reset_52 p e n (x1 + 1) (am_wr f (p + 5) x1.toNatClampNeg 0))
    else
      some f
def D_X4_reset_17 (p e : Nat) : Nat → Int32 → am_M → Option am_M
  | 0, _, _ => none
  | n + 1, x1, f =>
    if x1 < 6 then
      am_chk x1 6 (
      am_chk x1 6 (
      am_chk x1 6 (
      D_X4_reset_17 p e n (x1 + 1) (am_wr (am_wr (am_wr f (p + 1) x1.toNatClampNeg 0) (p + 2) x1.toNatClampNeg 0) (p + 3) x1.toNatClampNeg 0))))
    else
      D_X4_reset_52 p e am_fu 0 f
def D_X4_reset (p e : Nat) (f : am_M) : Option am_M :=
  D_X4_reset_17 p e am_fu 0 (am_wr (am_wr (am_wr f p 2 0) p 3 0) p 9 0)
def D_X4_hasEvent (p e : Nat) (a1 : Int32) (f : am_M) : Option (Int32 × am_M) :=
  if a1 < 0 then
    some (0, f)
  else
    if a1 < (f p 2) then
      if a1 < (Int32.ofNat e) then
        some (1, f)
      else
        some (0, f)
    else
      some (0, f)
def D_X4_makerOf (p e : Nat) (a1 : Int32) (f : am_M) : Option (Int32 × am_M) :=
  am_chk a1 e (
  some (((f (p + 6) a1.toNatClampNeg) &&& 3), f))
def D_X4_kindOf (p e : Nat) (a1 : Int32) (f : am_M) : Option (Int32 × am_M) :=
  am_chk a1 e (
  some ((((f (p + 6) a1.toNatClampNeg) >>> ((2 : Int32) &&& 31)) &&& 3), f))
def D_X4_valueOf (p e : Nat) (a1 : Int32) (f : am_M) : Option (Int32 × am_M) :=
  am_chk a1 e (
  some (((f (p + 6) a1.toNatClampNeg) >>> ((4 : Int32) &&& 31)), f))
def D_X4_least_7 (p e : Nat) : Nat → Int32 → Int32 → am_M → Option (Int32 × am_M)
  | 0, _, _, _ => none
  | n + 1, x1, x2, f =>
    if x2 < (f 3 2) then
      am_chk x2 6 (
      if (f (p + 1) x2.toNatClampNeg) < x1 then
        am_chk x2 6 (
        D_X4_least_7 p e n (f (p + 1) x2.toNatClampNeg) (x2 + 1) f)
      else
        D_X4_least_7 p e n x1 (x2 + 1) f)
    else
      some (x1, f)
def D_X4_least (p e : Nat) (f : am_M) : Option (Int32 × am_M) :=
  D_X4_least_7 p e am_fu (f p 2) 0 f
def D_X4_slowestOf_5 (p e : Nat) : Nat → Int32 → Int32 → Int32 → am_M → Option (Int32 × am_M)
  | 0, _, _, _, _ => none
  | n + 1, x1, x2, x3, f =>
    if x3 < (f 3 2) then
      if ((x1 >>> (x3 &&& 31)) &&& 1) = 1 then
        if x2 = (-9) then
          D_X4_slowestOf_5 p e n x1 x3 (x3 + 1) f
        else
          am_chk x3 6 (
          am_chk x2 6 (
          if (f (p + 1) x3.toNatClampNeg) < (f (p + 1) x2.toNatClampNeg) then
            D_X4_slowestOf_5 p e n x1 x3 (x3 + 1) f
          else
            D_X4_slowestOf_5 p e n x1 x2 (x3 + 1) f))
      else
        D_X4_slowestOf_5 p e n x1 x2 (x3 + 1) f
    else
      some (x2, f)
def D_X4_slowestOf (p e : Nat) (a1 : Int32) (f : am_M) : Option (Int32 × am_M) :=
  D_X4_slowestOf_5 p e am_fu a1 (-9) 0 f
def D_X4_wantedByAll_4 (p e : Nat) : Nat → Int32 → Int32 → am_M → Option (Int32 × am_M)
  | 0, _, _, _ => none
  | n + 1, x1, x2, f =>
    if x2 < (f 3 1) then
      am_chk x2 3 (
      D_X4_wantedByAll_4 p e n (x1 + (f (p + 5) x2.toNatClampNeg)) (x2 + 1) f)
    else
      some (x1, f)
def D_X4_wantedByAll (p e : Nat) (f : am_M) : Option (Int32 × am_M) :=
  D_X4_wantedByAll_4 p e am_fu 0 0 f
def D_X4_placeInRow_2 (p e : Nat) : Nat → Int32 → Int32 → am_M → Option (Int32 × am_M)
  | 0, _, _, _ => none
  | n + 1, x1, x2, f =>
    if x2 < (f p 9) then
      am_chk x2 3 (
      if (f (p + 4) x2.toNatClampNeg) = x1 then
        some (x2, f)
      else
        D_X4_placeInRow_2 p e n x1 (x2 + 1) f)
    else
      some ((-9), f)
def D_X4_placeInRow (p e : Nat) (a1 : Int32) (f : am_M) : Option (Int32 × am_M) :=
  D_X4_placeInRow_2 p e am_fu a1 0 f
def D_X4_claim_18 (p e : Nat) : Nat → Int32 → Int32 → Int32 → am_M → Option (Int32 × am_M)
  | 0, _, _, _, _ => none
  | n + 1, x1, x3, x4, f =>
    if x4 < (f p 2) then
      if x4 < (Int32.ofNat e) then
        am_chk x4 e (
        D_X4_claim_18 p e n x1 x3 (x4 + 1) (am_wr f (p + 6) x4.toNatClampNeg x1))
      else
        some (x3, f)
    else
      some (x3, f)
def D_X4_claim (p e : Nat) (a1 : Int32) (a2 : Int32) (f : am_M) : Option (Int32 × am_M) :=
  D_X4_claim_18 p e am_fu a1 (f p 2) (f p 2) (am_wr f p 2 ((f p 2) + a2))
def D_X4_closeAllByRule (p e : Nat) (f : am_M) : Option am_M :=
  some (am_wr f p 3 (f p 2))
def D_X4_takesToAdmitFirst_60 (p e : Nat) : Nat → Int32 → Int32 → Int32 → am_M → Option (Int32 × am_M)
  | 0, _, _, _, _ => none
  | n + 1, x1, x2, x3, f =>
    if x3 < (f 3 2) then
      am_chk x3 6 (
      if (f (p + 1) x3.toNatClampNeg) < x1 then
        D_X4_takesToAdmitFirst_60 p e n x1 (x2 + 1) (x3 + 1) f
      else
        D_X4_takesToAdmitFirst_60 p e n x1 x2 (x3 + 1) f)
    else
      some (x2, f)
def D_X4_takesToAdmitFirst (p e : Nat) (f : am_M) : Option (Int32 × am_M) :=
  if (f p 9) = 0 then
    some ((-9), f)
  else
    if (f 3 2) = 0 then
      some ((-9), f)
    else
      am_chk (f (p + 4) 0) 3 (
      if (f p 3) < (((f p 2) + (f (p + 5) (f (p + 4) 0).toNatClampNeg)) - (f 3 0)) then
        some ((-9), f)
      else
        D_X4_takesToAdmitFirst_60 p e am_fu (((f p 2) + (f (p + 5) (f (p + 4) 0).toNatClampNeg)) - (f 3 0)) 0 0 f)
def D_X5_append (a1 : Int32) (f : am_M) : Option (Int32 × am_M) :=
  if (f 1 1) < 120 then
    am_chk (f 1 1) 120 (
    some (1, (am_wr (am_wr f 2 (f 1 1).toNatClampNeg a1) 1 1 ((f 1 1) + 1))))
  else
    some (0, f)
def D_X5_isWordLetter (a0 : Int32) (f : am_M) : Option (Int32 × am_M) :=
  if a0 < 97 then
    some (0, f)
  else
    if 122 < a0 then
      some (0, f)
    else
      some (1, f)
def D_X5_isFigure (a0 : Int32) (f : am_M) : Option (Int32 × am_M) :=
  if a0 < 48 then
    some (0, f)
  else
    if 57 < a0 then
      some (0, f)
    else
      some (1, f)
def D_X6_reset (f : am_M) : Option am_M :=
  some (am_wr (am_wr (am_wr f 7 0 8) 7 1 0) 7 2 0)
def D_X6_hasMaker (a1 : Int32) (f : am_M) : Option (Int32 × am_M) :=
  if a1 < 0 then
    some (0, f)
  else
    if a1 < (f 3 1) then
      some (1, f)
    else
      some (0, f)
def D_X6_hasTaker (a1 : Int32) (f : am_M) : Option (Int32 × am_M) :=
  if a1 < 0 then
    some (0, f)
  else
    if a1 < (f 3 2) then
      some (1, f)
    else
      some (0, f)
def D_X6_addMaker (a1 : Int32) (f : am_M) : Option (Int32 × am_M) :=
  if (f 7 1) < 3 then
    am_chk (f 7 1) 3 (
    some (1, (am_wr (am_wr f 8 (f 7 1).toNatClampNeg a1) 7 1 ((f 7 1) + 1))))
  else
    some (0, f)
def D_X6_addTaker (a1 : Int32) (a2 : Int32) (f : am_M) : Option (Int32 × am_M) :=
  if (f 7 2) < 6 then
    am_chk (f 7 2) 6 (
    am_chk (f 7 2) 6 (
    some (1, (am_wr (am_wr (am_wr f 9 (f 7 2).toNatClampNeg a1) 10 (f 7 2).toNatClampNeg a2) 7 2 ((f 7 2) + 1)))))
  else
    some (0, f)
def D_X7_clear (f : am_M) : Option (Int32 × am_M) :=
  some ((f 1 1), (am_wr f 1 1 0))
def D_X7_isTicks (a0 : Int32) (f : am_M) : Option (Int32 × am_M) :=
  if a0 < 0 then
    some (0, f)
  else
    if 60 < a0 then
      some (0, f)
    else
      some (1, f)
def D_X7_forget (f : am_M) : Option (Int32 × am_M) :=
  some ((f 88 2), (am_wr f 88 2 0))
def D_X8_within (a0 : Int32) (a1 : Int32) (a2 : Int32) (f : am_M) : Option (Int32 × am_M) :=
  if a0 < a1 then
    some (0, f)
  else
    if a2 < a0 then
      some (0, f)
    else
      some (1, f)
def D_X8_has (a0 : Int32) (a1 : Int32) (f : am_M) : Option (Int32 × am_M) :=
  if ((a0 >>> (a1 &&& 31)) &&& 1) = 1 then
    some (1, f)
  else
    some (0, f)
def D_X8_skips_0 : Nat → am_M → Option am_M
  | 0, _ => none
  | n + 1, f =>
    if (f 91 16) < (f 91 15) then
      am_chk (f 91 16) 120 (
      if (f 101 (f 91 16).toNatClampNeg) = 32 then
        D_X8_skips_0 n (am_wr f 91 16 ((f 91 16) + 1))
      else
        some (am_wr f 91 17 (f 91 16)))
    else
      some (am_wr f 91 17 (f 91 16))
def D_X8_skips (f : am_M) : Option am_M :=
  D_X8_skips_0 am_fu f
def D_X8_spells (a1 : Int32) (a2 : Int32) (a3 : Int32) (a4 : Int32) (a5 : Int32) (f : am_M) : Option (Int32 × am_M) :=
  if ((f 91 16) - (f 91 17)) = 5 then
    am_chk (f 91 17) 120 (
    if (f 101 (f 91 17).toNatClampNeg) = a1 then
      am_chk ((f 91 17) + 1) 120 (
      if (f 101 ((f 91 17) + 1).toNatClampNeg) = a2 then
        am_chk ((f 91 17) + 2) 120 (
        if (f 101 ((f 91 17) + 2).toNatClampNeg) = a3 then
          am_chk ((f 91 17) + 3) 120 (
          if (f 101 ((f 91 17) + 3).toNatClampNeg) = a4 then
            am_chk ((f 91 17) + 4) 120 (
            if (f 101 ((f 91 17) + 4).toNatClampNeg) = a5 then
              some (1, f)
            else
              some (0, f))
          else
            some (0, f))
        else
          some (0, f))
      else
        some (0, f))
    else
      some (0, f))
  else
    some (0, f)
def D_X8_clear (f : am_M) : Option (Int32 × am_M) :=
  some ((f 91 15), (am_wr f 91 15 0))
def D_X8_kindOf (a1 : Int32) (f : am_M) : Option (Int32 × am_M) :=
  am_chk ((26 : Int32) + a1) 1026 (
  some (((f 95 ((26 : Int32) + a1).toNatClampNeg) &&& 3), f))
def D_X8_least_9 : Nat → Int32 → Int32 → am_M → Option (Int32 × am_M)
  | 0, _, _, _ => none
  | n + 1, x1, x2, f =>
    if x2 < (f 91 3) then
      am_chk ((1 : Int32) + x2) 1026 (
      if (f 95 ((1 : Int32) + x2).toNatClampNeg) < x1 then
        am_chk ((1 : Int32) + x2) 1026 (
        D_X8_least_9 n (f 95 ((1 : Int32) + x2).toNatClampNeg) (x2 + 1) f)
      else
        D_X8_least_9 n x1 (x2 + 1) f)
    else
      some (x1, f)
def D_X8_least (f : am_M) : Option (Int32 × am_M) :=
  D_X8_least_9 am_fu (f 95 0) 0 f
def D_X8_placeOf_5 : Nat → Int32 → Int32 → Int32 → am_M → Option (Int32 × am_M)
  | 0, _, _, _, _ => none
  | n + 1, x1, x2, x3, f =>
    if x3 < (f 95 19) then
      am_chk ((20 : Int32) + x3) 1026 (
      if (f 95 ((20 : Int32) + x3).toNatClampNeg) = x1 then
        D_X8_placeOf_5 n x1 x3 (x3 + 1) f
      else
        D_X8_placeOf_5 n x1 x2 (x3 + 1) f)
    else
      some (x2, f)
def D_X8_placeOf (a1 : Int32) (f : am_M) : Option (Int32 × am_M) :=
  D_X8_placeOf_5 am_fu a1 (-9) 0 f
def D_X8_claimsNow_2 : Nat → Int32 → Int32 → Int32 → am_M → Option am_M
  | 0, _, _, _, _ => none
  | n + 1, x1, x2, x3, f =>
    if x3 < x2 then
      am_chk ((26 : Int32) + (f 95 0)) 1026 (
      D_X8_claimsNow_2 n x1 x2 (x3 + 1) (am_wr (am_wr f 95 ((26 : Int32) + (f 95 0)).toNatClampNeg ((0 : Int32) + ((4 : Int32) * x1))) 95 0 (((am_wr f 95 ((26 : Int32) + (f 95 0)).toNatClampNeg ((0 : Int32) + ((4 : Int32) * x1))) 95 0) + 1)))
    else
      some f
def D_X8_claimsNow (a1 : Int32) (a2 : Int32) (f : am_M) : Option am_M :=
  D_X8_claimsNow_2 am_fu a1 a2 0 f
def D_X8_leavesRow_13 : Nat → Int32 → am_M → Option am_M
  | 0, _, _ => none
  | n + 1, x2, f =>
    if x2 < (f 95 19) then
      am_chk (((20 : Int32) + x2) + 1) 1026 (
      am_chk ((20 : Int32) + x2) 1026 (
      am_chk (((23 : Int32) + x2) + 1) 1026 (
      am_chk ((23 : Int32) + x2) 1026 (
      D_X8_leavesRow_13 n (x2 + 1) (am_wr (am_wr f 95 ((20 : Int32) + x2).toNatClampNeg (f 95 (((20 : Int32) + x2) + 1).toNatClampNeg)) 95 ((23 : Int32) + x2).toNatClampNeg ((am_wr f 95 ((20 : Int32) + x2).toNatClampNeg (f 95 (((20 : Int32) + x2) + 1).toNatClampNeg)) 95 (((23 : Int32) + x2) + 1).toNatClampNeg))))))
    else
      some f
def D_X8_leavesRow (a1 : Int32) (f : am_M) : Option am_M :=
  D_X8_leavesRow_13 am_fu a1 (am_wr f 95 19 ((f 95 19) - 1))
def D_X8_wanted_4 : Nat → Int32 → Int32 → am_M → Option (Int32 × am_M)
  | 0, _, _, _ => none
  | n + 1, x1, x2, f =>
    if x2 < (f 95 19) then
      am_chk ((23 : Int32) + x2) 1026 (
      D_X8_wanted_4 n (x1 + (f 95 ((23 : Int32) + x2).toNatClampNeg)) (x2 + 1) f)
    else
      some (x1, f)
def D_X8_wanted (f : am_M) : Option (Int32 × am_M) :=
  D_X8_wanted_4 am_fu 0 0 f
def D_X8_keeps_52 : Nat → Int32 → am_M → Option am_M
  | 0, _, _ => none
  | n + 1, x1, f =>
    if x1 < (am_int 1026) then
      am_chk x1 1026 (
      am_chk ((((am_int 1026) : Int32) * (f 91 8)) + x1) 6156 (
      D_X8_keeps_52 n (x1 + 1) (am_wr f 96 ((((am_int 1026) : Int32) * (f 91 8)) + x1).toNatClampNeg (f 95 x1.toNatClampNeg))))
    else
      some (am_wr f 91 8 ((f 91 8) + 1))
def D_X8_keeps_11 : Nat → Int32 → am_M → Option am_M
  | 0, _, _ => none
  | n + 1, x1, f =>
    if x1 < (am_int 5130) then
      am_chk (x1 + (am_int 1026)) 6156 (
      am_chk x1 6156 (
      D_X8_keeps_11 n (x1 + 1) (am_wr f 96 x1.toNatClampNeg (f 96 (x1 + (am_int 1026)).toNatClampNeg))))
    else
      D_X8_keeps_52 am_fu 0 (am_wr f 91 8 ((f 91 8) - 1))
def D_X8_keeps (f : am_M) : Option am_M :=
  if (f 91 8) = 6 then
    D_X8_keeps_11 am_fu 0 f
  else
    D_X8_keeps_52 am_fu 0 f
def D_X8_undo_22 : Nat → Int32 → am_M → Option (Int32 × am_M)
  | 0, _, _ => none
  | n + 1, x1, f =>
    if x1 < (am_int 1026) then
      am_chk ((((am_int 1026) : Int32) * (f 91 8)) + x1) 6156 (
      am_chk x1 1026 (
      D_X8_undo_22 n (x1 + 1) (am_wr f 95 x1.toNatClampNeg (f 96 ((((am_int 1026) : Int32) * (f 91 8)) + x1).toNatClampNeg))))
    else
      some ((f 91 8), f)
def D_X8_undo (f : am_M) : Option (Int32 × am_M) :=
  if (f 91 8) = 0 then
    some ((-2), f)
  else
    D_X8_undo_22 am_fu 0 (am_wr f 91 8 ((f 91 8) - 1))
def D_X8_tellEvent (a1 : Int32) (a2 : Int32) (f : am_M) : Option (Int32 × am_M) :=
  am_chk ((26 : Int32) + a1) 1026 (
  if a2 = 0 then
    some (((f 95 ((26 : Int32) + a1).toNatClampNeg) &&& 3), f)
  else
    if a2 = 1 then
      some ((((f 95 ((26 : Int32) + a1).toNatClampNeg) >>> ((2 : Int32) &&& 31)) &&& 3), f)
    else
      if ((f 95 ((26 : Int32) + a1).toNatClampNeg) &&& 3) = 1 then
        some (((f 95 ((26 : Int32) + a1).toNatClampNeg) / 16), f)
      else
        some ((-9), f))
def D_X8_openOf_4 : Nat → Int32 → Int32 → Int32 → am_M → Option (Int32 × am_M)
  | 0, _, _, _, _ => none
  | n + 1, x1, x2, x3, f =>
    if x3 < (f 95 0) then
      am_chk ((26 : Int32) + x3) 1026 (
      if (f 95 ((26 : Int32) + x3).toNatClampNeg) = ((0 : Int32) + ((4 : Int32) * x1)) then
        D_X8_openOf_4 n x1 (x2 + 1) (x3 + 1) f
      else
        D_X8_openOf_4 n x1 (x2 + 0) (x3 + 1) f)
    else
      some (x2, f)
def D_X8_openOf (a1 : Int32) (f : am_M) : Option (Int32 × am_M) :=
  D_X8_openOf_4 am_fu a1 0 0 f
def D_X8_leastOver_7 : Nat → Int32 → Int32 → am_M → Option (Int32 × am_M)
  | 0, _, _, _ => none
  | n + 1, x1, x2, f =>
    if x2 < (f 91 3) then
      am_chk x2 6 (
      if (f 111 x2.toNatClampNeg) < x1 then
        am_chk x2 6 (
        D_X8_leastOver_7 n (f 111 x2.toNatClampNeg) (x2 + 1) f)
      else
        D_X8_leastOver_7 n x1 (x2 + 1) f)
    else
      some (x1, f)
def D_X8_leastOver (f : am_M) : Option (Int32 × am_M) :=
  D_X8_leastOver_7 am_fu (f 91 29) 0 f
def D_X8_doesWait_4 : Nat → Int32 → Int32 → Int32 → am_M → Option (Int32 × am_M)
  | 0, _, _, _, _ => none
  | n + 1, x1, x2, x3, f =>
    if x3 < (f 91 30) then
      if x2 = 0 then
        am_chk x3 3 (
        if (f 109 x3.toNatClampNeg) = x1 then
          D_X8_doesWait_4 n x1 1 (x3 + 1) f
        else
          D_X8_doesWait_4 n x1 0 (x3 + 1) f)
      else
        D_X8_doesWait_4 n x1 1 (x3 + 1) f
    else
      if x2 = 0 ∨ x2 = 1 then some (x2, f) else none
def D_X8_doesWait (a1 : Int32) (f : am_M) : Option (Int32 × am_M) :=
  D_X8_doesWait_4 am_fu a1 0 0 f
def D_X8_slowAt_5 : Nat → Int32 → Int32 → Int32 → am_M → Option (Int32 × am_M)
  | 0, _, _, _, _ => none
  | n + 1, x1, x2, x3, f =>
    if x3 < (f 91 3) then
      if x2 = (-9) then
        D_X8_slowAt_5 n x1 x3 (x3 + 1) f
      else
        am_chk (((6 : Int32) * x1) + x3) 366 (
        am_chk (((6 : Int32) * x1) + x2) 366 (
        if (f 107 (((6 : Int32) * x1) + x3).toNatClampNeg) < (f 107 (((6 : Int32) * x1) + x2).toNatClampNeg) then
          D_X8_slowAt_5 n x1 x3 (x3 + 1) f
        else
          D_X8_slowAt_5 n x1 x2 (x3 + 1) f))
    else
      some (x2, f)
def D_X8_slowAt (a1 : Int32) (f : am_M) : Option (Int32 × am_M) :=
  D_X8_slowAt_5 am_fu a1 (-9) 0 f
def D_X8_forget (f : am_M) : Option (Int32 × am_M) :=
  some ((f 91 11), (am_wr f 91 11 0))
def D_J6_bitCount_0f7a4 (a0 : Int32) (f : am_M) : Option (Int32 × am_M) :=
  some (((((((((a0 - ((a0.toUInt32 >>> ((1 : Int32).toUInt32 &&& Int32.toUInt32 31)).toInt32 &&& (am_int 1431655765))) &&& (am_int 858993459)) + (((a0 - ((a0.toUInt32 >>> ((1 : Int32).toUInt32 &&& Int32.toUInt32 31)).toInt32 &&& (am_int 1431655765))).toUInt32 >>> ((2 : Int32).toUInt32 &&& Int32.toUInt32 31)).toInt32 &&& (am_int 858993459))) + ((((a0 - ((a0.toUInt32 >>> ((1 : Int32).toUInt32 &&& Int32.toUInt32 31)).toInt32 &&& (am_int 1431655765))) &&& (am_int 858993459)) + (((a0 - ((a0.toUInt32 >>> ((1 : Int32).toUInt32 &&& Int32.toUInt32 31)).toInt32 &&& (am_int 1431655765))).toUInt32 >>> ((2 : Int32).toUInt32 &&& Int32.toUInt32 31)).toInt32 &&& (am_int 858993459))).toUInt32 >>> ((4 : Int32).toUInt32 &&& Int32.toUInt32 31)).toInt32) &&& (am_int 252645135)) + ((((((a0 - ((a0.toUInt32 >>> ((1 : Int32).toUInt32 &&& Int32.toUInt32 31)).toInt32 &&& (am_int 1431655765))) &&& (am_int 858993459)) + (((a0 - ((a0.toUInt32 >>> ((1 : Int32).toUInt32 &&& Int32.toUInt32 31)).toInt32 &&& (am_int 1431655765))).toUInt32 >>> ((2 : Int32).toUInt32 &&& Int32.toUInt32 31)).toInt32 &&& (am_int 858993459))) + ((((a0 - ((a0.toUInt32 >>> ((1 : Int32).toUInt32 &&& Int32.toUInt32 31)).toInt32 &&& (am_int 1431655765))) &&& (am_int 858993459)) + (((a0 - ((a0.toUInt32 >>> ((1 : Int32).toUInt32 &&& Int32.toUInt32 31)).toInt32 &&& (am_int 1431655765))).toUInt32 >>> ((2 : Int32).toUInt32 &&& Int32.toUInt32 31)).toInt32 &&& (am_int 858993459))).toUInt32 >>> ((4 : Int32).toUInt32 &&& Int32.toUInt32 31)).toInt32) &&& (am_int 252645135)).toUInt32 >>> ((8 : Int32).toUInt32 &&& Int32.toUInt32 31)).toInt32) + (((((((a0 - ((a0.toUInt32 >>> ((1 : Int32).toUInt32 &&& Int32.toUInt32 31)).toInt32 &&& (am_int 1431655765))) &&& (am_int 858993459)) + (((a0 - ((a0.toUInt32 >>> ((1 : Int32).toUInt32 &&& Int32.toUInt32 31)).toInt32 &&& (am_int 1431655765))).toUInt32 >>> ((2 : Int32).toUInt32 &&& Int32.toUInt32 31)).toInt32 &&& (am_int 858993459))) + ((((a0 - ((a0.toUInt32 >>> ((1 : Int32).toUInt32 &&& Int32.toUInt32 31)).toInt32 &&& (am_int 1431655765))) &&& (am_int 858993459)) + (((a0 - ((a0.toUInt32 >>> ((1 : Int32).toUInt32 &&& Int32.toUInt32 31)).toInt32 &&& (am_int 1431655765))).toUInt32 >>> ((2 : Int32).toUInt32 &&& Int32.toUInt32 31)).toInt32 &&& (am_int 858993459))).toUInt32 >>> ((4 : Int32).toUInt32 &&& Int32.toUInt32 31)).toInt32) &&& (am_int 252645135)) + ((((((a0 - ((a0.toUInt32 >>> ((1 : Int32).toUInt32 &&& Int32.toUInt32 31)).toInt32 &&& (am_int 1431655765))) &&& (am_int 858993459)) + (((a0 - ((a0.toUInt32 >>> ((1 : Int32).toUInt32 &&& Int32.toUInt32 31)).toInt32 &&& (am_int 1431655765))).toUInt32 >>> ((2 : Int32).toUInt32 &&& Int32.toUInt32 31)).toInt32 &&& (am_int 858993459))) + ((((a0 - ((a0.toUInt32 >>> ((1 : Int32).toUInt32 &&& Int32.toUInt32 31)).toInt32 &&& (am_int 1431655765))) &&& (am_int 858993459)) + (((a0 - ((a0.toUInt32 >>> ((1 : Int32).toUInt32 &&& Int32.toUInt32 31)).toInt32 &&& (am_int 1431655765))).toUInt32 >>> ((2 : Int32).toUInt32 &&& Int32.toUInt32 31)).toInt32 &&& (am_int 858993459))).toUInt32 >>> ((4 : Int32).toUInt32 &&& Int32.toUInt32 31)).toInt32) &&& (am_int 252645135)).toUInt32 >>> ((8 : Int32).toUInt32 &&& Int32.toUInt32 31)).toInt32).toUInt32 >>> ((16 : Int32).toUInt32 &&& Int32.toUInt32 31)).toInt32) &&& 63), f)
def D_J9_max_7cf53 (a0 : Int32) (a1 : Int32) (f : am_M) : Option (Int32 × am_M) :=
  if a0 < a1 then
    some (a1, f)
  else
    some (a0, f)
def D_J9_min_7cf53 (a0 : Int32) (a1 : Int32) (f : am_M) : Option (Int32 × am_M) :=
  if a1 < a0 then
    some (a1, f)
  else
    some (a0, f)
def D_X0_greatestGroup_21 (K : Int32 → Int32 → Int32 → am_M → Option (Int32 × am_M)) : Nat → Int32 → Int32 → Int32 → Int32 → Int32 → am_M → Option (Int32 × am_M)
  | 0, _, _, _, _, _, _ => none
  | n + 1, x1, x2, x3, x4, x5, f =>
    if x5 < (f 3 2) then
      if (((x1 >>> (x3 &&& 31)) &&& (x1 >>> (x5 &&& 31))) &&& 1) = 1 then
        am_chk x3 6 (
        am_chk x5 6 (
        if (f 82 x3.toNatClampNeg) = (f 82 x5.toNatClampNeg) then
          D_X0_greatestGroup_21 K n x1 x2 x3 (x4 + 1) (x5 + 1) f
        else
          D_X0_greatestGroup_21 K n x1 x2 x3 x4 (x5 + 1) f))
      else
        D_X0_greatestGroup_21 K n x1 x2 x3 x4 (x5 + 1) f
    else
      am_bI (D_J9_max_7cf53 x2 x4 f) fun v1 f1 =>
      K x1 v1 (x3 + 1) f1
def D_X0_greatestGroup_4 : Nat → Int32 → Int32 → Int32 → am_M → Option (Int32 × am_M)
  | 0, _, _, _, _ => none
  | n + 1, x1, x2, x3, f =>
    if x3 < (f 3 2) then
      D_X0_greatestGroup_21 (fun y1 y2 y3 f9 => D_X0_greatestGroup_4 n y1 y2 y3 f9) am_fu x1 x2 x3 0 0 f
    else
      some (x2, f)
def D_X0_greatestGroup (a1 : Int32) (f : am_M) : Option (Int32 × am_M) :=
  D_X0_greatestGroup_4 am_fu a1 0 0 f
def D_X3_lastTick_4 : Nat → Int32 → Int32 → am_M → Option (Int32 × am_M)
  | 0, _, _, _ => none
  | n + 1, x1, x2, f =>
    if x2 < (f 88 2) then
      am_chk x2 6 (
      am_bI (D_J9_max_7cf53 x1 (f 89 x2.toNatClampNeg) f) fun v1 f1 =>
      D_X3_lastTick_4 n v1 (x2 + 1) f1)
    else
      some (x1, f)
def D_X3_lastTick (f : am_M) : Option (Int32 × am_M) :=
  D_X3_lastTick_4 am_fu 0 0 f
def D_X4_copyFrom (p e : Nat) (q d : Nat) (f : am_M) : Option am_M :=
  am_bI (D_J9_min_7cf53 (Int32.ofNat e) (Int32.ofNat d) (am_cp (am_cp (am_cp (am_cp (am_cp (am_wr (am_wr (am_wr f p 2 (f q 2)) p 3 (f q 3)) p 9 (f q 9)) (q + 1) (p + 1) 0 0 6) (q + 2) (p + 2) 0 0 6) (q + 3) (p + 3) 0 0 6) (q + 4) (p + 4) 0 0 3) (q + 5) (p + 5) 0 0 3)) fun v1 f1 =>
  am_bI (D_J9_min_7cf53 v1 (f1 p 2) f1) fun v2 f2 =>
  if v2 < 0 then
    none
  else
    if 0 + v2.toNatClampNeg ≤ d then
      if 0 + v2.toNatClampNeg ≤ e then
        some (am_cp f2 (q + 6) (p + 6) 0 0 v2.toNatClampNeg)
      else
        none
    else
      none
def D_X4_room (p e : Nat) (f : am_M) : Option (Int32 × am_M) :=
  am_bI (D_X4_least p e f) fun v1 f1 =>
  some ((((f 3 0) + v1) - (f1 p 2)), f1)
def D_X4_atMost (p e : Nat) (a1 : Int32) (f : am_M) : Option (Int32 × am_M) :=
  am_chk a1 6 (
  am_bI (D_X4_slowestOf p e (f 6 a1.toNatClampNeg) f) fun v1 f1 =>
  if v1 = (-9) then
    some ((f1 p 3), f1)
  else
    am_chk v1 6 (
    some ((f1 (p + 1) v1.toNatClampNeg), f1)))
def D_X4_slowest (p e : Nat) (f : am_M) : Option (Int32 × am_M) :=
  am_bI (D_X4_slowestOf p e (((1 : Int32) <<< ((f 3 2) &&& 31)) - 1) f) fun v1 f1 =>
  some (v1, f1)
def D_X4_openOf_7 (p e : Nat) : Nat → Int32 → Int32 → Int32 → am_M → Option (Int32 × am_M)
  | 0, _, _, _, _ => none
  | n + 1, x1, x2, x3, f =>
    if x3 < (f p 2) then
      if x3 < (Int32.ofNat e) then
        am_bI (D_X4_kindOf p e x3 f) fun v1 f1 =>
        if v1 = 0 then
          am_bI (D_X4_makerOf p e x3 f1) fun v2 f2 =>
          if v2 = x1 then
            D_X4_openOf_7 p e n x1 (x2 + 1) (x3 + 1) f2
          else
            D_X4_openOf_7 p e n x1 x2 (x3 + 1) f2
        else
          D_X4_openOf_7 p e n x1 x2 (x3 + 1) f1
      else
        some (x2, f)
    else
      some (x2, f)
def D_X4_openOf (p e : Nat) (a1 : Int32) (f : am_M) : Option (Int32 × am_M) :=
  D_X4_openOf_7 p e am_fu a1 0 (f p 3) f
def D_X4_leaveRow_17 (p e : Nat) : Nat → Int32 → Int32 → am_M → Option am_M
  | 0, _, _, _ => none
  | n + 1, x1, x3, f =>
    if x3 < (f p 9) then
      am_chk x3 3 (
      am_chk (x3 - 1) 3 (
      D_X4_leaveRow_17 p e n x1 (x3 + 1) (am_wr f (p + 4) (x3 - 1).toNatClampNeg (f (p + 4) x3.toNatClampNeg))))
    else
      am_chk x1 3 (
      some (am_wr (am_wr f (p + 5) x1.toNatClampNeg 0) p 9 ((f p 9) - 1)))
def D_X4_leaveRow (p e : Nat) (a1 : Int32) (f : am_M) : Option am_M :=
  am_bI (D_X4_placeInRow p e a1 f) fun v1 f1 =>
  if v1 = (-9) then
    some f1
  else
    D_X4_leaveRow_17 p e am_fu a1 (v1 + 1) f1
def D_X4_close_19 (p e : Nat) : Nat → am_M → Option am_M
  | 0, _ => none
  | n + 1, f =>
    if (f p 3) < (f p 2) then
      if (f p 3) < (Int32.ofNat e) then
        am_bI (D_X4_kindOf p e (f p 3) f) fun v2 f2 =>
        if v2 = 0 then
          some f2
        else
          D_X4_close_19 p e n (am_wr f2 p 3 ((f2 p 3) + 1))
      else
        some f
    else
      some f
def D_X4_close (p e : Nat) (a1 : Int32) (a2 : Int32) (a3 : Int32) (f : am_M) : Option am_M :=
  am_bI (D_X4_makerOf p e a1 f) fun v1 f1 =>
  am_chk a1 e (
  D_X4_close_19 p e am_fu (am_wr f1 (p + 6) a1.toNatClampNeg ((v1 ||| (a2 <<< ((2 : Int32) &&& 31))) ||| (a3 <<< ((4 : Int32) &&& 31)))))
def D_X4_reopen (p e : Nat) (a1 : Int32) (f : am_M) : Option am_M :=
  am_bI (D_X4_hasEvent p e a1 f) fun v1 f1 =>
  if v1 = 0 then
    some f1
  else
    am_bI (D_X4_makerOf p e a1 f1) fun v2 f2 =>
    am_chk a1 e (
    some (am_wr f2 (p + 6) a1.toNatClampNeg v2))
def D_X5_readNumber_13 : Nat → am_M → Option am_M
  | 0, _ => none
  | n + 1, f =>
    if (f 1 4) < (f 1 1) then
      am_chk (f 1 4) 120 (
      am_bI (D_X5_isFigure (f 2 (f 1 4).toNatClampNeg) f) fun v1 f1 =>
      if v1 = 0 then
        am_chk (f1 1 3) 120 (
        if (f1 2 (f1 1 3).toNatClampNeg) = 48 then
          if ((f1 1 3) + 1) < (f1 1 4) then
            some (am_wr f1 1 2 6)
          else
            if 99 < (f1 1 5) then
              some (am_wr f1 1 2 6)
            else
              some (am_wr f1 1 2 4)
        else
          if 99 < (f1 1 5) then
            some (am_wr f1 1 2 6)
          else
            some (am_wr f1 1 2 4))
      else
        am_chk (f1 1 4) 120 (
        am_bI (D_J9_min_7cf53 ((((10 : Int32) * (f1 1 5)) + (f1 2 (f1 1 4).toNatClampNeg)) - 48) 100 f1) fun v2 f2 =>
        D_X5_readNumber_13 n (am_wr (am_wr f2 1 5 v2) 1 4 ((f2 1 4) + 1))))
    else
      am_chk (f 1 3) 120 (
      if (f 2 (f 1 3).toNatClampNeg) = 48 then
        if ((f 1 3) + 1) < (f 1 4) then
          some (am_wr f 1 2 6)
        else
          if 99 < (f 1 5) then
            some (am_wr f 1 2 6)
          else
            some (am_wr f 1 2 4)
      else
        if 99 < (f 1 5) then
          some (am_wr f 1 2 6)
        else
          some (am_wr f 1 2 4))
def D_X5_readNumber (f : am_M) : Option am_M :=
  D_X5_readNumber_13 am_fu (am_wr (am_wr f 1 5 0) 1 4 (f 1 3))
def D_X6_copyFrom (f : am_M) : Option am_M :=
  some (am_cp (am_cp (am_cp (am_wr (am_wr (am_wr f 3 0 (f 7 0)) 3 1 (f 7 1)) 3 2 (f 7 2)) 8 4 0 0 3) 9 5 0 0 6) 10 6 0 0 6)
def D_X7_type (a1 : Int32) (f : am_M) : Option (Int32 × am_M) :=
  if a1 < 0 then
    some ((-1), f)
  else
    if (am_int 255) < a1 then
      some ((-1), f)
    else
      am_bI (D_X5_append a1 f) fun v1 f1 =>
      if v1 = 0 then
        some ((-3), f1)
      else
        some ((f1 1 1), f1)
def D_X7_event (a1 : Int32) (a2 : Int32) (f : am_M) : Option (Int32 × am_M) :=
  am_bI (D_X4_hasEvent 11 999 a1 f) fun v1 f1 =>
  if v1 = 0 then
    some ((-1), f1)
  else
    if a2 = 0 then
      am_bI (D_X4_kindOf 11 999 a1 f1) fun v2 f2 =>
      some (v2, f2)
    else
      if a2 = 1 then
        am_bI (D_X4_makerOf 11 999 a1 f1) fun v3 f3 =>
        some (v3, f3)
      else
        if a2 = 2 then
          am_bI (D_X4_kindOf 11 999 a1 f1) fun v4 f4 =>
          if v4 = 1 then
            am_bI (D_X4_valueOf 11 999 a1 f4) fun v5 f5 =>
            some (v5, f5)
          else
            some ((-9), f4)
        else
          some ((-1), f1)
def D_X7_steps (f : am_M) : Option (Int32 × am_M) :=
  am_bI (D_X4_takesToAdmitFirst 11 999 f) fun v1 f1 =>
  some (v1, f1)
def D_X7_sees (a1 : Int32) (a2 : Int32) (f : am_M) : Option (Int32 × am_M) :=
  am_bI (D_X7_isTicks a1 f) fun v1 f1 =>
  if v1 = 0 then
    some ((-1), f1)
  else
    if a2 < 0 then
      some ((-1), f1)
    else
      if (am_int 9999) < a2 then
        some ((-1), f1)
      else
        am_bI (D_X3_add a1 a2 f1) fun v2 f2 =>
        if v2 = 0 then
          some ((-3), f2)
        else
          some ((f2 88 2), f2)
def D_X8_isAt (a1 : Int32) (a2 : Int32) (f : am_M) : Option (Int32 × am_M) :=
  if (f 91 16) < (f 91 15) then
    am_chk (f 91 16) 120 (
    am_bI (D_X8_within (f 101 (f 91 16).toNatClampNeg) a1 a2 f) fun v1 f1 =>
    if v1 = 0 then
      some (0, f1)
    else
      some (1, f1))
  else
    some (0, f)
def D_X8_type (a1 : Int32) (f : am_M) : Option (Int32 × am_M) :=
  am_bI (D_X8_within a1 0 (am_int 255) f) fun v1 f1 =>
  if v1 = 0 then
    some ((-1), f1)
  else
    if (f1 91 15) = 120 then
      some ((-3), f1)
    else
      am_chk (f1 91 15) 120 (
      some (((f1 91 15) + 1), (am_wr (am_wr f1 101 (f1 91 15).toNatClampNeg a1) 91 15 ((f1 91 15) + 1))))
def D_X8_isMaker (a1 : Int32) (f : am_M) : Option (Int32 × am_M) :=
  am_bI (D_X8_within a1 0 ((f 91 1) - 1) f) fun v1 f1 =>
  if v1 = 0 ∨ v1 = 1 then some (v1, f1) else none
def D_X8_isTaker (a1 : Int32) (f : am_M) : Option (Int32 × am_M) :=
  am_bI (D_X8_within a1 0 ((f 91 3) - 1) f) fun v1 f1 =>
  if v1 = 0 ∨ v1 = 1 then some (v1, f1) else none
def D_X8_isEvent (a1 : Int32) (f : am_M) : Option (Int32 × am_M) :=
  am_bI (D_X8_within a1 0 ((f 95 0) - 1) f) fun v1 f1 =>
  if v1 = 0 ∨ v1 = 1 then some (v1, f1) else none
def D_X8_cursor_2 : Nat → Int32 → am_M → Option (Int32 × am_M)
  | 0, _, _ => none
  | n + 1, x1, f =>
    if x1 < (f 95 0) then
      am_bI (D_X8_kindOf x1 f) fun v1 f1 =>
      if v1 = 0 then
        some (x1, f1)
      else
        D_X8_cursor_2 n (x1 + 1) f1
    else
      some (x1, f)
def D_X8_cursor (f : am_M) : Option (Int32 × am_M) :=
  D_X8_cursor_2 am_fu 0 f
def D_X8_room (f : am_M) : Option (Int32 × am_M) :=
  am_bI (D_X8_least f) fun v1 f1 =>
  some ((((f 91 0) + v1) - (f1 95 0)), f1)
def D_X8_goesOver (a1 : Int32) (a2 : Int32) (f : am_M) : Option am_M :=
  am_bI (D_X8_kindOf a2 f) fun v1 f1 =>
  if v1 = 1 then
    am_chk ((7 : Int32) + a1) 1026 (
    am_chk ((7 : Int32) + a1) 1026 (
    am_chk ((13 : Int32) + a1) 1026 (
    am_chk ((26 : Int32) + a2) 1026 (
    am_chk ((13 : Int32) + a1) 1026 (
    some (am_wr (am_wr f1 95 ((7 : Int32) + a1).toNatClampNeg ((f1 95 ((7 : Int32) + a1).toNatClampNeg) + 1)) 95 ((13 : Int32) + a1).toNatClampNeg (((((31 : Int32) * ((am_wr f1 95 ((7 : Int32) + a1).toNatClampNeg ((f1 95 ((7 : Int32) + a1).toNatClampNeg) + 1)) 95 ((13 : Int32) + a1).toNatClampNeg)) + (((am_wr f1 95 ((7 : Int32) + a1).toNatClampNeg ((f1 95 ((7 : Int32) + a1).toNatClampNeg) + 1)) 95 ((26 : Int32) + a2).toNatClampNeg) / 16)) + a1) - ((((31 : Int32) * ((am_wr f1 95 ((7 : Int32) + a1).toNatClampNeg ((f1 95 ((7 : Int32) + a1).toNatClampNeg) + 1)) 95 ((13 : Int32) + a1).toNatClampNeg)) + (((am_wr f1 95 ((7 : Int32) + a1).toNatClampNeg ((f1 95 ((7 : Int32) + a1).toNatClampNeg) + 1)) 95 ((26 : Int32) + a2).toNatClampNeg) / 16)) + a1) / (am_int 9973) * (am_int 9973))))))))
  else
    some f1
def D_X8_tellMaker (a1 : Int32) (a2 : Int32) (f : am_M) : Option (Int32 × am_M) :=
  am_bI (D_X8_placeOf a1 f) fun v1 f1 =>
  if a2 = 0 then
    am_chk a1 3 (
    some ((f1 92 a1.toNatClampNeg), f1))
  else
    if a2 = 1 then
      if v1 = (-9) then
        some (0, f1)
      else
        am_chk ((23 : Int32) + v1) 1026 (
        some ((f1 95 ((23 : Int32) + v1).toNatClampNeg), f1))
    else
      if a2 = 2 then
        some (v1, f1)
      else
        am_bI (D_X8_openOf a1 f1) fun v2 f2 =>
        some (v2, f2)
def D_X8_slowest_5 : Nat → Int32 → Int32 → Int32 → am_M → Option (Int32 × am_M)
  | 0, _, _, _, _ => none
  | n + 1, x1, x2, x3, f =>
    if x3 < (f 91 3) then
      am_bI (D_X8_has x1 x3 f) fun v1 f1 =>
      if v1 = 0 then
        D_X8_slowest_5 n x1 x2 (x3 + 1) f1
      else
        if x2 = (-9) then
          D_X8_slowest_5 n x1 x3 (x3 + 1) f1
        else
          am_chk ((1 : Int32) + x3) 1026 (
          am_chk ((1 : Int32) + x2) 1026 (
          if (f1 95 ((1 : Int32) + x3).toNatClampNeg) < (f1 95 ((1 : Int32) + x2).toNatClampNeg) then
            D_X8_slowest_5 n x1 x3 (x3 + 1) f1
          else
            D_X8_slowest_5 n x1 x2 (x3 + 1) f1))
    else
      some (x2, f)
def D_X8_slowest (a1 : Int32) (f : am_M) : Option (Int32 × am_M) :=
  D_X8_slowest_5 am_fu a1 (-9) 0 f
def D_X8_letsByRule_57 (K : am_M → Option am_M) : Nat → Int32 → am_M → Option am_M
  | 0, _, _ => none
  | n + 1, x1, f =>
    if x1 < (f 91 30) then
      am_chk (x1 + 1) 3 (
      am_chk x1 3 (
      am_chk (x1 + 1) 3 (
      am_chk x1 3 (
      D_X8_letsByRule_57 K n (x1 + 1) (am_wr (am_wr f 109 x1.toNatClampNeg (f 109 (x1 + 1).toNatClampNeg)) 110 x1.toNatClampNeg (f 110 (x1 + 1).toNatClampNeg))))))
    else
      K f
def D_X8_letsByRule_0 : Nat → am_M → Option am_M
  | 0, _ => none
  | n + 1, f =>
    if 0 < (f 91 30) then
      am_bI (D_X8_leastOver f) fun v1 f1 =>
      if (((f 91 0) + v1) - (f1 91 29)) < (f 110 0) then
        some f1
      else
        D_X8_letsByRule_57 (fun  f9 => D_X8_letsByRule_0 n  f9) am_fu 0 (am_wr (am_wr f1 91 29 ((f1 91 29) + (f1 110 0))) 91 30 ((f1 91 30) - 1))
    else
      some f
def D_X8_letsByRule (f : am_M) : Option am_M :=
  D_X8_letsByRule_0 am_fu f
def D_X8_claimsByRule (a1 : Int32) (f : am_M) : Option am_M :=
  am_chk a1 3 (
  if (f 92 a1.toNatClampNeg) = 0 then
    some f
  else
    am_bI (D_X8_doesWait a1 f) fun v1 f1 =>
    if v1 = 0 then
      if (f1 91 30) = 0 then
        am_chk a1 3 (
        am_bI (D_X8_leastOver f1) fun v2 f2 =>
        if (((f1 91 0) + v2) - (f2 91 29)) < (f1 92 a1.toNatClampNeg) then
          am_chk (f2 91 30) 3 (
          am_chk a1 3 (
          am_chk (f2 91 30) 3 (
          some (am_wr (am_wr (am_wr f2 109 (f2 91 30).toNatClampNeg a1) 110 (f2 91 30).toNatClampNeg (f2 92 a1.toNatClampNeg)) 91 30 ((f2 91 30) + 1)))))
        else
          am_chk a1 3 (
          some (am_wr f2 91 29 ((f2 91 29) + (f2 92 a1.toNatClampNeg)))))
      else
        am_chk (f1 91 30) 3 (
        am_chk a1 3 (
        am_chk (f1 91 30) 3 (
        some (am_wr (am_wr (am_wr f1 109 (f1 91 30).toNatClampNeg a1) 110 (f1 91 30).toNatClampNeg (f1 92 a1.toNatClampNeg)) 91 30 ((f1 91 30) + 1)))))
    else
      some f1)
def D_X8_mostByRule_26 : Nat → Int32 → Int32 → Int32 → am_M → Option (Int32 × am_M)
  | 0, _, _, _, _ => none
  | n + 1, x1, x3, x4, f =>
    if x4 < x1 then
      am_chk x1 6 (
      am_bI (D_X8_has (f 94 x1.toNatClampNeg) x4 f) fun v1 f1 =>
      if v1 = 0 then
        D_X8_mostByRule_26 n x1 x3 (x4 + 1) f1
      else
        am_chk x4 6 (
        if (f1 111 x4.toNatClampNeg) < x3 then
          am_chk x4 6 (
          D_X8_mostByRule_26 n x1 (f1 111 x4.toNatClampNeg) (x4 + 1) f1)
        else
          D_X8_mostByRule_26 n x1 x3 (x4 + 1) f1))
    else
      some (x3, f)
def D_X8_mostByRule (a1 : Int32) (a2 : Int32) (f : am_M) : Option (Int32 × am_M) :=
  am_chk a1 6 (
  if (f 94 a1.toNatClampNeg) = 0 then
    D_X8_mostByRule_26 am_fu a1 a2 0 f
  else
    am_chk a1 6 (
    D_X8_mostByRule_26 am_fu a1 ((f 111 a1.toNatClampNeg) + 16) 0 f))
def D_X8_saves_55 : Nat → Int32 → Int32 → am_M → Option am_M
  | 0, _, _, _ => none
  | n + 1, x1, x2, f =>
    if x2 < (f 91 1) then
      if x1 = 0 then
        am_chk (((3 : Int32) * x1) + x2) 183 (
        D_X8_saves_55 n x1 (x2 + 1) (am_wr f 108 (((3 : Int32) * x1) + x2).toNatClampNeg 0))
      else
        am_chk (((3 : Int32) * (x1 - 1)) + x2) 183 (
        am_bI (D_X8_doesWait x2 f) fun v1 f1 =>
        if v1 = 0 then
          am_chk (((3 : Int32) * x1) + x2) 183 (
          D_X8_saves_55 n x1 (x2 + 1) (am_wr f1 108 (((3 : Int32) * x1) + x2).toNatClampNeg ((f 108 (((3 : Int32) * (x1 - 1)) + x2).toNatClampNeg) + 0)))
        else
          am_chk (((3 : Int32) * x1) + x2) 183 (
          D_X8_saves_55 n x1 (x2 + 1) (am_wr f1 108 (((3 : Int32) * x1) + x2).toNatClampNeg ((f 108 (((3 : Int32) * (x1 - 1)) + x2).toNatClampNeg) + 1))))
    else
      some f
def D_X8_saves_22 : Nat → Int32 → Int32 → am_M → Option am_M
  | 0, _, _, _ => none
  | n + 1, x1, x2, f =>
    if x2 < (f 91 3) then
      am_chk x2 6 (
      am_chk (((6 : Int32) * x1) + x2) 366 (
      D_X8_saves_22 n x1 (x2 + 1) (am_wr f 107 (((6 : Int32) * x1) + x2).toNatClampNeg (f 111 x2.toNatClampNeg))))
    else
      D_X8_saves_55 am_fu x1 0 f
def D_X8_saves (a1 : Int32) (f : am_M) : Option am_M :=
  am_chk a1 61 (
  am_chk a1 61 (
  D_X8_saves_22 am_fu a1 0 (am_wr (am_wr f 105 a1.toNatClampNeg (f 91 29)) 106 a1.toNatClampNeg (f 91 30))))
def D_X8_leastAt (a1 : Int32) (f : am_M) : Option (Int32 × am_M) :=
  if (f 91 3) = 0 then
    am_chk a1 61 (
    some ((f 105 a1.toNatClampNeg), f))
  else
    am_bI (D_X8_slowAt a1 f) fun v1 f1 =>
    am_chk (((6 : Int32) * a1) + v1) 366 (
    some ((f1 107 (((6 : Int32) * a1) + v1).toNatClampNeg), f1))
def D_X8_isTicks (a0 : Int32) (f : am_M) : Option (Int32 × am_M) :=
  am_bI (D_X8_within a0 0 60 f) fun v1 f1 =>
  if v1 = 0 ∨ v1 = 1 then some (v1, f1) else none
def D_X8_mostAlike_20 (K : Int32 → Int32 → Int32 → Int32 → am_M → Option (Int32 × am_M)) : Nat → Int32 → Int32 → Int32 → Int32 → Int32 → Int32 → am_M → Option (Int32 × am_M)
  | 0, _, _, _, _, _, _, _ => none
  | n + 1, x1, x2, x3, x4, x5, x6, f =>
    if x6 < (f 91 3) then
      am_bI (D_X8_has x1 x4 f) fun v1 f1 =>
      if v1 = 0 then
        D_X8_mostAlike_20 K n x1 x2 x3 x4 (x5 + 0) (x6 + 1) f1
      else
        am_bI (D_X8_has x1 x6 f1) fun v2 f2 =>
        if v2 = 0 then
          D_X8_mostAlike_20 K n x1 x2 x3 x4 (x5 + 0) (x6 + 1) f2
        else
          am_chk (((6 : Int32) * x2) + x4) 366 (
          am_chk (((6 : Int32) * x2) + x6) 366 (
          if (f2 107 (((6 : Int32) * x2) + x4).toNatClampNeg) = (f2 107 (((6 : Int32) * x2) + x6).toNatClampNeg) then
            D_X8_mostAlike_20 K n x1 x2 x3 x4 (x5 + 1) (x6 + 1) f2
          else
            D_X8_mostAlike_20 K n x1 x2 x3 x4 (x5 + 0) (x6 + 1) f2))
    else
      if x3 < x5 then
        K x1 x2 x5 (x4 + 1) f
      else
        K x1 x2 x3 (x4 + 1) f
def D_X8_mostAlike_5 : Nat → Int32 → Int32 → Int32 → Int32 → am_M → Option (Int32 × am_M)
  | 0, _, _, _, _, _ => none
  | n + 1, x1, x2, x3, x4, f =>
    if x4 < (f 91 3) then
      D_X8_mostAlike_20 (fun y1 y2 y3 y4 f9 => D_X8_mostAlike_5 n y1 y2 y3 y4 f9) am_fu x1 x2 x3 x4 0 0 f
    else
      some (x3, f)
def D_X8_mostAlike (a1 : Int32) (a2 : Int32) (f : am_M) : Option (Int32 × am_M) :=
  D_X8_mostAlike_5 am_fu a1 a2 0 0 f
def D_X8_keep_13 : Nat → Int32 → Int32 → am_M → Option (Int32 × am_M)
  | 0, _, _, _ => none
  | n + 1, x1, x2, f =>
    if x2 < (am_int 1026) then
      am_chk x2 1026 (
      am_chk ((((am_int 1026) : Int32) * x1) + x2) 2052 (
      D_X8_keep_13 n x1 (x2 + 1) (am_wr f 97 ((((am_int 1026) : Int32) * x1) + x2).toNatClampNeg (f 95 x2.toNatClampNeg))))
    else
      am_chk x1 2 (
      some ((f 95 0), (am_wr f 98 x1.toNatClampNeg 1)))
def D_X8_keep (a1 : Int32) (f : am_M) : Option (Int32 × am_M) :=
  am_bI (D_X8_within a1 0 1 f) fun v1 f1 =>
  if v1 = 0 then
    some ((-1), f1)
  else
    D_X8_keep_13 am_fu a1 0 f1
def D_X8_back_25 : Nat → Int32 → Int32 → am_M → Option (Int32 × am_M)
  | 0, _, _, _ => none
  | n + 1, x1, x2, f =>
    if x2 < (am_int 1026) then
      am_chk ((((am_int 1026) : Int32) * x1) + x2) 2052 (
      am_chk x2 1026 (
      D_X8_back_25 n x1 (x2 + 1) (am_wr f 95 x2.toNatClampNeg (f 97 ((((am_int 1026) : Int32) * x1) + x2).toNatClampNeg))))
    else
      some ((f 95 0), (am_wr f 91 8 0))
def D_X8_back (a1 : Int32) (f : am_M) : Option (Int32 × am_M) :=
  am_bI (D_X8_within a1 0 1 f) fun v1 f1 =>
  if v1 = 0 then
    some ((-1), f1)
  else
    am_chk a1 2 (
    if (f1 98 a1.toNatClampNeg) = 0 then
      some ((-2), f1)
    else
      D_X8_back_25 am_fu a1 0 f1)
def D_X0_start_10 : Nat → Int32 → am_M → Option am_M
  | 0, _, _ => none
  | n + 1, x2, f =>
    if x2 < 3 then
      am_chk x2 3 (
      D_X0_start_10 n (x2 + 1) (am_wr f 80 x2.toNatClampNeg 0))
    else
      some f
def D_X0_start (f : am_M) : Option am_M :=
  am_bV (D_X4_copyFrom 81 0 11 999 f) fun f1 =>
  D_X0_start_10 am_fu 0 f1
def D_X2_remember (a2 : Int32) (f : am_M) : Option am_M :=
  am_chk (((f 18 2) + 1) - ((f 18 2) + 1) / 6 * 6) 6 (am_six (((f 18 2) + 1) - ((f 18 2) + 1) / 6 * 6)
    (am_bV (D_X4_copyFrom 21 0 11 999 (am_wr f 18 2 (((f 18 2) + 1) - ((f 18 2) + 1) / 6 * 6))) fun f1 =>
      am_chk (f1 18 2) 6 (
      am_bI (D_J9_min_7cf53 ((f1 18 3) + 1) 6 (am_wr f1 20 (f1 18 2).toNatClampNeg a2)) fun v2 f2 =>
      some (am_wr f2 18 3 v2)))
    (am_bV (D_X4_copyFrom 28 0 11 999 (am_wr f 18 2 (((f 18 2) + 1) - ((f 18 2) + 1) / 6 * 6))) fun f3 =>
      am_chk (f3 18 2) 6 (
      am_bI (D_J9_min_7cf53 ((f3 18 3) + 1) 6 (am_wr f3 20 (f3 18 2).toNatClampNeg a2)) fun v4 f4 =>
      some (am_wr f4 18 3 v4)))
    (am_bV (D_X4_copyFrom 35 0 11 999 (am_wr f 18 2 (((f 18 2) + 1) - ((f 18 2) + 1) / 6 * 6))) fun f5 =>
      am_chk (f5 18 2) 6 (
      am_bI (D_J9_min_7cf53 ((f5 18 3) + 1) 6 (am_wr f5 20 (f5 18 2).toNatClampNeg a2)) fun v6 f6 =>
      some (am_wr f6 18 3 v6)))
    (am_bV (D_X4_copyFrom 42 0 11 999 (am_wr f 18 2 (((f 18 2) + 1) - ((f 18 2) + 1) / 6 * 6))) fun f7 =>
      am_chk (f7 18 2) 6 (
      am_bI (D_J9_min_7cf53 ((f7 18 3) + 1) 6 (am_wr f7 20 (f7 18 2).toNatClampNeg a2)) fun v8 f8 =>
      some (am_wr f8 18 3 v8)))
    (am_bV (D_X4_copyFrom 49 0 11 999 (am_wr f 18 2 (((f 18 2) + 1) - ((f 18 2) + 1) / 6 * 6))) fun f9 =>
      am_chk (f9 18 2) 6 (
      am_bI (D_J9_min_7cf53 ((f9 18 3) + 1) 6 (am_wr f9 20 (f9 18 2).toNatClampNeg a2)) fun v10 f10 =>
      some (am_wr f10 18 3 v10)))
    (am_bV (D_X4_copyFrom 56 0 11 999 (am_wr f 18 2 (((f 18 2) + 1) - ((f 18 2) + 1) / 6 * 6))) fun f11 =>
      am_chk (f11 18 2) 6 (
      am_bI (D_J9_min_7cf53 ((f11 18 3) + 1) 6 (am_wr f11 20 (f11 18 2).toNatClampNeg a2)) fun v12 f12 =>
      some (am_wr f12 18 3 v12))))
def D_X2_restore (f : am_M) : Option (Int32 × am_M) :=
  if (f 18 3) = 0 then
    some (0, f)
  else
    am_chk (f 18 2) 6 (am_six (f 18 2)
      (am_bV (D_X4_copyFrom 11 999 21 0 f) fun f1 =>
        am_chk (f1 18 2) 6 (
        am_bV (D_X4_reopen 11 999 (f1 20 (f1 18 2).toNatClampNeg) f1) fun f2 =>
        some (1, (am_wr (am_wr f2 18 2 ((((f2 18 2) + 6) - 1) - (((f2 18 2) + 6) - 1) / 6 * 6)) 18 3 ((f2 18 3) - 1)))))
      (am_bV (D_X4_copyFrom 11 999 28 0 f) fun f3 =>
        am_chk (f3 18 2) 6 (
        am_bV (D_X4_reopen 11 999 (f3 20 (f3 18 2).toNatClampNeg) f3) fun f4 =>
        some (1, (am_wr (am_wr f4 18 2 ((((f4 18 2) + 6) - 1) - (((f4 18 2) + 6) - 1) / 6 * 6)) 18 3 ((f4 18 3) - 1)))))
      (am_bV (D_X4_copyFrom 11 999 35 0 f) fun f5 =>
        am_chk (f5 18 2) 6 (
        am_bV (D_X4_reopen 11 999 (f5 20 (f5 18 2).toNatClampNeg) f5) fun f6 =>
        some (1, (am_wr (am_wr f6 18 2 ((((f6 18 2) + 6) - 1) - (((f6 18 2) + 6) - 1) / 6 * 6)) 18 3 ((f6 18 3) - 1)))))
      (am_bV (D_X4_copyFrom 11 999 42 0 f) fun f7 =>
        am_chk (f7 18 2) 6 (
        am_bV (D_X4_reopen 11 999 (f7 20 (f7 18 2).toNatClampNeg) f7) fun f8 =>
        some (1, (am_wr (am_wr f8 18 2 ((((f8 18 2) + 6) - 1) - (((f8 18 2) + 6) - 1) / 6 * 6)) 18 3 ((f8 18 3) - 1)))))
      (am_bV (D_X4_copyFrom 11 999 49 0 f) fun f9 =>
        am_chk (f9 18 2) 6 (
        am_bV (D_X4_reopen 11 999 (f9 20 (f9 18 2).toNatClampNeg) f9) fun f10 =>
        some (1, (am_wr (am_wr f10 18 2 ((((f10 18 2) + 6) - 1) - (((f10 18 2) + 6) - 1) / 6 * 6)) 18 3 ((f10 18 3) - 1)))))
      (am_bV (D_X4_copyFrom 11 999 56 0 f) fun f11 =>
        am_chk (f11 18 2) 6 (
        am_bV (D_X4_reopen 11 999 (f11 20 (f11 18 2).toNatClampNeg) f11) fun f12 =>
        some (1, (am_wr (am_wr f12 18 2 ((((f12 18 2) + 6) - 1) - (((f12 18 2) + 6) - 1) / 6 * 6)) 18 3 ((f12 18 3) - 1))))))
def D_X4_hasAhead (p e : Nat) (a1 : Int32) (f : am_M) : Option (Int32 × am_M) :=
  am_chk a1 6 (
  am_bI (D_X4_atMost p e a1 f) fun v1 f1 =>
  if (f (p + 1) a1.toNatClampNeg) < v1 then
    some (1, f1)
  else
    some (0, f1))
def D_X4_claimOrWait (p e : Nat) (a1 : Int32) (a2 : Int32) (f : am_M) : Option (Int32 × am_M) :=
  if (f p 9) = 0 then
    am_bI (D_X4_room p e f) fun v1 f1 =>
    if v1 < a2 then
      if (f1 p 9) < 3 then
        am_chk (f1 p 9) 3 (
        am_chk a1 3 (
        some ((-9), (am_wr (am_wr (am_wr f1 (p + 4) (f1 p 9).toNatClampNeg a1) (p + 5) a1.toNatClampNeg a2) p 9 ((f1 p 9) + 1)))))
      else
        some ((-9), f1)
    else
      am_bI (D_X4_claim p e a1 a2 f1) fun v2 f2 =>
      some (v2, f2)
  else
    if (f p 9) < 3 then
      am_chk (f p 9) 3 (
      am_chk a1 3 (
      some ((-9), (am_wr (am_wr (am_wr f (p + 4) (f p 9).toNatClampNeg a1) (p + 5) a1.toNatClampNeg a2) p 9 ((f p 9) + 1)))))
    else
      some ((-9), f)
def D_X4_admit_2 (p e : Nat) : Nat → Int32 → am_M → Option am_M
  | 0, _, _ => none
  | n + 1, x1, f =>
    if x1 < 3 then
      if 0 < (f p 9) then
        am_chk (f (p + 4) 0) 3 (
        am_bI (D_X4_room p e f) fun v1 f1 =>
        if v1 < (f (p + 5) (f (p + 4) 0).toNatClampNeg) then
          some f1
        else
          am_bV (D_X4_leaveRow p e (f (p + 4) 0) f1) fun f2 =>
          am_bI (D_X4_claim p e (f (p + 4) 0) (f (p + 5) (f (p + 4) 0).toNatClampNeg) f2) fun v3 f3 =>
          D_X4_admit_2 p e n (x1 + 1) f3)
      else
        some f
    else
      some f
def D_X4_admit (p e : Nat) (f : am_M) : Option am_M :=
  D_X4_admit_2 p e am_fu 0 f
def D_X7_taker (a1 : Int32) (a2 : Int32) (f : am_M) : Option (Int32 × am_M) :=
  am_bI (D_X6_hasTaker a1 f) fun v1 f1 =>
  if v1 = 0 then
    some ((-1), f1)
  else
    if a2 = 0 then
      am_chk a1 6 (
      some ((f1 5 a1.toNatClampNeg), f1))
    else
      if a2 = 1 then
        am_chk a1 6 (
        some ((f1 6 a1.toNatClampNeg), f1))
      else
        if a2 = 2 then
          am_chk a1 6 (
          some ((f1 12 a1.toNatClampNeg), f1))
        else
          if a2 = 3 then
            am_bI (D_X4_atMost 11 999 a1 f1) fun v2 f2 =>
            some (v2, f2)
          else
            if a2 = 4 then
              am_chk a1 6 (
              some (((f1 11 3) - (f1 12 a1.toNatClampNeg)), f1))
            else
              if a2 = 5 then
                am_chk a1 6 (
                some ((f1 13 a1.toNatClampNeg), f1))
              else
                if a2 = 6 then
                  am_chk a1 6 (
                  some ((f1 14 a1.toNatClampNeg), f1))
                else
                  some ((-1), f1)
def D_X7_maker (a1 : Int32) (a2 : Int32) (f : am_M) : Option (Int32 × am_M) :=
  am_bI (D_X6_hasMaker a1 f) fun v1 f1 =>
  if v1 = 0 then
    some ((-1), f1)
  else
    if a2 = 0 then
      am_chk a1 3 (
      some ((f1 4 a1.toNatClampNeg), f1))
    else
      if a2 = 1 then
        am_chk a1 3 (
        some ((f1 16 a1.toNatClampNeg), f1))
      else
        if a2 = 2 then
          am_bI (D_X4_placeInRow 11 999 a1 f1) fun v2 f2 =>
          some (v2, f2)
        else
          if a2 = 3 then
            am_bI (D_X4_openOf 11 999 a1 f1) fun v3 f3 =>
            some (v3, f3)
          else
            some ((-1), f1)
def D_X7_keep (a1 : Int32) (f : am_M) : Option (Int32 × am_M) :=
  if a1 = 0 then
    if a1 = 0 then
      am_bV (D_X4_copyFrom 64 999 11 999 f) fun f2 =>
      some ((f2 11 2), (am_wr f2 63 1 1))
    else
      am_bV (D_X4_copyFrom 72 999 11 999 f) fun f3 =>
      some ((f3 11 2), (am_wr f3 71 1 1))
  else
    if a1 = 1 then
      if a1 = 0 then
        am_bV (D_X4_copyFrom 64 999 11 999 f) fun f5 =>
        some ((f5 11 2), (am_wr f5 63 1 1))
      else
        am_bV (D_X4_copyFrom 72 999 11 999 f) fun f6 =>
        some ((f6 11 2), (am_wr f6 71 1 1))
    else
      some ((-1), f)
def D_X7_back (a1 : Int32) (f : am_M) : Option (Int32 × am_M) :=
  if a1 = 0 then
    if a1 = 0 then
      if (f 63 1) = 0 then
        some ((-2), f)
      else
        am_bV (D_X4_copyFrom 11 999 64 999 f) fun f2 =>
        some ((f2 11 2), (am_wr f2 18 3 0))
    else
      if (f 71 1) = 0 then
        some ((-2), f)
      else
        am_bV (D_X4_copyFrom 11 999 72 999 f) fun f3 =>
        some ((f3 11 2), (am_wr f3 18 3 0))
  else
    if a1 = 1 then
      if a1 = 0 then
        if (f 63 1) = 0 then
          some ((-2), f)
        else
          am_bV (D_X4_copyFrom 11 999 64 999 f) fun f5 =>
          some ((f5 11 2), (am_wr f5 18 3 0))
      else
        if (f 71 1) = 0 then
          some ((-2), f)
        else
          am_bV (D_X4_copyFrom 11 999 72 999 f) fun f6 =>
          some ((f6 11 2), (am_wr f6 18 3 0))
    else
      some ((-1), f)
def D_X7_count (a1 : Int32) (f : am_M) : Option (Int32 × am_M) :=
  if a1 = 0 then
    some ((f 3 0), f)
  else
    if a1 = 1 then
      some ((f 3 1), f)
    else
      if a1 = 2 then
        some ((f 3 2), f)
      else
        if a1 = 3 then
          some ((f 11 2), f)
        else
          if a1 = 4 then
            some ((f 11 3), f)
          else
            if a1 = 5 then
              am_bI (D_X4_least 11 999 f) fun v1 f1 =>
              some (v1, f1)
            else
              if a1 = 6 then
                am_bI (D_X4_room 11 999 f) fun v2 f2 =>
                some (v2, f2)
              else
                if a1 = 7 then
                  some ((f 11 9), f)
                else
                  if a1 = 8 then
                    some ((f 88 2), f)
                  else
                    if a1 = 9 then
                      some ((f 1 1), f)
                    else
                      if a1 = 10 then
                        some ((f 18 3), f)
                      else
                        some ((-1), f)
def D_X8_passesEnd (f : am_M) : Option (Int32 × am_M) :=
  am_bV (D_X8_skips f) fun f1 =>
  am_bI (D_X8_isAt 59 59 f1) fun v2 f2 =>
  if v2 = 0 then
    if v2 = 0 ∨ v2 = 1 then some (v2, (am_wr f2 91 16 ((f2 91 16) + 0))) else none
  else
    if v2 = 0 ∨ v2 = 1 then some (v2, (am_wr f2 91 16 ((f2 91 16) + 1))) else none
def D_X8_number_9 : Nat → Int32 → Int32 → Int32 → Int32 → am_M → Option (Int32 × am_M)
  | 0, _, _, _, _, _ => none
  | n + 1, x1, x2, x3, x4, f =>
    am_bI (D_X8_isAt 48 57 f) fun v2 f2 =>
    if v2 = 0 then
      if 0 < x4 then
        if 99 < x3 then
          some ((-1), f2)
        else
          if x4 = 1 then
            am_bI (D_X8_within x3 x1 x2 f2) fun v3 f3 =>
            if v3 = 0 then
              some ((-1), f3)
            else
              some (x3, f3)
          else
            am_chk (f2 91 17) 120 (
            if (f2 101 (f2 91 17).toNatClampNeg) = 48 then
              some ((-1), f2)
            else
              am_bI (D_X8_within x3 x1 x2 f2) fun v4 f4 =>
              if v4 = 0 then
                some ((-1), f4)
              else
                some (x3, f4))
      else
        some ((-1), f2)
    else
      if 99 < x3 then
        D_X8_number_9 n x1 x2 100 (x4 + 1) (am_wr f2 91 16 ((f2 91 16) + 1))
      else
        am_chk (f2 91 16) 120 (
        D_X8_number_9 n x1 x2 ((((10 : Int32) * x3) + (f2 101 (f2 91 16).toNatClampNeg)) - 48) (x4 + 1) (am_wr f2 91 16 ((f2 91 16) + 1)))
def D_X8_number (a1 : Int32) (a2 : Int32) (f : am_M) : Option (Int32 × am_M) :=
  am_bV (D_X8_skips f) fun f1 =>
  D_X8_number_9 am_fu a1 a2 0 0 f1
def D_X8_wordPassed_4 : Nat → am_M → Option (Int32 × am_M)
  | 0, _ => none
  | n + 1, f =>
    am_bI (D_X8_isAt 97 122 f) fun v2 f2 =>
    if v2 = 0 then
      am_bI (D_X8_spells 115 108 111 116 115 f2) fun v3 f3 =>
      if v3 = 0 then
        am_bI (D_X8_spells 109 97 107 101 114 f3) fun v4 f4 =>
        if v4 = 0 then
          am_bI (D_X8_spells 116 97 107 101 114 f4) fun v5 f5 =>
          if v5 = 0 then
            some ((-9), f5)
          else
            if (f5 91 21) < 6 then
              some (2, f5)
            else
              some ((-9), f5)
        else
          if (f4 91 20) < 3 then
            some (1, f4)
          else
            some ((-9), f4)
      else
        if (f3 91 18) = 0 then
          some (0, f3)
        else
          some ((-9), f3)
    else
      D_X8_wordPassed_4 n (am_wr f2 91 16 ((f2 91 16) + 1))
def D_X8_wordPassed (f : am_M) : Option (Int32 × am_M) :=
  am_bV (D_X8_skips f) fun f1 =>
  D_X8_wordPassed_4 am_fu f1
def D_X8_atMost_20 : Nat → Int32 → Int32 → Int32 → am_M → Option (Int32 × am_M)
  | 0, _, _, _, _ => none
  | n + 1, x1, x2, x3, f =>
    if x3 < (f 91 3) then
      am_chk x1 6 (
      am_bI (D_X8_has (f 94 x1.toNatClampNeg) x3 f) fun v2 f2 =>
      if v2 = 0 then
        D_X8_atMost_20 n x1 x2 (x3 + 1) f2
      else
        am_chk ((1 : Int32) + x3) 1026 (
        if (f2 95 ((1 : Int32) + x3).toNatClampNeg) < x2 then
          am_chk ((1 : Int32) + x3) 1026 (
          D_X8_atMost_20 n x1 (f2 95 ((1 : Int32) + x3).toNatClampNeg) (x3 + 1) f2)
        else
          D_X8_atMost_20 n x1 x2 (x3 + 1) f2))
    else
      some (x2, f)
def D_X8_atMost (a1 : Int32) (f : am_M) : Option (Int32 × am_M) :=
  am_chk a1 6 (
  if (f 94 a1.toNatClampNeg) = 0 then
    am_bI (D_X8_cursor f) fun v1 f1 =>
    some (v1, f1)
  else
    D_X8_atMost_20 am_fu a1 (am_int 1000) 0 f)
def D_X8_lets_0 : Nat → am_M → Option am_M
  | 0, _ => none
  | n + 1, f =>
    if 0 < (f 95 19) then
      am_bI (D_X8_room f) fun v1 f1 =>
      if v1 < (f 95 23) then
        some f1
      else
        am_bV (D_X8_claimsNow (f1 95 20) (f1 95 23) f1) fun f2 =>
        am_bV (D_X8_leavesRow 0 f2) fun f3 =>
        D_X8_lets_0 n f3
    else
      some f
def D_X8_lets (f : am_M) : Option am_M :=
  D_X8_lets_0 am_fu f
def D_X8_claims (a1 : Int32) (a2 : Int32) (f : am_M) : Option (Int32 × am_M) :=
  am_bI (D_X8_isMaker a1 f) fun v1 f1 =>
  if v1 = 0 then
    some ((-1), f1)
  else
    am_bI (D_X8_within a2 1 9 f1) fun v2 f2 =>
    if v2 = 0 then
      some ((-1), f2)
    else
      am_bI (D_X8_placeOf a1 f2) fun v3 f3 =>
      if v3 = (-9) then
        am_bI (D_X8_wanted f3) fun v4 f4 =>
        if (am_int 999) < (((f3 95 0) + v4) + a2) then
          some ((-3), f4)
        else
          am_bV (D_X8_keeps f4) fun f5 =>
          if (f5 95 19) = 0 then
            am_bI (D_X8_room f5) fun v6 f6 =>
            if v6 < a2 then
              am_chk ((20 : Int32) + (f6 95 19)) 1026 (
              am_chk ((23 : Int32) + ((am_wr f6 95 ((20 : Int32) + (f6 95 19)).toNatClampNeg a1) 95 19)) 1026 (
              some ((-9), (am_wr (am_wr (am_wr f6 95 ((20 : Int32) + (f6 95 19)).toNatClampNeg a1) 95 ((23 : Int32) + ((am_wr f6 95 ((20 : Int32) + (f6 95 19)).toNatClampNeg a1) 95 19)).toNatClampNeg a2) 95 19 (((am_wr (am_wr f6 95 ((20 : Int32) + (f6 95 19)).toNatClampNeg a1) 95 ((23 : Int32) + ((am_wr f6 95 ((20 : Int32) + (f6 95 19)).toNatClampNeg a1) 95 19)).toNatClampNeg a2) 95 19) + 1)))))
            else
              am_bV (D_X8_claimsNow a1 a2 f6) fun f7 =>
              some ((f6 95 0), f7)
          else
            am_chk ((20 : Int32) + (f5 95 19)) 1026 (
            am_chk ((23 : Int32) + ((am_wr f5 95 ((20 : Int32) + (f5 95 19)).toNatClampNeg a1) 95 19)) 1026 (
            some ((-9), (am_wr (am_wr (am_wr f5 95 ((20 : Int32) + (f5 95 19)).toNatClampNeg a1) 95 ((23 : Int32) + ((am_wr f5 95 ((20 : Int32) + (f5 95 19)).toNatClampNeg a1) 95 19)).toNatClampNeg a2) 95 19 (((am_wr (am_wr f5 95 ((20 : Int32) + (f5 95 19)).toNatClampNeg a1) 95 ((23 : Int32) + ((am_wr f5 95 ((20 : Int32) + (f5 95 19)).toNatClampNeg a1) 95 19)).toNatClampNeg a2) 95 19) + 1)))))
      else
        some ((-2), f3)
def D_X8_becomes (a1 : Int32) (a2 : Int32) (a3 : Int32) (f : am_M) : Option (Int32 × am_M) :=
  am_bI (D_X8_kindOf a1 f) fun v1 f1 =>
  if v1 = 0 then
    am_bV (D_X8_keeps f1) fun f2 =>
    am_chk ((26 : Int32) + a1) 1026 (
    am_chk ((26 : Int32) + a1) 1026 (
    am_bI (D_X8_cursor (am_wr f2 95 ((26 : Int32) + a1).toNatClampNeg ((f2 95 ((26 : Int32) + a1).toNatClampNeg) + (a2 + ((16 : Int32) * a3))))) fun v3 f3 =>
    some (v3, f3)))
  else
    some ((-2), f1)
def D_X8_event (a1 : Int32) (a2 : Int32) (f : am_M) : Option (Int32 × am_M) :=
  am_bI (D_X8_isEvent a1 f) fun v1 f1 =>
  if v1 = 0 then
    some ((-1), f1)
  else
    am_bI (D_X8_within a2 0 2 f1) fun v2 f2 =>
    if v2 = 0 then
      some ((-1), f2)
    else
      am_bI (D_X8_tellEvent a1 a2 f2) fun v3 f3 =>
      some (v3, f3)
def D_X8_maker (a1 : Int32) (a2 : Int32) (f : am_M) : Option (Int32 × am_M) :=
  am_bI (D_X8_isMaker a1 f) fun v1 f1 =>
  if v1 = 0 then
    some ((-1), f1)
  else
    am_bI (D_X8_within a2 0 3 f1) fun v2 f2 =>
    if v2 = 0 then
      some ((-1), f2)
    else
      am_bI (D_X8_tellMaker a1 a2 f2) fun v3 f3 =>
      some (v3, f3)
def D_X8_steps_51 : Nat → Int32 → Int32 → Int32 → am_M → Option (Int32 × am_M)
  | 0, _, _, _, _ => none
  | n + 1, x1, x2, x3, f =>
    if x3 < (f 91 3) then
      am_chk ((1 : Int32) + x3) 1026 (
      if (f 95 ((1 : Int32) + x3).toNatClampNeg) < x1 then
        D_X8_steps_51 n x1 (x2 + 1) (x3 + 1) f
      else
        D_X8_steps_51 n x1 (x2 + 0) (x3 + 1) f)
    else
      some (x2, f)
def D_X8_steps (f : am_M) : Option (Int32 × am_M) :=
  if (f 95 19) = 0 then
    am_bI (D_X8_cursor f) fun v1 f1 =>
    if v1 < ((am_int 1000) : Int32) then
      some ((-9), f1)
    else
      D_X8_steps_51 am_fu (am_int 1000) 0 0 f1
  else
    am_bI (D_X8_cursor f) fun v2 f2 =>
    if v2 < (((f 95 0) + (f 95 23)) - (f 91 0)) then
      some ((-9), f2)
    else
      D_X8_steps_51 am_fu (((f 95 0) + (f 95 23)) - (f 91 0)) 0 0 f2
def D_X8_ticks_28 : Nat → Int32 → Int32 → am_M → Option am_M
  | 0, _, _, _ => none
  | n + 1, x1, x2, f =>
    if x2 < (f 91 3) then
      am_bI (D_X8_mostByRule x2 x1 f) fun v2 f2 =>
      am_chk x2 6 (
      am_chk x2 6 (
      if ((f2 111 x2.toNatClampNeg) + (f2 93 x2.toNatClampNeg)) < v2 then
        am_chk x2 6 (
        am_bV (D_X8_letsByRule (am_wr f2 111 x2.toNatClampNeg ((f2 111 x2.toNatClampNeg) + (f2 93 x2.toNatClampNeg)))) fun f3 =>
        D_X8_ticks_28 n x1 (x2 + 1) f3)
      else
        am_chk x2 6 (
        am_bV (D_X8_letsByRule (am_wr f2 111 x2.toNatClampNeg v2)) fun f4 =>
        D_X8_ticks_28 n x1 (x2 + 1) f4)))
    else
      some f
def D_X8_ticks_7 : Nat → Int32 → Int32 → am_M → Option am_M
  | 0, _, _, _ => none
  | n + 1, x1, x2, f =>
    if x2 < (f 91 1) then
      am_bV (D_X8_claimsByRule x2 f) fun f1 =>
      D_X8_ticks_7 n x1 (x2 + 1) f1
    else
      D_X8_ticks_28 am_fu x1 0 f
def D_X8_ticks (f : am_M) : Option am_M :=
  D_X8_ticks_7 am_fu (f 91 29) 0 f
def D_X8_sees (a1 : Int32) (a2 : Int32) (f : am_M) : Option (Int32 × am_M) :=
  am_bI (D_X8_isTicks a1 f) fun v1 f1 =>
  if v1 = 0 then
    some ((-1), f1)
  else
    am_bI (D_X8_within a2 0 (am_int 9999) f1) fun v2 f2 =>
    if v2 = 0 then
      some ((-1), f2)
    else
      if (f2 91 11) = 6 then
        some ((-3), f2)
      else
        am_chk (f2 91 11) 6 (
        am_chk (f2 91 11) 6 (
        some (((f2 91 11) + 1), (am_wr (am_wr (am_wr f2 99 (f2 91 11).toNatClampNeg a1) 100 (f2 91 11).toNatClampNeg a2) 91 11 ((f2 91 11) + 1)))))
def D_X8_count (a1 : Int32) (f : am_M) : Option (Int32 × am_M) :=
  if a1 = 0 then
    some ((f 91 0), f)
  else
    if a1 = 1 then
      some ((f 91 1), f)
    else
      if a1 = 2 then
        some ((f 91 3), f)
      else
        if a1 = 3 then
          some ((f 95 0), f)
        else
          if a1 = 4 then
            am_bI (D_X8_cursor f) fun v1 f1 =>
            some (v1, f1)
          else
            if a1 = 5 then
              am_bI (D_X8_least f) fun v2 f2 =>
              some (v2, f2)
            else
              if a1 = 6 then
                am_bI (D_X8_room f) fun v3 f3 =>
                some (v3, f3)
              else
                if a1 = 7 then
                  some ((f 95 19), f)
                else
                  if a1 = 8 then
                    some ((f 91 11), f)
                  else
                    if a1 = 9 then
                      some ((f 91 15), f)
                    else
                      if a1 = 10 then
                        some ((f 91 8), f)
                      else
                        some ((-1), f)
def D_X4_goOver_31 (p e : Nat) : Nat → Int32 → Int32 → Int32 → Int32 → am_M → Option (Int32 × am_M)
  | 0, _, _, _, _, _ => none
  | n + 1, x1, x3, x4, x5, f =>
    if x5 < x4 then
      if x5 < (Int32.ofNat e) then
        am_bI (D_X4_kindOf p e x5 f) fun v3 f3 =>
        if v3 = 1 then
          am_chk x1 6 (
          am_chk x1 6 (
          am_chk x1 6 (
          am_bI (D_X4_valueOf p e x5 (am_wr f3 (p + 2) x1.toNatClampNeg ((f3 (p + 2) x1.toNatClampNeg) + 1))) fun v4 f4 =>
          am_chk x1 6 (
          D_X4_goOver_31 p e n x1 x3 x4 (x5 + 1) (am_wr f4 (p + 3) x1.toNatClampNeg (((((31 : Int32) * (f3 (p + 3) x1.toNatClampNeg)) + v4) + x1) - ((((31 : Int32) * (f3 (p + 3) x1.toNatClampNeg)) + v4) + x1) / (am_int 9973) * (am_int 9973)))))))
        else
          D_X4_goOver_31 p e n x1 x3 x4 (x5 + 1) f3
      else
        am_chk x1 6 (
        am_bV (D_X4_admit p e (am_wr f (p + 1) x1.toNatClampNeg x4)) fun f5 =>
        some ((x4 - x3), f5))
    else
      am_chk x1 6 (
      am_bV (D_X4_admit p e (am_wr f (p + 1) x1.toNatClampNeg x4)) fun f6 =>
      some ((x4 - x3), f6))
def D_X4_goOver (p e : Nat) (a1 : Int32) (a2 : Int32) (f : am_M) : Option (Int32 × am_M) :=
  am_chk a1 6 (
  am_bI (D_X4_atMost p e a1 f) fun v1 f1 =>
  am_bI (D_J9_min_7cf53 ((f (p + 1) a1.toNatClampNeg) + a2) v1 f1) fun v2 f2 =>
  if (f (p + 1) a1.toNatClampNeg) < v2 then
    D_X4_goOver_31 p e am_fu a1 (f (p + 1) a1.toNatClampNeg) v2 (f (p + 1) a1.toNatClampNeg) f2
  else
    some (0, f2))
def D_X4_toBlame_27 (p e : Nat) : Nat → Int32 → Int32 → am_M → Option (Int32 × am_M)
  | 0, _, _, _ => none
  | n + 1, x1, x2, f =>
    if x2 < 6 then
      am_bI (D_X4_hasAhead p e x1 f) fun v2 f2 =>
      if v2 = 0 then
        am_chk x1 6 (
        am_bI (D_X4_slowestOf p e (f2 6 x1.toNatClampNeg) f2) fun v3 f3 =>
        if v3 = (-9) then
          am_bI (D_X4_hasEvent p e (f3 p 3) f3) fun v4 f4 =>
          if v4 = 0 then
            some ((-9), f4)
          else
            am_bI (D_X4_makerOf p e (f4 p 3) f4) fun v5 f5 =>
            some (((10 : Int32) + v5), f5)
        else
          D_X4_toBlame_27 p e n v3 (x2 + 1) f3)
      else
        some (x1, f2)
    else
      some (x1, f)
def D_X4_toBlame (p e : Nat) (f : am_M) : Option (Int32 × am_M) :=
  if (f p 9) = 0 then
    some ((-9), f)
  else
    if (f 3 2) = 0 then
      some ((-9), f)
    else
      am_bI (D_X4_slowest p e f) fun v1 f1 =>
      D_X4_toBlame_27 p e am_fu v1 0 f1
def D_X7_claims (a1 : Int32) (a2 : Int32) (f : am_M) : Option (Int32 × am_M) :=
  am_bI (D_X6_hasMaker a1 f) fun v1 f1 =>
  if v1 = 0 then
    some ((-1), f1)
  else
    if a2 < 1 then
      some ((-1), f1)
    else
      if 9 < a2 then
        some ((-1), f1)
      else
        am_chk a1 3 (
        if 0 < (f1 16 a1.toNatClampNeg) then
          some ((-2), f1)
        else
          am_bI (D_X4_wantedByAll 11 999 f1) fun v2 f2 =>
          if (am_int 999) < (((f1 11 2) + v2) + a2) then
            some ((-3), f2)
          else
            am_bV (D_X2_remember (-9) f2) fun f3 =>
            am_bI (D_X4_claimOrWait 11 999 a1 a2 f3) fun v4 f4 =>
            some (v4, f4))
def D_X7_closeOpen (a1 : Int32) (a2 : Int32) (a3 : Int32) (f : am_M) : Option (Int32 × am_M) :=
  am_bI (D_X4_kindOf 11 999 a1 f) fun v1 f1 =>
  if v1 = 0 then
    am_bV (D_X2_remember a1 f1) fun f2 =>
    am_bV (D_X4_close 11 999 a1 a2 a3 f2) fun f3 =>
    some ((f3 11 3), f3)
  else
    some ((-2), f1)
def D_X7_calls (a1 : Int32) (f : am_M) : Option (Int32 × am_M) :=
  am_bI (D_X6_hasMaker a1 f) fun v1 f1 =>
  if v1 = 0 then
    some ((-1), f1)
  else
    am_chk a1 3 (
    if (f1 16 a1.toNatClampNeg) = 0 then
      some ((-2), f1)
    else
      am_bV (D_X2_remember (-9) f1) fun f2 =>
      am_bV (D_X4_leaveRow 11 999 a1 f2) fun f3 =>
      am_bV (D_X4_admit 11 999 f3) fun f4 =>
      some ((f1 16 a1.toNatClampNeg), f4))
def D_X7_undo (f : am_M) : Option (Int32 × am_M) :=
  am_bI (D_X2_restore f) fun v1 f1 =>
  if v1 = 0 then
    some ((-2), f1)
  else
    some ((f1 18 3), f1)
def D_X8_readsSlots (f : am_M) : Option (Int32 × am_M) :=
  am_bI (D_X8_number 2 16 f) fun v1 f1 =>
  if 0 < v1 then
    am_bI (D_X8_passesEnd (am_wr (am_wr f1 91 19 v1) 91 18 1)) fun v2 f2 =>
    if v2 = 0 then
      some (0, f2)
    else
      some (1, f2)
  else
    some (0, (am_wr (am_wr f1 91 19 v1) 91 18 1))
def D_X8_readsMaker (f : am_M) : Option (Int32 × am_M) :=
  am_bI (D_X8_number 0 9 f) fun v1 f1 =>
  am_chk (f 91 20) 3 (
  am_chk (f1 91 20) 3 (
  if ((am_wr f1 102 (f 91 20).toNatClampNeg v1) 102 (f1 91 20).toNatClampNeg) < 0 then
    some (0, (am_wr f1 102 (f 91 20).toNatClampNeg v1))
  else
    am_bI (D_X8_passesEnd (am_wr f1 102 (f 91 20).toNatClampNeg v1)) fun v2 f2 =>
    if v2 = 0 then
      some (0, f2)
    else
      some (1, (am_wr f2 91 20 ((f2 91 20) + 1)))))
def D_X8_readsTaker (f : am_M) : Option (Int32 × am_M) :=
  am_bI (D_X8_number 1 9 f) fun v1 f1 =>
  am_chk (f 91 21) 6 (
  am_chk (f1 91 21) 6 (
  if ((am_wr f1 103 (f 91 21).toNatClampNeg v1) 103 (f1 91 21).toNatClampNeg) < 0 then
    am_chk (f1 91 21) 6 (
    am_chk (f1 91 21) 6 (
    if ((am_wr (am_wr f1 103 (f 91 21).toNatClampNeg v1) 104 (f1 91 21).toNatClampNeg (-1)) 104 (f1 91 21).toNatClampNeg) < 0 then
      some (0, (am_wr (am_wr f1 103 (f 91 21).toNatClampNeg v1) 104 (f1 91 21).toNatClampNeg (-1)))
    else
      am_bI (D_X8_passesEnd (am_wr (am_wr f1 103 (f 91 21).toNatClampNeg v1) 104 (f1 91 21).toNatClampNeg (-1))) fun v2 f2 =>
      if v2 = 0 then
        some (0, f2)
      else
        some (1, (am_wr f2 91 21 ((f2 91 21) + 1)))))
  else
    am_bI (D_X8_number 0 (((1 : Int32) <<< ((f1 91 21) &&& 31)) - 1) (am_wr f1 103 (f 91 21).toNatClampNeg v1)) fun v3 f3 =>
    am_chk (f1 91 21) 6 (
    am_chk (f3 91 21) 6 (
    if ((am_wr f3 104 (f1 91 21).toNatClampNeg v3) 104 (f3 91 21).toNatClampNeg) < 0 then
      some (0, (am_wr f3 104 (f1 91 21).toNatClampNeg v3))
    else
      am_bI (D_X8_passesEnd (am_wr f3 104 (f1 91 21).toNatClampNeg v3)) fun v4 f4 =>
      if v4 = 0 then
        some (0, f4)
      else
        some (1, (am_wr f4 91 21 ((f4 91 21) + 1)))))))
def D_X8_fills (a1 : Int32) (a2 : Int32) (f : am_M) : Option (Int32 × am_M) :=
  am_bI (D_X8_isEvent a1 f) fun v1 f1 =>
  if v1 = 0 then
    some ((-1), f1)
  else
    am_bI (D_X8_within a2 0 99 f1) fun v2 f2 =>
    if v2 = 0 then
      some ((-1), f2)
    else
      am_bI (D_X8_becomes a1 1 a2 f2) fun v3 f3 =>
      some (v3, f3)
def D_X8_gaps (a1 : Int32) (f : am_M) : Option (Int32 × am_M) :=
  am_bI (D_X8_isEvent a1 f) fun v1 f1 =>
  if v1 = 0 then
    some ((-1), f1)
  else
    am_bI (D_X8_becomes a1 2 0 f1) fun v2 f2 =>
    some (v2, f2)
def D_X8_takes_70 : Nat → Int32 → Int32 → Int32 → Int32 → am_M → Option (Int32 × am_M)
  | 0, _, _, _, _, _ => none
  | n + 1, x1, x3, x4, x5, f =>
    if x5 < x4 then
      am_bV (D_X8_goesOver x1 x5 f) fun f5 =>
      D_X8_takes_70 n x1 x3 x4 (x5 + 1) f5
    else
      am_chk ((1 : Int32) + x1) 1026 (
      am_bV (D_X8_lets (am_wr f 95 ((1 : Int32) + x1).toNatClampNeg x4)) fun f6 =>
      some ((x4 - x3), f6))
def D_X8_takes (a1 : Int32) (a2 : Int32) (f : am_M) : Option (Int32 × am_M) :=
  am_bI (D_X8_isTaker a1 f) fun v1 f1 =>
  if v1 = 0 then
    some ((-1), f1)
  else
    am_bI (D_X8_within a2 1 16 f1) fun v2 f2 =>
    if v2 = 0 then
      some ((-1), f2)
    else
      am_chk ((1 : Int32) + a1) 1026 (
      am_bI (D_X8_atMost a1 f2) fun v3 f3 =>
      if (f2 95 ((1 : Int32) + a1).toNatClampNeg) < v3 then
        am_bV (D_X8_keeps f3) fun f4 =>
        if ((f2 95 ((1 : Int32) + a1).toNatClampNeg) + a2) < v3 then
          D_X8_takes_70 am_fu a1 (f2 95 ((1 : Int32) + a1).toNatClampNeg) ((f2 95 ((1 : Int32) + a1).toNatClampNeg) + a2) (f2 95 ((1 : Int32) + a1).toNatClampNeg) f4
        else
          D_X8_takes_70 am_fu a1 (f2 95 ((1 : Int32) + a1).toNatClampNeg) v3 (f2 95 ((1 : Int32) + a1).toNatClampNeg) f4
      else
        some ((-2), f3))
def D_X8_calls (a1 : Int32) (f : am_M) : Option (Int32 × am_M) :=
  am_bI (D_X8_isMaker a1 f) fun v1 f1 =>
  if v1 = 0 then
    some ((-1), f1)
  else
    am_bI (D_X8_placeOf a1 f1) fun v2 f2 =>
    if v2 = (-9) then
      some ((-2), f2)
    else
      am_bV (D_X8_keeps f2) fun f3 =>
      am_chk ((23 : Int32) + v2) 1026 (
      am_bV (D_X8_leavesRow v2 f3) fun f4 =>
      am_bV (D_X8_lets f4) fun f5 =>
      some ((f3 95 ((23 : Int32) + v2).toNatClampNeg), f5))
def D_X8_tellTaker (a1 : Int32) (a2 : Int32) (f : am_M) : Option (Int32 × am_M) :=
  if a2 = 0 then
    am_chk a1 6 (
    some ((f 93 a1.toNatClampNeg), f))
  else
    if a2 = 1 then
      am_chk a1 6 (
      some ((f 94 a1.toNatClampNeg), f))
    else
      if a2 = 2 then
        am_chk ((1 : Int32) + a1) 1026 (
        some ((f 95 ((1 : Int32) + a1).toNatClampNeg), f))
      else
        if a2 = 3 then
          am_bI (D_X8_atMost a1 f) fun v1 f1 =>
          some (v1, f1)
        else
          if a2 = 4 then
            am_bI (D_X8_cursor f) fun v2 f2 =>
            am_chk ((1 : Int32) + a1) 1026 (
            some ((v2 - (f2 95 ((1 : Int32) + a1).toNatClampNeg)), f2))
          else
            if a2 = 5 then
              am_chk ((7 : Int32) + a1) 1026 (
              some ((f 95 ((7 : Int32) + a1).toNatClampNeg), f))
            else
              am_chk ((13 : Int32) + a1) 1026 (
              some ((f 95 ((13 : Int32) + a1).toNatClampNeg), f))
def D_X8_blamed_33 : Nat → Int32 → am_M → Option (Int32 × am_M)
  | 0, _, _ => none
  | n + 1, x1, f =>
    am_chk ((1 : Int32) + x1) 1026 (
    am_bI (D_X8_atMost x1 f) fun v2 f2 =>
    if (f 95 ((1 : Int32) + x1).toNatClampNeg) = v2 then
      am_chk x1 6 (
      if (f2 94 x1.toNatClampNeg) = 0 then
        am_bI (D_X8_cursor f2) fun v3 f3 =>
        if v3 < (f3 95 0) then
          am_chk ((26 : Int32) + v3) 1026 (
          some (((10 : Int32) + (((f3 95 ((26 : Int32) + v3).toNatClampNeg) >>> ((2 : Int32) &&& 31)) &&& 3)), f3))
        else
          some ((-9), f3)
      else
        am_chk x1 6 (
        am_bI (D_X8_slowest (f2 94 x1.toNatClampNeg) f2) fun v4 f4 =>
        D_X8_blamed_33 n v4 f4))
    else
      some (x1, f2))
def D_X8_blamed (f : am_M) : Option (Int32 × am_M) :=
  if (f 95 19) = 0 then
    some ((-9), f)
  else
    if (f 91 3) = 0 then
      some ((-9), f)
    else
      am_bI (D_X8_slowest (((1 : Int32) <<< ((f 91 3) &&& 31)) - 1) f) fun v1 f1 =>
      D_X8_blamed_33 am_fu v1 f1
def D_X8_laysRule_99 : Nat → Int32 → Int32 → am_M → Option am_M
  | 0, _, _, _ => none
  | n + 1, x1, x2, f =>
    if x1 < x2 then
      some f
    else
      am_bV (D_X8_ticks f) fun f2 =>
      am_bV (D_X8_saves x2 f2) fun f3 =>
      D_X8_laysRule_99 n x1 (x2 + 1) f3
def D_X8_laysRule_66 : Nat → Int32 → Int32 → am_M → Option am_M
  | 0, _, _, _ => none
  | n + 1, x1, x2, f =>
    if x2 < 6 then
      am_chk ((1 : Int32) + x2) 1026 (
      am_chk x2 6 (
      D_X8_laysRule_66 n x1 (x2 + 1) (am_wr f 111 x2.toNatClampNeg (f 95 ((1 : Int32) + x2).toNatClampNeg))))
    else
      am_bV (D_X8_saves 0 f) fun f1 =>
      D_X8_laysRule_99 am_fu x1 1 f1
def D_X8_laysRule_23 : Nat → Int32 → Int32 → am_M → Option am_M
  | 0, _, _, _ => none
  | n + 1, x1, x2, f =>
    if x2 < 3 then
      am_chk ((20 : Int32) + x2) 1026 (
      am_chk x2 3 (
      am_chk ((23 : Int32) + x2) 1026 (
      am_chk x2 3 (
      D_X8_laysRule_23 n x1 (x2 + 1) (am_wr (am_wr f 109 x2.toNatClampNeg (f 95 ((20 : Int32) + x2).toNatClampNeg)) 110 x2.toNatClampNeg (f 95 ((23 : Int32) + x2).toNatClampNeg))))))
    else
      D_X8_laysRule_66 am_fu x1 0 f
def D_X8_laysRule (a1 : Int32) (f : am_M) : Option am_M :=
  D_X8_laysRule_23 am_fu a1 0 (am_wr (am_wr f 91 29 (f 95 0)) 91 30 (f 95 19))
def D_X0_tick_107 : Nat → Int32 → am_M → Option am_M
  | 0, _, _ => none
  | n + 1, x1, f =>
    if x1 < (f 3 1) then
      am_chk x1 3 (
      if 0 < (f 86 x1.toNatClampNeg) then
        am_chk x1 3 (
        am_chk x1 3 (
        D_X0_tick_107 n (x1 + 1) (am_wr f 80 x1.toNatClampNeg ((f 80 x1.toNatClampNeg) + 1))))
      else
        D_X0_tick_107 n (x1 + 1) f)
    else
      some f
def D_X0_tick_70 : Nat → Int32 → am_M → Option am_M
  | 0, _, _ => none
  | n + 1, x1, f =>
    if x1 < (f 3 2) then
      am_chk x1 6 (
      am_bI (D_X4_goOver 81 0 x1 (f 5 x1.toNatClampNeg) f) fun v3 f3 =>
      D_X0_tick_70 n (x1 + 1) f3)
    else
      D_X0_tick_107 am_fu 0 f
def D_X0_tick_9 : Nat → Int32 → am_M → Option am_M
  | 0, _, _ => none
  | n + 1, x1, f =>
    if x1 < (f 3 1) then
      am_chk x1 3 (
      if 0 < (f 4 x1.toNatClampNeg) then
        am_chk x1 3 (
        if (f 86 x1.toNatClampNeg) = 0 then
          am_chk x1 3 (
          am_bI (D_X4_claimOrWait 81 0 x1 (f 4 x1.toNatClampNeg) f) fun v2 f2 =>
          D_X0_tick_9 n (x1 + 1) f2)
        else
          D_X0_tick_9 n (x1 + 1) f)
      else
        D_X0_tick_9 n (x1 + 1) f)
    else
      D_X0_tick_70 am_fu 0 f
def D_X0_tick (f : am_M) : Option am_M :=
  am_bV (D_X4_closeAllByRule 81 0 f) fun f1 =>
  D_X0_tick_9 am_fu 0 f1
def D_X5_isWord_0 (f : am_M) : Option (Int32 × am_M) :=
  if ((f 1 4) - (f 1 3)) = 5 then
    am_chk ((f 1 3) + 0) 120 (
    if (f 2 ((f 1 3) + 0).toNatClampNeg) = 115 then
      am_chk ((f 1 3) + 1) 120 (
      if (f 2 ((f 1 3) + 1).toNatClampNeg) = 108 then
        am_chk ((f 1 3) + 2) 120 (
        if (f 2 ((f 1 3) + 2).toNatClampNeg) = 111 then
          am_chk ((f 1 3) + 3) 120 (
          if (f 2 ((f 1 3) + 3).toNatClampNeg) = 116 then
            am_chk ((f 1 3) + 4) 120 (
            if (f 2 ((f 1 3) + 4).toNatClampNeg) = 115 then
              some (1, f)
            else
              some (0, f))
          else
            some (0, f))
        else
          some (0, f))
      else
        some (0, f))
    else
      some (0, f))
  else
    some (0, f)
def D_X5_isWord_1 (f : am_M) : Option (Int32 × am_M) :=
  if ((f 1 4) - (f 1 3)) = 5 then
    am_chk ((f 1 3) + 0) 120 (
    if (f 2 ((f 1 3) + 0).toNatClampNeg) = 109 then
      am_chk ((f 1 3) + 1) 120 (
      if (f 2 ((f 1 3) + 1).toNatClampNeg) = 97 then
        am_chk ((f 1 3) + 2) 120 (
        if (f 2 ((f 1 3) + 2).toNatClampNeg) = 107 then
          am_chk ((f 1 3) + 3) 120 (
          if (f 2 ((f 1 3) + 3).toNatClampNeg) = 101 then
            am_chk ((f 1 3) + 4) 120 (
            if (f 2 ((f 1 3) + 4).toNatClampNeg) = 114 then
              some (1, f)
            else
              some (0, f))
          else
            some (0, f))
        else
          some (0, f))
      else
        some (0, f))
    else
      some (0, f))
  else
    some (0, f)
def D_X5_isWord_2 (f : am_M) : Option (Int32 × am_M) :=
  if ((f 1 4) - (f 1 3)) = 5 then
    am_chk ((f 1 3) + 0) 120 (
    if (f 2 ((f 1 3) + 0).toNatClampNeg) = 116 then
      am_chk ((f 1 3) + 1) 120 (
      if (f 2 ((f 1 3) + 1).toNatClampNeg) = 97 then
        am_chk ((f 1 3) + 2) 120 (
        if (f 2 ((f 1 3) + 2).toNatClampNeg) = 107 then
          am_chk ((f 1 3) + 3) 120 (
          if (f 2 ((f 1 3) + 3).toNatClampNeg) = 101 then
            am_chk ((f 1 3) + 4) 120 (
            if (f 2 ((f 1 3) + 4).toNatClampNeg) = 114 then
              some (1, f)
            else
              some (0, f))
          else
            some (0, f))
        else
          some (0, f))
      else
        some (0, f))
    else
      some (0, f))
  else
    some (0, f)
def D_X7_fills (a1 : Int32) (a2 : Int32) (f : am_M) : Option (Int32 × am_M) :=
  am_bI (D_X4_hasEvent 11 999 a1 f) fun v1 f1 =>
  if v1 = 0 then
    some ((-1), f1)
  else
    if a2 < 0 then
      some ((-1), f1)
    else
      if 99 < a2 then
        some ((-1), f1)
      else
        am_bI (D_X7_closeOpen a1 1 a2 f1) fun v2 f2 =>
        some (v2, f2)
def D_X7_gaps (a1 : Int32) (f : am_M) : Option (Int32 × am_M) :=
  am_bI (D_X4_hasEvent 11 999 a1 f) fun v1 f1 =>
  if v1 = 0 then
    some ((-1), f1)
  else
    am_bI (D_X7_closeOpen a1 2 0 f1) fun v2 f2 =>
    some (v2, f2)
def D_X7_takes (a1 : Int32) (a2 : Int32) (f : am_M) : Option (Int32 × am_M) :=
  am_bI (D_X6_hasTaker a1 f) fun v1 f1 =>
  if v1 = 0 then
    some ((-1), f1)
  else
    if a2 < 1 then
      some ((-1), f1)
    else
      if 16 < a2 then
        some ((-1), f1)
      else
        am_bI (D_X4_hasAhead 11 999 a1 f1) fun v2 f2 =>
        if v2 = 0 then
          some ((-2), f2)
        else
          am_bV (D_X2_remember (-9) f2) fun f3 =>
          am_bI (D_X4_goOver 11 999 a1 a2 f3) fun v4 f4 =>
          some (v4, f4)
def D_X7_blamed (f : am_M) : Option (Int32 × am_M) :=
  am_bI (D_X4_toBlame 11 999 f) fun v1 f1 =>
  some (v1, f1)
def D_X8_reads_32 : Nat → Int32 → am_M → Option (Int32 × am_M)
  | 0, _, _ => none
  | n + 1, x1, f =>
    if (f 91 16) < (f 91 15) then
      am_bI (D_X8_wordPassed f) fun v2 f2 =>
      if v2 = 0 then
        am_bI (D_X8_readsSlots f2) fun v3 f3 =>
        if v3 = 0 then
          some ((-1), f3)
        else
          am_bV (D_X8_skips f3) fun f4 =>
          D_X8_reads_32 n (x1 + 1) f4
      else
        if v2 = 1 then
          am_bI (D_X8_readsMaker f2) fun v5 f5 =>
          if v5 = 0 then
            some ((-1), f5)
          else
            am_bV (D_X8_skips f5) fun f6 =>
            D_X8_reads_32 n (x1 + 1) f6
        else
          if v2 = 2 then
            am_bI (D_X8_readsTaker f2) fun v7 f7 =>
            if v7 = 0 then
              some ((-1), f7)
            else
              am_bV (D_X8_skips f7) fun f8 =>
              D_X8_reads_32 n (x1 + 1) f8
          else
            some ((-1), f2)
    else
      some (x1, f)
def D_X8_reads (f : am_M) : Option (Int32 × am_M) :=
  am_bV (D_X8_skips (am_wr (am_wr (am_wr (am_wr (am_wr f 91 16 0) 91 18 0) 91 19 8) 91 20 0) 91 21 0)) fun f1 =>
  D_X8_reads_32 am_fu 0 f1
def D_X8_taker (a1 : Int32) (a2 : Int32) (f : am_M) : Option (Int32 × am_M) :=
  am_bI (D_X8_isTaker a1 f) fun v1 f1 =>
  if v1 = 0 then
    some ((-1), f1)
  else
    am_bI (D_X8_within a2 0 6 f1) fun v2 f2 =>
    if v2 = 0 then
      some ((-1), f2)
    else
      am_bI (D_X8_tellTaker a1 a2 f2) fun v3 f3 =>
      some (v3, f3)
def D_X8_tellRule (a1 : Int32) (a2 : Int32) (f : am_M) : Option (Int32 × am_M) :=
  am_bV (D_X8_laysRule a1 f) fun f1 =>
  if a2 = 0 then
    am_chk a1 61 (
    some ((f1 105 a1.toNatClampNeg), f1))
  else
    if a2 = 1 then
      am_bI (D_X8_leastAt a1 f1) fun v2 f2 =>
      some (v2, f2)
    else
      if a2 = 2 then
        am_bI (D_X8_slowAt a1 f1) fun v3 f3 =>
        some (v3, f3)
      else
        am_chk a1 61 (
        some ((f1 106 a1.toNatClampNeg), f1))
def D_X8_waited (a1 : Int32) (a2 : Int32) (f : am_M) : Option (Int32 × am_M) :=
  am_bI (D_X8_isTicks a1 f) fun v1 f1 =>
  if v1 = 0 then
    some ((-1), f1)
  else
    am_bI (D_X8_isMaker a2 f1) fun v2 f2 =>
    if v2 = 0 then
      some ((-1), f2)
    else
      am_bV (D_X8_laysRule a1 f2) fun f3 =>
      am_chk (((3 : Int32) * a1) + a2) 183 (
      some ((f3 108 (((3 : Int32) * a1) + a2).toNatClampNeg), f3))
def D_X8_done (a1 : Int32) (a2 : Int32) (f : am_M) : Option (Int32 × am_M) :=
  am_bI (D_X8_isTicks a1 f) fun v1 f1 =>
  if v1 = 0 then
    some ((-1), f1)
  else
    am_bI (D_X8_isTaker a2 f1) fun v2 f2 =>
    if v2 = 0 then
      some ((-1), f2)
    else
      am_bV (D_X8_laysRule a1 f2) fun f3 =>
      am_chk (((6 : Int32) * a1) + a2) 366 (
      some ((f3 107 (((6 : Int32) * a1) + a2).toNatClampNeg), f3))
def D_X8_candidates_23 (K : Int32 → Int32 → am_M → Option (Int32 × am_M)) : Nat → Int32 → Int32 → Int32 → Int32 → am_M → Option (Int32 × am_M)
  | 0, _, _, _, _, _ => none
  | n + 1, x1, x2, x3, x4, f =>
    if x4 < (f 91 11) then
      if x3 = 0 then
        D_X8_candidates_23 K n x1 x2 0 (x4 + 1) f
      else
        am_chk x4 6 (
        am_chk (((6 : Int32) * (f 99 x4.toNatClampNeg)) + x2) 366 (
        am_chk x4 6 (
        if (f 107 (((6 : Int32) * (f 99 x4.toNatClampNeg)) + x2).toNatClampNeg) = (f 100 x4.toNatClampNeg) then
          D_X8_candidates_23 K n x1 x2 1 (x4 + 1) f
        else
          D_X8_candidates_23 K n x1 x2 0 (x4 + 1) f)))
    else
      if x3 = 0 then
        K (x1 ||| 0) (x2 + 1) f
      else
        K (x1 ||| ((1 : Int32) <<< (x2 &&& 31))) (x2 + 1) f
def D_X8_candidates_10 : Nat → Int32 → Int32 → am_M → Option (Int32 × am_M)
  | 0, _, _, _ => none
  | n + 1, x1, x2, f =>
    if x2 < (f 91 3) then
      D_X8_candidates_23 (fun y1 y2 f9 => D_X8_candidates_10 n y1 y2 f9) am_fu x1 x2 1 0 f
    else
      some (x1, f)
def D_X8_candidates (f : am_M) : Option (Int32 × am_M) :=
  am_bV (D_X8_laysRule 60 f) fun f1 =>
  D_X8_candidates_10 am_fu 0 0 f1
def D_X0_after_7 : Nat → Int32 → Int32 → am_M → Option am_M
  | 0, _, _, _ => none
  | n + 1, x2, x3, f =>
    if x3 < x2 then
      am_bV (D_X0_tick f) fun f2 =>
      D_X0_after_7 n x2 (x3 + 1) f2
    else
      some f
def D_X0_after (a2 : Int32) (f : am_M) : Option am_M :=
  am_bV (D_X0_start f) fun f1 =>
  D_X0_after_7 am_fu a2 0 f1
def D_X0_takersSeen_45 (K : Int32 → Int32 → Int32 → am_M → Option (Int32 × am_M)) : Nat → Int32 → Int32 → Int32 → Int32 → am_M → Option (Int32 × am_M)
  | 0, _, _, _, _, _ => none
  | n + 1, x3, x4, x5, x6, f =>
    if x6 < (f 3 2) then
      am_chk x6 6 (
      am_bI (D_X3_allows x5 (f 82 x6.toNatClampNeg) f) fun v4 f4 =>
      if v4 = 0 then
        D_X0_takersSeen_45 K n (x3 &&& (((1 : Int32) <<< (x6 &&& 31)) ^^^ (-1))) x4 x5 (x6 + 1) f4
      else
        D_X0_takersSeen_45 K n x3 x4 x5 (x6 + 1) f4)
    else
      K x3 x4 (x5 + 1) f
def D_X0_takersSeen_26 : Nat → Int32 → Int32 → Int32 → am_M → Option (Int32 × am_M)
  | 0, _, _, _, _ => none
  | n + 1, x3, x4, x5, f =>
    if x4 < x5 then
      some (x3, f)
    else
      if 0 < x5 then
        am_bV (D_X0_tick f) fun f3 =>
        D_X0_takersSeen_45 (fun y3 y4 y5 f9 => D_X0_takersSeen_26 n y3 y4 y5 f9) am_fu x3 x4 x5 0 f3
      else
        D_X0_takersSeen_45 (fun y3 y4 y5 f9 => D_X0_takersSeen_26 n y3 y4 y5 f9) am_fu x3 x4 x5 0 f
def D_X0_takersSeen (f : am_M) : Option (Int32 × am_M) :=
  am_bI (D_X3_lastTick f) fun v1 f1 =>
  am_bV (D_X0_start f1) fun f2 =>
  D_X0_takersSeen_26 am_fu (((1 : Int32) <<< ((f 3 2) &&& 31)) - 1) v1 0 f2
def D_X0_ticksThatPart_14 : Nat → Int32 → Int32 → Int32 → Int32 → am_M → Option (Int32 × am_M)
  | 0, _, _, _, _, _ => none
  | n + 1, x2, x3, x4, x5, f =>
    if 60 < x5 then
      some (x3, f)
    else
      if 1 < x4 then
        if 0 < x5 then
          am_bV (D_X0_tick f) fun f2 =>
          am_bI (D_X0_greatestGroup x2 f2) fun v3 f3 =>
          if v3 < x4 then
            D_X0_ticksThatPart_14 n x2 x5 v3 (x5 + 1) f3
          else
            D_X0_ticksThatPart_14 n x2 x3 x4 (x5 + 1) f3
        else
          am_bI (D_X0_greatestGroup x2 f) fun v4 f4 =>
          if v4 < x4 then
            D_X0_ticksThatPart_14 n x2 x5 v4 (x5 + 1) f4
          else
            D_X0_ticksThatPart_14 n x2 x3 x4 (x5 + 1) f4
      else
        some (x3, f)
def D_X0_ticksThatPart (a2 : Int32) (f : am_M) : Option (Int32 × am_M) :=
  am_bV (D_X0_start f) fun f1 =>
  D_X0_ticksThatPart_14 am_fu a2 0 7 0 f1
def D_X5_readWord_8 : Nat → am_M → Option am_M
  | 0, _ => none
  | n + 1, f =>
    if (f 1 4) < (f 1 1) then
      am_chk (f 1 4) 120 (
      am_bI (D_X5_isWordLetter (f 2 (f 1 4).toNatClampNeg) f) fun v1 f1 =>
      if v1 = 0 then
        am_bI (D_X5_isWord_0 f1) fun v2 f2 =>
        if v2 = 0 then
          am_bI (D_X5_isWord_1 f2) fun v3 f3 =>
          if v3 = 0 then
            am_bI (D_X5_isWord_2 f3) fun v4 f4 =>
            if v4 = 0 then
              some (am_wr f4 1 2 6)
            else
              some (am_wr f4 1 2 3)
          else
            some (am_wr f3 1 2 2)
        else
          some (am_wr f2 1 2 1)
      else
        D_X5_readWord_8 n (am_wr f1 1 4 ((f1 1 4) + 1)))
    else
      am_bI (D_X5_isWord_0 f) fun v5 f5 =>
      if v5 = 0 then
        am_bI (D_X5_isWord_1 f5) fun v6 f6 =>
        if v6 = 0 then
          am_bI (D_X5_isWord_2 f6) fun v7 f7 =>
          if v7 = 0 then
            some (am_wr f7 1 2 6)
          else
            some (am_wr f7 1 2 3)
        else
          some (am_wr f6 1 2 2)
      else
        some (am_wr f5 1 2 1)
def D_X5_readWord (f : am_M) : Option am_M :=
  D_X5_readWord_8 am_fu (am_wr f 1 4 (f 1 3))
def D_X8_tells_106 : Nat → Int32 → Int32 → am_M → Option (Int32 × am_M)
  | 0, _, _, _ => none
  | n + 1, x1, x2, f =>
    if x2 < (am_int 1026) then
      am_chk x2 1026 (
      D_X8_tells_106 n x1 (x2 + 1) (am_wr f 95 x2.toNatClampNeg 0))
    else
      some (x1, (am_wr (am_wr (am_wr (am_wr (am_wr f 91 11 0) 91 8 0) 98 0 0) 98 1 0) 91 15 0))
def D_X8_tells_68 : Nat → Int32 → Int32 → am_M → Option (Int32 × am_M)
  | 0, _, _, _ => none
  | n + 1, x1, x2, f =>
    if x2 < 6 then
      am_chk x2 6 (
      am_chk x2 6 (
      am_chk x2 6 (
      am_chk x2 6 (
      D_X8_tells_68 n x1 (x2 + 1) (am_wr (am_wr f 93 x2.toNatClampNeg (f 103 x2.toNatClampNeg)) 94 x2.toNatClampNeg (f 104 x2.toNatClampNeg))))))
    else
      D_X8_tells_106 am_fu x1 0 f
def D_X8_tells_43 : Nat → Int32 → Int32 → am_M → Option (Int32 × am_M)
  | 0, _, _, _ => none
  | n + 1, x1, x2, f =>
    if x2 < 3 then
      am_chk x2 3 (
      am_chk x2 3 (
      D_X8_tells_43 n x1 (x2 + 1) (am_wr f 92 x2.toNatClampNeg (f 102 x2.toNatClampNeg))))
    else
      D_X8_tells_68 am_fu x1 0 f
def D_X8_tells (f : am_M) : Option (Int32 × am_M) :=
  am_bI (D_X8_reads f) fun v1 f1 =>
  if v1 < 0 then
    some ((((-10) : Int32) - (f1 91 17)), f1)
  else
    D_X8_tells_43 am_fu v1 0 (am_wr (am_wr (am_wr f1 91 0 (f1 91 19)) 91 1 (f1 91 20)) 91 3 (f1 91 21))
def D_X8_rule (a1 : Int32) (a2 : Int32) (f : am_M) : Option (Int32 × am_M) :=
  am_bI (D_X8_isTicks a1 f) fun v1 f1 =>
  if v1 = 0 then
    some ((-1), f1)
  else
    am_bI (D_X8_within a2 0 3 f1) fun v2 f2 =>
    if v2 = 0 then
      some ((-1), f2)
    else
      am_bI (D_X8_tellRule a1 a2 f2) fun v3 f3 =>
      some (v3, f3)
def D_X8_which (f : am_M) : Option (Int32 × am_M) :=
  am_bI (D_X8_candidates f) fun v1 f1 =>
  some (v1, f1)
def D_X8_look_20 : Nat → Int32 → Int32 → Int32 → am_M → Option (Int32 × am_M)
  | 0, _, _, _, _ => none
  | n + 1, x1, x2, x3, f =>
    if 60 < x3 then
      some (x2, f)
    else
      am_bI (D_X8_mostAlike x1 x3 f) fun v2 f2 =>
      am_bI (D_X8_mostAlike x1 x2 f2) fun v3 f3 =>
      if v2 < v3 then
        D_X8_look_20 n x1 x3 (x3 + 1) f3
      else
        D_X8_look_20 n x1 x2 (x3 + 1) f3
def D_X8_look (f : am_M) : Option (Int32 × am_M) :=
  am_bI (D_X8_candidates f) fun v1 f1 =>
  if (v1 &&& (v1 - 1)) = 0 then
    some ((-9), f1)
  else
    D_X8_look_20 am_fu v1 0 1 f1
def D_X5_next_8 : Nat → am_M → Option am_M
  | 0, _ => none
  | n + 1, f =>
    if (f 1 3) < (f 1 1) then
      am_chk (f 1 3) 120 (
      if (f 2 (f 1 3).toNatClampNeg) = 32 then
        D_X5_next_8 n (am_wr f 1 3 ((f 1 3) + 1))
      else
        if (f 1 3) < (f 1 1) then
          am_chk (f 1 3) 120 (
          am_bI (D_X5_isWordLetter (f 2 (f 1 3).toNatClampNeg) f) fun v1 f1 =>
          if v1 = 0 then
            am_chk (f1 1 3) 120 (
            am_bI (D_X5_isFigure (f1 2 (f1 1 3).toNatClampNeg) f1) fun v2 f2 =>
            if v2 = 0 then
              am_chk (f2 1 3) 120 (
              if (f2 2 (f2 1 3).toNatClampNeg) = 59 then
                some (am_wr (am_wr f2 1 4 ((f2 1 3) + 1)) 1 2 5)
              else
                some (am_wr (am_wr f2 1 4 ((f2 1 3) + 1)) 1 2 6))
            else
              am_bV (D_X5_readNumber f2) fun f3 =>
              some f3)
          else
            am_bV (D_X5_readWord f1) fun f4 =>
            some f4)
        else
          some (am_wr (am_wr f 1 4 (f 1 3)) 1 2 0))
    else
      if (f 1 3) < (f 1 1) then
        am_chk (f 1 3) 120 (
        am_bI (D_X5_isWordLetter (f 2 (f 1 3).toNatClampNeg) f) fun v5 f5 =>
        if v5 = 0 then
          am_chk (f5 1 3) 120 (
          am_bI (D_X5_isFigure (f5 2 (f5 1 3).toNatClampNeg) f5) fun v6 f6 =>
          if v6 = 0 then
            am_chk (f6 1 3) 120 (
            if (f6 2 (f6 1 3).toNatClampNeg) = 59 then
              some (am_wr (am_wr f6 1 4 ((f6 1 3) + 1)) 1 2 5)
            else
              some (am_wr (am_wr f6 1 4 ((f6 1 3) + 1)) 1 2 6))
          else
            am_bV (D_X5_readNumber f6) fun f7 =>
            some f7)
        else
          am_bV (D_X5_readWord f5) fun f8 =>
          some f8)
      else
        some (am_wr (am_wr f 1 4 (f 1 3)) 1 2 0)
def D_X5_next (f : am_M) : Option am_M :=
  D_X5_next_8 am_fu (am_wr f 1 3 (f 1 4))
def D_X7_rule (a1 : Int32) (a2 : Int32) (f : am_M) : Option (Int32 × am_M) :=
  am_bI (D_X7_isTicks a1 f) fun v1 f1 =>
  if v1 = 0 then
    some ((-1), f1)
  else
    if a2 < 0 then
      some ((-1), f1)
    else
      if 3 < a2 then
        some ((-1), f1)
      else
        am_bV (D_X0_after a1 f1) fun f2 =>
        if a2 = 0 then
          some ((f2 81 2), f2)
        else
          if a2 = 1 then
            am_bI (D_X4_least 81 0 f2) fun v3 f3 =>
            some (v3, f3)
          else
            if a2 = 2 then
              am_bI (D_X4_slowest 81 0 f2) fun v4 f4 =>
              some (v4, f4)
            else
              some ((f2 81 9), f2)
def D_X7_waited (a1 : Int32) (a2 : Int32) (f : am_M) : Option (Int32 × am_M) :=
  am_bI (D_X7_isTicks a1 f) fun v1 f1 =>
  if v1 = 0 then
    some ((-1), f1)
  else
    am_bI (D_X6_hasMaker a2 f1) fun v2 f2 =>
    if v2 = 0 then
      some ((-1), f2)
    else
      am_bV (D_X0_after a1 f2) fun f3 =>
      am_chk a2 3 (
      some ((f3 80 a2.toNatClampNeg), f3))
def D_X7_done (a1 : Int32) (a2 : Int32) (f : am_M) : Option (Int32 × am_M) :=
  am_bI (D_X7_isTicks a1 f) fun v1 f1 =>
  if v1 = 0 then
    some ((-1), f1)
  else
    am_bI (D_X6_hasTaker a2 f1) fun v2 f2 =>
    if v2 = 0 then
      some ((-1), f2)
    else
      am_bV (D_X0_after a1 f2) fun f3 =>
      am_chk a2 6 (
      some ((f3 82 a2.toNatClampNeg), f3))
def D_X7_which (f : am_M) : Option (Int32 × am_M) :=
  am_bI (D_X0_takersSeen f) fun v1 f1 =>
  some (v1, f1)
def D_X7_look (f : am_M) : Option (Int32 × am_M) :=
  am_bI (D_X0_takersSeen f) fun v1 f1 =>
  am_bI (D_J6_bitCount_0f7a4 v1 f1) fun v2 f2 =>
  if v2 < 2 then
    some ((-9), f2)
  else
    am_bI (D_X0_ticksThatPart v1 f2) fun v3 f3 =>
    some (v3, f3)
def D_X5_accept (a1 : Int32) (a2 : Int32) (f : am_M) : Option (Int32 × am_M) :=
  if (f 1 2) = 4 then
    if (f 1 5) < a1 then
      some (0, f)
    else
      if a2 < (f 1 5) then
        some (0, f)
      else
        am_bV (D_X5_next (am_wr f 1 6 (f 1 5))) fun f1 =>
        some (1, f1)
  else
    some (0, f)
def D_X5_acceptSemicolon (f : am_M) : Option (Int32 × am_M) :=
  if (f 1 2) = 5 then
    am_bV (D_X5_next f) fun f1 =>
    some (1, f1)
  else
    some (0, f)
def D_X5_readSlots (f : am_M) : Option (Int32 × am_M) :=
  if (f 1 7) = 0 then
    am_bV (D_X5_next f) fun f1 =>
    am_bI (D_X5_accept 2 16 f1) fun v2 f2 =>
    if v2 = 0 then
      some (0, f2)
    else
      am_bI (D_X5_acceptSemicolon (am_wr (am_wr f2 7 0 (f2 1 6)) 1 7 1)) fun v3 f3 =>
      if v3 = 0 ∨ v3 = 1 then some (v3, f3) else none
  else
    some (0, f)
def D_X5_readMaker (f : am_M) : Option (Int32 × am_M) :=
  if (f 7 1) < 3 then
    am_bV (D_X5_next f) fun f1 =>
    am_bI (D_X5_accept 0 9 f1) fun v2 f2 =>
    if v2 = 0 then
      some (0, f2)
    else
      am_bI (D_X6_addMaker (f2 1 6) f2) fun v3 f3 =>
      if v3 = 0 then
        some (0, f3)
      else
        am_bI (D_X5_acceptSemicolon f3) fun v4 f4 =>
        if v4 = 0 then
          some (0, f4)
        else
          some (1, f4)
  else
    some (0, f)
def D_X5_readTaker (f : am_M) : Option (Int32 × am_M) :=
  if (f 7 2) < 6 then
    am_bV (D_X5_next f) fun f1 =>
    am_bI (D_X5_accept 1 9 f1) fun v2 f2 =>
    if v2 = 0 then
      some (0, f2)
    else
      am_bI (D_X5_accept 0 (((1 : Int32) <<< ((f2 7 2) &&& 31)) - 1) f2) fun v3 f3 =>
      if v3 = 0 then
        some (0, f3)
      else
        am_bI (D_X6_addTaker (f2 1 6) (f3 1 6) f3) fun v4 f4 =>
        if v4 = 0 then
          some (0, f4)
        else
          am_bI (D_X5_acceptSemicolon f4) fun v5 f5 =>
          if v5 = 0 then
            some (0, f5)
          else
            some (1, f5)
  else
    some (0, f)
def D_X5_readInto_20 : Nat → Int32 → am_M → Option (Int32 × am_M)
  | 0, _, _ => none
  | n + 1, x2, f =>
    if (f 1 2) = 0 then
      some (x2, f)
    else
      if x2 < 120 then
        if (f 1 2) = 1 then
          am_bI (D_X5_readSlots f) fun v3 f3 =>
          if v3 = 0 then
            some ((((-10) : Int32) - (f3 1 3)), f3)
          else
            D_X5_readInto_20 n (x2 + 1) f3
        else
          if (f 1 2) = 2 then
            am_bI (D_X5_readMaker f) fun v4 f4 =>
            if v4 = 0 then
              some ((((-10) : Int32) - (f4 1 3)), f4)
            else
              D_X5_readInto_20 n (x2 + 1) f4
          else
            if (f 1 2) = 3 then
              am_bI (D_X5_readTaker f) fun v5 f5 =>
              if v5 = 0 then
                some ((((-10) : Int32) - (f5 1 3)), f5)
              else
                D_X5_readInto_20 n (x2 + 1) f5
            else
              some ((((-10) : Int32) - (f 1 3)), f)
      else
        some (x2, f)
def D_X5_readInto (f : am_M) : Option (Int32 × am_M) :=
  am_bV (D_X6_reset f) fun f1 =>
  am_bV (D_X5_next (am_wr (am_wr f1 1 7 0) 1 4 0)) fun f2 =>
  D_X5_readInto_20 am_fu 0 f2
def D_X7_tells (f : am_M) : Option (Int32 × am_M) :=
  am_bI (D_X5_readInto f) fun v1 f1 =>
  if v1 < 0 then
    some (v1, f1)
  else
    am_bV (D_X6_copyFrom f1) fun f2 =>
    am_bV (D_X4_reset 11 999 f2) fun f3 =>
    some (v1, (am_wr (am_wr (am_wr (am_wr (am_wr f3 18 3 0) 63 1 0) 71 1 0) 88 2 0) 1 1 0))
def D_L_law_18 (X : am_X) : Nat → Int32 → am_M → Option (Int32 × am_M)
  | 0, _, _ => none
  | n + 1, x3, f =>
    if ((Int32.ofNat X.1) - 3) < x3 then
      some (1, f)
    else
      am_chk x3 X.1 (
      if ((X.2 x3.toNatClampNeg) &&& 31) = 0 then
        am_chk (x3 + 1) X.1 (
        am_bI (D_X7_type (X.2 (x3 + 1).toNatClampNeg) f) fun v1 f1 =>
        am_chk (x3 + 1) X.1 (
        am_bI (D_X8_type (X.2 (x3 + 1).toNatClampNeg) f1) fun v2 f2 =>
        if v1 = v2 then
          D_L_law_18 X n (x3 + 3) f2
        else
          some (0, f2)))
      else
        if ((X.2 x3.toNatClampNeg) &&& 31) = 1 then
          am_bI (D_X7_clear f) fun v3 f3 =>
          am_bI (D_X8_clear f3) fun v4 f4 =>
          if v3 = v4 then
            D_L_law_18 X n (x3 + 3) f4
          else
            some (0, f4)
        else
          if ((X.2 x3.toNatClampNeg) &&& 31) = 2 then
            am_bI (D_X7_tells f) fun v5 f5 =>
            am_bI (D_X8_tells f5) fun v6 f6 =>
            if v5 = v6 then
              D_L_law_18 X n (x3 + 3) f6
            else
              some (0, f6)
          else
            if ((X.2 x3.toNatClampNeg) &&& 31) = 3 then
              am_chk (x3 + 1) X.1 (
              am_chk (x3 + 2) X.1 (
              am_bI (D_X7_claims (X.2 (x3 + 1).toNatClampNeg) (X.2 (x3 + 2).toNatClampNeg) f) fun v7 f7 =>
              am_chk (x3 + 1) X.1 (
              am_chk (x3 + 2) X.1 (
              am_bI (D_X8_claims (X.2 (x3 + 1).toNatClampNeg) (X.2 (x3 + 2).toNatClampNeg) f7) fun v8 f8 =>
              if v7 = v8 then
                D_L_law_18 X n (x3 + 3) f8
              else
                some (0, f8)))))
            else
              if ((X.2 x3.toNatClampNeg) &&& 31) = 4 then
                am_chk (x3 + 1) X.1 (
                am_chk (x3 + 2) X.1 (
                am_bI (D_X7_fills (X.2 (x3 + 1).toNatClampNeg) (X.2 (x3 + 2).toNatClampNeg) f) fun v9 f9 =>
                am_chk (x3 + 1) X.1 (
                am_chk (x3 + 2) X.1 (
                am_bI (D_X8_fills (X.2 (x3 + 1).toNatClampNeg) (X.2 (x3 + 2).toNatClampNeg) f9) fun v10 f10 =>
                if v9 = v10 then
                  D_L_law_18 X n (x3 + 3) f10
                else
                  some (0, f10)))))
              else
                if ((X.2 x3.toNatClampNeg) &&& 31) = 5 then
                  am_chk (x3 + 1) X.1 (
                  am_bI (D_X7_gaps (X.2 (x3 + 1).toNatClampNeg) f) fun v11 f11 =>
                  am_chk (x3 + 1) X.1 (
                  am_bI (D_X8_gaps (X.2 (x3 + 1).toNatClampNeg) f11) fun v12 f12 =>
                  if v11 = v12 then
                    D_L_law_18 X n (x3 + 3) f12
                  else
                    some (0, f12)))
                else
                  if ((X.2 x3.toNatClampNeg) &&& 31) = 6 then
                    am_chk (x3 + 1) X.1 (
                    am_chk (x3 + 2) X.1 (
                    am_bI (D_X7_takes (X.2 (x3 + 1).toNatClampNeg) (X.2 (x3 + 2).toNatClampNeg) f) fun v13 f13 =>
                    am_chk (x3 + 1) X.1 (
                    am_chk (x3 + 2) X.1 (
                    am_bI (D_X8_takes (X.2 (x3 + 1).toNatClampNeg) (X.2 (x3 + 2).toNatClampNeg) f13) fun v14 f14 =>
                    if v13 = v14 then
                      D_L_law_18 X n (x3 + 3) f14
                    else
                      some (0, f14)))))
                  else
                    if ((X.2 x3.toNatClampNeg) &&& 31) = 7 then
                      am_chk (x3 + 1) X.1 (
                      am_bI (D_X7_calls (X.2 (x3 + 1).toNatClampNeg) f) fun v15 f15 =>
                      am_chk (x3 + 1) X.1 (
                      am_bI (D_X8_calls (X.2 (x3 + 1).toNatClampNeg) f15) fun v16 f16 =>
                      if v15 = v16 then
                        D_L_law_18 X n (x3 + 3) f16
                      else
                        some (0, f16)))
                    else
                      if ((X.2 x3.toNatClampNeg) &&& 31) = 8 then
                        am_bI (D_X7_undo f) fun v17 f17 =>
                        am_bI (D_X8_undo f17) fun v18 f18 =>
                        if v17 = v18 then
                          D_L_law_18 X n (x3 + 3) f18
                        else
                          some (0, f18)
                      else
                        if ((X.2 x3.toNatClampNeg) &&& 31) = 9 then
                          am_chk (x3 + 1) X.1 (
                          am_chk (x3 + 2) X.1 (
                          am_bI (D_X7_event (X.2 (x3 + 1).toNatClampNeg) (X.2 (x3 + 2).toNatClampNeg) f) fun v19 f19 =>
                          am_chk (x3 + 1) X.1 (
                          am_chk (x3 + 2) X.1 (
                          am_bI (D_X8_event (X.2 (x3 + 1).toNatClampNeg) (X.2 (x3 + 2).toNatClampNeg) f19) fun v20 f20 =>
                          if v19 = v20 then
                            D_L_law_18 X n (x3 + 3) f20
                          else
                            some (0, f20)))))
                        else
                          if ((X.2 x3.toNatClampNeg) &&& 31) = 10 then
                            am_chk (x3 + 1) X.1 (
                            am_chk (x3 + 2) X.1 (
                            am_bI (D_X7_taker (X.2 (x3 + 1).toNatClampNeg) (X.2 (x3 + 2).toNatClampNeg) f) fun v21 f21 =>
                            am_chk (x3 + 1) X.1 (
                            am_chk (x3 + 2) X.1 (
                            am_bI (D_X8_taker (X.2 (x3 + 1).toNatClampNeg) (X.2 (x3 + 2).toNatClampNeg) f21) fun v22 f22 =>
                            if v21 = v22 then
                              D_L_law_18 X n (x3 + 3) f22
                            else
                              some (0, f22)))))
                          else
                            if ((X.2 x3.toNatClampNeg) &&& 31) = 11 then
                              am_chk (x3 + 1) X.1 (
                              am_chk (x3 + 2) X.1 (
                              am_bI (D_X7_maker (X.2 (x3 + 1).toNatClampNeg) (X.2 (x3 + 2).toNatClampNeg) f) fun v23 f23 =>
                              am_chk (x3 + 1) X.1 (
                              am_chk (x3 + 2) X.1 (
                              am_bI (D_X8_maker (X.2 (x3 + 1).toNatClampNeg) (X.2 (x3 + 2).toNatClampNeg) f23) fun v24 f24 =>
                              if v23 = v24 then
                                D_L_law_18 X n (x3 + 3) f24
                              else
                                some (0, f24)))))
                            else
                              if ((X.2 x3.toNatClampNeg) &&& 31) = 12 then
                                am_bI (D_X7_blamed f) fun v25 f25 =>
                                am_bI (D_X8_blamed f25) fun v26 f26 =>
                                if v25 = v26 then
                                  D_L_law_18 X n (x3 + 3) f26
                                else
                                  some (0, f26)
                              else
                                if ((X.2 x3.toNatClampNeg) &&& 31) = 13 then
                                  am_bI (D_X7_steps f) fun v27 f27 =>
                                  am_bI (D_X8_steps f27) fun v28 f28 =>
                                  if v27 = v28 then
                                    D_L_law_18 X n (x3 + 3) f28
                                  else
                                    some (0, f28)
                                else
                                  if ((X.2 x3.toNatClampNeg) &&& 31) = 14 then
                                    am_chk (x3 + 1) X.1 (
                                    am_chk (x3 + 2) X.1 (
                                    am_bI (D_X7_rule (X.2 (x3 + 1).toNatClampNeg) (X.2 (x3 + 2).toNatClampNeg) f) fun v29 f29 =>
                                    am_chk (x3 + 1) X.1 (
                                    am_chk (x3 + 2) X.1 (
                                    am_bI (D_X8_rule (X.2 (x3 + 1).toNatClampNeg) (X.2 (x3 + 2).toNatClampNeg) f29) fun v30 f30 =>
                                    if v29 = v30 then
                                      D_L_law_18 X n (x3 + 3) f30
                                    else
                                      some (0, f30)))))
                                  else
                                    if ((X.2 x3.toNatClampNeg) &&& 31) = 15 then
                                      am_chk (x3 + 1) X.1 (
                                      am_chk (x3 + 2) X.1 (
                                      am_bI (D_X7_waited (X.2 (x3 + 1).toNatClampNeg) (X.2 (x3 + 2).toNatClampNeg) f) fun v31 f31 =>
                                      am_chk (x3 + 1) X.1 (
                                      am_chk (x3 + 2) X.1 (
                                      am_bI (D_X8_waited (X.2 (x3 + 1).toNatClampNeg) (X.2 (x3 + 2).toNatClampNeg) f31) fun v32 f32 =>
                                      if v31 = v32 then
                                        D_L_law_18 X n (x3 + 3) f32
                                      else
                                        some (0, f32)))))
                                    else
                                      if ((X.2 x3.toNatClampNeg) &&& 31) = 16 then
                                        am_chk (x3 + 1) X.1 (
                                        am_chk (x3 + 2) X.1 (
                                        am_bI (D_X7_done (X.2 (x3 + 1).toNatClampNeg) (X.2 (x3 + 2).toNatClampNeg) f) fun v33 f33 =>
                                        am_chk (x3 + 1) X.1 (
                                        am_chk (x3 + 2) X.1 (
                                        am_bI (D_X8_done (X.2 (x3 + 1).toNatClampNeg) (X.2 (x3 + 2).toNatClampNeg) f33) fun v34 f34 =>
                                        if v33 = v34 then
                                          D_L_law_18 X n (x3 + 3) f34
                                        else
                                          some (0, f34)))))
                                      else
                                        if ((X.2 x3.toNatClampNeg) &&& 31) = 17 then
                                          am_chk (x3 + 1) X.1 (
                                          am_chk (x3 + 2) X.1 (
                                          am_bI (D_X7_sees (X.2 (x3 + 1).toNatClampNeg) (X.2 (x3 + 2).toNatClampNeg) f) fun v35 f35 =>
                                          am_chk (x3 + 1) X.1 (
                                          am_chk (x3 + 2) X.1 (
                                          am_bI (D_X8_sees (X.2 (x3 + 1).toNatClampNeg) (X.2 (x3 + 2).toNatClampNeg) f35) fun v36 f36 =>
                                          if v35 = v36 then
                                            D_L_law_18 X n (x3 + 3) f36
                                          else
                                            some (0, f36)))))
                                        else
                                          if ((X.2 x3.toNatClampNeg) &&& 31) = 18 then
                                            am_bI (D_X7_forget f) fun v37 f37 =>
                                            am_bI (D_X8_forget f37) fun v38 f38 =>
                                            if v37 = v38 then
                                              D_L_law_18 X n (x3 + 3) f38
                                            else
                                              some (0, f38)
                                          else
                                            if ((X.2 x3.toNatClampNeg) &&& 31) = 19 then
                                              am_bI (D_X7_which f) fun v39 f39 =>
                                              am_bI (D_X8_which f39) fun v40 f40 =>
                                              if v39 = v40 then
                                                D_L_law_18 X n (x3 + 3) f40
                                              else
                                                some (0, f40)
                                            else
                                              if ((X.2 x3.toNatClampNeg) &&& 31) = 20 then
                                                am_bI (D_X7_look f) fun v41 f41 =>
                                                am_bI (D_X8_look f41) fun v42 f42 =>
                                                if v41 = v42 then
                                                  D_L_law_18 X n (x3 + 3) f42
                                                else
                                                  some (0, f42)
                                              else
                                                if ((X.2 x3.toNatClampNeg) &&& 31) = 21 then
                                                  am_chk (x3 + 1) X.1 (
                                                  am_bI (D_X7_keep (X.2 (x3 + 1).toNatClampNeg) f) fun v43 f43 =>
                                                  am_chk (x3 + 1) X.1 (
                                                  am_bI (D_X8_keep (X.2 (x3 + 1).toNatClampNeg) f43) fun v44 f44 =>
                                                  if v43 = v44 then
                                                    D_L_law_18 X n (x3 + 3) f44
                                                  else
                                                    some (0, f44)))
                                                else
                                                  if ((X.2 x3.toNatClampNeg) &&& 31) = 22 then
                                                    am_chk (x3 + 1) X.1 (
                                                    am_bI (D_X7_back (X.2 (x3 + 1).toNatClampNeg) f) fun v45 f45 =>
                                                    am_chk (x3 + 1) X.1 (
                                                    am_bI (D_X8_back (X.2 (x3 + 1).toNatClampNeg) f45) fun v46 f46 =>
                                                    if v45 = v46 then
                                                      D_L_law_18 X n (x3 + 3) f46
                                                    else
                                                      some (0, f46)))
                                                  else
                                                    if ((X.2 x3.toNatClampNeg) &&& 31) = 23 then
                                                      am_chk (x3 + 1) X.1 (
                                                      am_bI (D_X7_count (X.2 (x3 + 1).toNatClampNeg) f) fun v47 f47 =>
                                                      am_chk (x3 + 1) X.1 (
                                                      am_bI (D_X8_count (X.2 (x3 + 1).toNatClampNeg) f47) fun v48 f48 =>
                                                      if v47 = v48 then
                                                        D_L_law_18 X n (x3 + 3) f48
                                                      else
                                                        some (0, f48)))
                                                    else
                                                      D_L_law_18 X n (x3 + 3) f)
def D_L_law (X : am_X) (f : am_M) : Option (Int32 × am_M) :=
  D_L_law_18 X am_fu 0 f
