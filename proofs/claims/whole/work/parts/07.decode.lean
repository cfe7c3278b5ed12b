/-! the code tables are what the bytes decode to -/
def am_jmp (pc : Nat) (off : Int) : Bool := decide (0 ≤ (pc : Int) + off)
/-- what a row of a code table must keep; ini: the method makes objects -/
def am_good (o : Nat) (ini : Bool) (pc : Nat) (i : Instr) (len : Nat) : Bool := match i with
  | .aload _ => Nat.beq len 2
  | .iload _ => Nat.beq len 2
  | .astore _ => Nat.beq len 2
  | .istore _ => Nat.beq len 2
  | .bipush n => Nat.beq len 2 && decide ((Int8.ofInt n).toInt32 = am_int n)
  | .sipush n => Nat.beq len 3 && decide ((Int16.ofInt n).toInt32 = am_int n)
  | .ldc _ => Nat.beq len 2
  | .ldc_w _ => Nat.beq len 3
  | .getstatic _ => Nat.beq len 3
  | .iinc _ _ => Nat.beq len 3
  | .goto off => Nat.beq len 3 && am_jmp pc off
  | .if_icmp _ off => Nat.beq len 3 && am_jmp pc off
  | .ifCond _ off => Nat.beq len 3 && am_jmp pc off
  | .tableswitch d lo hi offs => am_jmp pc d && (offs.toList.all (am_jmp pc) && (decide (hi - lo + 1 = offs.size) && (decide (-1000 ≤ lo) && decide (hi ≤ 1000))))
  | .getfield _ => Nat.beq len 3
  | .putfield idx => Nat.beq len 3 && (match am_own am_FL o idx with
    | some (ci, k, _) => (match am_nth (am_ks ci) k with
      | some 2 => ini && Nat.beq o ci
      | _ => true)
    | none => false)
  | .new _ => Nat.beq len 3
  | .newarray _ => Nat.beq len 2
  | .anewarray _ => Nat.beq len 3
  | .invokevirtual _ => Nat.beq len 3
  | .invokespecial _ => Nat.beq len 3
  | .invokestatic _ => Nat.beq len 3
  | _ => Nat.beq len 1
def am_dok (bb : ByteArray) (c : am_cd) (o : Nat) (ini : Bool) : Bool := (List.range (16 * c.length)).all fun pc => match am_at c pc with
  | none => true
  | some (i, len) => decide (decode bb pc = .ok (i, len)) && am_good o ini pc i len
theorem am_dok_at {bb : ByteArray} {c : am_cd} {o : Nat} {ini : Bool} (h : am_dok bb c o ini = true) {pc : Nat} {i : Instr} {len : Nat} (ha : am_at c pc = some (i, len)) : decode bb pc = .ok (i, len) ∧ am_good o ini pc i len = true := by
  have hlt : pc < 16 * c.length := by
    unfold am_at am_two at ha
    rw [am_nth_eq] at ha
    cases hc : c[pc / 16]? with
    | none => simp [hc] at ha
    | some l =>
      have := (List.getElem?_eq_some_iff.mp hc).1
      omega
  have h1 := List.all_eq_true.mp h pc (List.mem_range.mpr hlt)
  simp only [ha, Bool.and_eq_true, decide_eq_true_eq] at h1
  exact h1
def am_ini (j : Nat) : Bool := decide ((am_y j).name = "<init>")

theorem am_dc_0 : am_dok (am_by 0) (am_m 0).1 (am_m 0).2.1 (am_ini 0) = true := by decide +kernel
theorem am_dc_1 : am_dok (am_by 1) (am_m 1).1 (am_m 1).2.1 (am_ini 1) = true := by decide +kernel
theorem am_dc_2 : am_dok (am_by 2) (am_m 2).1 (am_m 2).2.1 (am_ini 2) = true := by decide +kernel
theorem am_dc_3 : am_dok (am_by 3) (am_m 3).1 (am_m 3).2.1 (am_ini 3) = true := by decide +kernel
theorem am_dc_4 : am_dok (am_by 4) (am_m 4).1 (am_m 4).2.1 (am_ini 4) = true := by decide +kernel
theorem am_dc_5 : am_dok (am_by 5) (am_m 5).1 (am_m 5).2.1 (am_ini 5) = true := by decide +kernel
theorem am_dc_6 : am_dok (am_by 6) (am_m 6).1 (am_m 6).2.1 (am_ini 6) = true := by decide +kernel
theorem am_dc_7 : am_dok (am_by 7) (am_m 7).1 (am_m 7).2.1 (am_ini 7) = true := by decide +kernel
theorem am_dc_8 : am_dok (am_by 8) (am_m 8).1 (am_m 8).2.1 (am_ini 8) = true := by decide +kernel
theorem am_dc_9 : am_dok (am_by 9) (am_m 9).1 (am_m 9).2.1 (am_ini 9) = true := by decide +kernel
theorem am_dc_10 : am_dok (am_by 10) (am_m 10).1 (am_m 10).2.1 (am_ini 10) = true := by decide +kernel
theorem am_dc_11 : am_dok (am_by 11) (am_m 11).1 (am_m 11).2.1 (am_ini 11) = true := by decide +kernel
theorem am_dc_12 : am_dok (am_by 12) (am_m 12).1 (am_m 12).2.1 (am_ini 12) = true := by decide +kernel
theorem am_dc_13 : am_dok (am_by 13) (am_m 13).1 (am_m 13).2.1 (am_ini 13) = true := by decide +kernel
theorem am_dc_14 : am_dok (am_by 14) (am_m 14).1 (am_m 14).2.1 (am_ini 14) = true := by decide +kernel
theorem am_dc_15 : am_dok (am_by 15) (am_m 15).1 (am_m 15).2.1 (am_ini 15) = true := by decide +kernel
theorem am_dc_16 : am_dok (am_by 16) (am_m 16).1 (am_m 16).2.1 (am_ini 16) = true := by decide +kernel
theorem am_dc_17 : am_dok (am_by 17) (am_m 17).1 (am_m 17).2.1 (am_ini 17) = true := by decide +kernel
theorem am_dc_18 : am_dok (am_by 18) (am_m 18).1 (am_m 18).2.1 (am_ini 18) = true := by decide +kernel
theorem am_dc_19 : am_dok (am_by 19) (am_m 19).1 (am_m 19).2.1 (am_ini 19) = true := by decide +kernel
theorem am_dc_20 : am_dok (am_by 20) (am_m 20).1 (am_m 20).2.1 (am_ini 20) = true := by decide +kernel
theorem am_dc_21 : am_dok (am_by 21) (am_m 21).1 (am_m 21).2.1 (am_ini 21) = true := by decide +kernel
theorem am_dc_22 : am_dok (am_by 22) (am_m 22).1 (am_m 22).2.1 (am_ini 22) = true := by decide +kernel
theorem am_dc_23 : am_dok (am_by 23) (am_m 23).1 (am_m 23).2.1 (am_ini 23) = true := by decide +kernel
theorem am_dc_24 : am_dok (am_by 24) (am_m 24).1 (am_m 24).2.1 (am_ini 24) = true := by decide +kernel
theorem am_dc_25 : am_dok (am_by 25) (am_m 25).1 (am_m 25).2.1 (am_ini 25) = true := by decide +kernel
theorem am_dc_26 : am_dok (am_by 26) (am_m 26).1 (am_m 26).2.1 (am_ini 26) = true := by decide +kernel
theorem am_dc_27 : am_dok (am_by 27) (am_m 27).1 (am_m 27).2.1 (am_ini 27) = true := by decide +kernel
theorem am_dc_28 : am_dok (am_by 28) (am_m 28).1 (am_m 28).2.1 (am_ini 28) = true := by decide +kernel
theorem am_dc_29 : am_dok (am_by 29) (am_m 29).1 (am_m 29).2.1 (am_ini 29) = true := by decide +kernel
theorem am_dc_30 : am_dok (am_by 30) (am_m 30).1 (am_m 30).2.1 (am_ini 30) = true := by decide +kernel
theorem am_dc_31 : am_dok (am_by 31) (am_m 31).1 (am_m 31).2.1 (am_ini 31) = true := by decide +kernel
theorem am_dc_32 : am_dok (am_by 32) (am_m 32).1 (am_m 32).2.1 (am_ini 32) = true := by decide +kernel
theorem am_dc_33 : am_dok (am_by 33) (am_m 33).1 (am_m 33).2.1 (am_ini 33) = true := by decide +kernel
theorem am_dc_34 : am_dok (am_by 34) (am_m 34).1 (am_m 34).2.1 (am_ini 34) = true := by decide +kernel
theorem am_dc_35 : am_dok (am_by 35) (am_m 35).1 (am_m 35).2.1 (am_ini 35) = true := by decide +kernel
theorem am_dc_36 : am_dok (am_by 36) (am_m 36).1 (am_m 36).2.1 (am_ini 36) = true := by decide +kernel
theorem am_dc_37 : am_dok (am_by 37) (am_m 37).1 (am_m 37).2.1 (am_ini 37) = true := by decide +kernel
theorem am_dc_38 : am_dok (am_by 38) (am_m 38).1 (am_m 38).2.1 (am_ini 38) = true := by decide +kernel
theorem am_dc_39 : am_dok (am_by 39) (am_m 39).1 (am_m 39).2.1 (am_ini 39) = true := by decide +kernel
theorem am_dc_40 : am_dok (am_by 40) (am_m 40).1 (am_m 40).2.1 (am_ini 40) = true := by decide +kernel
theorem am_dc_41 : am_dok (am_by 41) (am_m 41).1 (am_m 41).2.1 (am_ini 41) = true := by decide +kernel
theorem am_dc_42 : am_dok (am_by 42) (am_m 42).1 (am_m 42).2.1 (am_ini 42) = true := by decide +kernel
theorem am_dc_43 : am_dok (am_by 43) (am_m 43).1 (am_m 43).2.1 (am_ini 43) = true := by decide +kernel
theorem am_dc_44 : am_dok (am_by 44) (am_m 44).1 (am_m 44).2.1 (am_ini 44) = true := by decide +kernel
theorem am_dc_45 : am_dok (am_by 45) (am_m 45).1 (am_m 45).2.1 (am_ini 45) = true := by decide +kernel
theorem am_dc_46 : am_dok (am_by 46) (am_m 46).1 (am_m 46).2.1 (am_ini 46) = true := by decide +kernel
theorem am_dc_47 : am_dok (am_by 47) (am_m 47).1 (am_m 47).2.1 (am_ini 47) = true := by decide +kernel
theorem am_dc_48 : am_dok (am_by 48) (am_m 48).1 (am_m 48).2.1 (am_ini 48) = true := by decide +kernel
theorem am_dc_49 : am_dok (am_by 49) (am_m 49).1 (am_m 49).2.1 (am_ini 49) = true := by decide +kernel
theorem am_dc_50 : am_dok (am_by 50) (am_m 50).1 (am_m 50).2.1 (am_ini 50) = true := by decide +kernel
theorem am_dc_51 : am_dok (am_by 51) (am_m 51).1 (am_m 51).2.1 (am_ini 51) = true := by decide +kernel
theorem am_dc_52 : am_dok (am_by 52) (am_m 52).1 (am_m 52).2.1 (am_ini 52) = true := by decide +kernel
theorem am_dc_53 : am_dok (am_by 53) (am_m 53).1 (am_m 53).2.1 (am_ini 53) = true := by decide +kernel
theorem am_dc_54 : am_dok (am_by 54) (am_m 54).1 (am_m 54).2.1 (am_ini 54) = true := by decide +kernel
theorem am_dc_55 : am_dok (am_by 55) (am_m 55).1 (am_m 55).2.1 (am_ini 55) = true := by decide +kernel
theorem am_dc_56 : am_dok (am_by 56) (am_m 56).1 (am_m 56).2.1 (am_ini 56) = true := by decide +kernel
theorem am_dc_57 : am_dok (am_by 57) (am_m 57).1 (am_m 57).2.1 (am_ini 57) = true := by decide +kernel
theorem am_dc_58 : am_dok (am_by 58) (am_m 58).1 (am_m 58).2.1 (am_ini 58) = true := by decide +kernel
theorem am_dc_59 : am_dok (am_by 59) (am_m 59).1 (am_m 59).2.1 (am_ini 59) = true := by decide +kernel
theorem am_dc_60 : am_dok (am_by 60) (am_m 60).1 (am_m 60).2.1 (am_ini 60) = true := by decide +kernel
theorem am_dc_61 : am_dok (am_by 61) (am_m 61).1 (am_m 61).2.1 (am_ini 61) = true := by decide +kernel
theorem am_dc_62 : am_dok (am_by 62) (am_m 62).1 (am_m 62).2.1 (am_ini 62) = true := by decide +kernel
theorem am_dc_63 : am_dok (am_by 63) (am_m 63).1 (am_m 63).2.1 (am_ini 63) = true := by decide +kernel
theorem am_dc_64 : am_dok (am_by 64) (am_m 64).1 (am_m 64).2.1 (am_ini 64) = true := by decide +kernel
theorem am_dc_65 : am_dok (am_by 65) (am_m 65).1 (am_m 65).2.1 (am_ini 65) = true := by decide +kernel
theorem am_dc_66 : am_dok (am_by 66) (am_m 66).1 (am_m 66).2.1 (am_ini 66) = true := by decide +kernel
theorem am_dc_67 : am_dok (am_by 67) (am_m 67).1 (am_m 67).2.1 (am_ini 67) = true := by decide +kernel
theorem am_dc_68 : am_dok (am_by 68) (am_m 68).1 (am_m 68).2.1 (am_ini 68) = true := by decide +kernel
theorem am_dc_69 : am_dok (am_by 69) (am_m 69).1 (am_m 69).2.1 (am_ini 69) = true := by decide +kernel
theorem am_dc_70 : am_dok (am_by 70) (am_m 70).1 (am_m 70).2.1 (am_ini 70) = true := by decide +kernel
theorem am_dc_71 : am_dok (am_by 71) (am_m 71).1 (am_m 71).2.1 (am_ini 71) = true := by decide +kernel
theorem am_dc_72 : am_dok (am_by 72) (am_m 72).1 (am_m 72).2.1 (am_ini 72) = true := by decide +kernel
theorem am_dc_73 : am_dok (am_by 73) (am_m 73).1 (am_m 73).2.1 (am_ini 73) = true := by decide +kernel
theorem am_dc_74 : am_dok (am_by 74) (am_m 74).1 (am_m 74).2.1 (am_ini 74) = true := by decide +kernel
theorem am_dc_75 : am_dok (am_by 75) (am_m 75).1 (am_m 75).2.1 (am_ini 75) = true := by decide +kernel
theorem am_dc_76 : am_dok (am_by 76) (am_m 76).1 (am_m 76).2.1 (am_ini 76) = true := by decide +kernel
theorem am_dc_77 : am_dok (am_by 77) (am_m 77).1 (am_m 77).2.1 (am_ini 77) = true := by decide +kernel
theorem am_dc_78 : am_dok (am_by 78) (am_m 78).1 (am_m 78).2.1 (am_ini 78) = true := by decide +kernel
theorem am_dc_79 : am_dok (am_by 79) (am_m 79).1 (am_m 79).2.1 (am_ini 79) = true := by decide +kernel
theorem am_dc_80 : am_dok (am_by 80) (am_m 80).1 (am_m 80).2.1 (am_ini 80) = true := by decide +kernel
theorem am_dc_81 : am_dok (am_by 81) (am_m 81).1 (am_m 81).2.1 (am_ini 81) = true := by decide +kernel
theorem am_dc_82 : am_dok (am_by 82) (am_m 82).1 (am_m 82).2.1 (am_ini 82) = true := by decide +kernel
theorem am_dc_83 : am_dok (am_by 83) (am_m 83).1 (am_m 83).2.1 (am_ini 83) = true := by decide +kernel
theorem am_dc_84 : am_dok (am_by 84) (am_m 84).1 (am_m 84).2.1 (am_ini 84) = true := by decide +kernel
theorem am_dc_85 : am_dok (am_by 85) (am_m 85).1 (am_m 85).2.1 (am_ini 85) = true := by decide +kernel
theorem am_dc_86 : am_dok (am_by 86) (am_m 86).1 (am_m 86).2.1 (am_ini 86) = true := by decide +kernel
theorem am_dc_87 : am_dok (am_by 87) (am_m 87).1 (am_m 87).2.1 (am_ini 87) = true := by decide +kernel
theorem am_dc_88 : am_dok (am_by 88) (am_m 88).1 (am_m 88).2.1 (am_ini 88) = true := by decide +kernel
theorem am_dc_89 : am_dok (am_by 89) (am_m 89).1 (am_m 89).2.1 (am_ini 89) = true := by decide +kernel
theorem am_dc_90 : am_dok (am_by 90) (am_m 90).1 (am_m 90).2.1 (am_ini 90) = true := by decide +kernel
theorem am_dc_91 : am_dok (am_by 91) (am_m 91).1 (am_m 91).2.1 (am_ini 91) = true := by decide +kernel
theorem am_dc_92 : am_dok (am_by 92) (am_m 92).1 (am_m 92).2.1 (am_ini 92) = true := by decide +kernel
theorem am_dc_93 : am_dok (am_by 93) (am_m 93).1 (am_m 93).2.1 (am_ini 93) = true := by decide +kernel
theorem am_dc_94 : am_dok (am_by 94) (am_m 94).1 (am_m 94).2.1 (am_ini 94) = true := by decide +kernel
theorem am_dc_95 : am_dok (am_by 95) (am_m 95).1 (am_m 95).2.1 (am_ini 95) = true := by decide +kernel
theorem am_dc_96 : am_dok (am_by 96) (am_m 96).1 (am_m 96).2.1 (am_ini 96) = true := by decide +kernel
theorem am_dc_97 : am_dok (am_by 97) (am_m 97).1 (am_m 97).2.1 (am_ini 97) = true := by decide +kernel
theorem am_dc_98 : am_dok (am_by 98) (am_m 98).1 (am_m 98).2.1 (am_ini 98) = true := by decide +kernel
theorem am_dc_99 : am_dok (am_by 99) (am_m 99).1 (am_m 99).2.1 (am_ini 99) = true := by decide +kernel
theorem am_dc_100 : am_dok (am_by 100) (am_m 100).1 (am_m 100).2.1 (am_ini 100) = true := by decide +kernel
theorem am_dc_101 : am_dok (am_by 101) (am_m 101).1 (am_m 101).2.1 (am_ini 101) = true := by decide +kernel
theorem am_dc_102 : am_dok (am_by 102) (am_m 102).1 (am_m 102).2.1 (am_ini 102) = true := by decide +kernel
theorem am_dc_103 : am_dok (am_by 103) (am_m 103).1 (am_m 103).2.1 (am_ini 103) = true := by decide +kernel
theorem am_dc_104 : am_dok (am_by 104) (am_m 104).1 (am_m 104).2.1 (am_ini 104) = true := by decide +kernel
theorem am_dc_105 : am_dok (am_by 105) (am_m 105).1 (am_m 105).2.1 (am_ini 105) = true := by decide +kernel
theorem am_dc_106 : am_dok (am_by 106) (am_m 106).1 (am_m 106).2.1 (am_ini 106) = true := by decide +kernel
theorem am_dc_107 : am_dok (am_by 107) (am_m 107).1 (am_m 107).2.1 (am_ini 107) = true := by decide +kernel
theorem am_dc_108 : am_dok (am_by 108) (am_m 108).1 (am_m 108).2.1 (am_ini 108) = true := by decide +kernel
theorem am_dc_109 : am_dok (am_by 109) (am_m 109).1 (am_m 109).2.1 (am_ini 109) = true := by decide +kernel
theorem am_dc_110 : am_dok (am_by 110) (am_m 110).1 (am_m 110).2.1 (am_ini 110) = true := by decide +kernel
theorem am_dc_111 : am_dok (am_by 111) (am_m 111).1 (am_m 111).2.1 (am_ini 111) = true := by decide +kernel
theorem am_dc_112 : am_dok (am_by 112) (am_m 112).1 (am_m 112).2.1 (am_ini 112) = true := by decide +kernel
theorem am_dc_113 : am_dok (am_by 113) (am_m 113).1 (am_m 113).2.1 (am_ini 113) = true := by decide +kernel
theorem am_dc_114 : am_dok (am_by 114) (am_m 114).1 (am_m 114).2.1 (am_ini 114) = true := by decide +kernel
theorem am_dc_115 : am_dok (am_by 115) (am_m 115).1 (am_m 115).2.1 (am_ini 115) = true := by decide +kernel
theorem am_dc_116 : am_dok (am_by 116) (am_m 116).1 (am_m 116).2.1 (am_ini 116) = true := by decide +kernel
theorem am_dc_117 : am_dok (am_by 117) (am_m 117).1 (am_m 117).2.1 (am_ini 117) = true := by decide +kernel
theorem am_dc_118 : am_dok (am_by 118) (am_m 118).1 (am_m 118).2.1 (am_ini 118) = true := by decide +kernel
theorem am_dc_119 : am_dok (am_by 119) (am_m 119).1 (am_m 119).2.1 (am_ini 119) = true := by decide +kernel
theorem am_dc_120 : am_dok (am_by 120) (am_m 120).1 (am_m 120).2.1 (am_ini 120) = true := by decide +kernel
theorem am_dc_121 : am_dok (am_by 121) (am_m 121).1 (am_m 121).2.1 (am_ini 121) = true := by decide +kernel
theorem am_dc_122 : am_dok (am_by 122) (am_m 122).1 (am_m 122).2.1 (am_ini 122) = true := by decide +kernel
theorem am_dc_123 : am_dok (am_by 123) (am_m 123).1 (am_m 123).2.1 (am_ini 123) = true := by decide +kernel
theorem am_dc_124 : am_dok (am_by 124) (am_m 124).1 (am_m 124).2.1 (am_ini 124) = true := by decide +kernel
theorem am_dc_125 : am_dok (am_by 125) (am_m 125).1 (am_m 125).2.1 (am_ini 125) = true := by decide +kernel
theorem am_dc_126 : am_dok (am_by 126) (am_m 126).1 (am_m 126).2.1 (am_ini 126) = true := by decide +kernel
theorem am_dc_127 : am_dok (am_by 127) (am_m 127).1 (am_m 127).2.1 (am_ini 127) = true := by decide +kernel
theorem am_dc_128 : am_dok (am_by 128) (am_m 128).1 (am_m 128).2.1 (am_ini 128) = true := by decide +kernel
theorem am_dc_129 : am_dok (am_by 129) (am_m 129).1 (am_m 129).2.1 (am_ini 129) = true := by decide +kernel
theorem am_dc_130 : am_dok (am_by 130) (am_m 130).1 (am_m 130).2.1 (am_ini 130) = true := by decide +kernel
theorem am_dc_131 : am_dok (am_by 131) (am_m 131).1 (am_m 131).2.1 (am_ini 131) = true := by decide +kernel
theorem am_dc_132 : am_dok (am_by 132) (am_m 132).1 (am_m 132).2.1 (am_ini 132) = true := by decide +kernel
theorem am_dc_133 : am_dok (am_by 133) (am_m 133).1 (am_m 133).2.1 (am_ini 133) = true := by decide +kernel
theorem am_dc_134 : am_dok (am_by 134) (am_m 134).1 (am_m 134).2.1 (am_ini 134) = true := by decide +kernel
theorem am_dc_135 : am_dok (am_by 135) (am_m 135).1 (am_m 135).2.1 (am_ini 135) = true := by decide +kernel
theorem am_dc_136 : am_dok (am_by 136) (am_m 136).1 (am_m 136).2.1 (am_ini 136) = true := by decide +kernel
theorem am_dc_137 : am_dok (am_by 137) (am_m 137).1 (am_m 137).2.1 (am_ini 137) = true := by decide +kernel
theorem am_dc_138 : am_dok (am_by 138) (am_m 138).1 (am_m 138).2.1 (am_ini 138) = true := by decide +kernel
theorem am_dc_139 : am_dok (am_by 139) (am_m 139).1 (am_m 139).2.1 (am_ini 139) = true := by decide +kernel
theorem am_dc_140 : am_dok (am_by 140) (am_m 140).1 (am_m 140).2.1 (am_ini 140) = true := by decide +kernel
theorem am_dc_141 : am_dok (am_by 141) (am_m 141).1 (am_m 141).2.1 (am_ini 141) = true := by decide +kernel
theorem am_dc_142 : am_dok (am_by 142) (am_m 142).1 (am_m 142).2.1 (am_ini 142) = true := by decide +kernel
theorem am_dc_143 : am_dok (am_by 143) (am_m 143).1 (am_m 143).2.1 (am_ini 143) = true := by decide +kernel
theorem am_dc_144 : am_dok (am_by 144) (am_m 144).1 (am_m 144).2.1 (am_ini 144) = true := by decide +kernel
theorem am_dc_145 : am_dok (am_by 145) (am_m 145).1 (am_m 145).2.1 (am_ini 145) = true := by decide +kernel
theorem am_dc_146 : am_dok (am_by 146) (am_m 146).1 (am_m 146).2.1 (am_ini 146) = true := by decide +kernel
theorem am_dc_147 : am_dok (am_by 147) (am_m 147).1 (am_m 147).2.1 (am_ini 147) = true := by decide +kernel
theorem am_dc_148 : am_dok (am_by 148) (am_m 148).1 (am_m 148).2.1 (am_ini 148) = true := by decide +kernel
theorem am_dc_149 : am_dok (am_by 149) (am_m 149).1 (am_m 149).2.1 (am_ini 149) = true := by decide +kernel
theorem am_dc_150 : am_dok (am_by 150) (am_m 150).1 (am_m 150).2.1 (am_ini 150) = true := by decide +kernel
theorem am_dc_151 : am_dok (am_by 151) (am_m 151).1 (am_m 151).2.1 (am_ini 151) = true := by decide +kernel
theorem am_dc_152 : am_dok (am_by 152) (am_m 152).1 (am_m 152).2.1 (am_ini 152) = true := by decide +kernel
theorem am_dc_153 : am_dok (am_by 153) (am_m 153).1 (am_m 153).2.1 (am_ini 153) = true := by decide +kernel
theorem am_dc_154 : am_dok (am_by 154) (am_m 154).1 (am_m 154).2.1 (am_ini 154) = true := by decide +kernel
theorem am_dc_155 : am_dok (am_by 155) (am_m 155).1 (am_m 155).2.1 (am_ini 155) = true := by decide +kernel
theorem am_dc_156 : am_dok (am_by 156) (am_m 156).1 (am_m 156).2.1 (am_ini 156) = true := by decide +kernel
theorem am_dc_157 : am_dok (am_by 157) (am_m 157).1 (am_m 157).2.1 (am_ini 157) = true := by decide +kernel
theorem am_dc_158 : am_dok (am_by 158) (am_m 158).1 (am_m 158).2.1 (am_ini 158) = true := by decide +kernel
theorem am_dc_159 : am_dok (am_by 159) (am_m 159).1 (am_m 159).2.1 (am_ini 159) = true := by decide +kernel
theorem am_dc_160 : am_dok (am_by 160) (am_m 160).1 (am_m 160).2.1 (am_ini 160) = true := by decide +kernel
theorem am_dc_161 : am_dok (am_by 161) (am_m 161).1 (am_m 161).2.1 (am_ini 161) = true := by decide +kernel
theorem am_dc_162 : am_dok (am_by 162) (am_m 162).1 (am_m 162).2.1 (am_ini 162) = true := by decide +kernel
theorem am_dc_163 : am_dok (am_by 163) (am_m 163).1 (am_m 163).2.1 (am_ini 163) = true := by decide +kernel
theorem am_dc_164 : am_dok (am_by 164) (am_m 164).1 (am_m 164).2.1 (am_ini 164) = true := by decide +kernel
theorem am_dc_165 : am_dok (am_by 165) (am_m 165).1 (am_m 165).2.1 (am_ini 165) = true := by decide +kernel
theorem am_dc_166 : am_dok (am_by 166) (am_m 166).1 (am_m 166).2.1 (am_ini 166) = true := by decide +kernel
theorem am_dc_167 : am_dok (am_by 167) (am_m 167).1 (am_m 167).2.1 (am_ini 167) = true := by decide +kernel
theorem am_dc_168 : am_dok (am_by 168) (am_m 168).1 (am_m 168).2.1 (am_ini 168) = true := by decide +kernel
theorem am_dc_169 : am_dok (am_by 169) (am_m 169).1 (am_m 169).2.1 (am_ini 169) = true := by decide +kernel
theorem am_dc_170 : am_dok (am_by 170) (am_m 170).1 (am_m 170).2.1 (am_ini 170) = true := by decide +kernel
theorem am_dc_171 : am_dok (am_by 171) (am_m 171).1 (am_m 171).2.1 (am_ini 171) = true := by decide +kernel
theorem am_dc : ∀ j, j < 172 → am_dok (am_by j) (am_m j).1 (am_m j).2.1 (am_ini j) = true
  | 0, _ => am_dc_0
  | 1, _ => am_dc_1
  | 2, _ => am_dc_2
  | 3, _ => am_dc_3
  | 4, _ => am_dc_4
  | 5, _ => am_dc_5
  | 6, _ => am_dc_6
  | 7, _ => am_dc_7
  | 8, _ => am_dc_8
  | 9, _ => am_dc_9
  | 10, _ => am_dc_10
  | 11, _ => am_dc_11
  | 12, _ => am_dc_12
  | 13, _ => am_dc_13
  | 14, _ => am_dc_14
  | 15, _ => am_dc_15
  | 16, _ => am_dc_16
  | 17, _ => am_dc_17
  | 18, _ => am_dc_18
  | 19, _ => am_dc_19
  | 20, _ => am_dc_20
  | 21, _ => am_dc_21
  | 22, _ => am_dc_22
  | 23, _ => am_dc_23
  | 24, _ => am_dc_24
  | 25, _ => am_dc_25
  | 26, _ => am_dc_26
  | 27, _ => am_dc_27
  | 28, _ => am_dc_28
  | 29, _ => am_dc_29
  | 30, _ => am_dc_30
  | 31, _ => am_dc_31
  | 32, _ => am_dc_32
  | 33, _ => am_dc_33
  | 34, _ => am_dc_34
  | 35, _ => am_dc_35
  | 36, _ => am_dc_36
  | 37, _ => am_dc_37
  | 38, _ => am_dc_38
  | 39, _ => am_dc_39
  | 40, _ => am_dc_40
  | 41, _ => am_dc_41
  | 42, _ => am_dc_42
  | 43, _ => am_dc_43
  | 44, _ => am_dc_44
  | 45, _ => am_dc_45
  | 46, _ => am_dc_46
  | 47, _ => am_dc_47
  | 48, _ => am_dc_48
  | 49, _ => am_dc_49
  | 50, _ => am_dc_50
  | 51, _ => am_dc_51
  | 52, _ => am_dc_52
  | 53, _ => am_dc_53
  | 54, _ => am_dc_54
  | 55, _ => am_dc_55
  | 56, _ => am_dc_56
  | 57, _ => am_dc_57
  | 58, _ => am_dc_58
  | 59, _ => am_dc_59
  | 60, _ => am_dc_60
  | 61, _ => am_dc_61
  | 62, _ => am_dc_62
  | 63, _ => am_dc_63
  | 64, _ => am_dc_64
  | 65, _ => am_dc_65
  | 66, _ => am_dc_66
  | 67, _ => am_dc_67
  | 68, _ => am_dc_68
  | 69, _ => am_dc_69
  | 70, _ => am_dc_70
  | 71, _ => am_dc_71
  | 72, _ => am_dc_72
  | 73, _ => am_dc_73
  | 74, _ => am_dc_74
  | 75, _ => am_dc_75
  | 76, _ => am_dc_76
  | 77, _ => am_dc_77
  | 78, _ => am_dc_78
  | 79, _ => am_dc_79
  | 80, _ => am_dc_80
  | 81, _ => am_dc_81
  | 82, _ => am_dc_82
  | 83, _ => am_dc_83
  | 84, _ => am_dc_84
  | 85, _ => am_dc_85
  | 86, _ => am_dc_86
  | 87, _ => am_dc_87
  | 88, _ => am_dc_88
  | 89, _ => am_dc_89
  | 90, _ => am_dc_90
  | 91, _ => am_dc_91
  | 92, _ => am_dc_92
  | 93, _ => am_dc_93
  | 94, _ => am_dc_94
  | 95, _ => am_dc_95
  | 96, _ => am_dc_96
  | 97, _ => am_dc_97
  | 98, _ => am_dc_98
  | 99, _ => am_dc_99
  | 100, _ => am_dc_100
  | 101, _ => am_dc_101
  | 102, _ => am_dc_102
  | 103, _ => am_dc_103
  | 104, _ => am_dc_104
  | 105, _ => am_dc_105
  | 106, _ => am_dc_106
  | 107, _ => am_dc_107
  | 108, _ => am_dc_108
  | 109, _ => am_dc_109
  | 110, _ => am_dc_110
  | 111, _ => am_dc_111
  | 112, _ => am_dc_112
  | 113, _ => am_dc_113
  | 114, _ => am_dc_114
  | 115, _ => am_dc_115
  | 116, _ => am_dc_116
  | 117, _ => am_dc_117
  | 118, _ => am_dc_118
  | 119, _ => am_dc_119
  | 120, _ => am_dc_120
  | 121, _ => am_dc_121
  | 122, _ => am_dc_122
  | 123, _ => am_dc_123
  | 124, _ => am_dc_124
  | 125, _ => am_dc_125
  | 126, _ => am_dc_126
  | 127, _ => am_dc_127
  | 128, _ => am_dc_128
  | 129, _ => am_dc_129
  | 130, _ => am_dc_130
  | 131, _ => am_dc_131
  | 132, _ => am_dc_132
  | 133, _ => am_dc_133
  | 134, _ => am_dc_134
  | 135, _ => am_dc_135
  | 136, _ => am_dc_136
  | 137, _ => am_dc_137
  | 138, _ => am_dc_138
  | 139, _ => am_dc_139
  | 140, _ => am_dc_140
  | 141, _ => am_dc_141
  | 142, _ => am_dc_142
  | 143, _ => am_dc_143
  | 144, _ => am_dc_144
  | 145, _ => am_dc_145
  | 146, _ => am_dc_146
  | 147, _ => am_dc_147
  | 148, _ => am_dc_148
  | 149, _ => am_dc_149
  | 150, _ => am_dc_150
  | 151, _ => am_dc_151
  | 152, _ => am_dc_152
  | 153, _ => am_dc_153
  | 154, _ => am_dc_154
  | 155, _ => am_dc_155
  | 156, _ => am_dc_156
  | 157, _ => am_dc_157
  | 158, _ => am_dc_158
  | 159, _ => am_dc_159
  | 160, _ => am_dc_160
  | 161, _ => am_dc_161
  | 162, _ => am_dc_162
  | 163, _ => am_dc_163
  | 164, _ => am_dc_164
  | 165, _ => am_dc_165
  | 166, _ => am_dc_166
  | 167, _ => am_dc_167
  | 168, _ => am_dc_168
  | 169, _ => am_dc_169
  | 170, _ => am_dc_170
  | 171, _ => am_dc_171
  | n + 172, h => absurd h (by omega)
