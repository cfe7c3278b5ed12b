section
-- ===== PART A: goes FIRST, ahead of the names: the tables' words, and 'selects' of the private methods out of them =====
/-- a private method of a class that the tables say can be made, by its rows of tables_1 -/
def lw_okq (q : MethodName × Nat) : Prop := (q.1.cls ≠ "java/lang/invoke/MethodHandle" ∧ q.1.cls ≠ "java/lang/invoke/VarHandle") ∧ Cond.instantiable q.1.cls q.2 ∈ tables_1 ∧ Cond.privateMethod q.1 ∈ tables_1 ∧ Cond.instanceMethod q.1 ∈ tables_1
theorem lw_p0 : lw_okq (⟨"NumberedRings$Text", "next", "()V"⟩, 8) := ⟨⟨by decide +kernel, by decide +kernel⟩, List.mem_of_getElem? (i := 26) (by decide +kernel), List.mem_of_getElem? (i := 277) (by decide +kernel), List.mem_of_getElem? (i := 278) (by decide +kernel)⟩
theorem lw_p1 : lw_okq (⟨"NumberedRings$Text", "readWord", "()V"⟩, 8) := ⟨⟨by decide +kernel, by decide +kernel⟩, List.mem_of_getElem? (i := 26) (by decide +kernel), List.mem_of_getElem? (i := 284) (by decide +kernel), List.mem_of_getElem? (i := 285) (by decide +kernel)⟩
theorem lw_p2 : lw_okq (⟨"NumberedRings$Text", "isWord", "(Ljava/lang/String;)Z"⟩, 8) := ⟨⟨by decide +kernel, by decide +kernel⟩, List.mem_of_getElem? (i := 26) (by decide +kernel), List.mem_of_getElem? (i := 289) (by decide +kernel), List.mem_of_getElem? (i := 290) (by decide +kernel)⟩
theorem lw_p3 : lw_okq (⟨"NumberedRings$Text", "readNumber", "()V"⟩, 8) := ⟨⟨by decide +kernel, by decide +kernel⟩, List.mem_of_getElem? (i := 26) (by decide +kernel), List.mem_of_getElem? (i := 346) (by decide +kernel), List.mem_of_getElem? (i := 347) (by decide +kernel)⟩
theorem lw_p4 : lw_okq (⟨"NumberedRings$Text", "readSlots", "(LNumberedRings$Told;)Z"⟩, 8) := ⟨⟨by decide +kernel, by decide +kernel⟩, List.mem_of_getElem? (i := 26) (by decide +kernel), List.mem_of_getElem? (i := 353) (by decide +kernel), List.mem_of_getElem? (i := 354) (by decide +kernel)⟩
theorem lw_p5 : lw_okq (⟨"NumberedRings$Text", "accept", "(II)Z"⟩, 8) := ⟨⟨by decide +kernel, by decide +kernel⟩, List.mem_of_getElem? (i := 26) (by decide +kernel), List.mem_of_getElem? (i := 357) (by decide +kernel), List.mem_of_getElem? (i := 358) (by decide +kernel)⟩
theorem lw_p6 : lw_okq (⟨"NumberedRings$Text", "acceptSemicolon", "()Z"⟩, 8) := ⟨⟨by decide +kernel, by decide +kernel⟩, List.mem_of_getElem? (i := 26) (by decide +kernel), List.mem_of_getElem? (i := 361) (by decide +kernel), List.mem_of_getElem? (i := 362) (by decide +kernel)⟩
theorem lw_p7 : lw_okq (⟨"NumberedRings$Text", "readMaker", "(LNumberedRings$Told;)Z"⟩, 8) := ⟨⟨by decide +kernel, by decide +kernel⟩, List.mem_of_getElem? (i := 26) (by decide +kernel), List.mem_of_getElem? (i := 365) (by decide +kernel), List.mem_of_getElem? (i := 366) (by decide +kernel)⟩
theorem lw_p8 : lw_okq (⟨"NumberedRings$Text", "readTaker", "(LNumberedRings$Told;)Z"⟩, 8) := ⟨⟨by decide +kernel, by decide +kernel⟩, List.mem_of_getElem? (i := 26) (by decide +kernel), List.mem_of_getElem? (i := 373) (by decide +kernel), List.mem_of_getElem? (i := 374) (by decide +kernel)⟩
theorem lw_p9 : lw_okq (⟨"NumberedRings$Standing", "claim", "(II)I"⟩, 10) := ⟨⟨by decide +kernel, by decide +kernel⟩, List.mem_of_getElem? (i := 101) (by decide +kernel), List.mem_of_getElem? (i := 428) (by decide +kernel), List.mem_of_getElem? (i := 429) (by decide +kernel)⟩
theorem lw_p10 : lw_okq (⟨"NumberedRings", "closeOpen", "(III)I"⟩, 9) := ⟨⟨by decide +kernel, by decide +kernel⟩, List.mem_of_getElem? (i := 18) (by decide +kernel), List.mem_of_getElem? (i := 440) (by decide +kernel), List.mem_of_getElem? (i := 441) (by decide +kernel)⟩
theorem lw_p11 : lw_okq (⟨"NumberedRings$Standing", "slowestOf", "(I)I"⟩, 10) := ⟨⟨by decide +kernel, by decide +kernel⟩, List.mem_of_getElem? (i := 101) (by decide +kernel), List.mem_of_getElem? (i := 477) (by decide +kernel), List.mem_of_getElem? (i := 478) (by decide +kernel)⟩
theorem lw_p12 : lw_okq (⟨"NumberedRings$Course", "start", "(LNumberedRings$Standing;)V"⟩, 3) := ⟨⟨by decide +kernel, by decide +kernel⟩, List.mem_of_getElem? (i := 189) (by decide +kernel), List.mem_of_getElem? (i := 572) (by decide +kernel), List.mem_of_getElem? (i := 573) (by decide +kernel)⟩
theorem lw_p13 : lw_okq (⟨"NumberedRings$Course", "tick", "()V"⟩, 3) := ⟨⟨by decide +kernel, by decide +kernel⟩, List.mem_of_getElem? (i := 189) (by decide +kernel), List.mem_of_getElem? (i := 577) (by decide +kernel), List.mem_of_getElem? (i := 578) (by decide +kernel)⟩
theorem lw_p14 : lw_okq (⟨"NumberedRings$Course", "greatestGroup", "(I)I"⟩, 3) := ⟨⟨by decide +kernel, by decide +kernel⟩, List.mem_of_getElem? (i := 189) (by decide +kernel), List.mem_of_getElem? (i := 640) (by decide +kernel), List.mem_of_getElem? (i := 641) (by decide +kernel)⟩
theorem lw_p15 : lw_okq (⟨"NumberedRings", "imageOf", "(I)LNumberedRings$Image;"⟩, 9) := ⟨⟨by decide +kernel, by decide +kernel⟩, List.mem_of_getElem? (i := 18) (by decide +kernel), List.mem_of_getElem? (i := 649) (by decide +kernel), List.mem_of_getElem? (i := 650) (by decide +kernel)⟩
def lw_privs_1 : List (MethodName × Nat) := [(⟨"NumberedRings$Text", "next", "()V"⟩, 8), (⟨"NumberedRings$Text", "readWord", "()V"⟩, 8), (⟨"NumberedRings$Text", "isWord", "(Ljava/lang/String;)Z"⟩, 8), (⟨"NumberedRings$Text", "readNumber", "()V"⟩, 8), (⟨"NumberedRings$Text", "readSlots", "(LNumberedRings$Told;)Z"⟩, 8), (⟨"NumberedRings$Text", "accept", "(II)Z"⟩, 8), (⟨"NumberedRings$Text", "acceptSemicolon", "()Z"⟩, 8), (⟨"NumberedRings$Text", "readMaker", "(LNumberedRings$Told;)Z"⟩, 8), (⟨"NumberedRings$Text", "readTaker", "(LNumberedRings$Told;)Z"⟩, 8), (⟨"NumberedRings$Standing", "claim", "(II)I"⟩, 10), (⟨"NumberedRings", "closeOpen", "(III)I"⟩, 9), (⟨"NumberedRings$Standing", "slowestOf", "(I)I"⟩, 10), (⟨"NumberedRings$Course", "start", "(LNumberedRings$Standing;)V"⟩, 3), (⟨"NumberedRings$Course", "tick", "()V"⟩, 3), (⟨"NumberedRings$Course", "greatestGroup", "(I)I"⟩, 3), (⟨"NumberedRings", "imageOf", "(I)LNumberedRings$Image;"⟩, 9)]
theorem lw_r1 : ∀ q ∈ lw_privs_1, lw_okq q := List.forall_mem_cons.mpr ⟨lw_p0, List.forall_mem_cons.mpr ⟨lw_p1, List.forall_mem_cons.mpr ⟨lw_p2, List.forall_mem_cons.mpr ⟨lw_p3, List.forall_mem_cons.mpr ⟨lw_p4, List.forall_mem_cons.mpr ⟨lw_p5, List.forall_mem_cons.mpr ⟨lw_p6, List.forall_mem_cons.mpr ⟨lw_p7, List.forall_mem_cons.mpr ⟨lw_p8, List.forall_mem_cons.mpr ⟨lw_p9, List.forall_mem_cons.mpr ⟨lw_p10, List.forall_mem_cons.mpr ⟨lw_p11, List.forall_mem_cons.mpr ⟨lw_p12, List.forall_mem_cons.mpr ⟨lw_p13, List.forall_mem_cons.mpr ⟨lw_p14, List.forall_mem_cons.mpr ⟨lw_p15, fun _ h => absurd h List.not_mem_nil⟩⟩⟩⟩⟩⟩⟩⟩⟩⟩⟩⟩⟩⟩⟩⟩
theorem lw_p16 : lw_okq (⟨"NumberedRingsModel", "reads", "()I"⟩, 34) := ⟨⟨by decide +kernel, by decide +kernel⟩, List.mem_of_getElem? (i := 663) (by decide +kernel), List.mem_of_getElem? (i := 788) (by decide +kernel), List.mem_of_getElem? (i := 789) (by decide +kernel)⟩
theorem lw_p17 : lw_okq (⟨"NumberedRingsModel", "skips", "()V"⟩, 34) := ⟨⟨by decide +kernel, by decide +kernel⟩, List.mem_of_getElem? (i := 663) (by decide +kernel), List.mem_of_getElem? (i := 792) (by decide +kernel), List.mem_of_getElem? (i := 793) (by decide +kernel)⟩
theorem lw_p18 : lw_okq (⟨"NumberedRingsModel", "wordPassed", "()I"⟩, 34) := ⟨⟨by decide +kernel, by decide +kernel⟩, List.mem_of_getElem? (i := 663) (by decide +kernel), List.mem_of_getElem? (i := 796) (by decide +kernel), List.mem_of_getElem? (i := 797) (by decide +kernel)⟩
theorem lw_p19 : lw_okq (⟨"NumberedRingsModel", "isAt", "(II)Z"⟩, 34) := ⟨⟨by decide +kernel, by decide +kernel⟩, List.mem_of_getElem? (i := 663) (by decide +kernel), List.mem_of_getElem? (i := 800) (by decide +kernel), List.mem_of_getElem? (i := 801) (by decide +kernel)⟩
theorem lw_p20 : lw_okq (⟨"NumberedRingsModel", "spells", "(IIIII)Z"⟩, 34) := ⟨⟨by decide +kernel, by decide +kernel⟩, List.mem_of_getElem? (i := 663) (by decide +kernel), List.mem_of_getElem? (i := 804) (by decide +kernel), List.mem_of_getElem? (i := 805) (by decide +kernel)⟩
theorem lw_p21 : lw_okq (⟨"NumberedRingsModel", "readsSlots", "()Z"⟩, 34) := ⟨⟨by decide +kernel, by decide +kernel⟩, List.mem_of_getElem? (i := 663) (by decide +kernel), List.mem_of_getElem? (i := 808) (by decide +kernel), List.mem_of_getElem? (i := 809) (by decide +kernel)⟩
theorem lw_p22 : lw_okq (⟨"NumberedRingsModel", "number", "(II)I"⟩, 34) := ⟨⟨by decide +kernel, by decide +kernel⟩, List.mem_of_getElem? (i := 663) (by decide +kernel), List.mem_of_getElem? (i := 812) (by decide +kernel), List.mem_of_getElem? (i := 813) (by decide +kernel)⟩
theorem lw_p23 : lw_okq (⟨"NumberedRingsModel", "passesEnd", "()Z"⟩, 34) := ⟨⟨by decide +kernel, by decide +kernel⟩, List.mem_of_getElem? (i := 663) (by decide +kernel), List.mem_of_getElem? (i := 816) (by decide +kernel), List.mem_of_getElem? (i := 817) (by decide +kernel)⟩
theorem lw_p24 : lw_okq (⟨"NumberedRingsModel", "readsMaker", "()Z"⟩, 34) := ⟨⟨by decide +kernel, by decide +kernel⟩, List.mem_of_getElem? (i := 663) (by decide +kernel), List.mem_of_getElem? (i := 820) (by decide +kernel), List.mem_of_getElem? (i := 821) (by decide +kernel)⟩
theorem lw_p25 : lw_okq (⟨"NumberedRingsModel", "readsTaker", "()Z"⟩, 34) := ⟨⟨by decide +kernel, by decide +kernel⟩, List.mem_of_getElem? (i := 663) (by decide +kernel), List.mem_of_getElem? (i := 824) (by decide +kernel), List.mem_of_getElem? (i := 825) (by decide +kernel)⟩
theorem lw_p26 : lw_okq (⟨"NumberedRingsModel", "isMaker", "(I)Z"⟩, 34) := ⟨⟨by decide +kernel, by decide +kernel⟩, List.mem_of_getElem? (i := 663) (by decide +kernel), List.mem_of_getElem? (i := 832) (by decide +kernel), List.mem_of_getElem? (i := 833) (by decide +kernel)⟩
theorem lw_p27 : lw_okq (⟨"NumberedRingsModel", "placeOf", "(I)I"⟩, 34) := ⟨⟨by decide +kernel, by decide +kernel⟩, List.mem_of_getElem? (i := 663) (by decide +kernel), List.mem_of_getElem? (i := 836) (by decide +kernel), List.mem_of_getElem? (i := 837) (by decide +kernel)⟩
theorem lw_p28 : lw_okq (⟨"NumberedRingsModel", "wanted", "()I"⟩, 34) := ⟨⟨by decide +kernel, by decide +kernel⟩, List.mem_of_getElem? (i := 663) (by decide +kernel), List.mem_of_getElem? (i := 840) (by decide +kernel), List.mem_of_getElem? (i := 841) (by decide +kernel)⟩
theorem lw_p29 : lw_okq (⟨"NumberedRingsModel", "keeps", "()V"⟩, 34) := ⟨⟨by decide +kernel, by decide +kernel⟩, List.mem_of_getElem? (i := 663) (by decide +kernel), List.mem_of_getElem? (i := 844) (by decide +kernel), List.mem_of_getElem? (i := 845) (by decide +kernel)⟩
theorem lw_p30 : lw_okq (⟨"NumberedRingsModel", "room", "()I"⟩, 34) := ⟨⟨by decide +kernel, by decide +kernel⟩, List.mem_of_getElem? (i := 663) (by decide +kernel), List.mem_of_getElem? (i := 848) (by decide +kernel), List.mem_of_getElem? (i := 849) (by decide +kernel)⟩
theorem lw_p31 : lw_okq (⟨"NumberedRingsModel", "least", "()I"⟩, 34) := ⟨⟨by decide +kernel, by decide +kernel⟩, List.mem_of_getElem? (i := 663) (by decide +kernel), List.mem_of_getElem? (i := 852) (by decide +kernel), List.mem_of_getElem? (i := 853) (by decide +kernel)⟩
def lw_privs_2 : List (MethodName × Nat) := [(⟨"NumberedRingsModel", "reads", "()I"⟩, 34), (⟨"NumberedRingsModel", "skips", "()V"⟩, 34), (⟨"NumberedRingsModel", "wordPassed", "()I"⟩, 34), (⟨"NumberedRingsModel", "isAt", "(II)Z"⟩, 34), (⟨"NumberedRingsModel", "spells", "(IIIII)Z"⟩, 34), (⟨"NumberedRingsModel", "readsSlots", "()Z"⟩, 34), (⟨"NumberedRingsModel", "number", "(II)I"⟩, 34), (⟨"NumberedRingsModel", "passesEnd", "()Z"⟩, 34), (⟨"NumberedRingsModel", "readsMaker", "()Z"⟩, 34), (⟨"NumberedRingsModel", "readsTaker", "()Z"⟩, 34), (⟨"NumberedRingsModel", "isMaker", "(I)Z"⟩, 34), (⟨"NumberedRingsModel", "placeOf", "(I)I"⟩, 34), (⟨"NumberedRingsModel", "wanted", "()I"⟩, 34), (⟨"NumberedRingsModel", "keeps", "()V"⟩, 34), (⟨"NumberedRingsModel", "room", "()I"⟩, 34), (⟨"NumberedRingsModel", "least", "()I"⟩, 34)]
theorem lw_r2 : ∀ q ∈ lw_privs_2, lw_okq q := List.forall_mem_cons.mpr ⟨lw_p16, List.forall_mem_cons.mpr ⟨lw_p17, List.forall_mem_cons.mpr ⟨lw_p18, List.forall_mem_cons.mpr ⟨lw_p19, List.forall_mem_cons.mpr ⟨lw_p20, List.forall_mem_cons.mpr ⟨lw_p21, List.forall_mem_cons.mpr ⟨lw_p22, List.forall_mem_cons.mpr ⟨lw_p23, List.forall_mem_cons.mpr ⟨lw_p24, List.forall_mem_cons.mpr ⟨lw_p25, List.forall_mem_cons.mpr ⟨lw_p26, List.forall_mem_cons.mpr ⟨lw_p27, List.forall_mem_cons.mpr ⟨lw_p28, List.forall_mem_cons.mpr ⟨lw_p29, List.forall_mem_cons.mpr ⟨lw_p30, List.forall_mem_cons.mpr ⟨lw_p31, fun _ h => absurd h List.not_mem_nil⟩⟩⟩⟩⟩⟩⟩⟩⟩⟩⟩⟩⟩⟩⟩⟩
theorem lw_p32 : lw_okq (⟨"NumberedRingsModel", "claimsNow", "(II)V"⟩, 34) := ⟨⟨by decide +kernel, by decide +kernel⟩, List.mem_of_getElem? (i := 663) (by decide +kernel), List.mem_of_getElem? (i := 856) (by decide +kernel), List.mem_of_getElem? (i := 857) (by decide +kernel)⟩
theorem lw_p33 : lw_okq (⟨"NumberedRingsModel", "isEvent", "(I)Z"⟩, 34) := ⟨⟨by decide +kernel, by decide +kernel⟩, List.mem_of_getElem? (i := 663) (by decide +kernel), List.mem_of_getElem? (i := 864) (by decide +kernel), List.mem_of_getElem? (i := 865) (by decide +kernel)⟩
theorem lw_p34 : lw_okq (⟨"NumberedRingsModel", "becomes", "(III)I"⟩, 34) := ⟨⟨by decide +kernel, by decide +kernel⟩, List.mem_of_getElem? (i := 663) (by decide +kernel), List.mem_of_getElem? (i := 868) (by decide +kernel), List.mem_of_getElem? (i := 869) (by decide +kernel)⟩
theorem lw_p35 : lw_okq (⟨"NumberedRingsModel", "kindOf", "(I)I"⟩, 34) := ⟨⟨by decide +kernel, by decide +kernel⟩, List.mem_of_getElem? (i := 663) (by decide +kernel), List.mem_of_getElem? (i := 872) (by decide +kernel), List.mem_of_getElem? (i := 873) (by decide +kernel)⟩
theorem lw_p36 : lw_okq (⟨"NumberedRingsModel", "cursor", "()I"⟩, 34) := ⟨⟨by decide +kernel, by decide +kernel⟩, List.mem_of_getElem? (i := 663) (by decide +kernel), List.mem_of_getElem? (i := 876) (by decide +kernel), List.mem_of_getElem? (i := 877) (by decide +kernel)⟩
theorem lw_p37 : lw_okq (⟨"NumberedRingsModel", "isTaker", "(I)Z"⟩, 34) := ⟨⟨by decide +kernel, by decide +kernel⟩, List.mem_of_getElem? (i := 663) (by decide +kernel), List.mem_of_getElem? (i := 888) (by decide +kernel), List.mem_of_getElem? (i := 889) (by decide +kernel)⟩
theorem lw_p38 : lw_okq (⟨"NumberedRingsModel", "atMost", "(I)I"⟩, 34) := ⟨⟨by decide +kernel, by decide +kernel⟩, List.mem_of_getElem? (i := 663) (by decide +kernel), List.mem_of_getElem? (i := 892) (by decide +kernel), List.mem_of_getElem? (i := 893) (by decide +kernel)⟩
theorem lw_p39 : lw_okq (⟨"NumberedRingsModel", "goesOver", "(II)V"⟩, 34) := ⟨⟨by decide +kernel, by decide +kernel⟩, List.mem_of_getElem? (i := 663) (by decide +kernel), List.mem_of_getElem? (i := 899) (by decide +kernel), List.mem_of_getElem? (i := 900) (by decide +kernel)⟩
theorem lw_p40 : lw_okq (⟨"NumberedRingsModel", "lets", "()V"⟩, 34) := ⟨⟨by decide +kernel, by decide +kernel⟩, List.mem_of_getElem? (i := 663) (by decide +kernel), List.mem_of_getElem? (i := 903) (by decide +kernel), List.mem_of_getElem? (i := 904) (by decide +kernel)⟩
theorem lw_p41 : lw_okq (⟨"NumberedRingsModel", "leavesRow", "(I)V"⟩, 34) := ⟨⟨by decide +kernel, by decide +kernel⟩, List.mem_of_getElem? (i := 663) (by decide +kernel), List.mem_of_getElem? (i := 907) (by decide +kernel), List.mem_of_getElem? (i := 908) (by decide +kernel)⟩
theorem lw_p42 : lw_okq (⟨"NumberedRingsModel", "tellEvent", "(II)I"⟩, 34) := ⟨⟨by decide +kernel, by decide +kernel⟩, List.mem_of_getElem? (i := 663) (by decide +kernel), List.mem_of_getElem? (i := 923) (by decide +kernel), List.mem_of_getElem? (i := 924) (by decide +kernel)⟩
theorem lw_p43 : lw_okq (⟨"NumberedRingsModel", "tellTaker", "(II)I"⟩, 34) := ⟨⟨by decide +kernel, by decide +kernel⟩, List.mem_of_getElem? (i := 663) (by decide +kernel), List.mem_of_getElem? (i := 931) (by decide +kernel), List.mem_of_getElem? (i := 932) (by decide +kernel)⟩
theorem lw_p44 : lw_okq (⟨"NumberedRingsModel", "tellMaker", "(II)I"⟩, 34) := ⟨⟨by decide +kernel, by decide +kernel⟩, List.mem_of_getElem? (i := 663) (by decide +kernel), List.mem_of_getElem? (i := 939) (by decide +kernel), List.mem_of_getElem? (i := 940) (by decide +kernel)⟩
theorem lw_p45 : lw_okq (⟨"NumberedRingsModel", "openOf", "(I)I"⟩, 34) := ⟨⟨by decide +kernel, by decide +kernel⟩, List.mem_of_getElem? (i := 663) (by decide +kernel), List.mem_of_getElem? (i := 943) (by decide +kernel), List.mem_of_getElem? (i := 944) (by decide +kernel)⟩
theorem lw_p46 : lw_okq (⟨"NumberedRingsModel", "slowest", "(I)I"⟩, 34) := ⟨⟨by decide +kernel, by decide +kernel⟩, List.mem_of_getElem? (i := 663) (by decide +kernel), List.mem_of_getElem? (i := 951) (by decide +kernel), List.mem_of_getElem? (i := 952) (by decide +kernel)⟩
theorem lw_p47 : lw_okq (⟨"NumberedRingsModel", "tellRule", "(II)I"⟩, 34) := ⟨⟨by decide +kernel, by decide +kernel⟩, List.mem_of_getElem? (i := 663) (by decide +kernel), List.mem_of_getElem? (i := 966) (by decide +kernel), List.mem_of_getElem? (i := 967) (by decide +kernel)⟩
def lw_privs_3 : List (MethodName × Nat) := [(⟨"NumberedRingsModel", "claimsNow", "(II)V"⟩, 34), (⟨"NumberedRingsModel", "isEvent", "(I)Z"⟩, 34), (⟨"NumberedRingsModel", "becomes", "(III)I"⟩, 34), (⟨"NumberedRingsModel", "kindOf", "(I)I"⟩, 34), (⟨"NumberedRingsModel", "cursor", "()I"⟩, 34), (⟨"NumberedRingsModel", "isTaker", "(I)Z"⟩, 34), (⟨"NumberedRingsModel", "atMost", "(I)I"⟩, 34), (⟨"NumberedRingsModel", "goesOver", "(II)V"⟩, 34), (⟨"NumberedRingsModel", "lets", "()V"⟩, 34), (⟨"NumberedRingsModel", "leavesRow", "(I)V"⟩, 34), (⟨"NumberedRingsModel", "tellEvent", "(II)I"⟩, 34), (⟨"NumberedRingsModel", "tellTaker", "(II)I"⟩, 34), (⟨"NumberedRingsModel", "tellMaker", "(II)I"⟩, 34), (⟨"NumberedRingsModel", "openOf", "(I)I"⟩, 34), (⟨"NumberedRingsModel", "slowest", "(I)I"⟩, 34), (⟨"NumberedRingsModel", "tellRule", "(II)I"⟩, 34)]
theorem lw_r3 : ∀ q ∈ lw_privs_3, lw_okq q := List.forall_mem_cons.mpr ⟨lw_p32, List.forall_mem_cons.mpr ⟨lw_p33, List.forall_mem_cons.mpr ⟨lw_p34, List.forall_mem_cons.mpr ⟨lw_p35, List.forall_mem_cons.mpr ⟨lw_p36, List.forall_mem_cons.mpr ⟨lw_p37, List.forall_mem_cons.mpr ⟨lw_p38, List.forall_mem_cons.mpr ⟨lw_p39, List.forall_mem_cons.mpr ⟨lw_p40, List.forall_mem_cons.mpr ⟨lw_p41, List.forall_mem_cons.mpr ⟨lw_p42, List.forall_mem_cons.mpr ⟨lw_p43, List.forall_mem_cons.mpr ⟨lw_p44, List.forall_mem_cons.mpr ⟨lw_p45, List.forall_mem_cons.mpr ⟨lw_p46, List.forall_mem_cons.mpr ⟨lw_p47, fun _ h => absurd h List.not_mem_nil⟩⟩⟩⟩⟩⟩⟩⟩⟩⟩⟩⟩⟩⟩⟩⟩
theorem lw_p48 : lw_okq (⟨"NumberedRingsModel", "laysRule", "(I)V"⟩, 34) := ⟨⟨by decide +kernel, by decide +kernel⟩, List.mem_of_getElem? (i := 663) (by decide +kernel), List.mem_of_getElem? (i := 970) (by decide +kernel), List.mem_of_getElem? (i := 971) (by decide +kernel)⟩
theorem lw_p49 : lw_okq (⟨"NumberedRingsModel", "saves", "(I)V"⟩, 34) := ⟨⟨by decide +kernel, by decide +kernel⟩, List.mem_of_getElem? (i := 663) (by decide +kernel), List.mem_of_getElem? (i := 974) (by decide +kernel), List.mem_of_getElem? (i := 975) (by decide +kernel)⟩
theorem lw_p50 : lw_okq (⟨"NumberedRingsModel", "doesWait", "(I)Z"⟩, 34) := ⟨⟨by decide +kernel, by decide +kernel⟩, List.mem_of_getElem? (i := 663) (by decide +kernel), List.mem_of_getElem? (i := 978) (by decide +kernel), List.mem_of_getElem? (i := 979) (by decide +kernel)⟩
theorem lw_p51 : lw_okq (⟨"NumberedRingsModel", "ticks", "()V"⟩, 34) := ⟨⟨by decide +kernel, by decide +kernel⟩, List.mem_of_getElem? (i := 663) (by decide +kernel), List.mem_of_getElem? (i := 982) (by decide +kernel), List.mem_of_getElem? (i := 983) (by decide +kernel)⟩
theorem lw_p52 : lw_okq (⟨"NumberedRingsModel", "claimsByRule", "(I)V"⟩, 34) := ⟨⟨by decide +kernel, by decide +kernel⟩, List.mem_of_getElem? (i := 663) (by decide +kernel), List.mem_of_getElem? (i := 986) (by decide +kernel), List.mem_of_getElem? (i := 987) (by decide +kernel)⟩
theorem lw_p53 : lw_okq (⟨"NumberedRingsModel", "leastOver", "()I"⟩, 34) := ⟨⟨by decide +kernel, by decide +kernel⟩, List.mem_of_getElem? (i := 663) (by decide +kernel), List.mem_of_getElem? (i := 990) (by decide +kernel), List.mem_of_getElem? (i := 991) (by decide +kernel)⟩
theorem lw_p54 : lw_okq (⟨"NumberedRingsModel", "mostByRule", "(II)I"⟩, 34) := ⟨⟨by decide +kernel, by decide +kernel⟩, List.mem_of_getElem? (i := 663) (by decide +kernel), List.mem_of_getElem? (i := 994) (by decide +kernel), List.mem_of_getElem? (i := 995) (by decide +kernel)⟩
theorem lw_p55 : lw_okq (⟨"NumberedRingsModel", "letsByRule", "()V"⟩, 34) := ⟨⟨by decide +kernel, by decide +kernel⟩, List.mem_of_getElem? (i := 663) (by decide +kernel), List.mem_of_getElem? (i := 998) (by decide +kernel), List.mem_of_getElem? (i := 999) (by decide +kernel)⟩
theorem lw_p56 : lw_okq (⟨"NumberedRingsModel", "leastAt", "(I)I"⟩, 34) := ⟨⟨by decide +kernel, by decide +kernel⟩, List.mem_of_getElem? (i := 663) (by decide +kernel), List.mem_of_getElem? (i := 1002) (by decide +kernel), List.mem_of_getElem? (i := 1003) (by decide +kernel)⟩
theorem lw_p57 : lw_okq (⟨"NumberedRingsModel", "slowAt", "(I)I"⟩, 34) := ⟨⟨by decide +kernel, by decide +kernel⟩, List.mem_of_getElem? (i := 663) (by decide +kernel), List.mem_of_getElem? (i := 1006) (by decide +kernel), List.mem_of_getElem? (i := 1007) (by decide +kernel)⟩
theorem lw_p58 : lw_okq (⟨"NumberedRingsModel", "candidates", "()I"⟩, 34) := ⟨⟨by decide +kernel, by decide +kernel⟩, List.mem_of_getElem? (i := 663) (by decide +kernel), List.mem_of_getElem? (i := 1030) (by decide +kernel), List.mem_of_getElem? (i := 1031) (by decide +kernel)⟩
theorem lw_p59 : lw_okq (⟨"NumberedRingsModel", "mostAlike", "(II)I"⟩, 34) := ⟨⟨by decide +kernel, by decide +kernel⟩, List.mem_of_getElem? (i := 663) (by decide +kernel), List.mem_of_getElem? (i := 1038) (by decide +kernel), List.mem_of_getElem? (i := 1039) (by decide +kernel)⟩
def lw_privs_4 : List (MethodName × Nat) := [(⟨"NumberedRingsModel", "laysRule", "(I)V"⟩, 34), (⟨"NumberedRingsModel", "saves", "(I)V"⟩, 34), (⟨"NumberedRingsModel", "doesWait", "(I)Z"⟩, 34), (⟨"NumberedRingsModel", "ticks", "()V"⟩, 34), (⟨"NumberedRingsModel", "claimsByRule", "(I)V"⟩, 34), (⟨"NumberedRingsModel", "leastOver", "()I"⟩, 34), (⟨"NumberedRingsModel", "mostByRule", "(II)I"⟩, 34), (⟨"NumberedRingsModel", "letsByRule", "()V"⟩, 34), (⟨"NumberedRingsModel", "leastAt", "(I)I"⟩, 34), (⟨"NumberedRingsModel", "slowAt", "(I)I"⟩, 34), (⟨"NumberedRingsModel", "candidates", "()I"⟩, 34), (⟨"NumberedRingsModel", "mostAlike", "(II)I"⟩, 34)]
theorem lw_r4 : ∀ q ∈ lw_privs_4, lw_okq q := List.forall_mem_cons.mpr ⟨lw_p48, List.forall_mem_cons.mpr ⟨lw_p49, List.forall_mem_cons.mpr ⟨lw_p50, List.forall_mem_cons.mpr ⟨lw_p51, List.forall_mem_cons.mpr ⟨lw_p52, List.forall_mem_cons.mpr ⟨lw_p53, List.forall_mem_cons.mpr ⟨lw_p54, List.forall_mem_cons.mpr ⟨lw_p55, List.forall_mem_cons.mpr ⟨lw_p56, List.forall_mem_cons.mpr ⟨lw_p57, List.forall_mem_cons.mpr ⟨lw_p58, List.forall_mem_cons.mpr ⟨lw_p59, fun _ h => absurd h List.not_mem_nil⟩⟩⟩⟩⟩⟩⟩⟩⟩⟩⟩⟩
def lw_privs : List (MethodName × Nat) := lw_privs_1 ++ (lw_privs_2 ++ (lw_privs_3 ++ (lw_privs_4)))
def lw_tbl : List Cond := k2_sels lw_privs ++ tables_1
theorem lw_privs_ok : ∀ q ∈ lw_privs, lw_okq q := by
  show ∀ q ∈ lw_privs_1 ++ (lw_privs_2 ++ (lw_privs_3 ++ (lw_privs_4))), lw_okq q
  exact List.forall_mem_append.mpr ⟨lw_r1, List.forall_mem_append.mpr ⟨lw_r2, List.forall_mem_append.mpr ⟨lw_r3, lw_r4⟩⟩⟩
def RX0 : String := "NumberedRings$Course"
def TX0 : u_T := fun k => match k with
  | 0 => ("NumberedRings$Course", "told", "LNumberedRings$Told;", true)
  | 1 => ("NumberedRings$Course", "then", "LNumberedRings$Standing;", true)
  | _ => ("NumberedRings$Course", "ticksWaited", "[I", true)
def tyX0 : Nat → FieldType := fun k => match k with
  | 0 => .object "NumberedRings$Told"
  | 1 => .object "NumberedRings$Standing"
  | _ => .array .int
abbrev wsX00 : List Cond := u_ws RX0 TX0 3
theorem nmX0 : ∀ a, a < 3 → ∀ b, b < 3 → a ≠ b → (TX0 a).2.1 ≠ (TX0 b).2.1 := by decide +kernel
theorem tyX0_ok : ∀ k, k < 3 → parseFieldDescriptor (TX0 k).2.2.1 = some (tyX0 k) := by decide +kernel
abbrev cX0_init : ByteArray := prog_2_method_1_code
def yX0_init : MethodName := ⟨RX0, "<init>", "(LNumberedRings$Told;)V"⟩
abbrev cX0_after : ByteArray := prog_2_method_2_code
def yX0_after : MethodName := ⟨RX0, "after", "(LNumberedRings$Standing;I)LNumberedRings$Standing;"⟩
abbrev cX0_start : ByteArray := prog_2_method_3_code
def yX0_start : MethodName := ⟨RX0, "start", "(LNumberedRings$Standing;)V"⟩
abbrev cX0_tick : ByteArray := prog_2_method_4_code
def yX0_tick : MethodName := ⟨RX0, "tick", "()V"⟩
abbrev cX0_takersSeen : ByteArray := prog_2_method_5_code
def yX0_takersSeen : MethodName := ⟨RX0, "takersSeen", "(LNumberedRings$Standing;LNumberedRings$Seen;)I"⟩
abbrev cX0_ticksThatPart : ByteArray := prog_2_method_6_code
def yX0_ticksThatPart : MethodName := ⟨RX0, "ticksThatPart", "(LNumberedRings$Standing;I)I"⟩
abbrev cX0_greatestGroup : ByteArray := prog_2_method_7_code
def yX0_greatestGroup : MethodName := ⟨RX0, "greatestGroup", "(I)I"⟩
def RX1 : String := "NumberedRings$Image"
def TX1 : u_T := fun k => match k with
  | 0 => ("NumberedRings$Image", "standing", "LNumberedRings$Standing;", true)
  | _ => ("NumberedRings$Image", "kept", "Z", false)
def tyX1 : Nat → FieldType := fun k => match k with
  | 0 => .object "NumberedRings$Standing"
  | _ => .boolean
abbrev wsX10 : List Cond := u_ws RX1 TX1 2
theorem nmX1 : ∀ a, a < 2 → ∀ b, b < 2 → a ≠ b → (TX1 a).2.1 ≠ (TX1 b).2.1 := by decide +kernel
theorem tyX1_ok : ∀ k, k < 2 → parseFieldDescriptor (TX1 k).2.2.1 = some (tyX1 k) := by decide +kernel
abbrev cX1_init : ByteArray := prog_3_method_1_code
def yX1_init : MethodName := ⟨RX1, "<init>", "(LNumberedRings$Told;)V"⟩
def RX2 : String := "NumberedRings$Past"
def TX2 : u_T := fun k => match k with
  | 0 => ("NumberedRings$Past", "standings", "[LNumberedRings$Standing;", true)
  | 1 => ("NumberedRings$Past", "closed", "[I", true)
  | 2 => ("NumberedRings$Past", "latest", "I", false)
  | _ => ("NumberedRings$Past", "known", "I", false)
def tyX2 : Nat → FieldType := fun k => match k with
  | 0 => .array (.object "NumberedRings$Standing")
  | 1 => .array .int
  | 2 => .int
  | _ => .int
abbrev wsX20 : List Cond := u_ws RX2 TX2 4
theorem nmX2 : ∀ a, a < 4 → ∀ b, b < 4 → a ≠ b → (TX2 a).2.1 ≠ (TX2 b).2.1 := by decide +kernel
theorem tyX2_ok : ∀ k, k < 4 → parseFieldDescriptor (TX2 k).2.2.1 = some (tyX2 k) := by decide +kernel
abbrev cX2_init : ByteArray := prog_4_method_1_code
def yX2_init : MethodName := ⟨RX2, "<init>", "(LNumberedRings$Told;)V"⟩
abbrev cX2_remember : ByteArray := prog_4_method_2_code
def yX2_remember : MethodName := ⟨RX2, "remember", "(LNumberedRings$Standing;I)V"⟩
abbrev cX2_restore : ByteArray := prog_4_method_3_code
def yX2_restore : MethodName := ⟨RX2, "restore", "(LNumberedRings$Standing;)Z"⟩
def RX3 : String := "NumberedRings$Seen"
def TX3 : u_T := fun k => match k with
  | 0 => ("NumberedRings$Seen", "ticks", "[I", true)
  | 1 => ("NumberedRings$Seen", "reached", "[I", true)
  | _ => ("NumberedRings$Seen", "size", "I", false)
def tyX3 : Nat → FieldType := fun k => match k with
  | 0 => .array .int
  | 1 => .array .int
  | _ => .int
abbrev wsX30 : List Cond := u_ws RX3 TX3 3
theorem nmX3 : ∀ a, a < 3 → ∀ b, b < 3 → a ≠ b → (TX3 a).2.1 ≠ (TX3 b).2.1 := by decide +kernel
theorem tyX3_ok : ∀ k, k < 3 → parseFieldDescriptor (TX3 k).2.2.1 = some (tyX3 k) := by decide +kernel
abbrev cX3_init : ByteArray := prog_5_method_1_code
def yX3_init : MethodName := ⟨RX3, "<init>", "()V"⟩
abbrev cX3_add : ByteArray := prog_5_method_2_code
def yX3_add : MethodName := ⟨RX3, "add", "(II)Z"⟩
abbrev cX3_lastTick : ByteArray := prog_5_method_3_code
def yX3_lastTick : MethodName := ⟨RX3, "lastTick", "()I"⟩
abbrev cX3_allows : ByteArray := prog_5_method_4_code
def yX3_allows : MethodName := ⟨RX3, "allows", "(II)Z"⟩
def RX4 : String := "NumberedRings$Standing"
def TX4 : u_T := fun k => match k with
  | 0 => ("NumberedRings$Standing", "told", "LNumberedRings$Told;", true)
  | 1 => ("NumberedRings$Standing", "events", "[I", true)
  | 2 => ("NumberedRings$Standing", "claimed", "I", false)
  | 3 => ("NumberedRings$Standing", "cursor", "I", false)
  | 4 => ("NumberedRings$Standing", "reached", "[I", true)
  | 5 => ("NumberedRings$Standing", "counts", "[I", true)
  | 6 => ("NumberedRings$Standing", "sums", "[I", true)
  | 7 => ("NumberedRings$Standing", "row", "[I", true)
  | 8 => ("NumberedRings$Standing", "wants", "[I", true)
  | _ => ("NumberedRings$Standing", "waiting", "I", false)
def tyX4 : Nat → FieldType := fun k => match k with
  | 0 => .object "NumberedRings$Told"
  | 1 => .array .int
  | 2 => .int
  | 3 => .int
  | 4 => .array .int
  | 5 => .array .int
  | 6 => .array .int
  | 7 => .array .int
  | 8 => .array .int
  | _ => .int
abbrev wsX40 : List Cond := u_ws RX4 TX4 10
theorem nmX4 : ∀ a, a < 10 → ∀ b, b < 10 → a ≠ b → (TX4 a).2.1 ≠ (TX4 b).2.1 := by decide +kernel
theorem tyX4_ok : ∀ k, k < 10 → parseFieldDescriptor (TX4 k).2.2.1 = some (tyX4 k) := by decide +kernel
abbrev cX4_init : ByteArray := prog_6_method_1_code
def yX4_init : MethodName := ⟨RX4, "<init>", "(LNumberedRings$Told;I)V"⟩
abbrev cX4_reset : ByteArray := prog_6_method_2_code
def yX4_reset : MethodName := ⟨RX4, "reset", "()V"⟩
abbrev cX4_copyFrom : ByteArray := prog_6_method_3_code
def yX4_copyFrom : MethodName := ⟨RX4, "copyFrom", "(LNumberedRings$Standing;)V"⟩
abbrev cX4_hasEvent : ByteArray := prog_6_method_4_code
def yX4_hasEvent : MethodName := ⟨RX4, "hasEvent", "(I)Z"⟩
abbrev cX4_makerOf : ByteArray := prog_6_method_5_code
def yX4_makerOf : MethodName := ⟨RX4, "makerOf", "(I)I"⟩
abbrev cX4_kindOf : ByteArray := prog_6_method_6_code
def yX4_kindOf : MethodName := ⟨RX4, "kindOf", "(I)I"⟩
abbrev cX4_valueOf : ByteArray := prog_6_method_7_code
def yX4_valueOf : MethodName := ⟨RX4, "valueOf", "(I)I"⟩
abbrev cX4_least : ByteArray := prog_6_method_8_code
def yX4_least : MethodName := ⟨RX4, "least", "()I"⟩
abbrev cX4_room : ByteArray := prog_6_method_9_code
def yX4_room : MethodName := ⟨RX4, "room", "()I"⟩
abbrev cX4_atMost : ByteArray := prog_6_method_10_code
def yX4_atMost : MethodName := ⟨RX4, "atMost", "(I)I"⟩
abbrev cX4_hasAhead : ByteArray := prog_6_method_11_code
def yX4_hasAhead : MethodName := ⟨RX4, "hasAhead", "(I)Z"⟩
abbrev cX4_slowest : ByteArray := prog_6_method_12_code
def yX4_slowest : MethodName := ⟨RX4, "slowest", "()I"⟩
abbrev cX4_slowestOf : ByteArray := prog_6_method_13_code
def yX4_slowestOf : MethodName := ⟨RX4, "slowestOf", "(I)I"⟩
abbrev cX4_wantedByAll : ByteArray := prog_6_method_14_code
def yX4_wantedByAll : MethodName := ⟨RX4, "wantedByAll", "()I"⟩
abbrev cX4_placeInRow : ByteArray := prog_6_method_15_code
def yX4_placeInRow : MethodName := ⟨RX4, "placeInRow", "(I)I"⟩
abbrev cX4_openOf : ByteArray := prog_6_method_16_code
def yX4_openOf : MethodName := ⟨RX4, "openOf", "(I)I"⟩
abbrev cX4_claimOrWait : ByteArray := prog_6_method_17_code
def yX4_claimOrWait : MethodName := ⟨RX4, "claimOrWait", "(II)I"⟩
abbrev cX4_claim : ByteArray := prog_6_method_18_code
def yX4_claim : MethodName := ⟨RX4, "claim", "(II)I"⟩
abbrev cX4_admit : ByteArray := prog_6_method_19_code
def yX4_admit : MethodName := ⟨RX4, "admit", "()V"⟩
abbrev cX4_leaveRow : ByteArray := prog_6_method_20_code
def yX4_leaveRow : MethodName := ⟨RX4, "leaveRow", "(I)V"⟩
abbrev cX4_close : ByteArray := prog_6_method_21_code
def yX4_close : MethodName := ⟨RX4, "close", "(III)V"⟩
abbrev cX4_reopen : ByteArray := prog_6_method_22_code
def yX4_reopen : MethodName := ⟨RX4, "reopen", "(I)V"⟩
abbrev cX4_closeAllByRule : ByteArray := prog_6_method_23_code
def yX4_closeAllByRule : MethodName := ⟨RX4, "closeAllByRule", "()V"⟩
abbrev cX4_goOver : ByteArray := prog_6_method_24_code
def yX4_goOver : MethodName := ⟨RX4, "goOver", "(II)I"⟩
abbrev cX4_toBlame : ByteArray := prog_6_method_25_code
def yX4_toBlame : MethodName := ⟨RX4, "toBlame", "()I"⟩
abbrev cX4_takesToAdmitFirst : ByteArray := prog_6_method_26_code
def yX4_takesToAdmitFirst : MethodName := ⟨RX4, "takesToAdmitFirst", "()I"⟩
def RX5 : String := "NumberedRings$Text"
def TX5 : u_T := fun k => match k with
  | 0 => ("NumberedRings$Text", "letters", "[I", true)
  | 1 => ("NumberedRings$Text", "length", "I", false)
  | 2 => ("NumberedRings$Text", "kind", "I", false)
  | 3 => ("NumberedRings$Text", "start", "I", false)
  | 4 => ("NumberedRings$Text", "end", "I", false)
  | 5 => ("NumberedRings$Text", "number", "I", false)
  | 6 => ("NumberedRings$Text", "accepted", "I", false)
  | _ => ("NumberedRings$Text", "slotsTold", "Z", false)
def tyX5 : Nat → FieldType := fun k => match k with
  | 0 => .array .int
  | 1 => .int
  | 2 => .int
  | 3 => .int
  | 4 => .int
  | 5 => .int
  | 6 => .int
  | _ => .boolean
abbrev wsX50 : List Cond := u_ws RX5 TX5 8
theorem nmX5 : ∀ a, a < 8 → ∀ b, b < 8 → a ≠ b → (TX5 a).2.1 ≠ (TX5 b).2.1 := by decide +kernel
theorem tyX5_ok : ∀ k, k < 8 → parseFieldDescriptor (TX5 k).2.2.1 = some (tyX5 k) := by decide +kernel
abbrev cX5_init : ByteArray := prog_7_method_1_code
def yX5_init : MethodName := ⟨RX5, "<init>", "()V"⟩
abbrev cX5_append : ByteArray := prog_7_method_2_code
def yX5_append : MethodName := ⟨RX5, "append", "(I)Z"⟩
abbrev cX5_readInto : ByteArray := prog_7_method_3_code
def yX5_readInto : MethodName := ⟨RX5, "readInto", "(LNumberedRings$Told;)I"⟩
abbrev cX5_readSlots : ByteArray := prog_7_method_4_code
def yX5_readSlots : MethodName := ⟨RX5, "readSlots", "(LNumberedRings$Told;)Z"⟩
abbrev cX5_readMaker : ByteArray := prog_7_method_5_code
def yX5_readMaker : MethodName := ⟨RX5, "readMaker", "(LNumberedRings$Told;)Z"⟩
abbrev cX5_readTaker : ByteArray := prog_7_method_6_code
def yX5_readTaker : MethodName := ⟨RX5, "readTaker", "(LNumberedRings$Told;)Z"⟩
abbrev cX5_accept : ByteArray := prog_7_method_7_code
def yX5_accept : MethodName := ⟨RX5, "accept", "(II)Z"⟩
abbrev cX5_acceptSemicolon : ByteArray := prog_7_method_8_code
def yX5_acceptSemicolon : MethodName := ⟨RX5, "acceptSemicolon", "()Z"⟩
abbrev cX5_next : ByteArray := prog_7_method_9_code
def yX5_next : MethodName := ⟨RX5, "next", "()V"⟩
abbrev cX5_readWord : ByteArray := prog_7_method_10_code
def yX5_readWord : MethodName := ⟨RX5, "readWord", "()V"⟩
abbrev cX5_readNumber : ByteArray := prog_7_method_11_code
def yX5_readNumber : MethodName := ⟨RX5, "readNumber", "()V"⟩
abbrev cX5_isWord : ByteArray := prog_7_method_12_code
def yX5_isWord : MethodName := ⟨RX5, "isWord", "(Ljava/lang/String;)Z"⟩
abbrev cX5_isWordLetter : ByteArray := prog_7_method_13_code
def yX5_isWordLetter : MethodName := ⟨RX5, "isWordLetter", "(I)Z"⟩
abbrev cX5_isFigure : ByteArray := prog_7_method_14_code
def yX5_isFigure : MethodName := ⟨RX5, "isFigure", "(I)Z"⟩
def RX6 : String := "NumberedRings$Told"
def TX6 : u_T := fun k => match k with
  | 0 => ("NumberedRings$Told", "slots", "I", false)
  | 1 => ("NumberedRings$Told", "makers", "I", false)
  | 2 => ("NumberedRings$Told", "takers", "I", false)
  | 3 => ("NumberedRings$Told", "rates", "[I", true)
  | 4 => ("NumberedRings$Told", "speeds", "[I", true)
  | _ => ("NumberedRings$Told", "behind", "[I", true)
def tyX6 : Nat → FieldType := fun k => match k with
  | 0 => .int
  | 1 => .int
  | 2 => .int
  | 3 => .array .int
  | 4 => .array .int
  | _ => .array .int
abbrev wsX60 : List Cond := u_ws RX6 TX6 6
theorem nmX6 : ∀ a, a < 6 → ∀ b, b < 6 → a ≠ b → (TX6 a).2.1 ≠ (TX6 b).2.1 := by decide +kernel
theorem tyX6_ok : ∀ k, k < 6 → parseFieldDescriptor (TX6 k).2.2.1 = some (tyX6 k) := by decide +kernel
abbrev cX6_init : ByteArray := prog_8_method_1_code
def yX6_init : MethodName := ⟨RX6, "<init>", "()V"⟩
abbrev cX6_reset : ByteArray := prog_8_method_2_code
def yX6_reset : MethodName := ⟨RX6, "reset", "()V"⟩
abbrev cX6_copyFrom : ByteArray := prog_8_method_3_code
def yX6_copyFrom : MethodName := ⟨RX6, "copyFrom", "(LNumberedRings$Told;)V"⟩
abbrev cX6_hasMaker : ByteArray := prog_8_method_4_code
def yX6_hasMaker : MethodName := ⟨RX6, "hasMaker", "(I)Z"⟩
abbrev cX6_hasTaker : ByteArray := prog_8_method_5_code
def yX6_hasTaker : MethodName := ⟨RX6, "hasTaker", "(I)Z"⟩
abbrev cX6_addMaker : ByteArray := prog_8_method_6_code
def yX6_addMaker : MethodName := ⟨RX6, "addMaker", "(I)Z"⟩
abbrev cX6_addTaker : ByteArray := prog_8_method_7_code
def yX6_addTaker : MethodName := ⟨RX6, "addTaker", "(II)Z"⟩
def RX7 : String := "NumberedRings"
def TX7 : u_T := fun k => match k with
  | 0 => ("NumberedRings", "text", "LNumberedRings$Text;", true)
  | 1 => ("NumberedRings", "told", "LNumberedRings$Told;", true)
  | 2 => ("NumberedRings", "draft", "LNumberedRings$Told;", true)
  | 3 => ("NumberedRings", "now", "LNumberedRings$Standing;", true)
  | 4 => ("NumberedRings", "past", "LNumberedRings$Past;", true)
  | 5 => ("NumberedRings", "imageZero", "LNumberedRings$Image;", true)
  | 6 => ("NumberedRings", "imageOne", "LNumberedRings$Image;", true)
  | 7 => ("NumberedRings", "course", "LNumberedRings$Course;", true)
  | _ => ("NumberedRings", "seen", "LNumberedRings$Seen;", true)
def tyX7 : Nat → FieldType := fun k => match k with
  | 0 => .object "NumberedRings$Text"
  | 1 => .object "NumberedRings$Told"
  | 2 => .object "NumberedRings$Told"
  | 3 => .object "NumberedRings$Standing"
  | 4 => .object "NumberedRings$Past"
  | 5 => .object "NumberedRings$Image"
  | 6 => .object "NumberedRings$Image"
  | 7 => .object "NumberedRings$Course"
  | _ => .object "NumberedRings$Seen"
abbrev wsX70 : List Cond := u_ws RX7 TX7 9
theorem nmX7 : ∀ a, a < 9 → ∀ b, b < 9 → a ≠ b → (TX7 a).2.1 ≠ (TX7 b).2.1 := by decide +kernel
theorem tyX7_ok : ∀ k, k < 9 → parseFieldDescriptor (TX7 k).2.2.1 = some (tyX7 k) := by decide +kernel
abbrev cX7_init : ByteArray := prog_1_method_1_code
def yX7_init : MethodName := ⟨RX7, "<init>", "()V"⟩
abbrev cX7_type : ByteArray := prog_1_method_2_code
def yX7_type : MethodName := ⟨RX7, "type", "(I)I"⟩
abbrev cX7_clear : ByteArray := prog_1_method_3_code
def yX7_clear : MethodName := ⟨RX7, "clear", "()I"⟩
abbrev cX7_tells : ByteArray := prog_1_method_4_code
def yX7_tells : MethodName := ⟨RX7, "tells", "()I"⟩
abbrev cX7_claims : ByteArray := prog_1_method_5_code
def yX7_claims : MethodName := ⟨RX7, "claims", "(II)I"⟩
abbrev cX7_fills : ByteArray := prog_1_method_6_code
def yX7_fills : MethodName := ⟨RX7, "fills", "(II)I"⟩
abbrev cX7_gaps : ByteArray := prog_1_method_7_code
def yX7_gaps : MethodName := ⟨RX7, "gaps", "(I)I"⟩
abbrev cX7_closeOpen : ByteArray := prog_1_method_8_code
def yX7_closeOpen : MethodName := ⟨RX7, "closeOpen", "(III)I"⟩
abbrev cX7_takes : ByteArray := prog_1_method_9_code
def yX7_takes : MethodName := ⟨RX7, "takes", "(II)I"⟩
abbrev cX7_calls : ByteArray := prog_1_method_10_code
def yX7_calls : MethodName := ⟨RX7, "calls", "(I)I"⟩
abbrev cX7_undo : ByteArray := prog_1_method_11_code
def yX7_undo : MethodName := ⟨RX7, "undo", "()I"⟩
abbrev cX7_event : ByteArray := prog_1_method_12_code
def yX7_event : MethodName := ⟨RX7, "event", "(II)I"⟩
abbrev cX7_taker : ByteArray := prog_1_method_13_code
def yX7_taker : MethodName := ⟨RX7, "taker", "(II)I"⟩
abbrev cX7_maker : ByteArray := prog_1_method_14_code
def yX7_maker : MethodName := ⟨RX7, "maker", "(II)I"⟩
abbrev cX7_blamed : ByteArray := prog_1_method_15_code
def yX7_blamed : MethodName := ⟨RX7, "blamed", "()I"⟩
abbrev cX7_steps : ByteArray := prog_1_method_16_code
def yX7_steps : MethodName := ⟨RX7, "steps", "()I"⟩
abbrev cX7_rule : ByteArray := prog_1_method_17_code
def yX7_rule : MethodName := ⟨RX7, "rule", "(II)I"⟩
abbrev cX7_waited : ByteArray := prog_1_method_18_code
def yX7_waited : MethodName := ⟨RX7, "waited", "(II)I"⟩
abbrev cX7_done : ByteArray := prog_1_method_19_code
def yX7_done : MethodName := ⟨RX7, "done", "(II)I"⟩
abbrev cX7_isTicks : ByteArray := prog_1_method_20_code
def yX7_isTicks : MethodName := ⟨RX7, "isTicks", "(I)Z"⟩
abbrev cX7_sees : ByteArray := prog_1_method_21_code
def yX7_sees : MethodName := ⟨RX7, "sees", "(II)I"⟩
abbrev cX7_forget : ByteArray := prog_1_method_22_code
def yX7_forget : MethodName := ⟨RX7, "forget", "()I"⟩
abbrev cX7_which : ByteArray := prog_1_method_23_code
def yX7_which : MethodName := ⟨RX7, "which", "()I"⟩
abbrev cX7_look : ByteArray := prog_1_method_24_code
def yX7_look : MethodName := ⟨RX7, "look", "()I"⟩
abbrev cX7_keep : ByteArray := prog_1_method_25_code
def yX7_keep : MethodName := ⟨RX7, "keep", "(I)I"⟩
abbrev cX7_back : ByteArray := prog_1_method_26_code
def yX7_back : MethodName := ⟨RX7, "back", "(I)I"⟩
abbrev cX7_imageOf : ByteArray := prog_1_method_27_code
def yX7_imageOf : MethodName := ⟨RX7, "imageOf", "(I)LNumberedRings$Image;"⟩
abbrev cX7_count : ByteArray := prog_1_method_28_code
def yX7_count : MethodName := ⟨RX7, "count", "(I)I"⟩
def RX8 : String := "NumberedRingsModel"
def TX8 : u_T := fun k => match k with
  | 0 => ("NumberedRingsModel", "slots", "I", false)
  | 1 => ("NumberedRingsModel", "makers", "I", false)
  | 2 => ("NumberedRingsModel", "rates", "[I", true)
  | 3 => ("NumberedRingsModel", "takers", "I", false)
  | 4 => ("NumberedRingsModel", "speeds", "[I", true)
  | 5 => ("NumberedRingsModel", "behind", "[I", true)
  | 6 => ("NumberedRingsModel", "now", "[I", true)
  | 7 => ("NumberedRingsModel", "past", "[I", true)
  | 8 => ("NumberedRingsModel", "undos", "I", false)
  | 9 => ("NumberedRingsModel", "images", "[I", true)
  | 10 => ("NumberedRingsModel", "isKept", "[Z", true)
  | 11 => ("NumberedRingsModel", "seen", "I", false)
  | 12 => ("NumberedRingsModel", "seenTicks", "[I", true)
  | 13 => ("NumberedRingsModel", "seenDone", "[I", true)
  | 14 => ("NumberedRingsModel", "text", "[I", true)
  | 15 => ("NumberedRingsModel", "letters", "I", false)
  | 16 => ("NumberedRingsModel", "at", "I", false)
  | 17 => ("NumberedRingsModel", "mark", "I", false)
  | 18 => ("NumberedRingsModel", "hasSlots", "Z", false)
  | 19 => ("NumberedRingsModel", "newSlots", "I", false)
  | 20 => ("NumberedRingsModel", "newMakers", "I", false)
  | 21 => ("NumberedRingsModel", "newTakers", "I", false)
  | 22 => ("NumberedRingsModel", "newRates", "[I", true)
  | 23 => ("NumberedRingsModel", "newSpeeds", "[I", true)
  | 24 => ("NumberedRingsModel", "newBehind", "[I", true)
  | 25 => ("NumberedRingsModel", "claimedAt", "[I", true)
  | 26 => ("NumberedRingsModel", "waitingAt", "[I", true)
  | 27 => ("NumberedRingsModel", "doneAt", "[I", true)
  | 28 => ("NumberedRingsModel", "waitedAt", "[I", true)
  | 29 => ("NumberedRingsModel", "claimed", "I", false)
  | 30 => ("NumberedRingsModel", "waiting", "I", false)
  | 31 => ("NumberedRingsModel", "who", "[I", true)
  | 32 => ("NumberedRingsModel", "wants", "[I", true)
  | _ => ("NumberedRingsModel", "over", "[I", true)
def tyX8 : Nat → FieldType := fun k => match k with
  | 0 => .int
  | 1 => .int
  | 2 => .array .int
  | 3 => .int
  | 4 => .array .int
  | 5 => .array .int
  | 6 => .array .int
  | 7 => .array .int
  | 8 => .int
  | 9 => .array .int
  | 10 => .array .boolean
  | 11 => .int
  | 12 => .array .int
  | 13 => .array .int
  | 14 => .array .int
  | 15 => .int
  | 16 => .int
  | 17 => .int
  | 18 => .boolean
  | 19 => .int
  | 20 => .int
  | 21 => .int
  | 22 => .array .int
  | 23 => .array .int
  | 24 => .array .int
  | 25 => .array .int
  | 26 => .array .int
  | 27 => .array .int
  | 28 => .array .int
  | 29 => .int
  | 30 => .int
  | 31 => .array .int
  | 32 => .array .int
  | _ => .array .int
abbrev wsX80 : List Cond := u_ws RX8 TX8 34
theorem nmX8 : ∀ a, a < 34 → ∀ b, b < 34 → a ≠ b → (TX8 a).2.1 ≠ (TX8 b).2.1 := by decide +kernel
theorem tyX8_ok : ∀ k, k < 34 → parseFieldDescriptor (TX8 k).2.2.1 = some (tyX8 k) := by decide +kernel
abbrev cX8_init : ByteArray := prog_10_method_1_code
def yX8_init : MethodName := ⟨RX8, "<init>", "()V"⟩
abbrev cX8_within : ByteArray := prog_10_method_3_code
def yX8_within : MethodName := ⟨RX8, "within", "(III)Z"⟩
abbrev cX8_has : ByteArray := prog_10_method_4_code
def yX8_has : MethodName := ⟨RX8, "has", "(II)Z"⟩
abbrev cX8_skips : ByteArray := prog_10_method_5_code
def yX8_skips : MethodName := ⟨RX8, "skips", "()V"⟩
abbrev cX8_isAt : ByteArray := prog_10_method_6_code
def yX8_isAt : MethodName := ⟨RX8, "isAt", "(II)Z"⟩
abbrev cX8_passesEnd : ByteArray := prog_10_method_7_code
def yX8_passesEnd : MethodName := ⟨RX8, "passesEnd", "()Z"⟩
abbrev cX8_number : ByteArray := prog_10_method_8_code
def yX8_number : MethodName := ⟨RX8, "number", "(II)I"⟩
abbrev cX8_spells : ByteArray := prog_10_method_9_code
def yX8_spells : MethodName := ⟨RX8, "spells", "(IIIII)Z"⟩
abbrev cX8_wordPassed : ByteArray := prog_10_method_10_code
def yX8_wordPassed : MethodName := ⟨RX8, "wordPassed", "()I"⟩
abbrev cX8_readsSlots : ByteArray := prog_10_method_11_code
def yX8_readsSlots : MethodName := ⟨RX8, "readsSlots", "()Z"⟩
abbrev cX8_readsMaker : ByteArray := prog_10_method_12_code
def yX8_readsMaker : MethodName := ⟨RX8, "readsMaker", "()Z"⟩
abbrev cX8_readsTaker : ByteArray := prog_10_method_13_code
def yX8_readsTaker : MethodName := ⟨RX8, "readsTaker", "()Z"⟩
abbrev cX8_reads : ByteArray := prog_10_method_14_code
def yX8_reads : MethodName := ⟨RX8, "reads", "()I"⟩
abbrev cX8_type : ByteArray := prog_10_method_15_code
def yX8_type : MethodName := ⟨RX8, "type", "(I)I"⟩
abbrev cX8_clear : ByteArray := prog_10_method_16_code
def yX8_clear : MethodName := ⟨RX8, "clear", "()I"⟩
abbrev cX8_tells : ByteArray := prog_10_method_17_code
def yX8_tells : MethodName := ⟨RX8, "tells", "()I"⟩
abbrev cX8_isMaker : ByteArray := prog_10_method_18_code
def yX8_isMaker : MethodName := ⟨RX8, "isMaker", "(I)Z"⟩
abbrev cX8_isTaker : ByteArray := prog_10_method_19_code
def yX8_isTaker : MethodName := ⟨RX8, "isTaker", "(I)Z"⟩
abbrev cX8_isEvent : ByteArray := prog_10_method_20_code
def yX8_isEvent : MethodName := ⟨RX8, "isEvent", "(I)Z"⟩
abbrev cX8_kindOf : ByteArray := prog_10_method_21_code
def yX8_kindOf : MethodName := ⟨RX8, "kindOf", "(I)I"⟩
abbrev cX8_cursor : ByteArray := prog_10_method_22_code
def yX8_cursor : MethodName := ⟨RX8, "cursor", "()I"⟩
abbrev cX8_least : ByteArray := prog_10_method_23_code
def yX8_least : MethodName := ⟨RX8, "least", "()I"⟩
abbrev cX8_room : ByteArray := prog_10_method_24_code
def yX8_room : MethodName := ⟨RX8, "room", "()I"⟩
abbrev cX8_atMost : ByteArray := prog_10_method_25_code
def yX8_atMost : MethodName := ⟨RX8, "atMost", "(I)I"⟩
abbrev cX8_placeOf : ByteArray := prog_10_method_26_code
def yX8_placeOf : MethodName := ⟨RX8, "placeOf", "(I)I"⟩
abbrev cX8_claimsNow : ByteArray := prog_10_method_27_code
def yX8_claimsNow : MethodName := ⟨RX8, "claimsNow", "(II)V"⟩
abbrev cX8_leavesRow : ByteArray := prog_10_method_28_code
def yX8_leavesRow : MethodName := ⟨RX8, "leavesRow", "(I)V"⟩
abbrev cX8_lets : ByteArray := prog_10_method_29_code
def yX8_lets : MethodName := ⟨RX8, "lets", "()V"⟩
abbrev cX8_wanted : ByteArray := prog_10_method_30_code
def yX8_wanted : MethodName := ⟨RX8, "wanted", "()I"⟩
abbrev cX8_keeps : ByteArray := prog_10_method_31_code
def yX8_keeps : MethodName := ⟨RX8, "keeps", "()V"⟩
abbrev cX8_claims : ByteArray := prog_10_method_32_code
def yX8_claims : MethodName := ⟨RX8, "claims", "(II)I"⟩
abbrev cX8_becomes : ByteArray := prog_10_method_33_code
def yX8_becomes : MethodName := ⟨RX8, "becomes", "(III)I"⟩
abbrev cX8_fills : ByteArray := prog_10_method_34_code
def yX8_fills : MethodName := ⟨RX8, "fills", "(II)I"⟩
abbrev cX8_gaps : ByteArray := prog_10_method_35_code
def yX8_gaps : MethodName := ⟨RX8, "gaps", "(I)I"⟩
abbrev cX8_goesOver : ByteArray := prog_10_method_36_code
def yX8_goesOver : MethodName := ⟨RX8, "goesOver", "(II)V"⟩
abbrev cX8_takes : ByteArray := prog_10_method_37_code
def yX8_takes : MethodName := ⟨RX8, "takes", "(II)I"⟩
abbrev cX8_calls : ByteArray := prog_10_method_38_code
def yX8_calls : MethodName := ⟨RX8, "calls", "(I)I"⟩
abbrev cX8_undo : ByteArray := prog_10_method_39_code
def yX8_undo : MethodName := ⟨RX8, "undo", "()I"⟩
abbrev cX8_tellEvent : ByteArray := prog_10_method_40_code
def yX8_tellEvent : MethodName := ⟨RX8, "tellEvent", "(II)I"⟩
abbrev cX8_event : ByteArray := prog_10_method_41_code
def yX8_event : MethodName := ⟨RX8, "event", "(II)I"⟩
abbrev cX8_tellTaker : ByteArray := prog_10_method_42_code
def yX8_tellTaker : MethodName := ⟨RX8, "tellTaker", "(II)I"⟩
abbrev cX8_taker : ByteArray := prog_10_method_43_code
def yX8_taker : MethodName := ⟨RX8, "taker", "(II)I"⟩
abbrev cX8_openOf : ByteArray := prog_10_method_44_code
def yX8_openOf : MethodName := ⟨RX8, "openOf", "(I)I"⟩
abbrev cX8_tellMaker : ByteArray := prog_10_method_45_code
def yX8_tellMaker : MethodName := ⟨RX8, "tellMaker", "(II)I"⟩
abbrev cX8_maker : ByteArray := prog_10_method_46_code
def yX8_maker : MethodName := ⟨RX8, "maker", "(II)I"⟩
abbrev cX8_slowest : ByteArray := prog_10_method_47_code
def yX8_slowest : MethodName := ⟨RX8, "slowest", "(I)I"⟩
abbrev cX8_blamed : ByteArray := prog_10_method_48_code
def yX8_blamed : MethodName := ⟨RX8, "blamed", "()I"⟩
abbrev cX8_steps : ByteArray := prog_10_method_49_code
def yX8_steps : MethodName := ⟨RX8, "steps", "()I"⟩
abbrev cX8_leastOver : ByteArray := prog_10_method_50_code
def yX8_leastOver : MethodName := ⟨RX8, "leastOver", "()I"⟩
abbrev cX8_letsByRule : ByteArray := prog_10_method_51_code
def yX8_letsByRule : MethodName := ⟨RX8, "letsByRule", "()V"⟩
abbrev cX8_doesWait : ByteArray := prog_10_method_52_code
def yX8_doesWait : MethodName := ⟨RX8, "doesWait", "(I)Z"⟩
abbrev cX8_claimsByRule : ByteArray := prog_10_method_53_code
def yX8_claimsByRule : MethodName := ⟨RX8, "claimsByRule", "(I)V"⟩
abbrev cX8_mostByRule : ByteArray := prog_10_method_54_code
def yX8_mostByRule : MethodName := ⟨RX8, "mostByRule", "(II)I"⟩
abbrev cX8_ticks : ByteArray := prog_10_method_55_code
def yX8_ticks : MethodName := ⟨RX8, "ticks", "()V"⟩
abbrev cX8_saves : ByteArray := prog_10_method_56_code
def yX8_saves : MethodName := ⟨RX8, "saves", "(I)V"⟩
abbrev cX8_laysRule : ByteArray := prog_10_method_57_code
def yX8_laysRule : MethodName := ⟨RX8, "laysRule", "(I)V"⟩
abbrev cX8_slowAt : ByteArray := prog_10_method_58_code
def yX8_slowAt : MethodName := ⟨RX8, "slowAt", "(I)I"⟩
abbrev cX8_leastAt : ByteArray := prog_10_method_59_code
def yX8_leastAt : MethodName := ⟨RX8, "leastAt", "(I)I"⟩
abbrev cX8_isTicks : ByteArray := prog_10_method_60_code
def yX8_isTicks : MethodName := ⟨RX8, "isTicks", "(I)Z"⟩
abbrev cX8_tellRule : ByteArray := prog_10_method_61_code
def yX8_tellRule : MethodName := ⟨RX8, "tellRule", "(II)I"⟩
abbrev cX8_rule : ByteArray := prog_10_method_62_code
def yX8_rule : MethodName := ⟨RX8, "rule", "(II)I"⟩
abbrev cX8_waited : ByteArray := prog_10_method_63_code
def yX8_waited : MethodName := ⟨RX8, "waited", "(II)I"⟩
abbrev cX8_done : ByteArray := prog_10_method_64_code
def yX8_done : MethodName := ⟨RX8, "done", "(II)I"⟩
abbrev cX8_sees : ByteArray := prog_10_method_65_code
def yX8_sees : MethodName := ⟨RX8, "sees", "(II)I"⟩
abbrev cX8_forget : ByteArray := prog_10_method_66_code
def yX8_forget : MethodName := ⟨RX8, "forget", "()I"⟩
abbrev cX8_candidates : ByteArray := prog_10_method_67_code
def yX8_candidates : MethodName := ⟨RX8, "candidates", "()I"⟩
abbrev cX8_which : ByteArray := prog_10_method_68_code
def yX8_which : MethodName := ⟨RX8, "which", "()I"⟩
abbrev cX8_mostAlike : ByteArray := prog_10_method_69_code
def yX8_mostAlike : MethodName := ⟨RX8, "mostAlike", "(II)I"⟩
abbrev cX8_look : ByteArray := prog_10_method_70_code
def yX8_look : MethodName := ⟨RX8, "look", "()I"⟩
abbrev cX8_keep : ByteArray := prog_10_method_71_code
def yX8_keep : MethodName := ⟨RX8, "keep", "(I)I"⟩
abbrev cX8_back : ByteArray := prog_10_method_72_code
def yX8_back : MethodName := ⟨RX8, "back", "(I)I"⟩
abbrev cX8_count : ByteArray := prog_10_method_73_code
def yX8_count : MethodName := ⟨RX8, "count", "(I)I"⟩
def RJ6 : String := "java/lang/Integer"
abbrev cJ6_bitCount_0f7a4 : ByteArray := prog_11_method_49_code
def yJ6_bitCount_0f7a4 : MethodName := ⟨RJ6, "bitCount", "(I)I"⟩
def RJ9 : String := "java/lang/Math"
abbrev cJ9_max_7cf53 : ByteArray := prog_12_method_65_code
def yJ9_max_7cf53 : MethodName := ⟨RJ9, "max", "(II)I"⟩
abbrev cJ9_min_7cf53 : ByteArray := prog_12_method_69_code
def yJ9_min_7cf53 : MethodName := ⟨RJ9, "min", "(II)I"⟩
def RJ0 : String := "java/lang/String"
abbrev cJ0_length_8abf5 : ByteArray := prog_13_method_54_code
def yJ0_length_8abf5 : MethodName := ⟨RJ0, "length", "()I"⟩
abbrev cJ0_charAt_5068e : ByteArray := prog_13_method_56_code
def yJ0_charAt_5068e : MethodName := ⟨RJ0, "charAt", "(I)C"⟩
abbrev cJ0_coder_7d493 : ByteArray := prog_13_method_152_code
def yJ0_coder_7d493 : MethodName := ⟨RJ0, "coder", "()B"⟩
abbrev cJ0_isLatin1_aae02 : ByteArray := prog_13_method_154_code
def yJ0_isLatin1_aae02 : MethodName := ⟨RJ0, "isLatin1", "()Z"⟩
abbrev cJ0_checkIndex_df160 : ByteArray := prog_13_method_155_code
def yJ0_checkIndex_df160 : MethodName := ⟨RJ0, "checkIndex", "(II)V"⟩
def RJ1 : String := "java/lang/StringLatin1"
abbrev cJ1_charAt_3b067 : ByteArray := prog_14_method_2_code
def yJ1_charAt_3b067 : MethodName := ⟨RJ1, "charAt", "([BI)C"⟩
def RJ2 : String := "java/lang/StringUTF16"
def RJ10 : String := "java/lang/System"
def RJ3 : String := "jdk/internal/util/Preconditions"
abbrev cJ3_checkIndex_8e157 : ByteArray := prog_17_method_11_code
def yJ3_checkIndex_8e157 : MethodName := ⟨RJ3, "checkIndex", "(IILjava/util/function/BiFunction;)I"⟩
def RL : String := "NumberedRingsLaw"
abbrev cL_law : ByteArray := code
def yL_law : MethodName := ⟨RL, "law", "([I)Z"⟩
abbrev vwCl : List vw_C := [(RX0, TX0, 3), (RX1, TX1, 2), (RX2, TX2, 4), (RX3, TX3, 3), (RX4, TX4, 10), (RX5, TX5, 8), (RX6, TX6, 6), (RX7, TX7, 9), (RX8, TX8, 34)]
end
section
/-! the abstract machine: tables (written by wip/whole/gen2.py) -/
abbrev am_cd : Type := List (List (Option (Instr × Nat)))
def am_c0 : am_cd := [[some (.aload_n 0, 1), some (.invokespecial 3, 3), none, none, some (.aload_n 0, 1), some (.iconst 3, 1), some (.newarray .int, 2), none, some (.putfield 9, 3), none, none, some (.aload_n 0, 1), some (.aload_n 1, 1), some (.putfield 15, 3), none, none], [some (.aload_n 0, 1), some (.new 19, 3), none, none, some (.dup, 1), some (.aload_n 1, 1), some (.iconst 0, 1), some (.invokespecial 21, 3), none, none, some (.putfield 24, 3), none, none, some (.return_, 1)]]
def am_c1 : am_cd := [[some (.aload_n 0, 1), some (.aload_n 1, 1), some (.invokevirtual 28, 3), none, none, some (.iconst 0, 1), some (.istore_n 3, 1), some (.iload_n 3, 1), some (.iload_n 2, 1), some (.if_icmp .ge 13, 3), none, none, some (.aload_n 0, 1), some (.invokevirtual 32, 3), none, none], [some (.iinc 3 1, 3), none, none, some (.goto (-12), 3), none, none, some (.aload_n 0, 1), some (.getfield 24, 3), none, none, some (.areturn, 1)]]
def am_c2 : am_cd := [[some (.aload_n 0, 1), some (.getfield 24, 3), none, none, some (.aload_n 1, 1), some (.invokevirtual 35, 3), none, none, some (.iconst 0, 1), some (.istore_n 2, 1), some (.iload_n 2, 1), some (.iconst 3, 1), some (.if_icmp .ge 16, 3), none, none, some (.aload_n 0, 1)], [some (.getfield 9, 3), none, none, some (.iload_n 2, 1), some (.iconst 0, 1), some (.iastore, 1), some (.iinc 2 1, 3), none, none, some (.goto (-15), 3), none, none, some (.return_, 1)]]
def am_c3 : am_cd := [[some (.aload_n 0, 1), some (.getfield 24, 3), none, none, some (.invokevirtual 38, 3), none, none, some (.iconst 0, 1), some (.istore_n 1, 1), some (.iload_n 1, 1), some (.aload_n 0, 1), some (.getfield 15, 3), none, none, some (.getfield 41, 3), none], [none, some (.if_icmp .ge 51, 3), none, none, some (.aload_n 0, 1), some (.getfield 15, 3), none, none, some (.getfield 47, 3), none, none, some (.iload_n 1, 1), some (.iaload, 1), some (.ifCond .le 33, 3), none, none], [some (.aload_n 0, 1), some (.getfield 24, 3), none, none, some (.getfield 50, 3), none, none, some (.iload_n 1, 1), some (.iaload, 1), some (.ifCond .ne 21, 3), none, none, some (.aload_n 0, 1), some (.getfield 24, 3), none, none], [some (.iload_n 1, 1), some (.aload_n 0, 1), some (.getfield 15, 3), none, none, some (.getfield 47, 3), none, none, some (.iload_n 1, 1), some (.iaload, 1), some (.invokevirtual 53, 3), none, none, some (.pop, 1), some (.iinc 1 1, 3), none], [none, some (.goto (-56), 3), none, none, some (.iconst 0, 1), some (.istore_n 1, 1), some (.iload_n 1, 1), some (.aload_n 0, 1), some (.getfield 15, 3), none, none, some (.getfield 57, 3), none, none, some (.if_icmp .ge 27, 3), none], [none, some (.aload_n 0, 1), some (.getfield 24, 3), none, none, some (.iload_n 1, 1), some (.aload_n 0, 1), some (.getfield 15, 3), none, none, some (.getfield 60, 3), none, none, some (.iload_n 1, 1), some (.iaload, 1), some (.invokevirtual 63, 3)], [none, none, some (.pop, 1), some (.iinc 1 1, 3), none, none, some (.goto (-32), 3), none, none, some (.iconst 0, 1), some (.istore_n 1, 1), some (.iload_n 1, 1), some (.aload_n 0, 1), some (.getfield 15, 3), none, none], [some (.getfield 41, 3), none, none, some (.if_icmp .ge 31, 3), none, none, some (.aload_n 0, 1), some (.getfield 24, 3), none, none, some (.getfield 50, 3), none, none, some (.iload_n 1, 1), some (.iaload, 1), some (.ifCond .le 13, 3)], [none, none, some (.aload_n 0, 1), some (.getfield 9, 3), none, none, some (.iload_n 1, 1), some (.dup2, 1), some (.iaload, 1), some (.iconst 1, 1), some (.iadd, 1), some (.iastore, 1), some (.iinc 1 1, 3), none, none, some (.goto (-36), 3)], [none, none, some (.return_, 1)]]
def am_c4 : am_cd := [[some (.iconst 1, 1), some (.aload_n 0, 1), some (.getfield 15, 3), none, none, some (.getfield 57, 3), none, none, some (.ishl, 1), some (.iconst 1, 1), some (.isub, 1), some (.istore_n 3, 1), some (.aload_n 2, 1), some (.invokevirtual 66, 3), none, none], [some (.istore 4, 2), none, some (.aload_n 0, 1), some (.aload_n 1, 1), some (.invokevirtual 28, 3), none, none, some (.iconst 0, 1), some (.istore 5, 2), none, some (.iload 5, 2), none, some (.iload 4, 2), none, some (.if_icmp .gt 67, 3), none], [none, some (.iload 5, 2), none, some (.ifCond .le 7, 3), none, none, some (.aload_n 0, 1), some (.invokevirtual 32, 3), none, none, some (.iconst 0, 1), some (.istore 6, 2), none, some (.iload 6, 2), none, some (.aload_n 0, 1)], [some (.getfield 15, 3), none, none, some (.getfield 57, 3), none, none, some (.if_icmp .ge 37, 3), none, none, some (.aload_n 2, 1), some (.iload 5, 2), none, some (.aload_n 0, 1), some (.getfield 24, 3), none, none], [some (.getfield 72, 3), none, none, some (.iload 6, 2), none, some (.iaload, 1), some (.invokevirtual 75, 3), none, none, some (.ifCond .ne 12, 3), none, none, some (.iload_n 3, 1), some (.iconst 1, 1), some (.iload 6, 2), none], [some (.ishl, 1), some (.iconst (-1), 1), some (.ixor, 1), some (.iand, 1), some (.istore_n 3, 1), some (.iinc 6 1, 3), none, none, some (.goto (-43), 3), none, none, some (.iinc 5 1, 3), none, none, some (.goto (-68), 3), none], [none, some (.iload_n 3, 1), some (.ireturn, 1)]]
def am_c5 : am_cd := [[some (.iconst 0, 1), some (.istore_n 3, 1), some (.bipush 7, 2), none, some (.istore 4, 2), none, some (.aload_n 0, 1), some (.aload_n 1, 1), some (.invokevirtual 28, 3), none, none, some (.iconst 0, 1), some (.istore 5, 2), none, some (.iload 5, 2), none], [some (.bipush 60, 2), none, some (.if_icmp .gt 45, 3), none, none, some (.iload 4, 2), none, some (.iconst 1, 1), some (.if_icmp .le 39, 3), none, none, some (.iload 5, 2), none, some (.ifCond .le 7, 3), none, none], [some (.aload_n 0, 1), some (.invokevirtual 32, 3), none, none, some (.aload_n 0, 1), some (.iload_n 2, 1), some (.invokevirtual 79, 3), none, none, some (.istore 6, 2), none, some (.iload 6, 2), none, some (.iload 4, 2), none, some (.if_icmp .ge 10, 3)], [none, none, some (.iload 5, 2), none, some (.istore_n 3, 1), some (.iload 6, 2), none, some (.istore 4, 2), none, some (.iinc 5 1, 3), none, none, some (.goto (-46), 3), none, none, some (.iload_n 3, 1)], [some (.ireturn, 1)]]
def am_c6 : am_cd := [[some (.iconst 0, 1), some (.istore_n 2, 1), some (.iconst 0, 1), some (.istore_n 3, 1), some (.iload_n 3, 1), some (.aload_n 0, 1), some (.getfield 15, 3), none, none, some (.getfield 57, 3), none, none, some (.if_icmp .ge 79, 3), none, none, some (.iconst 0, 1)], [some (.istore 4, 2), none, some (.iconst 0, 1), some (.istore 5, 2), none, some (.iload 5, 2), none, some (.aload_n 0, 1), some (.getfield 15, 3), none, none, some (.getfield 57, 3), none, none, some (.if_icmp .ge 48, 3), none], [none, some (.iload_n 1, 1), some (.iload_n 3, 1), some (.ishr, 1), some (.iload_n 1, 1), some (.iload 5, 2), none, some (.ishr, 1), some (.iand, 1), some (.iconst 1, 1), some (.iand, 1), some (.iconst 1, 1), some (.if_icmp .ne 28, 3), none, none, some (.aload_n 0, 1)], [some (.getfield 24, 3), none, none, some (.getfield 72, 3), none, none, some (.iload_n 3, 1), some (.iaload, 1), some (.aload_n 0, 1), some (.getfield 24, 3), none, none, some (.getfield 72, 3), none, none, some (.iload 5, 2)], [none, some (.iaload, 1), some (.if_icmp .ne 6, 3), none, none, some (.iinc 4 1, 3), none, none, some (.iinc 5 1, 3), none, none, some (.goto (-54), 3), none, none, some (.iload_n 2, 1), some (.iload 4, 2)], [none, some (.invokestatic 83, 3), none, none, some (.istore_n 2, 1), some (.iinc 3 1, 3), none, none, some (.goto (-84), 3), none, none, some (.iload_n 2, 1), some (.ireturn, 1)]]
def am_c7 : am_cd := [[some (.aload_n 0, 1), some (.invokespecial 3, 3), none, none, some (.aload_n 0, 1), some (.new 9, 3), none, none, some (.dup, 1), some (.aload_n 1, 1), some (.sipush 999, 3), none, none, some (.invokespecial 11, 3), none, none], [some (.putfield 14, 3), none, none, some (.return_, 1)]]
def am_c8 : am_cd := [[some (.aload_n 0, 1), some (.invokespecial 3, 3), none, none, some (.aload_n 0, 1), some (.bipush 6, 2), none, some (.anewarray 9, 3), none, none, some (.putfield 11, 3), none, none, some (.aload_n 0, 1), some (.bipush 6, 2), none], [some (.newarray .int, 2), none, some (.putfield 17, 3), none, none, some (.iconst 0, 1), some (.istore_n 2, 1), some (.iload_n 2, 1), some (.bipush 6, 2), none, some (.if_icmp .ge 24, 3), none, none, some (.aload_n 0, 1), some (.getfield 11, 3), none], [none, some (.iload_n 2, 1), some (.new 9, 3), none, none, some (.dup, 1), some (.aload_n 1, 1), some (.iconst 0, 1), some (.invokespecial 21, 3), none, none, some (.aastore, 1), some (.iinc 2 1, 3), none, none, some (.goto (-24), 3)], [none, none, some (.return_, 1)]]
def am_c9 : am_cd := [[some (.aload_n 0, 1), some (.aload_n 0, 1), some (.getfield 24, 3), none, none, some (.iconst 1, 1), some (.iadd, 1), some (.bipush 6, 2), none, some (.irem, 1), some (.putfield 24, 3), none, none, some (.aload_n 0, 1), some (.getfield 11, 3), none], [none, some (.aload_n 0, 1), some (.getfield 24, 3), none, none, some (.aaload, 1), some (.aload_n 1, 1), some (.invokevirtual 28, 3), none, none, some (.aload_n 0, 1), some (.getfield 17, 3), none, none, some (.aload_n 0, 1), some (.getfield 24, 3)], [none, none, some (.iload_n 2, 1), some (.iastore, 1), some (.aload_n 0, 1), some (.aload_n 0, 1), some (.getfield 32, 3), none, none, some (.iconst 1, 1), some (.iadd, 1), some (.bipush 6, 2), none, some (.invokestatic 35, 3), none, none], [some (.putfield 32, 3), none, none, some (.return_, 1)]]
def am_c10 : am_cd := [[some (.aload_n 0, 1), some (.getfield 32, 3), none, none, some (.ifCond .ne 5, 3), none, none, some (.iconst 0, 1), some (.ireturn, 1), some (.aload_n 1, 1), some (.aload_n 0, 1), some (.getfield 11, 3), none, none, some (.aload_n 0, 1), some (.getfield 24, 3)], [none, none, some (.aaload, 1), some (.invokevirtual 28, 3), none, none, some (.aload_n 1, 1), some (.aload_n 0, 1), some (.getfield 17, 3), none, none, some (.aload_n 0, 1), some (.getfield 24, 3), none, none, some (.iaload, 1)], [some (.invokevirtual 41, 3), none, none, some (.aload_n 0, 1), some (.aload_n 0, 1), some (.getfield 24, 3), none, none, some (.bipush 6, 2), none, some (.iadd, 1), some (.iconst 1, 1), some (.isub, 1), some (.bipush 6, 2), none, some (.irem, 1)], [some (.putfield 24, 3), none, none, some (.aload_n 0, 1), some (.dup, 1), some (.getfield 32, 3), none, none, some (.iconst 1, 1), some (.isub, 1), some (.putfield 32, 3), none, none, some (.iconst 1, 1), some (.ireturn, 1)]]
def am_c11 : am_cd := [[some (.aload_n 0, 1), some (.invokespecial 3, 3), none, none, some (.aload_n 0, 1), some (.bipush 6, 2), none, some (.newarray .int, 2), none, some (.putfield 9, 3), none, none, some (.aload_n 0, 1), some (.bipush 6, 2), none, some (.newarray .int, 2)], [none, some (.putfield 15, 3), none, none, some (.return_, 1)]]
def am_c12 : am_cd := [[some (.aload_n 0, 1), some (.getfield 18, 3), none, none, some (.bipush 6, 2), none, some (.if_icmp .lt 5, 3), none, none, some (.iconst 0, 1), some (.ireturn, 1), some (.aload_n 0, 1), some (.getfield 9, 3), none, none, some (.aload_n 0, 1)], [some (.getfield 18, 3), none, none, some (.iload_n 1, 1), some (.iastore, 1), some (.aload_n 0, 1), some (.getfield 15, 3), none, none, some (.aload_n 0, 1), some (.getfield 18, 3), none, none, some (.iload_n 2, 1), some (.iastore, 1), some (.aload_n 0, 1)], [some (.dup, 1), some (.getfield 18, 3), none, none, some (.iconst 1, 1), some (.iadd, 1), some (.putfield 18, 3), none, none, some (.iconst 1, 1), some (.ireturn, 1)]]
def am_c13 : am_cd := [[some (.iconst 0, 1), some (.istore_n 1, 1), some (.iconst 0, 1), some (.istore_n 2, 1), some (.iload_n 2, 1), some (.aload_n 0, 1), some (.getfield 18, 3), none, none, some (.if_icmp .ge 20, 3), none, none, some (.iload_n 1, 1), some (.aload_n 0, 1), some (.getfield 9, 3), none], [none, some (.iload_n 2, 1), some (.iaload, 1), some (.invokestatic 22, 3), none, none, some (.istore_n 1, 1), some (.iinc 2 1, 3), none, none, some (.goto (-22), 3), none, none, some (.iload_n 1, 1), some (.ireturn, 1)]]
def am_c14 : am_cd := [[some (.iconst 0, 1), some (.istore_n 3, 1), some (.iload_n 3, 1), some (.aload_n 0, 1), some (.getfield 18, 3), none, none, some (.if_icmp .ge 31, 3), none, none, some (.aload_n 0, 1), some (.getfield 9, 3), none, none, some (.iload_n 3, 1), some (.iaload, 1)], [some (.iload_n 1, 1), some (.if_icmp .ne 15, 3), none, none, some (.aload_n 0, 1), some (.getfield 15, 3), none, none, some (.iload_n 3, 1), some (.iaload, 1), some (.iload_n 2, 1), some (.if_icmp .eq 5, 3), none, none, some (.iconst 0, 1), some (.ireturn, 1)], [some (.iinc 3 1, 3), none, none, some (.goto (-33), 3), none, none, some (.iconst 1, 1), some (.ireturn, 1)]]
def am_c15 : am_cd := [[some (.aload_n 0, 1), some (.invokespecial 3, 3), none, none, some (.aload_n 0, 1), some (.bipush 6, 2), none, some (.newarray .int, 2), none, some (.putfield 9, 3), none, none, some (.aload_n 0, 1), some (.bipush 6, 2), none, some (.newarray .int, 2)], [none, some (.putfield 15, 3), none, none, some (.aload_n 0, 1), some (.bipush 6, 2), none, some (.newarray .int, 2), none, some (.putfield 18, 3), none, none, some (.aload_n 0, 1), some (.iconst 3, 1), some (.newarray .int, 2), none], [some (.putfield 21, 3), none, none, some (.aload_n 0, 1), some (.iconst 3, 1), some (.newarray .int, 2), none, some (.putfield 24, 3), none, none, some (.aload_n 0, 1), some (.aload_n 1, 1), some (.putfield 27, 3), none, none, some (.aload_n 0, 1)], [some (.iconst 0, 1), some (.iload_n 2, 1), some (.invokestatic 31, 3), none, none, some (.newarray .int, 2), none, some (.putfield 37, 3), none, none, some (.return_, 1)]]
def am_c16 : am_cd := [[some (.aload_n 0, 1), some (.iconst 0, 1), some (.putfield 40, 3), none, none, some (.aload_n 0, 1), some (.iconst 0, 1), some (.putfield 44, 3), none, none, some (.aload_n 0, 1), some (.iconst 0, 1), some (.putfield 47, 3), none, none, some (.iconst 0, 1)], [some (.istore_n 1, 1), some (.iload_n 1, 1), some (.bipush 6, 2), none, some (.if_icmp .ge 30, 3), none, none, some (.aload_n 0, 1), some (.getfield 9, 3), none, none, some (.iload_n 1, 1), some (.iconst 0, 1), some (.iastore, 1), some (.aload_n 0, 1), some (.getfield 15, 3)], [none, none, some (.iload_n 1, 1), some (.iconst 0, 1), some (.iastore, 1), some (.aload_n 0, 1), some (.getfield 18, 3), none, none, some (.iload_n 1, 1), some (.iconst 0, 1), some (.iastore, 1), some (.iinc 1 1, 3), none, none, some (.goto (-30), 3)], [none, none, some (.iconst 0, 1), some (.istore_n 1, 1), some (.iload_n 1, 1), some (.iconst 3, 1), some (.if_icmp .ge 16, 3), none, none, some (.aload_n 0, 1), some (.getfield 24, 3), none, none, some (.iload_n 1, 1), some (.iconst 0, 1), some (.iastore, 1)], [some (.iinc 1 1, 3), none, none, some (.goto (-15), 3), none, none, some (.return_, 1)]]
def am_c17 : am_cd := [[some (.aload_n 0, 1), some (.aload_n 1, 1), some (.getfield 40, 3), none, none, some (.putfield 40, 3), none, none, some (.aload_n 0, 1), some (.aload_n 1, 1), some (.getfield 44, 3), none, none, some (.putfield 44, 3), none, none], [some (.aload_n 0, 1), some (.aload_n 1, 1), some (.getfield 47, 3), none, none, some (.putfield 47, 3), none, none, some (.aload_n 1, 1), some (.getfield 9, 3), none, none, some (.iconst 0, 1), some (.aload_n 0, 1), some (.getfield 9, 3), none], [none, some (.iconst 0, 1), some (.bipush 6, 2), none, some (.invokestatic 50, 3), none, none, some (.aload_n 1, 1), some (.getfield 15, 3), none, none, some (.iconst 0, 1), some (.aload_n 0, 1), some (.getfield 15, 3), none, none], [some (.iconst 0, 1), some (.bipush 6, 2), none, some (.invokestatic 50, 3), none, none, some (.aload_n 1, 1), some (.getfield 18, 3), none, none, some (.iconst 0, 1), some (.aload_n 0, 1), some (.getfield 18, 3), none, none, some (.iconst 0, 1)], [some (.bipush 6, 2), none, some (.invokestatic 50, 3), none, none, some (.aload_n 1, 1), some (.getfield 21, 3), none, none, some (.iconst 0, 1), some (.aload_n 0, 1), some (.getfield 21, 3), none, none, some (.iconst 0, 1), some (.iconst 3, 1)], [some (.invokestatic 50, 3), none, none, some (.aload_n 1, 1), some (.getfield 24, 3), none, none, some (.iconst 0, 1), some (.aload_n 0, 1), some (.getfield 24, 3), none, none, some (.iconst 0, 1), some (.iconst 3, 1), some (.invokestatic 50, 3), none], [none, some (.aload_n 0, 1), some (.getfield 37, 3), none, none, some (.arraylength, 1), some (.aload_n 1, 1), some (.getfield 37, 3), none, none, some (.arraylength, 1), some (.invokestatic 56, 3), none, none, some (.istore_n 2, 1), some (.aload_n 1, 1)], [some (.getfield 37, 3), none, none, some (.iconst 0, 1), some (.aload_n 0, 1), some (.getfield 37, 3), none, none, some (.iconst 0, 1), some (.iload_n 2, 1), some (.aload_n 0, 1), some (.getfield 40, 3), none, none, some (.invokestatic 56, 3), none], [none, some (.invokestatic 50, 3), none, none, some (.return_, 1)]]
def am_c18 : am_cd := [[some (.iload_n 1, 1), some (.ifCond .lt 24, 3), none, none, some (.iload_n 1, 1), some (.aload_n 0, 1), some (.getfield 40, 3), none, none, some (.if_icmp .ge 16, 3), none, none, some (.iload_n 1, 1), some (.aload_n 0, 1), some (.getfield 37, 3), none], [none, some (.arraylength, 1), some (.if_icmp .ge 7, 3), none, none, some (.iconst 1, 1), some (.goto 4, 3), none, none, some (.iconst 0, 1), some (.ireturn, 1)]]
def am_c19 : am_cd := [[some (.aload_n 0, 1), some (.getfield 37, 3), none, none, some (.iload_n 1, 1), some (.iaload, 1), some (.iconst 3, 1), some (.iand, 1), some (.ireturn, 1)]]
def am_c20 : am_cd := [[some (.aload_n 0, 1), some (.getfield 37, 3), none, none, some (.iload_n 1, 1), some (.iaload, 1), some (.iconst 2, 1), some (.ishr, 1), some (.iconst 3, 1), some (.iand, 1), some (.ireturn, 1)]]
def am_c21 : am_cd := [[some (.aload_n 0, 1), some (.getfield 37, 3), none, none, some (.iload_n 1, 1), some (.iaload, 1), some (.iconst 4, 1), some (.ishr, 1), some (.ireturn, 1)]]
def am_c22 : am_cd := [[some (.aload_n 0, 1), some (.getfield 40, 3), none, none, some (.istore_n 1, 1), some (.iconst 0, 1), some (.istore_n 2, 1), some (.iload_n 2, 1), some (.aload_n 0, 1), some (.getfield 27, 3), none, none, some (.getfield 59, 3), none, none, some (.if_icmp .ge 26, 3)], [none, none, some (.aload_n 0, 1), some (.getfield 9, 3), none, none, some (.iload_n 2, 1), some (.iaload, 1), some (.iload_n 1, 1), some (.if_icmp .ge 10, 3), none, none, some (.aload_n 0, 1), some (.getfield 9, 3), none, none], [some (.iload_n 2, 1), some (.iaload, 1), some (.istore_n 1, 1), some (.iinc 2 1, 3), none, none, some (.goto (-31), 3), none, none, some (.iload_n 1, 1), some (.ireturn, 1)]]
def am_c23 : am_cd := [[some (.aload_n 0, 1), some (.getfield 27, 3), none, none, some (.getfield 64, 3), none, none, some (.aload_n 0, 1), some (.invokevirtual 67, 3), none, none, some (.iadd, 1), some (.aload_n 0, 1), some (.getfield 40, 3), none, none], [some (.isub, 1), some (.ireturn, 1)]]
def am_c24 : am_cd := [[some (.aload_n 0, 1), some (.aload_n 0, 1), some (.getfield 27, 3), none, none, some (.getfield 71, 3), none, none, some (.iload_n 1, 1), some (.iaload, 1), some (.invokevirtual 74, 3), none, none, some (.istore_n 2, 1), some (.iload_n 2, 1), some (.bipush (-9), 2)], [none, some (.if_icmp .ne 10, 3), none, none, some (.aload_n 0, 1), some (.getfield 44, 3), none, none, some (.goto 9, 3), none, none, some (.aload_n 0, 1), some (.getfield 9, 3), none, none, some (.iload_n 2, 1)], [some (.iaload, 1), some (.ireturn, 1)]]
def am_c25 : am_cd := [[some (.aload_n 0, 1), some (.getfield 9, 3), none, none, some (.iload_n 1, 1), some (.iaload, 1), some (.aload_n 0, 1), some (.iload_n 1, 1), some (.invokevirtual 78, 3), none, none, some (.if_icmp .ge 7, 3), none, none, some (.iconst 1, 1), some (.goto 4, 3)], [none, none, some (.iconst 0, 1), some (.ireturn, 1)]]
def am_c26 : am_cd := [[some (.aload_n 0, 1), some (.iconst 1, 1), some (.aload_n 0, 1), some (.getfield 27, 3), none, none, some (.getfield 59, 3), none, none, some (.ishl, 1), some (.iconst 1, 1), some (.isub, 1), some (.invokevirtual 74, 3), none, none, some (.ireturn, 1)]]
def am_c27 : am_cd := [[some (.bipush (-9), 2), none, some (.istore_n 2, 1), some (.iconst 0, 1), some (.istore_n 3, 1), some (.iload_n 3, 1), some (.aload_n 0, 1), some (.getfield 27, 3), none, none, some (.getfield 59, 3), none, none, some (.if_icmp .ge 41, 3), none, none], [some (.iload_n 1, 1), some (.iload_n 3, 1), some (.ishr, 1), some (.iconst 1, 1), some (.iand, 1), some (.iconst 1, 1), some (.if_icmp .ne 26, 3), none, none, some (.iload_n 2, 1), some (.bipush (-9), 2), none, some (.if_icmp .eq 18, 3), none, none, some (.aload_n 0, 1)], [some (.getfield 9, 3), none, none, some (.iload_n 3, 1), some (.iaload, 1), some (.aload_n 0, 1), some (.getfield 9, 3), none, none, some (.iload_n 2, 1), some (.iaload, 1), some (.if_icmp .ge 5, 3), none, none, some (.iload_n 3, 1), some (.istore_n 2, 1)], [some (.iinc 3 1, 3), none, none, some (.goto (-46), 3), none, none, some (.iload_n 2, 1), some (.ireturn, 1)]]
def am_c28 : am_cd := [[some (.iconst 0, 1), some (.istore_n 1, 1), some (.iconst 0, 1), some (.istore_n 2, 1), some (.iload_n 2, 1), some (.aload_n 0, 1), some (.getfield 27, 3), none, none, some (.getfield 81, 3), none, none, some (.if_icmp .ge 18, 3), none, none, some (.iload_n 1, 1)], [some (.aload_n 0, 1), some (.getfield 24, 3), none, none, some (.iload_n 2, 1), some (.iaload, 1), some (.iadd, 1), some (.istore_n 1, 1), some (.iinc 2 1, 3), none, none, some (.goto (-23), 3), none, none, some (.iload_n 1, 1), some (.ireturn, 1)]]
def am_c29 : am_cd := [[some (.iconst 0, 1), some (.istore_n 2, 1), some (.iload_n 2, 1), some (.aload_n 0, 1), some (.getfield 47, 3), none, none, some (.if_icmp .ge 21, 3), none, none, some (.aload_n 0, 1), some (.getfield 21, 3), none, none, some (.iload_n 2, 1), some (.iaload, 1)], [some (.iload_n 1, 1), some (.if_icmp .ne 5, 3), none, none, some (.iload_n 2, 1), some (.ireturn, 1), some (.iinc 2 1, 3), none, none, some (.goto (-23), 3), none, none, some (.bipush (-9), 2), none, some (.ireturn, 1)]]
def am_c30 : am_cd := [[some (.iconst 0, 1), some (.istore_n 2, 1), some (.aload_n 0, 1), some (.getfield 44, 3), none, none, some (.istore_n 3, 1), some (.iload_n 3, 1), some (.aload_n 0, 1), some (.getfield 40, 3), none, none, some (.if_icmp .ge 38, 3), none, none, some (.iload_n 3, 1)], [some (.aload_n 0, 1), some (.getfield 37, 3), none, none, some (.arraylength, 1), some (.if_icmp .ge 29, 3), none, none, some (.aload_n 0, 1), some (.iload_n 3, 1), some (.invokevirtual 84, 3), none, none, some (.ifCond .ne 15, 3), none, none], [some (.aload_n 0, 1), some (.iload_n 3, 1), some (.invokevirtual 87, 3), none, none, some (.iload_n 1, 1), some (.if_icmp .ne 6, 3), none, none, some (.iinc 2 1, 3), none, none, some (.iinc 3 1, 3), none, none, some (.goto (-40), 3)], [none, none, some (.iload_n 2, 1), some (.ireturn, 1)]]
def am_c31 : am_cd := [[some (.aload_n 0, 1), some (.getfield 47, 3), none, none, some (.ifCond .ne 18, 3), none, none, some (.iload_n 2, 1), some (.aload_n 0, 1), some (.invokevirtual 90, 3), none, none, some (.if_icmp .gt 10, 3), none, none, some (.aload_n 0, 1)], [some (.iload_n 1, 1), some (.iload_n 2, 1), some (.invokevirtual 93, 3), none, none, some (.ireturn, 1), some (.aload_n 0, 1), some (.getfield 47, 3), none, none, some (.iconst 3, 1), some (.if_icmp .ge 30, 3), none, none, some (.aload_n 0, 1), some (.getfield 21, 3)], [none, none, some (.aload_n 0, 1), some (.getfield 47, 3), none, none, some (.iload_n 1, 1), some (.iastore, 1), some (.aload_n 0, 1), some (.getfield 24, 3), none, none, some (.iload_n 1, 1), some (.iload_n 2, 1), some (.iastore, 1), some (.aload_n 0, 1)], [some (.dup, 1), some (.getfield 47, 3), none, none, some (.iconst 1, 1), some (.iadd, 1), some (.putfield 47, 3), none, none, some (.bipush (-9), 2), none, some (.ireturn, 1)]]
def am_c32 : am_cd := [[some (.aload_n 0, 1), some (.getfield 40, 3), none, none, some (.istore_n 3, 1), some (.aload_n 0, 1), some (.dup, 1), some (.getfield 40, 3), none, none, some (.iload_n 2, 1), some (.iadd, 1), some (.putfield 40, 3), none, none, some (.iload_n 3, 1)], [some (.istore 4, 2), none, some (.iload 4, 2), none, some (.aload_n 0, 1), some (.getfield 40, 3), none, none, some (.if_icmp .ge 27, 3), none, none, some (.iload 4, 2), none, some (.aload_n 0, 1), some (.getfield 37, 3), none], [none, some (.arraylength, 1), some (.if_icmp .ge 17, 3), none, none, some (.aload_n 0, 1), some (.getfield 37, 3), none, none, some (.iload 4, 2), none, some (.iload_n 1, 1), some (.iastore, 1), some (.iinc 4 1, 3), none, none], [some (.goto (-30), 3), none, none, some (.iload_n 3, 1), some (.ireturn, 1)]]
def am_c33 : am_cd := [[some (.iconst 0, 1), some (.istore_n 1, 1), some (.iload_n 1, 1), some (.iconst 3, 1), some (.if_icmp .ge 51, 3), none, none, some (.aload_n 0, 1), some (.getfield 47, 3), none, none, some (.ifCond .le 44, 3), none, none, some (.aload_n 0, 1), some (.getfield 21, 3)], [none, none, some (.iconst 0, 1), some (.iaload, 1), some (.istore_n 2, 1), some (.aload_n 0, 1), some (.getfield 24, 3), none, none, some (.iload_n 2, 1), some (.iaload, 1), some (.istore_n 3, 1), some (.iload_n 3, 1), some (.aload_n 0, 1), some (.invokevirtual 90, 3), none], [none, some (.if_icmp .le 4, 3), none, none, some (.return_, 1), some (.aload_n 0, 1), some (.iload_n 2, 1), some (.invokevirtual 96, 3), none, none, some (.aload_n 0, 1), some (.iload_n 2, 1), some (.iload_n 3, 1), some (.invokevirtual 93, 3), none, none], [some (.pop, 1), some (.iinc 1 1, 3), none, none, some (.goto (-50), 3), none, none, some (.return_, 1)]]
def am_c34 : am_cd := [[some (.aload_n 0, 1), some (.iload_n 1, 1), some (.invokevirtual 100, 3), none, none, some (.istore_n 2, 1), some (.iload_n 2, 1), some (.bipush (-9), 2), none, some (.if_icmp .ne 4, 3), none, none, some (.return_, 1), some (.iload_n 2, 1), some (.iconst 1, 1), some (.iadd, 1)], [some (.istore_n 3, 1), some (.iload_n 3, 1), some (.aload_n 0, 1), some (.getfield 47, 3), none, none, some (.if_icmp .ge 23, 3), none, none, some (.aload_n 0, 1), some (.getfield 21, 3), none, none, some (.iload_n 3, 1), some (.iconst 1, 1), some (.isub, 1)], [some (.aload_n 0, 1), some (.getfield 21, 3), none, none, some (.iload_n 3, 1), some (.iaload, 1), some (.iastore, 1), some (.iinc 3 1, 3), none, none, some (.goto (-25), 3), none, none, some (.aload_n 0, 1), some (.getfield 24, 3), none], [none, some (.iload_n 1, 1), some (.iconst 0, 1), some (.iastore, 1), some (.aload_n 0, 1), some (.dup, 1), some (.getfield 47, 3), none, none, some (.iconst 1, 1), some (.isub, 1), some (.putfield 47, 3), none, none, some (.return_, 1)]]
def am_c35 : am_cd := [[some (.aload_n 0, 1), some (.getfield 37, 3), none, none, some (.iload_n 1, 1), some (.aload_n 0, 1), some (.iload_n 1, 1), some (.invokevirtual 87, 3), none, none, some (.iload_n 2, 1), some (.iconst 2, 1), some (.ishl, 1), some (.ior, 1), some (.iload_n 3, 1), some (.iconst 4, 1)], [some (.ishl, 1), some (.ior, 1), some (.iastore, 1), some (.aload_n 0, 1), some (.getfield 44, 3), none, none, some (.aload_n 0, 1), some (.getfield 40, 3), none, none, some (.if_icmp .ge 39, 3), none, none, some (.aload_n 0, 1), some (.getfield 44, 3)], [none, none, some (.aload_n 0, 1), some (.getfield 37, 3), none, none, some (.arraylength, 1), some (.if_icmp .ge 27, 3), none, none, some (.aload_n 0, 1), some (.aload_n 0, 1), some (.getfield 44, 3), none, none, some (.invokevirtual 84, 3)], [none, none, some (.ifCond .eq 16, 3), none, none, some (.aload_n 0, 1), some (.dup, 1), some (.getfield 44, 3), none, none, some (.iconst 1, 1), some (.iadd, 1), some (.putfield 44, 3), none, none, some (.goto (-44), 3)], [none, none, some (.return_, 1)]]
def am_c36 : am_cd := [[some (.aload_n 0, 1), some (.iload_n 1, 1), some (.invokevirtual 103, 3), none, none, some (.ifCond .eq 14, 3), none, none, some (.aload_n 0, 1), some (.getfield 37, 3), none, none, some (.iload_n 1, 1), some (.aload_n 0, 1), some (.iload_n 1, 1), some (.invokevirtual 87, 3)], [none, none, some (.iastore, 1), some (.return_, 1)]]
def am_c37 : am_cd := [[some (.aload_n 0, 1), some (.aload_n 0, 1), some (.getfield 40, 3), none, none, some (.putfield 44, 3), none, none, some (.return_, 1)]]
def am_c38 : am_cd := [[some (.aload_n 0, 1), some (.getfield 9, 3), none, none, some (.iload_n 1, 1), some (.iaload, 1), some (.istore_n 3, 1), some (.iload_n 3, 1), some (.iload_n 2, 1), some (.iadd, 1), some (.aload_n 0, 1), some (.iload_n 1, 1), some (.invokevirtual 78, 3), none, none, some (.invokestatic 56, 3)], [none, none, some (.istore 4, 2), none, some (.iload 4, 2), none, some (.iload_n 3, 1), some (.if_icmp .gt 5, 3), none, none, some (.iconst 0, 1), some (.ireturn, 1), some (.iload_n 3, 1), some (.istore 5, 2), none, some (.iload 5, 2)], [none, some (.iload 4, 2), none, some (.if_icmp .ge 67, 3), none, none, some (.iload 5, 2), none, some (.aload_n 0, 1), some (.getfield 37, 3), none, none, some (.arraylength, 1), some (.if_icmp .ge 57, 3), none, none], [some (.aload_n 0, 1), some (.iload 5, 2), none, some (.invokevirtual 84, 3), none, none, some (.iconst 1, 1), some (.if_icmp .ne 41, 3), none, none, some (.aload_n 0, 1), some (.getfield 15, 3), none, none, some (.iload_n 1, 1), some (.dup2, 1)], [some (.iaload, 1), some (.iconst 1, 1), some (.iadd, 1), some (.iastore, 1), some (.aload_n 0, 1), some (.getfield 18, 3), none, none, some (.iload_n 1, 1), some (.bipush 31, 2), none, some (.aload_n 0, 1), some (.getfield 18, 3), none, none, some (.iload_n 1, 1)], [some (.iaload, 1), some (.imul, 1), some (.aload_n 0, 1), some (.iload 5, 2), none, some (.invokevirtual 107, 3), none, none, some (.iadd, 1), some (.iload_n 1, 1), some (.iadd, 1), some (.sipush 9973, 3), none, none, some (.irem, 1), some (.iastore, 1)], [some (.iinc 5 1, 3), none, none, some (.goto (-68), 3), none, none, some (.aload_n 0, 1), some (.getfield 9, 3), none, none, some (.iload_n 1, 1), some (.iload 4, 2), none, some (.iastore, 1), some (.aload_n 0, 1), some (.invokevirtual 110, 3)], [none, none, some (.iload 4, 2), none, some (.iload_n 3, 1), some (.isub, 1), some (.ireturn, 1)]]
def am_c39 : am_cd := [[some (.aload_n 0, 1), some (.getfield 47, 3), none, none, some (.ifCond .eq 13, 3), none, none, some (.aload_n 0, 1), some (.getfield 27, 3), none, none, some (.getfield 59, 3), none, none, some (.ifCond .ne 6, 3), none], [none, some (.bipush (-9), 2), none, some (.ireturn, 1), some (.aload_n 0, 1), some (.invokevirtual 113, 3), none, none, some (.istore_n 1, 1), some (.iconst 0, 1), some (.istore_n 2, 1), some (.iload_n 2, 1), some (.bipush 6, 2), none, some (.if_icmp .ge 67, 3), none], [none, some (.aload_n 0, 1), some (.iload_n 1, 1), some (.invokevirtual 116, 3), none, none, some (.ifCond .ne 59, 3), none, none, some (.aload_n 0, 1), some (.aload_n 0, 1), some (.getfield 27, 3), none, none, some (.getfield 71, 3), none], [none, some (.iload_n 1, 1), some (.iaload, 1), some (.invokevirtual 74, 3), none, none, some (.istore_n 3, 1), some (.iload_n 3, 1), some (.bipush (-9), 2), none, some (.if_icmp .ne 31, 3), none, none, some (.aload_n 0, 1), some (.aload_n 0, 1), some (.getfield 44, 3)], [none, none, some (.invokevirtual 103, 3), none, none, some (.ifCond .eq 17, 3), none, none, some (.bipush 10, 2), none, some (.aload_n 0, 1), some (.aload_n 0, 1), some (.getfield 44, 3), none, none, some (.invokevirtual 87, 3)], [none, none, some (.iadd, 1), some (.goto 5, 3), none, none, some (.bipush (-9), 2), none, some (.ireturn, 1), some (.iload_n 3, 1), some (.istore_n 1, 1), some (.iinc 2 1, 3), none, none, some (.goto (-67), 3), none], [none, some (.iload_n 1, 1), some (.ireturn, 1)]]
def am_c40 : am_cd := [[some (.aload_n 0, 1), some (.getfield 47, 3), none, none, some (.ifCond .eq 13, 3), none, none, some (.aload_n 0, 1), some (.getfield 27, 3), none, none, some (.getfield 59, 3), none, none, some (.ifCond .ne 6, 3), none], [none, some (.bipush (-9), 2), none, some (.ireturn, 1), some (.aload_n 0, 1), some (.getfield 40, 3), none, none, some (.aload_n 0, 1), some (.getfield 24, 3), none, none, some (.aload_n 0, 1), some (.getfield 21, 3), none, none], [some (.iconst 0, 1), some (.iaload, 1), some (.iaload, 1), some (.iadd, 1), some (.aload_n 0, 1), some (.getfield 27, 3), none, none, some (.getfield 64, 3), none, none, some (.isub, 1), some (.istore_n 1, 1), some (.iload_n 1, 1), some (.aload_n 0, 1), some (.getfield 44, 3)], [none, none, some (.if_icmp .le 6, 3), none, none, some (.bipush (-9), 2), none, some (.ireturn, 1), some (.iconst 0, 1), some (.istore_n 2, 1), some (.iconst 0, 1), some (.istore_n 3, 1), some (.iload_n 3, 1), some (.aload_n 0, 1), some (.getfield 27, 3), none], [none, some (.getfield 59, 3), none, none, some (.if_icmp .ge 22, 3), none, none, some (.aload_n 0, 1), some (.getfield 9, 3), none, none, some (.iload_n 3, 1), some (.iaload, 1), some (.iload_n 1, 1), some (.if_icmp .ge 6, 3), none], [none, some (.iinc 2 1, 3), none, none, some (.iinc 3 1, 3), none, none, some (.goto (-27), 3), none, none, some (.iload_n 2, 1), some (.ireturn, 1)]]
def am_c41 : am_cd := [[some (.aload_n 0, 1), some (.invokespecial 3, 3), none, none, some (.aload_n 0, 1), some (.bipush 120, 2), none, some (.newarray .int, 2), none, some (.putfield 9, 3), none, none, some (.return_, 1)]]
def am_c42 : am_cd := [[some (.aload_n 0, 1), some (.getfield 15, 3), none, none, some (.bipush 120, 2), none, some (.if_icmp .lt 5, 3), none, none, some (.iconst 0, 1), some (.ireturn, 1), some (.aload_n 0, 1), some (.getfield 9, 3), none, none, some (.aload_n 0, 1)], [some (.getfield 15, 3), none, none, some (.iload_n 1, 1), some (.iastore, 1), some (.aload_n 0, 1), some (.dup, 1), some (.getfield 15, 3), none, none, some (.iconst 1, 1), some (.iadd, 1), some (.putfield 15, 3), none, none, some (.iconst 1, 1)], [some (.ireturn, 1)]]
def am_c43 : am_cd := [[some (.aload_n 1, 1), some (.invokevirtual 19, 3), none, none, some (.aload_n 0, 1), some (.iconst 0, 1), some (.putfield 24, 3), none, none, some (.aload_n 0, 1), some (.iconst 0, 1), some (.putfield 28, 3), none, none, some (.aload_n 0, 1), some (.invokevirtual 31, 3)], [none, none, some (.iconst 0, 1), some (.istore_n 2, 1), some (.aload_n 0, 1), some (.getfield 34, 3), none, none, some (.ifCond .eq 87, 3), none, none, some (.iload_n 2, 1), some (.bipush 120, 2), none, some (.if_icmp .ge 81, 3), none], [none, some (.aload_n 0, 1), some (.getfield 34, 3), none, none, some (.tableswitch 54 1 3 #[27, 36, 45], 27), none, none, none, none, none, none, none, none, none, none], [none, none, none, none, none, none, none, none, none, none, none, none, none, none, none, none], [some (.aload_n 0, 1), some (.aload_n 1, 1), some (.invokevirtual 37, 3), none, none, some (.istore_n 3, 1), some (.goto 23, 3), none, none, some (.aload_n 0, 1), some (.aload_n 1, 1), some (.invokevirtual 41, 3), none, none, some (.istore_n 3, 1), some (.goto 14, 3)], [none, none, some (.aload_n 0, 1), some (.aload_n 1, 1), some (.invokevirtual 44, 3), none, none, some (.istore_n 3, 1), some (.goto 5, 3), none, none, some (.iconst 0, 1), some (.istore_n 3, 1), some (.iload_n 3, 1), some (.ifCond .ne 11, 3), none], [none, some (.bipush (-10), 2), none, some (.aload_n 0, 1), some (.getfield 47, 3), none, none, some (.isub, 1), some (.ireturn, 1), some (.iinc 2 1, 3), none, none, some (.goto (-88), 3), none, none, some (.iload_n 2, 1)], [some (.ireturn, 1)]]
def am_c44 : am_cd := [[some (.aload_n 0, 1), some (.getfield 24, 3), none, none, some (.ifCond .eq 5, 3), none, none, some (.iconst 0, 1), some (.ireturn, 1), some (.aload_n 0, 1), some (.invokevirtual 31, 3), none, none, some (.aload_n 0, 1), some (.iconst 2, 1), some (.bipush 16, 2)], [none, some (.invokevirtual 50, 3), none, none, some (.ifCond .ne 5, 3), none, none, some (.iconst 0, 1), some (.ireturn, 1), some (.aload_n 1, 1), some (.aload_n 0, 1), some (.getfield 54, 3), none, none, some (.putfield 57, 3), none], [none, some (.aload_n 0, 1), some (.iconst 1, 1), some (.putfield 24, 3), none, none, some (.aload_n 0, 1), some (.invokevirtual 60, 3), none, none, some (.ireturn, 1)]]
def am_c45 : am_cd := [[some (.aload_n 1, 1), some (.getfield 64, 3), none, none, some (.iconst 3, 1), some (.if_icmp .lt 5, 3), none, none, some (.iconst 0, 1), some (.ireturn, 1), some (.aload_n 0, 1), some (.invokevirtual 31, 3), none, none, some (.aload_n 0, 1), some (.iconst 0, 1)], [some (.bipush 9, 2), none, some (.invokevirtual 50, 3), none, none, some (.ifCond .eq 25, 3), none, none, some (.aload_n 1, 1), some (.aload_n 0, 1), some (.getfield 54, 3), none, none, some (.invokevirtual 67, 3), none, none], [some (.ifCond .eq 14, 3), none, none, some (.aload_n 0, 1), some (.invokevirtual 60, 3), none, none, some (.ifCond .eq 7, 3), none, none, some (.iconst 1, 1), some (.goto 4, 3), none, none, some (.iconst 0, 1), some (.ireturn, 1)]]
def am_c46 : am_cd := [[some (.aload_n 1, 1), some (.getfield 71, 3), none, none, some (.bipush 6, 2), none, some (.if_icmp .lt 5, 3), none, none, some (.iconst 0, 1), some (.ireturn, 1), some (.aload_n 0, 1), some (.invokevirtual 31, 3), none, none, some (.aload_n 0, 1)], [some (.iconst 1, 1), some (.bipush 9, 2), none, some (.invokevirtual 50, 3), none, none, some (.ifCond .ne 5, 3), none, none, some (.iconst 0, 1), some (.ireturn, 1), some (.aload_n 0, 1), some (.getfield 54, 3), none, none, some (.istore_n 2, 1)], [some (.iconst 1, 1), some (.aload_n 1, 1), some (.getfield 71, 3), none, none, some (.ishl, 1), some (.iconst 1, 1), some (.isub, 1), some (.istore_n 3, 1), some (.aload_n 0, 1), some (.iconst 0, 1), some (.iload_n 3, 1), some (.invokevirtual 50, 3), none, none, some (.ifCond .eq 26, 3)], [none, none, some (.aload_n 1, 1), some (.iload_n 2, 1), some (.aload_n 0, 1), some (.getfield 54, 3), none, none, some (.invokevirtual 74, 3), none, none, some (.ifCond .eq 14, 3), none, none, some (.aload_n 0, 1), some (.invokevirtual 60, 3)], [none, none, some (.ifCond .eq 7, 3), none, none, some (.iconst 1, 1), some (.goto 4, 3), none, none, some (.iconst 0, 1), some (.ireturn, 1)]]
def am_c47 : am_cd := [[some (.aload_n 0, 1), some (.getfield 34, 3), none, none, some (.iconst 4, 1), some (.if_icmp .ne 19, 3), none, none, some (.aload_n 0, 1), some (.getfield 77, 3), none, none, some (.iload_n 1, 1), some (.if_icmp .lt 11, 3), none, none], [some (.aload_n 0, 1), some (.getfield 77, 3), none, none, some (.iload_n 2, 1), some (.if_icmp .le 5, 3), none, none, some (.iconst 0, 1), some (.ireturn, 1), some (.aload_n 0, 1), some (.aload_n 0, 1), some (.getfield 77, 3), none, none, some (.putfield 54, 3)], [none, none, some (.aload_n 0, 1), some (.invokevirtual 31, 3), none, none, some (.iconst 1, 1), some (.ireturn, 1)]]
def am_c48 : am_cd := [[some (.aload_n 0, 1), some (.getfield 34, 3), none, none, some (.iconst 5, 1), some (.if_icmp .eq 5, 3), none, none, some (.iconst 0, 1), some (.ireturn, 1), some (.aload_n 0, 1), some (.invokevirtual 31, 3), none, none, some (.iconst 1, 1), some (.ireturn, 1)]]
def am_c49 : am_cd := [[some (.aload_n 0, 1), some (.aload_n 0, 1), some (.getfield 28, 3), none, none, some (.putfield 47, 3), none, none, some (.aload_n 0, 1), some (.getfield 47, 3), none, none, some (.aload_n 0, 1), some (.getfield 15, 3), none, none], [some (.if_icmp .ge 30, 3), none, none, some (.aload_n 0, 1), some (.getfield 9, 3), none, none, some (.aload_n 0, 1), some (.getfield 47, 3), none, none, some (.iaload, 1), some (.bipush 32, 2), none, some (.if_icmp .ne 16, 3), none], [none, some (.aload_n 0, 1), some (.dup, 1), some (.getfield 47, 3), none, none, some (.iconst 1, 1), some (.iadd, 1), some (.putfield 47, 3), none, none, some (.goto (-35), 3), none, none, some (.aload_n 0, 1), some (.getfield 47, 3)], [none, none, some (.aload_n 0, 1), some (.getfield 15, 3), none, none, some (.if_icmp .lt 19, 3), none, none, some (.aload_n 0, 1), some (.aload_n 0, 1), some (.getfield 47, 3), none, none, some (.putfield 28, 3), none], [none, some (.aload_n 0, 1), some (.iconst 0, 1), some (.putfield 34, 3), none, none, some (.goto 81, 3), none, none, some (.aload_n 0, 1), some (.getfield 9, 3), none, none, some (.aload_n 0, 1), some (.getfield 47, 3), none], [none, some (.iaload, 1), some (.invokestatic 80, 3), none, none, some (.ifCond .eq 10, 3), none, none, some (.aload_n 0, 1), some (.invokevirtual 83, 3), none, none, some (.goto 59, 3), none, none, some (.aload_n 0, 1)], [some (.getfield 9, 3), none, none, some (.aload_n 0, 1), some (.getfield 47, 3), none, none, some (.iaload, 1), some (.invokestatic 86, 3), none, none, some (.ifCond .eq 10, 3), none, none, some (.aload_n 0, 1), some (.invokevirtual 89, 3)], [none, none, some (.goto 37, 3), none, none, some (.aload_n 0, 1), some (.aload_n 0, 1), some (.getfield 47, 3), none, none, some (.iconst 1, 1), some (.iadd, 1), some (.putfield 28, 3), none, none, some (.aload_n 0, 1)], [some (.aload_n 0, 1), some (.getfield 9, 3), none, none, some (.aload_n 0, 1), some (.getfield 47, 3), none, none, some (.iaload, 1), some (.bipush 59, 2), none, some (.if_icmp .ne 7, 3), none, none, some (.iconst 5, 1), some (.goto 5, 3)], [none, none, some (.bipush 6, 2), none, some (.putfield 34, 3), none, none, some (.return_, 1)]]
def am_c50 : am_cd := [[some (.aload_n 0, 1), some (.aload_n 0, 1), some (.getfield 47, 3), none, none, some (.putfield 28, 3), none, none, some (.aload_n 0, 1), some (.getfield 28, 3), none, none, some (.aload_n 0, 1), some (.getfield 15, 3), none, none], [some (.if_icmp .ge 31, 3), none, none, some (.aload_n 0, 1), some (.getfield 9, 3), none, none, some (.aload_n 0, 1), some (.getfield 28, 3), none, none, some (.iaload, 1), some (.invokestatic 80, 3), none, none, some (.ifCond .eq 16, 3)], [none, none, some (.aload_n 0, 1), some (.dup, 1), some (.getfield 28, 3), none, none, some (.iconst 1, 1), some (.iadd, 1), some (.putfield 28, 3), none, none, some (.goto (-36), 3), none, none, some (.aload_n 0, 1)], [some (.ldc 92, 2), none, some (.invokevirtual 93, 3), none, none, some (.ifCond .eq 11, 3), none, none, some (.aload_n 0, 1), some (.iconst 1, 1), some (.putfield 34, 3), none, none, some (.goto 43, 3), none, none], [some (.aload_n 0, 1), some (.ldc 97, 2), none, some (.invokevirtual 93, 3), none, none, some (.ifCond .eq 11, 3), none, none, some (.aload_n 0, 1), some (.iconst 2, 1), some (.putfield 34, 3), none, none, some (.goto 26, 3), none], [none, some (.aload_n 0, 1), some (.ldc 99, 2), none, some (.invokevirtual 93, 3), none, none, some (.ifCond .eq 11, 3), none, none, some (.aload_n 0, 1), some (.iconst 3, 1), some (.putfield 34, 3), none, none, some (.goto 9, 3)], [none, none, some (.aload_n 0, 1), some (.bipush 6, 2), none, some (.putfield 34, 3), none, none, some (.return_, 1)]]
def am_c51 : am_cd := [[some (.aload_n 0, 1), some (.iconst 0, 1), some (.putfield 77, 3), none, none, some (.aload_n 0, 1), some (.aload_n 0, 1), some (.getfield 47, 3), none, none, some (.putfield 28, 3), none, none, some (.aload_n 0, 1), some (.getfield 28, 3), none], [none, some (.aload_n 0, 1), some (.getfield 15, 3), none, none, some (.if_icmp .ge 60, 3), none, none, some (.aload_n 0, 1), some (.getfield 9, 3), none, none, some (.aload_n 0, 1), some (.getfield 28, 3), none, none], [some (.iaload, 1), some (.invokestatic 86, 3), none, none, some (.ifCond .eq 45, 3), none, none, some (.aload_n 0, 1), some (.bipush 10, 2), none, some (.aload_n 0, 1), some (.getfield 77, 3), none, none, some (.imul, 1), some (.aload_n 0, 1)], [some (.getfield 9, 3), none, none, some (.aload_n 0, 1), some (.getfield 28, 3), none, none, some (.iaload, 1), some (.iadd, 1), some (.bipush 48, 2), none, some (.isub, 1), some (.bipush 100, 2), none, some (.invokestatic 101, 3), none], [none, some (.putfield 77, 3), none, none, some (.aload_n 0, 1), some (.dup, 1), some (.getfield 28, 3), none, none, some (.iconst 1, 1), some (.iadd, 1), some (.putfield 28, 3), none, none, some (.goto (-65), 3), none], [none, some (.aload_n 0, 1), some (.getfield 9, 3), none, none, some (.aload_n 0, 1), some (.getfield 47, 3), none, none, some (.iaload, 1), some (.bipush 48, 2), none, some (.if_icmp .ne 20, 3), none, none, some (.aload_n 0, 1)], [some (.getfield 28, 3), none, none, some (.aload_n 0, 1), some (.getfield 47, 3), none, none, some (.iconst 1, 1), some (.iadd, 1), some (.if_icmp .le 7, 3), none, none, some (.iconst 1, 1), some (.goto 4, 3), none, none], [some (.iconst 0, 1), some (.istore_n 1, 1), some (.aload_n 0, 1), some (.iload_n 1, 1), some (.ifCond .ne 12, 3), none, none, some (.aload_n 0, 1), some (.getfield 77, 3), none, none, some (.bipush 99, 2), none, some (.if_icmp .le 8, 3), none, none], [some (.bipush 6, 2), none, some (.goto 4, 3), none, none, some (.iconst 4, 1), some (.putfield 34, 3), none, none, some (.return_, 1)]]
def am_c52 : am_cd := [[some (.aload_n 0, 1), some (.getfield 28, 3), none, none, some (.aload_n 0, 1), some (.getfield 47, 3), none, none, some (.isub, 1), some (.aload_n 1, 1), some (.invokevirtual 107, 3), none, none, some (.if_icmp .eq 5, 3), none, none], [some (.iconst 0, 1), some (.ireturn, 1), some (.iconst 0, 1), some (.istore_n 2, 1), some (.iload_n 2, 1), some (.aload_n 1, 1), some (.invokevirtual 107, 3), none, none, some (.if_icmp .ge 30, 3), none, none, some (.aload_n 0, 1), some (.getfield 9, 3), none, none], [some (.aload_n 0, 1), some (.getfield 47, 3), none, none, some (.iload_n 2, 1), some (.iadd, 1), some (.iaload, 1), some (.aload_n 1, 1), some (.iload_n 2, 1), some (.invokevirtual 112, 3), none, none, some (.if_icmp .eq 5, 3), none, none, some (.iconst 0, 1)], [some (.ireturn, 1), some (.iinc 2 1, 3), none, none, some (.goto (-32), 3), none, none, some (.iconst 1, 1), some (.ireturn, 1)]]
def am_c53 : am_cd := [[some (.iload_n 0, 1), some (.bipush 97, 2), none, some (.if_icmp .lt 13, 3), none, none, some (.iload_n 0, 1), some (.bipush 122, 2), none, some (.if_icmp .gt 7, 3), none, none, some (.iconst 1, 1), some (.goto 4, 3), none, none], [some (.iconst 0, 1), some (.ireturn, 1)]]
def am_c54 : am_cd := [[some (.iload_n 0, 1), some (.bipush 48, 2), none, some (.if_icmp .lt 13, 3), none, none, some (.iload_n 0, 1), some (.bipush 57, 2), none, some (.if_icmp .gt 7, 3), none, none, some (.iconst 1, 1), some (.goto 4, 3), none, none], [some (.iconst 0, 1), some (.ireturn, 1)]]
def am_c55 : am_cd := [[some (.aload_n 0, 1), some (.invokespecial 3, 3), none, none, some (.aload_n 0, 1), some (.bipush 8, 2), none, some (.putfield 9, 3), none, none, some (.aload_n 0, 1), some (.iconst 3, 1), some (.newarray .int, 2), none, some (.putfield 15, 3), none], [none, some (.aload_n 0, 1), some (.bipush 6, 2), none, some (.newarray .int, 2), none, some (.putfield 19, 3), none, none, some (.aload_n 0, 1), some (.bipush 6, 2), none, some (.newarray .int, 2), none, some (.putfield 22, 3), none], [none, some (.return_, 1)]]
def am_c56 : am_cd := [[some (.aload_n 0, 1), some (.bipush 8, 2), none, some (.putfield 9, 3), none, none, some (.aload_n 0, 1), some (.iconst 0, 1), some (.putfield 25, 3), none, none, some (.aload_n 0, 1), some (.iconst 0, 1), some (.putfield 28, 3), none, none], [some (.return_, 1)]]
def am_c57 : am_cd := [[some (.aload_n 0, 1), some (.aload_n 1, 1), some (.getfield 9, 3), none, none, some (.putfield 9, 3), none, none, some (.aload_n 0, 1), some (.aload_n 1, 1), some (.getfield 25, 3), none, none, some (.putfield 25, 3), none, none], [some (.aload_n 0, 1), some (.aload_n 1, 1), some (.getfield 28, 3), none, none, some (.putfield 28, 3), none, none, some (.aload_n 1, 1), some (.getfield 15, 3), none, none, some (.iconst 0, 1), some (.aload_n 0, 1), some (.getfield 15, 3), none], [none, some (.iconst 0, 1), some (.iconst 3, 1), some (.invokestatic 31, 3), none, none, some (.aload_n 1, 1), some (.getfield 19, 3), none, none, some (.iconst 0, 1), some (.aload_n 0, 1), some (.getfield 19, 3), none, none, some (.iconst 0, 1)], [some (.bipush 6, 2), none, some (.invokestatic 31, 3), none, none, some (.aload_n 1, 1), some (.getfield 22, 3), none, none, some (.iconst 0, 1), some (.aload_n 0, 1), some (.getfield 22, 3), none, none, some (.iconst 0, 1), some (.bipush 6, 2)], [none, some (.invokestatic 31, 3), none, none, some (.return_, 1)]]
def am_c58 : am_cd := [[some (.iload_n 1, 1), some (.ifCond .lt 15, 3), none, none, some (.iload_n 1, 1), some (.aload_n 0, 1), some (.getfield 25, 3), none, none, some (.if_icmp .ge 7, 3), none, none, some (.iconst 1, 1), some (.goto 4, 3), none, none], [some (.iconst 0, 1), some (.ireturn, 1)]]
def am_c59 : am_cd := [[some (.iload_n 1, 1), some (.ifCond .lt 15, 3), none, none, some (.iload_n 1, 1), some (.aload_n 0, 1), some (.getfield 28, 3), none, none, some (.if_icmp .ge 7, 3), none, none, some (.iconst 1, 1), some (.goto 4, 3), none, none], [some (.iconst 0, 1), some (.ireturn, 1)]]
def am_c60 : am_cd := [[some (.aload_n 0, 1), some (.getfield 25, 3), none, none, some (.iconst 3, 1), some (.if_icmp .lt 5, 3), none, none, some (.iconst 0, 1), some (.ireturn, 1), some (.aload_n 0, 1), some (.getfield 15, 3), none, none, some (.aload_n 0, 1), some (.getfield 25, 3)], [none, none, some (.iload_n 1, 1), some (.iastore, 1), some (.aload_n 0, 1), some (.dup, 1), some (.getfield 25, 3), none, none, some (.iconst 1, 1), some (.iadd, 1), some (.putfield 25, 3), none, none, some (.iconst 1, 1), some (.ireturn, 1)]]
def am_c61 : am_cd := [[some (.aload_n 0, 1), some (.getfield 28, 3), none, none, some (.bipush 6, 2), none, some (.if_icmp .lt 5, 3), none, none, some (.iconst 0, 1), some (.ireturn, 1), some (.aload_n 0, 1), some (.getfield 19, 3), none, none, some (.aload_n 0, 1)], [some (.getfield 28, 3), none, none, some (.iload_n 1, 1), some (.iastore, 1), some (.aload_n 0, 1), some (.getfield 22, 3), none, none, some (.aload_n 0, 1), some (.getfield 28, 3), none, none, some (.iload_n 2, 1), some (.iastore, 1), some (.aload_n 0, 1)], [some (.dup, 1), some (.getfield 28, 3), none, none, some (.iconst 1, 1), some (.iadd, 1), some (.putfield 28, 3), none, none, some (.iconst 1, 1), some (.ireturn, 1)]]
def am_c62 : am_cd := [[some (.aload_n 0, 1), some (.invokespecial 1, 3), none, none, some (.aload_n 0, 1), some (.new 7, 3), none, none, some (.dup, 1), some (.invokespecial 9, 3), none, none, some (.putfield 10, 3), none, none, some (.aload_n 0, 1)], [some (.new 16, 3), none, none, some (.dup, 1), some (.invokespecial 18, 3), none, none, some (.putfield 19, 3), none, none, some (.aload_n 0, 1), some (.new 16, 3), none, none, some (.dup, 1), some (.invokespecial 18, 3)], [none, none, some (.putfield 23, 3), none, none, some (.aload_n 0, 1), some (.new 26, 3), none, none, some (.dup, 1), some (.aload_n 0, 1), some (.getfield 19, 3), none, none, some (.sipush 999, 3), none], [none, some (.invokespecial 28, 3), none, none, some (.putfield 31, 3), none, none, some (.aload_n 0, 1), some (.new 35, 3), none, none, some (.dup, 1), some (.aload_n 0, 1), some (.getfield 19, 3), none, none], [some (.invokespecial 37, 3), none, none, some (.putfield 40, 3), none, none, some (.aload_n 0, 1), some (.new 44, 3), none, none, some (.dup, 1), some (.aload_n 0, 1), some (.getfield 19, 3), none, none, some (.invokespecial 46, 3)], [none, none, some (.putfield 47, 3), none, none, some (.aload_n 0, 1), some (.new 44, 3), none, none, some (.dup, 1), some (.aload_n 0, 1), some (.getfield 19, 3), none, none, some (.invokespecial 46, 3), none], [none, some (.putfield 51, 3), none, none, some (.aload_n 0, 1), some (.new 54, 3), none, none, some (.dup, 1), some (.aload_n 0, 1), some (.getfield 19, 3), none, none, some (.invokespecial 56, 3), none, none], [some (.putfield 57, 3), none, none, some (.aload_n 0, 1), some (.new 61, 3), none, none, some (.dup, 1), some (.invokespecial 63, 3), none, none, some (.putfield 64, 3), none, none, some (.return_, 1)]]
def am_c63 : am_cd := [[some (.iload_n 1, 1), some (.ifCond .lt 10, 3), none, none, some (.iload_n 1, 1), some (.sipush 255, 3), none, none, some (.if_icmp .le 5, 3), none, none, some (.iconst (-1), 1), some (.ireturn, 1), some (.aload_n 0, 1), some (.getfield 10, 3), none], [none, some (.iload_n 1, 1), some (.invokevirtual 68, 3), none, none, some (.ifCond .eq 13, 3), none, none, some (.aload_n 0, 1), some (.getfield 10, 3), none, none, some (.getfield 72, 3), none, none, some (.goto 5, 3)], [none, none, some (.bipush (-3), 2), none, some (.ireturn, 1)]]
def am_c64 : am_cd := [[some (.aload_n 0, 1), some (.getfield 10, 3), none, none, some (.getfield 72, 3), none, none, some (.istore_n 1, 1), some (.aload_n 0, 1), some (.getfield 10, 3), none, none, some (.iconst 0, 1), some (.putfield 72, 3), none, none], [some (.iload_n 1, 1), some (.ireturn, 1)]]
def am_c65 : am_cd := [[some (.aload_n 0, 1), some (.getfield 10, 3), none, none, some (.aload_n 0, 1), some (.getfield 23, 3), none, none, some (.invokevirtual 76, 3), none, none, some (.istore_n 1, 1), some (.iload_n 1, 1), some (.ifCond .ge 5, 3), none, none], [some (.iload_n 1, 1), some (.ireturn, 1), some (.aload_n 0, 1), some (.getfield 19, 3), none, none, some (.aload_n 0, 1), some (.getfield 23, 3), none, none, some (.invokevirtual 80, 3), none, none, some (.aload_n 0, 1), some (.getfield 31, 3), none], [none, some (.invokevirtual 83, 3), none, none, some (.aload_n 0, 1), some (.getfield 40, 3), none, none, some (.iconst 0, 1), some (.putfield 86, 3), none, none, some (.aload_n 0, 1), some (.getfield 47, 3), none, none], [some (.iconst 0, 1), some (.putfield 89, 3), none, none, some (.aload_n 0, 1), some (.getfield 51, 3), none, none, some (.iconst 0, 1), some (.putfield 89, 3), none, none, some (.aload_n 0, 1), some (.getfield 64, 3), none, none], [some (.iconst 0, 1), some (.putfield 93, 3), none, none, some (.aload_n 0, 1), some (.getfield 10, 3), none, none, some (.iconst 0, 1), some (.putfield 72, 3), none, none, some (.iload_n 1, 1), some (.ireturn, 1)]]
def am_c66 : am_cd := [[some (.aload_n 0, 1), some (.getfield 19, 3), none, none, some (.iload_n 1, 1), some (.invokevirtual 96, 3), none, none, some (.ifCond .eq 14, 3), none, none, some (.iload_n 2, 1), some (.iconst 1, 1), some (.if_icmp .lt 9, 3), none, none], [some (.iload_n 2, 1), some (.bipush 9, 2), none, some (.if_icmp .le 5, 3), none, none, some (.iconst (-1), 1), some (.ireturn, 1), some (.aload_n 0, 1), some (.getfield 31, 3), none, none, some (.getfield 99, 3), none, none, some (.iload_n 1, 1)], [some (.iaload, 1), some (.ifCond .le 6, 3), none, none, some (.bipush (-2), 2), none, some (.ireturn, 1), some (.aload_n 0, 1), some (.getfield 31, 3), none, none, some (.getfield 103, 3), none, none, some (.aload_n 0, 1), some (.getfield 31, 3)], [none, none, some (.invokevirtual 106, 3), none, none, some (.iadd, 1), some (.iload_n 2, 1), some (.iadd, 1), some (.sipush 999, 3), none, none, some (.if_icmp .le 6, 3), none, none, some (.bipush (-3), 2), none], [some (.ireturn, 1), some (.aload_n 0, 1), some (.getfield 40, 3), none, none, some (.aload_n 0, 1), some (.getfield 31, 3), none, none, some (.bipush (-9), 2), none, some (.invokevirtual 110, 3), none, none, some (.aload_n 0, 1), some (.getfield 31, 3)], [none, none, some (.iload_n 1, 1), some (.iload_n 2, 1), some (.invokevirtual 114, 3), none, none, some (.ireturn, 1)]]
def am_c67 : am_cd := [[some (.aload_n 0, 1), some (.getfield 31, 3), none, none, some (.iload_n 1, 1), some (.invokevirtual 118, 3), none, none, some (.ifCond .eq 13, 3), none, none, some (.iload_n 2, 1), some (.ifCond .lt 9, 3), none, none, some (.iload_n 2, 1)], [some (.bipush 99, 2), none, some (.if_icmp .le 5, 3), none, none, some (.iconst (-1), 1), some (.ireturn, 1), some (.aload_n 0, 1), some (.iload_n 1, 1), some (.iconst 1, 1), some (.iload_n 2, 1), some (.invokevirtual 121, 3), none, none, some (.ireturn, 1)]]
def am_c68 : am_cd := [[some (.aload_n 0, 1), some (.getfield 31, 3), none, none, some (.iload_n 1, 1), some (.invokevirtual 118, 3), none, none, some (.ifCond .ne 5, 3), none, none, some (.iconst (-1), 1), some (.ireturn, 1), some (.aload_n 0, 1), some (.iload_n 1, 1), some (.iconst 2, 1)], [some (.iconst 0, 1), some (.invokevirtual 121, 3), none, none, some (.ireturn, 1)]]
def am_c69 : am_cd := [[some (.aload_n 0, 1), some (.getfield 31, 3), none, none, some (.iload_n 1, 1), some (.invokevirtual 125, 3), none, none, some (.ifCond .eq 6, 3), none, none, some (.bipush (-2), 2), none, some (.ireturn, 1), some (.aload_n 0, 1), some (.getfield 40, 3)], [none, none, some (.aload_n 0, 1), some (.getfield 31, 3), none, none, some (.iload_n 1, 1), some (.invokevirtual 110, 3), none, none, some (.aload_n 0, 1), some (.getfield 31, 3), none, none, some (.iload_n 1, 1), some (.iload_n 2, 1)], [some (.iload_n 3, 1), some (.invokevirtual 129, 3), none, none, some (.aload_n 0, 1), some (.getfield 31, 3), none, none, some (.getfield 133, 3), none, none, some (.ireturn, 1)]]
def am_c70 : am_cd := [[some (.aload_n 0, 1), some (.getfield 19, 3), none, none, some (.iload_n 1, 1), some (.invokevirtual 136, 3), none, none, some (.ifCond .eq 14, 3), none, none, some (.iload_n 2, 1), some (.iconst 1, 1), some (.if_icmp .lt 9, 3), none, none], [some (.iload_n 2, 1), some (.bipush 16, 2), none, some (.if_icmp .le 5, 3), none, none, some (.iconst (-1), 1), some (.ireturn, 1), some (.aload_n 0, 1), some (.getfield 31, 3), none, none, some (.iload_n 1, 1), some (.invokevirtual 139, 3), none, none], [some (.ifCond .ne 6, 3), none, none, some (.bipush (-2), 2), none, some (.ireturn, 1), some (.aload_n 0, 1), some (.getfield 40, 3), none, none, some (.aload_n 0, 1), some (.getfield 31, 3), none, none, some (.bipush (-9), 2), none], [some (.invokevirtual 110, 3), none, none, some (.aload_n 0, 1), some (.getfield 31, 3), none, none, some (.iload_n 1, 1), some (.iload_n 2, 1), some (.invokevirtual 142, 3), none, none, some (.ireturn, 1)]]
def am_c71 : am_cd := [[some (.aload_n 0, 1), some (.getfield 19, 3), none, none, some (.iload_n 1, 1), some (.invokevirtual 96, 3), none, none, some (.ifCond .ne 5, 3), none, none, some (.iconst (-1), 1), some (.ireturn, 1), some (.aload_n 0, 1), some (.getfield 31, 3), none], [none, some (.getfield 99, 3), none, none, some (.iload_n 1, 1), some (.iaload, 1), some (.istore_n 2, 1), some (.iload_n 2, 1), some (.ifCond .ne 6, 3), none, none, some (.bipush (-2), 2), none, some (.ireturn, 1), some (.aload_n 0, 1), some (.getfield 40, 3)], [none, none, some (.aload_n 0, 1), some (.getfield 31, 3), none, none, some (.bipush (-9), 2), none, some (.invokevirtual 110, 3), none, none, some (.aload_n 0, 1), some (.getfield 31, 3), none, none, some (.iload_n 1, 1)], [some (.invokevirtual 145, 3), none, none, some (.aload_n 0, 1), some (.getfield 31, 3), none, none, some (.invokevirtual 149, 3), none, none, some (.iload_n 2, 1), some (.ireturn, 1)]]
def am_c72 : am_cd := [[some (.aload_n 0, 1), some (.getfield 40, 3), none, none, some (.aload_n 0, 1), some (.getfield 31, 3), none, none, some (.invokevirtual 152, 3), none, none, some (.ifCond .eq 13, 3), none, none, some (.aload_n 0, 1), some (.getfield 40, 3)], [none, none, some (.getfield 86, 3), none, none, some (.goto 5, 3), none, none, some (.bipush (-2), 2), none, some (.ireturn, 1)]]
def am_c73 : am_cd := [[some (.aload_n 0, 1), some (.getfield 31, 3), none, none, some (.iload_n 1, 1), some (.invokevirtual 118, 3), none, none, some (.ifCond .ne 5, 3), none, none, some (.iconst (-1), 1), some (.ireturn, 1), some (.iload_n 2, 1), some (.tableswitch 70 0 2 #[26, 35, 44], 26), none], [none, none, none, none, none, none, none, none, none, none, none, none, none, none, none, none], [none, none, none, none, none, none, none, none, some (.aload_n 0, 1), some (.getfield 31, 3), none, none, some (.iload_n 1, 1), some (.invokevirtual 125, 3), none, none], [some (.ireturn, 1), some (.aload_n 0, 1), some (.getfield 31, 3), none, none, some (.iload_n 1, 1), some (.invokevirtual 156, 3), none, none, some (.ireturn, 1), some (.aload_n 0, 1), some (.getfield 31, 3), none, none, some (.iload_n 1, 1), some (.invokevirtual 125, 3)], [none, none, some (.iconst 1, 1), some (.if_icmp .ne 14, 3), none, none, some (.aload_n 0, 1), some (.getfield 31, 3), none, none, some (.iload_n 1, 1), some (.invokevirtual 159, 3), none, none, some (.goto 5, 3), none], [none, some (.bipush (-9), 2), none, some (.ireturn, 1), some (.iconst (-1), 1), some (.ireturn, 1)]]
def am_c74 : am_cd := [[some (.aload_n 0, 1), some (.getfield 19, 3), none, none, some (.iload_n 1, 1), some (.invokevirtual 136, 3), none, none, some (.ifCond .ne 5, 3), none, none, some (.iconst (-1), 1), some (.ireturn, 1), some (.iload_n 2, 1), some (.tableswitch 119 0 6 #[42, 52, 62, 72, 81, 99, 109], 42), none], [none, none, none, none, none, none, none, none, none, none, none, none, none, none, none, none], [none, none, none, none, none, none, none, none, none, none, none, none, none, none, none, none], [none, none, none, none, none, none, none, none, some (.aload_n 0, 1), some (.getfield 19, 3), none, none, some (.getfield 162, 3), none, none, some (.iload_n 1, 1)], [some (.iaload, 1), some (.ireturn, 1), some (.aload_n 0, 1), some (.getfield 19, 3), none, none, some (.getfield 165, 3), none, none, some (.iload_n 1, 1), some (.iaload, 1), some (.ireturn, 1), some (.aload_n 0, 1), some (.getfield 31, 3), none, none], [some (.getfield 168, 3), none, none, some (.iload_n 1, 1), some (.iaload, 1), some (.ireturn, 1), some (.aload_n 0, 1), some (.getfield 31, 3), none, none, some (.iload_n 1, 1), some (.invokevirtual 171, 3), none, none, some (.ireturn, 1), some (.aload_n 0, 1)], [some (.getfield 31, 3), none, none, some (.getfield 133, 3), none, none, some (.aload_n 0, 1), some (.getfield 31, 3), none, none, some (.getfield 168, 3), none, none, some (.iload_n 1, 1), some (.iaload, 1), some (.isub, 1)], [some (.ireturn, 1), some (.aload_n 0, 1), some (.getfield 31, 3), none, none, some (.getfield 174, 3), none, none, some (.iload_n 1, 1), some (.iaload, 1), some (.ireturn, 1), some (.aload_n 0, 1), some (.getfield 31, 3), none, none, some (.getfield 177, 3)], [none, none, some (.iload_n 1, 1), some (.iaload, 1), some (.ireturn, 1), some (.iconst (-1), 1), some (.ireturn, 1)]]
def am_c75 : am_cd := [[some (.aload_n 0, 1), some (.getfield 19, 3), none, none, some (.iload_n 1, 1), some (.invokevirtual 96, 3), none, none, some (.ifCond .ne 5, 3), none, none, some (.iconst (-1), 1), some (.ireturn, 1), some (.iload_n 2, 1), some (.tableswitch 68 0 3 #[30, 40, 50, 59], 30), none], [none, none, none, none, none, none, none, none, none, none, none, none, none, none, none, none], [none, none, none, none, none, none, none, none, none, none, none, none, some (.aload_n 0, 1), some (.getfield 19, 3), none, none], [some (.getfield 180, 3), none, none, some (.iload_n 1, 1), some (.iaload, 1), some (.ireturn, 1), some (.aload_n 0, 1), some (.getfield 31, 3), none, none, some (.getfield 99, 3), none, none, some (.iload_n 1, 1), some (.iaload, 1), some (.ireturn, 1)], [some (.aload_n 0, 1), some (.getfield 31, 3), none, none, some (.iload_n 1, 1), some (.invokevirtual 183, 3), none, none, some (.ireturn, 1), some (.aload_n 0, 1), some (.getfield 31, 3), none, none, some (.iload_n 1, 1), some (.invokevirtual 186, 3), none], [none, some (.ireturn, 1), some (.iconst (-1), 1), some (.ireturn, 1)]]
def am_c76 : am_cd := [[some (.aload_n 0, 1), some (.getfield 31, 3), none, none, some (.invokevirtual 189, 3), none, none, some (.ireturn, 1)]]
def am_c77 : am_cd := [[some (.aload_n 0, 1), some (.getfield 31, 3), none, none, some (.invokevirtual 192, 3), none, none, some (.ireturn, 1)]]
def am_c78 : am_cd := [[some (.iload_n 1, 1), some (.invokestatic 195, 3), none, none, some (.ifCond .eq 12, 3), none, none, some (.iload_n 2, 1), some (.ifCond .lt 8, 3), none, none, some (.iload_n 2, 1), some (.iconst 3, 1), some (.if_icmp .le 5, 3), none, none], [some (.iconst (-1), 1), some (.ireturn, 1), some (.aload_n 0, 1), some (.getfield 57, 3), none, none, some (.aload_n 0, 1), some (.getfield 31, 3), none, none, some (.iload_n 1, 1), some (.invokevirtual 198, 3), none, none, some (.astore_n 3, 1), some (.iload_n 2, 1)], [some (.tableswitch 43 0 2 #[28, 33, 38], 28), none, none, none, none, none, none, none, none, none, none, none, none, none, none, none], [none, none, none, none, none, none, none, none, none, none, none, none, some (.aload_n 3, 1), some (.getfield 103, 3), none, none], [some (.ireturn, 1), some (.aload_n 3, 1), some (.invokevirtual 202, 3), none, none, some (.ireturn, 1), some (.aload_n 3, 1), some (.invokevirtual 205, 3), none, none, some (.ireturn, 1), some (.aload_n 3, 1), some (.getfield 208, 3), none, none, some (.ireturn, 1)]]
def am_c79 : am_cd := [[some (.iload_n 1, 1), some (.invokestatic 195, 3), none, none, some (.ifCond .eq 14, 3), none, none, some (.aload_n 0, 1), some (.getfield 19, 3), none, none, some (.iload_n 2, 1), some (.invokevirtual 96, 3), none, none, some (.ifCond .ne 5, 3)], [none, none, some (.iconst (-1), 1), some (.ireturn, 1), some (.aload_n 0, 1), some (.getfield 57, 3), none, none, some (.aload_n 0, 1), some (.getfield 31, 3), none, none, some (.iload_n 1, 1), some (.invokevirtual 198, 3), none, none], [some (.pop, 1), some (.aload_n 0, 1), some (.getfield 57, 3), none, none, some (.getfield 211, 3), none, none, some (.iload_n 2, 1), some (.iaload, 1), some (.ireturn, 1)]]
def am_c80 : am_cd := [[some (.iload_n 1, 1), some (.invokestatic 195, 3), none, none, some (.ifCond .eq 14, 3), none, none, some (.aload_n 0, 1), some (.getfield 19, 3), none, none, some (.iload_n 2, 1), some (.invokevirtual 136, 3), none, none, some (.ifCond .ne 5, 3)], [none, none, some (.iconst (-1), 1), some (.ireturn, 1), some (.aload_n 0, 1), some (.getfield 57, 3), none, none, some (.aload_n 0, 1), some (.getfield 31, 3), none, none, some (.iload_n 1, 1), some (.invokevirtual 198, 3), none, none], [some (.getfield 168, 3), none, none, some (.iload_n 2, 1), some (.iaload, 1), some (.ireturn, 1)]]
def am_c81 : am_cd := [[some (.iload_n 0, 1), some (.ifCond .lt 13, 3), none, none, some (.iload_n 0, 1), some (.bipush 60, 2), none, some (.if_icmp .gt 7, 3), none, none, some (.iconst 1, 1), some (.goto 4, 3), none, none, some (.iconst 0, 1), some (.ireturn, 1)]]
def am_c82 : am_cd := [[some (.iload_n 1, 1), some (.invokestatic 195, 3), none, none, some (.ifCond .eq 14, 3), none, none, some (.iload_n 2, 1), some (.ifCond .lt 10, 3), none, none, some (.iload_n 2, 1), some (.sipush 9999, 3), none, none, some (.if_icmp .le 5, 3)], [none, none, some (.iconst (-1), 1), some (.ireturn, 1), some (.aload_n 0, 1), some (.getfield 64, 3), none, none, some (.iload_n 1, 1), some (.iload_n 2, 1), some (.invokevirtual 214, 3), none, none, some (.ifCond .eq 13, 3), none, none], [some (.aload_n 0, 1), some (.getfield 64, 3), none, none, some (.getfield 93, 3), none, none, some (.goto 5, 3), none, none, some (.bipush (-3), 2), none, some (.ireturn, 1)]]
def am_c83 : am_cd := [[some (.aload_n 0, 1), some (.getfield 64, 3), none, none, some (.getfield 93, 3), none, none, some (.istore_n 1, 1), some (.aload_n 0, 1), some (.getfield 64, 3), none, none, some (.iconst 0, 1), some (.putfield 93, 3), none, none], [some (.iload_n 1, 1), some (.ireturn, 1)]]
def am_c84 : am_cd := [[some (.aload_n 0, 1), some (.getfield 57, 3), none, none, some (.aload_n 0, 1), some (.getfield 31, 3), none, none, some (.aload_n 0, 1), some (.getfield 64, 3), none, none, some (.invokevirtual 218, 3), none, none, some (.ireturn, 1)]]
def am_c85 : am_cd := [[some (.aload_n 0, 1), some (.getfield 57, 3), none, none, some (.aload_n 0, 1), some (.getfield 31, 3), none, none, some (.aload_n 0, 1), some (.getfield 64, 3), none, none, some (.invokevirtual 218, 3), none, none, some (.istore_n 1, 1)], [some (.iload_n 1, 1), some (.invokestatic 222, 3), none, none, some (.iconst 2, 1), some (.if_icmp .ge 8, 3), none, none, some (.bipush (-9), 2), none, some (.goto 15, 3), none, none, some (.aload_n 0, 1), some (.getfield 57, 3), none], [none, some (.aload_n 0, 1), some (.getfield 31, 3), none, none, some (.iload_n 1, 1), some (.invokevirtual 227, 3), none, none, some (.ireturn, 1)]]
def am_c86 : am_cd := [[some (.iload_n 1, 1), some (.ifCond .eq 10, 3), none, none, some (.iload_n 1, 1), some (.iconst 1, 1), some (.if_icmp .eq 5, 3), none, none, some (.iconst (-1), 1), some (.ireturn, 1), some (.aload_n 0, 1), some (.iload_n 1, 1), some (.invokevirtual 231, 3), none, none], [some (.astore_n 2, 1), some (.aload_n 2, 1), some (.getfield 235, 3), none, none, some (.aload_n 0, 1), some (.getfield 31, 3), none, none, some (.invokevirtual 238, 3), none, none, some (.aload_n 2, 1), some (.iconst 1, 1), some (.putfield 89, 3), none], [none, some (.aload_n 0, 1), some (.getfield 31, 3), none, none, some (.getfield 103, 3), none, none, some (.ireturn, 1)]]
def am_c87 : am_cd := [[some (.iload_n 1, 1), some (.ifCond .eq 10, 3), none, none, some (.iload_n 1, 1), some (.iconst 1, 1), some (.if_icmp .eq 5, 3), none, none, some (.iconst (-1), 1), some (.ireturn, 1), some (.aload_n 0, 1), some (.iload_n 1, 1), some (.invokevirtual 231, 3), none, none], [some (.astore_n 2, 1), some (.aload_n 2, 1), some (.getfield 89, 3), none, none, some (.ifCond .ne 6, 3), none, none, some (.bipush (-2), 2), none, some (.ireturn, 1), some (.aload_n 0, 1), some (.getfield 31, 3), none, none, some (.aload_n 2, 1)], [some (.getfield 235, 3), none, none, some (.invokevirtual 238, 3), none, none, some (.aload_n 0, 1), some (.getfield 40, 3), none, none, some (.iconst 0, 1), some (.putfield 86, 3), none, none, some (.aload_n 0, 1), some (.getfield 31, 3)], [none, none, some (.getfield 103, 3), none, none, some (.ireturn, 1)]]
def am_c88 : am_cd := [[some (.iload_n 1, 1), some (.ifCond .ne 10, 3), none, none, some (.aload_n 0, 1), some (.getfield 47, 3), none, none, some (.goto 7, 3), none, none, some (.aload_n 0, 1), some (.getfield 51, 3), none, none, some (.areturn, 1)]]
def am_c89 : am_cd := [[some (.iload_n 1, 1), some (.tableswitch 147 0 10 #[59, 67, 75, 83, 91, 99, 107, 115, 123, 131, 139], 59), none, none, none, none, none, none, none, none, none, none, none, none, none, none], [none, none, none, none, none, none, none, none, none, none, none, none, none, none, none, none], [none, none, none, none, none, none, none, none, none, none, none, none, none, none, none, none], [none, none, none, none, none, none, none, none, none, none, none, none, some (.aload_n 0, 1), some (.getfield 19, 3), none, none], [some (.getfield 241, 3), none, none, some (.ireturn, 1), some (.aload_n 0, 1), some (.getfield 19, 3), none, none, some (.getfield 244, 3), none, none, some (.ireturn, 1), some (.aload_n 0, 1), some (.getfield 19, 3), none, none], [some (.getfield 247, 3), none, none, some (.ireturn, 1), some (.aload_n 0, 1), some (.getfield 31, 3), none, none, some (.getfield 103, 3), none, none, some (.ireturn, 1), some (.aload_n 0, 1), some (.getfield 31, 3), none, none], [some (.getfield 133, 3), none, none, some (.ireturn, 1), some (.aload_n 0, 1), some (.getfield 31, 3), none, none, some (.invokevirtual 202, 3), none, none, some (.ireturn, 1), some (.aload_n 0, 1), some (.getfield 31, 3), none, none], [some (.invokevirtual 250, 3), none, none, some (.ireturn, 1), some (.aload_n 0, 1), some (.getfield 31, 3), none, none, some (.getfield 208, 3), none, none, some (.ireturn, 1), some (.aload_n 0, 1), some (.getfield 64, 3), none, none], [some (.getfield 93, 3), none, none, some (.ireturn, 1), some (.aload_n 0, 1), some (.getfield 10, 3), none, none, some (.getfield 72, 3), none, none, some (.ireturn, 1), some (.aload_n 0, 1), some (.getfield 40, 3), none, none], [some (.getfield 86, 3), none, none, some (.ireturn, 1), some (.iconst (-1), 1), some (.ireturn, 1)]]
def am_c90 : am_cd := [[some (.aload_n 0, 1), some (.invokespecial 1, 3), none, none, some (.aload_n 0, 1), some (.bipush 8, 2), none, some (.putfield 7, 3), none, none, some (.aload_n 0, 1), some (.iconst 3, 1), some (.newarray .int, 2), none, some (.putfield 13, 3), none], [none, some (.aload_n 0, 1), some (.bipush 6, 2), none, some (.newarray .int, 2), none, some (.putfield 17, 3), none, none, some (.aload_n 0, 1), some (.bipush 6, 2), none, some (.newarray .int, 2), none, some (.putfield 20, 3), none], [none, some (.aload_n 0, 1), some (.sipush 1026, 3), none, none, some (.newarray .int, 2), none, some (.putfield 23, 3), none, none, some (.aload_n 0, 1), some (.sipush 6156, 3), none, none, some (.newarray .int, 2), none], [some (.putfield 26, 3), none, none, some (.aload_n 0, 1), some (.sipush 2052, 3), none, none, some (.newarray .int, 2), none, some (.putfield 29, 3), none, none, some (.aload_n 0, 1), some (.iconst 2, 1), some (.newarray .boolean, 2), none], [some (.putfield 32, 3), none, none, some (.aload_n 0, 1), some (.bipush 6, 2), none, some (.newarray .int, 2), none, some (.putfield 36, 3), none, none, some (.aload_n 0, 1), some (.bipush 6, 2), none, some (.newarray .int, 2), none], [some (.putfield 39, 3), none, none, some (.aload_n 0, 1), some (.bipush 120, 2), none, some (.newarray .int, 2), none, some (.putfield 42, 3), none, none, some (.aload_n 0, 1), some (.iconst 3, 1), some (.newarray .int, 2), none, some (.putfield 45, 3)], [none, none, some (.aload_n 0, 1), some (.bipush 6, 2), none, some (.newarray .int, 2), none, some (.putfield 48, 3), none, none, some (.aload_n 0, 1), some (.bipush 6, 2), none, some (.newarray .int, 2), none, some (.putfield 51, 3)], [none, none, some (.aload_n 0, 1), some (.bipush 61, 2), none, some (.newarray .int, 2), none, some (.putfield 54, 3), none, none, some (.aload_n 0, 1), some (.bipush 61, 2), none, some (.newarray .int, 2), none, some (.putfield 57, 3)], [none, none, some (.aload_n 0, 1), some (.sipush 366, 3), none, none, some (.newarray .int, 2), none, some (.putfield 60, 3), none, none, some (.aload_n 0, 1), some (.sipush 183, 3), none, none, some (.newarray .int, 2)], [none, some (.putfield 63, 3), none, none, some (.aload_n 0, 1), some (.iconst 3, 1), some (.newarray .int, 2), none, some (.putfield 66, 3), none, none, some (.aload_n 0, 1), some (.iconst 3, 1), some (.newarray .int, 2), none, some (.putfield 69, 3)], [none, none, some (.aload_n 0, 1), some (.bipush 6, 2), none, some (.newarray .int, 2), none, some (.putfield 72, 3), none, none, some (.return_, 1)]]
def am_c91 : am_cd := [[some (.iload_n 0, 1), some (.iload_n 1, 1), some (.if_icmp .lt 12, 3), none, none, some (.iload_n 0, 1), some (.iload_n 2, 1), some (.if_icmp .gt 7, 3), none, none, some (.iconst 1, 1), some (.goto 4, 3), none, none, some (.iconst 0, 1), some (.ireturn, 1)]]
def am_c92 : am_cd := [[some (.iload_n 0, 1), some (.iload_n 1, 1), some (.ishr, 1), some (.iconst 1, 1), some (.iand, 1), some (.iconst 1, 1), some (.if_icmp .ne 7, 3), none, none, some (.iconst 1, 1), some (.goto 4, 3), none, none, some (.iconst 0, 1), some (.ireturn, 1)]]
def am_c93 : am_cd := [[some (.aload_n 0, 1), some (.getfield 75, 3), none, none, some (.aload_n 0, 1), some (.getfield 78, 3), none, none, some (.if_icmp .ge 30, 3), none, none, some (.aload_n 0, 1), some (.getfield 42, 3), none, none, some (.aload_n 0, 1)], [some (.getfield 75, 3), none, none, some (.iaload, 1), some (.bipush 32, 2), none, some (.if_icmp .ne 16, 3), none, none, some (.aload_n 0, 1), some (.dup, 1), some (.getfield 75, 3), none, none, some (.iconst 1, 1), some (.iadd, 1)], [some (.putfield 75, 3), none, none, some (.goto (-35), 3), none, none, some (.aload_n 0, 1), some (.aload_n 0, 1), some (.getfield 75, 3), none, none, some (.putfield 81, 3), none, none, some (.return_, 1)]]
def am_c94 : am_cd := [[some (.aload_n 0, 1), some (.getfield 75, 3), none, none, some (.aload_n 0, 1), some (.getfield 78, 3), none, none, some (.if_icmp .ge 24, 3), none, none, some (.aload_n 0, 1), some (.getfield 42, 3), none, none, some (.aload_n 0, 1)], [some (.getfield 75, 3), none, none, some (.iaload, 1), some (.iload_n 1, 1), some (.iload_n 2, 1), some (.invokestatic 84, 3), none, none, some (.ifCond .eq 7, 3), none, none, some (.iconst 1, 1), some (.goto 4, 3), none, none], [some (.iconst 0, 1), some (.ireturn, 1)]]
def am_c95 : am_cd := [[some (.aload_n 0, 1), some (.invokevirtual 88, 3), none, none, some (.aload_n 0, 1), some (.bipush 59, 2), none, some (.bipush 59, 2), none, some (.invokevirtual 91, 3), none, none, some (.istore_n 1, 1), some (.aload_n 0, 1), some (.dup, 1), some (.getfield 75, 3)], [none, none, some (.iload_n 1, 1), some (.ifCond .eq 7, 3), none, none, some (.iconst 1, 1), some (.goto 4, 3), none, none, some (.iconst 0, 1), some (.iadd, 1), some (.putfield 75, 3), none, none, some (.iload_n 1, 1)], [some (.ireturn, 1)]]
def am_c96 : am_cd := [[some (.aload_n 0, 1), some (.invokevirtual 88, 3), none, none, some (.iconst 0, 1), some (.istore_n 3, 1), some (.iconst 0, 1), some (.istore 4, 2), none, some (.aload_n 0, 1), some (.bipush 48, 2), none, some (.bipush 57, 2), none, some (.invokevirtual 91, 3), none], [none, some (.ifCond .eq 48, 3), none, none, some (.iload_n 3, 1), some (.bipush 99, 2), none, some (.if_icmp .le 8, 3), none, none, some (.bipush 100, 2), none, some (.goto 20, 3), none, none, some (.bipush 10, 2)], [none, some (.iload_n 3, 1), some (.imul, 1), some (.aload_n 0, 1), some (.getfield 42, 3), none, none, some (.aload_n 0, 1), some (.getfield 75, 3), none, none, some (.iaload, 1), some (.iadd, 1), some (.bipush 48, 2), none, some (.isub, 1)], [some (.istore_n 3, 1), some (.aload_n 0, 1), some (.dup, 1), some (.getfield 75, 3), none, none, some (.iconst 1, 1), some (.iadd, 1), some (.putfield 75, 3), none, none, some (.iinc 4 1, 3), none, none, some (.goto (-53), 3), none], [none, some (.iload 4, 2), none, some (.ifCond .le 42, 3), none, none, some (.iload_n 3, 1), some (.bipush 99, 2), none, some (.if_icmp .gt 36, 3), none, none, some (.iload 4, 2), none, some (.iconst 1, 1), some (.if_icmp .eq 17, 3)], [none, none, some (.aload_n 0, 1), some (.getfield 42, 3), none, none, some (.aload_n 0, 1), some (.getfield 81, 3), none, none, some (.iaload, 1), some (.bipush 48, 2), none, some (.if_icmp .eq 16, 3), none, none], [some (.iload_n 3, 1), some (.iload_n 1, 1), some (.iload_n 2, 1), some (.invokestatic 84, 3), none, none, some (.ifCond .eq 7, 3), none, none, some (.iconst 1, 1), some (.goto 4, 3), none, none, some (.iconst 0, 1), some (.istore 5, 2), none], [some (.iload 5, 2), none, some (.ifCond .eq 7, 3), none, none, some (.iload_n 3, 1), some (.goto 4, 3), none, none, some (.iconst (-1), 1), some (.ireturn, 1)]]
def am_c97 : am_cd := [[some (.aload_n 0, 1), some (.getfield 75, 3), none, none, some (.aload_n 0, 1), some (.getfield 81, 3), none, none, some (.isub, 1), some (.iconst 5, 1), some (.if_icmp .ne 35, 3), none, none, some (.aload_n 0, 1), some (.getfield 42, 3), none], [none, some (.aload_n 0, 1), some (.getfield 81, 3), none, none, some (.iaload, 1), some (.iload_n 1, 1), some (.if_icmp .ne 22, 3), none, none, some (.aload_n 0, 1), some (.getfield 42, 3), none, none, some (.aload_n 0, 1), some (.getfield 81, 3)], [none, none, some (.iconst 1, 1), some (.iadd, 1), some (.iaload, 1), some (.iload_n 2, 1), some (.if_icmp .ne 7, 3), none, none, some (.iconst 1, 1), some (.goto 4, 3), none, none, some (.iconst 0, 1), some (.istore 6, 2), none], [some (.iload 6, 2), none, some (.ifCond .eq 54, 3), none, none, some (.aload_n 0, 1), some (.getfield 42, 3), none, none, some (.aload_n 0, 1), some (.getfield 81, 3), none, none, some (.iconst 2, 1), some (.iadd, 1), some (.iaload, 1)], [some (.iload_n 3, 1), some (.if_icmp .ne 39, 3), none, none, some (.aload_n 0, 1), some (.getfield 42, 3), none, none, some (.aload_n 0, 1), some (.getfield 81, 3), none, none, some (.iconst 3, 1), some (.iadd, 1), some (.iaload, 1), some (.iload 4, 2)], [none, some (.if_icmp .ne 23, 3), none, none, some (.aload_n 0, 1), some (.getfield 42, 3), none, none, some (.aload_n 0, 1), some (.getfield 81, 3), none, none, some (.iconst 4, 1), some (.iadd, 1), some (.iaload, 1), some (.iload 5, 2)], [none, some (.if_icmp .ne 7, 3), none, none, some (.iconst 1, 1), some (.goto 4, 3), none, none, some (.iconst 0, 1), some (.ireturn, 1)]]
def am_c98 : am_cd := [[some (.aload_n 0, 1), some (.invokevirtual 88, 3), none, none, some (.aload_n 0, 1), some (.bipush 97, 2), none, some (.bipush 122, 2), none, some (.invokevirtual 91, 3), none, none, some (.ifCond .eq 16, 3), none, none, some (.aload_n 0, 1)], [some (.dup, 1), some (.getfield 75, 3), none, none, some (.iconst 1, 1), some (.iadd, 1), some (.putfield 75, 3), none, none, some (.goto (-21), 3), none, none, some (.aload_n 0, 1), some (.bipush 115, 2), none, some (.bipush 108, 2)], [none, some (.bipush 111, 2), none, some (.bipush 116, 2), none, some (.bipush 115, 2), none, some (.invokevirtual 95, 3), none, none, some (.ifCond .eq 17, 3), none, none, some (.aload_n 0, 1), some (.getfield 99, 3), none], [none, some (.ifCond .eq 8, 3), none, none, some (.bipush (-9), 2), none, some (.goto 4, 3), none, none, some (.iconst 0, 1), some (.ireturn, 1), some (.aload_n 0, 1), some (.bipush 109, 2), none, some (.bipush 97, 2), none], [some (.bipush 107, 2), none, some (.bipush 101, 2), none, some (.bipush 114, 2), none, some (.invokevirtual 95, 3), none, none, some (.ifCond .eq 18, 3), none, none, some (.aload_n 0, 1), some (.getfield 103, 3), none, none], [some (.iconst 3, 1), some (.if_icmp .ge 7, 3), none, none, some (.iconst 1, 1), some (.goto 5, 3), none, none, some (.bipush (-9), 2), none, some (.ireturn, 1), some (.aload_n 0, 1), some (.bipush 116, 2), none, some (.bipush 97, 2), none], [some (.bipush 107, 2), none, some (.bipush 101, 2), none, some (.bipush 114, 2), none, some (.invokevirtual 95, 3), none, none, some (.ifCond .eq 16, 3), none, none, some (.aload_n 0, 1), some (.getfield 106, 3), none, none], [some (.bipush 6, 2), none, some (.if_icmp .ge 7, 3), none, none, some (.iconst 2, 1), some (.goto 5, 3), none, none, some (.bipush (-9), 2), none, some (.ireturn, 1)]]
def am_c99 : am_cd := [[some (.aload_n 0, 1), some (.aload_n 0, 1), some (.iconst 2, 1), some (.bipush 16, 2), none, some (.invokevirtual 109, 3), none, none, some (.putfield 113, 3), none, none, some (.aload_n 0, 1), some (.iconst 1, 1), some (.putfield 99, 3), none, none], [some (.aload_n 0, 1), some (.getfield 113, 3), none, none, some (.ifCond .le 14, 3), none, none, some (.aload_n 0, 1), some (.invokevirtual 116, 3), none, none, some (.ifCond .eq 7, 3), none, none, some (.iconst 1, 1), some (.goto 4, 3)], [none, none, some (.iconst 0, 1), some (.ireturn, 1)]]
def am_c100 : am_cd := [[some (.aload_n 0, 1), some (.getfield 45, 3), none, none, some (.aload_n 0, 1), some (.getfield 103, 3), none, none, some (.aload_n 0, 1), some (.iconst 0, 1), some (.bipush 9, 2), none, some (.invokevirtual 109, 3), none, none, some (.iastore, 1)], [some (.aload_n 0, 1), some (.getfield 45, 3), none, none, some (.aload_n 0, 1), some (.getfield 103, 3), none, none, some (.iaload, 1), some (.ifCond .lt 10, 3), none, none, some (.aload_n 0, 1), some (.invokevirtual 116, 3), none, none], [some (.ifCond .ne 5, 3), none, none, some (.iconst 0, 1), some (.ireturn, 1), some (.aload_n 0, 1), some (.dup, 1), some (.getfield 103, 3), none, none, some (.iconst 1, 1), some (.iadd, 1), some (.putfield 103, 3), none, none, some (.iconst 1, 1)], [some (.ireturn, 1)]]
def am_c101 : am_cd := [[some (.aload_n 0, 1), some (.getfield 48, 3), none, none, some (.aload_n 0, 1), some (.getfield 106, 3), none, none, some (.aload_n 0, 1), some (.iconst 1, 1), some (.bipush 9, 2), none, some (.invokevirtual 109, 3), none, none, some (.iastore, 1)], [some (.aload_n 0, 1), some (.getfield 51, 3), none, none, some (.aload_n 0, 1), some (.getfield 106, 3), none, none, some (.aload_n 0, 1), some (.getfield 48, 3), none, none, some (.aload_n 0, 1), some (.getfield 106, 3), none, none], [some (.iaload, 1), some (.ifCond .ge 7, 3), none, none, some (.iconst (-1), 1), some (.goto 16, 3), none, none, some (.aload_n 0, 1), some (.iconst 0, 1), some (.iconst 1, 1), some (.aload_n 0, 1), some (.getfield 106, 3), none, none, some (.ishl, 1)], [some (.iconst 1, 1), some (.isub, 1), some (.invokevirtual 109, 3), none, none, some (.iastore, 1), some (.aload_n 0, 1), some (.getfield 51, 3), none, none, some (.aload_n 0, 1), some (.getfield 106, 3), none, none, some (.iaload, 1), some (.ifCond .lt 10, 3)], [none, none, some (.aload_n 0, 1), some (.invokevirtual 116, 3), none, none, some (.ifCond .ne 5, 3), none, none, some (.iconst 0, 1), some (.ireturn, 1), some (.aload_n 0, 1), some (.dup, 1), some (.getfield 106, 3), none, none], [some (.iconst 1, 1), some (.iadd, 1), some (.putfield 106, 3), none, none, some (.iconst 1, 1), some (.ireturn, 1)]]
def am_c102 : am_cd := [[some (.aload_n 0, 1), some (.iconst 0, 1), some (.putfield 75, 3), none, none, some (.aload_n 0, 1), some (.iconst 0, 1), some (.putfield 99, 3), none, none, some (.aload_n 0, 1), some (.bipush 8, 2), none, some (.putfield 113, 3), none, none], [some (.aload_n 0, 1), some (.iconst 0, 1), some (.putfield 103, 3), none, none, some (.aload_n 0, 1), some (.iconst 0, 1), some (.putfield 106, 3), none, none, some (.iconst 0, 1), some (.istore_n 1, 1), some (.aload_n 0, 1), some (.invokevirtual 88, 3), none, none], [some (.aload_n 0, 1), some (.getfield 75, 3), none, none, some (.aload_n 0, 1), some (.getfield 78, 3), none, none, some (.if_icmp .ge 65, 3), none, none, some (.aload_n 0, 1), some (.invokevirtual 120, 3), none, none, some (.istore_n 2, 1)], [some (.iload_n 2, 1), some (.ifCond .ne 10, 3), none, none, some (.aload_n 0, 1), some (.invokevirtual 124, 3), none, none, some (.goto 32, 3), none, none, some (.iload_n 2, 1), some (.iconst 1, 1), some (.if_icmp .ne 10, 3), none, none], [some (.aload_n 0, 1), some (.invokevirtual 127, 3), none, none, some (.goto 20, 3), none, none, some (.iload_n 2, 1), some (.iconst 2, 1), some (.if_icmp .ne 14, 3), none, none, some (.aload_n 0, 1), some (.invokevirtual 130, 3), none, none], [some (.ifCond .eq 7, 3), none, none, some (.iconst 1, 1), some (.goto 4, 3), none, none, some (.iconst 0, 1), some (.istore_n 3, 1), some (.iload_n 3, 1), some (.ifCond .ne 5, 3), none, none, some (.iconst (-1), 1), some (.ireturn, 1), some (.iinc 1 1, 3)], [none, none, some (.aload_n 0, 1), some (.invokevirtual 88, 3), none, none, some (.goto (-70), 3), none, none, some (.iload_n 1, 1), some (.ireturn, 1)]]
def am_c103 : am_cd := [[some (.iload_n 1, 1), some (.iconst 0, 1), some (.sipush 255, 3), none, none, some (.invokestatic 84, 3), none, none, some (.ifCond .ne 5, 3), none, none, some (.iconst (-1), 1), some (.ireturn, 1), some (.aload_n 0, 1), some (.getfield 78, 3), none], [none, some (.bipush 120, 2), none, some (.if_icmp .ne 6, 3), none, none, some (.bipush (-3), 2), none, some (.ireturn, 1), some (.aload_n 0, 1), some (.getfield 42, 3), none, none, some (.aload_n 0, 1), some (.getfield 78, 3), none], [none, some (.iload_n 1, 1), some (.iastore, 1), some (.aload_n 0, 1), some (.dup, 1), some (.getfield 78, 3), none, none, some (.iconst 1, 1), some (.iadd, 1), some (.putfield 78, 3), none, none, some (.aload_n 0, 1), some (.getfield 78, 3), none], [none, some (.ireturn, 1)]]
def am_c104 : am_cd := [[some (.aload_n 0, 1), some (.getfield 78, 3), none, none, some (.istore_n 1, 1), some (.aload_n 0, 1), some (.iconst 0, 1), some (.putfield 78, 3), none, none, some (.iload_n 1, 1), some (.ireturn, 1)]]
def am_c105 : am_cd := [[some (.aload_n 0, 1), some (.invokevirtual 133, 3), none, none, some (.istore_n 1, 1), some (.iload_n 1, 1), some (.ifCond .ge 11, 3), none, none, some (.bipush (-10), 2), none, some (.aload_n 0, 1), some (.getfield 81, 3), none, none, some (.isub, 1)], [some (.ireturn, 1), some (.aload_n 0, 1), some (.aload_n 0, 1), some (.getfield 113, 3), none, none, some (.putfield 7, 3), none, none, some (.aload_n 0, 1), some (.aload_n 0, 1), some (.getfield 103, 3), none, none, some (.putfield 136, 3), none], [none, some (.aload_n 0, 1), some (.aload_n 0, 1), some (.getfield 106, 3), none, none, some (.putfield 139, 3), none, none, some (.iconst 0, 1), some (.istore_n 2, 1), some (.iload_n 2, 1), some (.iconst 3, 1), some (.if_icmp .ge 21, 3), none, none], [some (.aload_n 0, 1), some (.getfield 13, 3), none, none, some (.iload_n 2, 1), some (.aload_n 0, 1), some (.getfield 45, 3), none, none, some (.iload_n 2, 1), some (.iaload, 1), some (.iastore, 1), some (.iinc 2 1, 3), none, none, some (.goto (-20), 3)], [none, none, some (.iconst 0, 1), some (.istore_n 2, 1), some (.iload_n 2, 1), some (.bipush 6, 2), none, some (.if_icmp .ge 33, 3), none, none, some (.aload_n 0, 1), some (.getfield 17, 3), none, none, some (.iload_n 2, 1), some (.aload_n 0, 1)], [some (.getfield 48, 3), none, none, some (.iload_n 2, 1), some (.iaload, 1), some (.iastore, 1), some (.aload_n 0, 1), some (.getfield 20, 3), none, none, some (.iload_n 2, 1), some (.aload_n 0, 1), some (.getfield 51, 3), none, none, some (.iload_n 2, 1)], [some (.iaload, 1), some (.iastore, 1), some (.iinc 2 1, 3), none, none, some (.goto (-33), 3), none, none, some (.iconst 0, 1), some (.istore_n 2, 1), some (.iload_n 2, 1), some (.sipush 1026, 3), none, none, some (.if_icmp .ge 16, 3), none], [none, some (.aload_n 0, 1), some (.getfield 23, 3), none, none, some (.iload_n 2, 1), some (.iconst 0, 1), some (.iastore, 1), some (.iinc 2 1, 3), none, none, some (.goto (-17), 3), none, none, some (.aload_n 0, 1), some (.iconst 0, 1)], [some (.putfield 142, 3), none, none, some (.aload_n 0, 1), some (.iconst 0, 1), some (.putfield 145, 3), none, none, some (.aload_n 0, 1), some (.getfield 32, 3), none, none, some (.iconst 0, 1), some (.iconst 0, 1), some (.bastore, 1), some (.aload_n 0, 1)], [some (.getfield 32, 3), none, none, some (.iconst 1, 1), some (.iconst 0, 1), some (.bastore, 1), some (.aload_n 0, 1), some (.iconst 0, 1), some (.putfield 78, 3), none, none, some (.iload_n 1, 1), some (.ireturn, 1)]]
def am_c106 : am_cd := [[some (.iload_n 1, 1), some (.iconst 0, 1), some (.aload_n 0, 1), some (.getfield 136, 3), none, none, some (.iconst 1, 1), some (.isub, 1), some (.invokestatic 84, 3), none, none, some (.ireturn, 1)]]
def am_c107 : am_cd := [[some (.iload_n 1, 1), some (.iconst 0, 1), some (.aload_n 0, 1), some (.getfield 139, 3), none, none, some (.iconst 1, 1), some (.isub, 1), some (.invokestatic 84, 3), none, none, some (.ireturn, 1)]]
def am_c108 : am_cd := [[some (.iload_n 1, 1), some (.iconst 0, 1), some (.aload_n 0, 1), some (.getfield 23, 3), none, none, some (.iconst 0, 1), some (.iaload, 1), some (.iconst 1, 1), some (.isub, 1), some (.invokestatic 84, 3), none, none, some (.ireturn, 1)]]
def am_c109 : am_cd := [[some (.aload_n 0, 1), some (.getfield 23, 3), none, none, some (.bipush 26, 2), none, some (.iload_n 1, 1), some (.iadd, 1), some (.iaload, 1), some (.iconst 3, 1), some (.iand, 1), some (.ireturn, 1)]]
def am_c110 : am_cd := [[some (.iconst 0, 1), some (.istore_n 1, 1), some (.iload_n 1, 1), some (.aload_n 0, 1), some (.getfield 23, 3), none, none, some (.iconst 0, 1), some (.iaload, 1), some (.if_icmp .ge 17, 3), none, none, some (.aload_n 0, 1), some (.iload_n 1, 1), some (.invokevirtual 148, 3), none], [none, some (.ifCond .eq 9, 3), none, none, some (.iinc 1 1, 3), none, none, some (.goto (-21), 3), none, none, some (.iload_n 1, 1), some (.ireturn, 1)]]
def am_c111 : am_cd := [[some (.aload_n 0, 1), some (.getfield 23, 3), none, none, some (.iconst 0, 1), some (.iaload, 1), some (.istore_n 1, 1), some (.iconst 0, 1), some (.istore_n 2, 1), some (.iload_n 2, 1), some (.aload_n 0, 1), some (.getfield 139, 3), none, none, some (.if_icmp .ge 34, 3), none], [none, some (.aload_n 0, 1), some (.getfield 23, 3), none, none, some (.iconst 1, 1), some (.iload_n 2, 1), some (.iadd, 1), some (.iaload, 1), some (.iload_n 1, 1), some (.if_icmp .ge 14, 3), none, none, some (.aload_n 0, 1), some (.getfield 23, 3), none], [none, some (.iconst 1, 1), some (.iload_n 2, 1), some (.iadd, 1), some (.iaload, 1), some (.goto 4, 3), none, none, some (.iload_n 1, 1), some (.istore_n 1, 1), some (.iinc 2 1, 3), none, none, some (.goto (-36), 3), none, none], [some (.iload_n 1, 1), some (.ireturn, 1)]]
def am_c112 : am_cd := [[some (.aload_n 0, 1), some (.getfield 7, 3), none, none, some (.aload_n 0, 1), some (.invokevirtual 152, 3), none, none, some (.iadd, 1), some (.aload_n 0, 1), some (.getfield 23, 3), none, none, some (.iconst 0, 1), some (.iaload, 1), some (.isub, 1)], [some (.ireturn, 1)]]
def am_c113 : am_cd := [[some (.aload_n 0, 1), some (.getfield 20, 3), none, none, some (.iload_n 1, 1), some (.iaload, 1), some (.ifCond .ne 8, 3), none, none, some (.aload_n 0, 1), some (.invokevirtual 155, 3), none, none, some (.ireturn, 1), some (.sipush 1000, 3), none], [none, some (.istore_n 2, 1), some (.iconst 0, 1), some (.istore_n 3, 1), some (.iload_n 3, 1), some (.aload_n 0, 1), some (.getfield 139, 3), none, none, some (.if_icmp .ge 47, 3), none, none, some (.aload_n 0, 1), some (.getfield 20, 3), none, none], [some (.iload_n 1, 1), some (.iaload, 1), some (.iload_n 3, 1), some (.invokestatic 158, 3), none, none, some (.ifCond .eq 26, 3), none, none, some (.aload_n 0, 1), some (.getfield 23, 3), none, none, some (.iconst 1, 1), some (.iload_n 3, 1), some (.iadd, 1)], [some (.iaload, 1), some (.iload_n 2, 1), some (.if_icmp .ge 14, 3), none, none, some (.aload_n 0, 1), some (.getfield 23, 3), none, none, some (.iconst 1, 1), some (.iload_n 3, 1), some (.iadd, 1), some (.iaload, 1), some (.goto 4, 3), none, none], [some (.iload_n 2, 1), some (.istore_n 2, 1), some (.iinc 3 1, 3), none, none, some (.goto (-49), 3), none, none, some (.iload_n 2, 1), some (.ireturn, 1)]]
def am_c114 : am_cd := [[some (.bipush (-9), 2), none, some (.istore_n 2, 1), some (.iconst 0, 1), some (.istore_n 3, 1), some (.iload_n 3, 1), some (.aload_n 0, 1), some (.getfield 23, 3), none, none, some (.bipush 19, 2), none, some (.iaload, 1), some (.if_icmp .ge 28, 3), none, none], [some (.aload_n 0, 1), some (.getfield 23, 3), none, none, some (.bipush 20, 2), none, some (.iload_n 3, 1), some (.iadd, 1), some (.iaload, 1), some (.iload_n 1, 1), some (.if_icmp .ne 7, 3), none, none, some (.iload_n 3, 1), some (.goto 4, 3), none], [none, some (.iload_n 2, 1), some (.istore_n 2, 1), some (.iinc 3 1, 3), none, none, some (.goto (-33), 3), none, none, some (.iload_n 2, 1), some (.ireturn, 1)]]
def am_c115 : am_cd := [[some (.iconst 0, 1), some (.istore_n 3, 1), some (.iload_n 3, 1), some (.iload_n 2, 1), some (.if_icmp .ge 38, 3), none, none, some (.aload_n 0, 1), some (.getfield 23, 3), none, none, some (.bipush 26, 2), none, some (.aload_n 0, 1), some (.getfield 23, 3), none], [none, some (.iconst 0, 1), some (.iaload, 1), some (.iadd, 1), some (.iconst 0, 1), some (.iconst 4, 1), some (.iload_n 1, 1), some (.imul, 1), some (.iadd, 1), some (.iastore, 1), some (.aload_n 0, 1), some (.getfield 23, 3), none, none, some (.iconst 0, 1), some (.dup2, 1)], [some (.iaload, 1), some (.iconst 1, 1), some (.iadd, 1), some (.iastore, 1), some (.iinc 3 1, 3), none, none, some (.goto (-37), 3), none, none, some (.return_, 1)]]
def am_c116 : am_cd := [[some (.aload_n 0, 1), some (.getfield 23, 3), none, none, some (.bipush 19, 2), none, some (.dup2, 1), some (.iaload, 1), some (.iconst 1, 1), some (.isub, 1), some (.iastore, 1), some (.iload_n 1, 1), some (.istore_n 2, 1), some (.iload_n 2, 1), some (.aload_n 0, 1), some (.getfield 23, 3)], [none, none, some (.bipush 19, 2), none, some (.iaload, 1), some (.if_icmp .ge 49, 3), none, none, some (.aload_n 0, 1), some (.getfield 23, 3), none, none, some (.bipush 20, 2), none, some (.iload_n 2, 1), some (.iadd, 1)], [some (.aload_n 0, 1), some (.getfield 23, 3), none, none, some (.bipush 20, 2), none, some (.iload_n 2, 1), some (.iadd, 1), some (.iconst 1, 1), some (.iadd, 1), some (.iaload, 1), some (.iastore, 1), some (.aload_n 0, 1), some (.getfield 23, 3), none, none], [some (.bipush 23, 2), none, some (.iload_n 2, 1), some (.iadd, 1), some (.aload_n 0, 1), some (.getfield 23, 3), none, none, some (.bipush 23, 2), none, some (.iload_n 2, 1), some (.iadd, 1), some (.iconst 1, 1), some (.iadd, 1), some (.iaload, 1), some (.iastore, 1)], [some (.iinc 2 1, 3), none, none, some (.goto (-54), 3), none, none, some (.return_, 1)]]
def am_c117 : am_cd := [[some (.aload_n 0, 1), some (.getfield 23, 3), none, none, some (.bipush 19, 2), none, some (.iaload, 1), some (.ifCond .le 43, 3), none, none, some (.aload_n 0, 1), some (.getfield 23, 3), none, none, some (.bipush 23, 2), none], [some (.iaload, 1), some (.aload_n 0, 1), some (.invokevirtual 161, 3), none, none, some (.if_icmp .gt 29, 3), none, none, some (.aload_n 0, 1), some (.aload_n 0, 1), some (.getfield 23, 3), none, none, some (.bipush 20, 2), none, some (.iaload, 1)], [some (.aload_n 0, 1), some (.getfield 23, 3), none, none, some (.bipush 23, 2), none, some (.iaload, 1), some (.invokevirtual 164, 3), none, none, some (.aload_n 0, 1), some (.iconst 0, 1), some (.invokevirtual 168, 3), none, none, some (.goto (-47), 3)], [none, none, some (.return_, 1)]]
def am_c118 : am_cd := [[some (.iconst 0, 1), some (.istore_n 1, 1), some (.iconst 0, 1), some (.istore_n 2, 1), some (.iload_n 2, 1), some (.aload_n 0, 1), some (.getfield 23, 3), none, none, some (.bipush 19, 2), none, some (.iaload, 1), some (.if_icmp .ge 21, 3), none, none, some (.iload_n 1, 1)], [some (.aload_n 0, 1), some (.getfield 23, 3), none, none, some (.bipush 23, 2), none, some (.iload_n 2, 1), some (.iadd, 1), some (.iaload, 1), some (.iadd, 1), some (.istore_n 1, 1), some (.iinc 2 1, 3), none, none, some (.goto (-26), 3), none], [none, some (.iload_n 1, 1), some (.ireturn, 1)]]
def am_c119 : am_cd := [[some (.aload_n 0, 1), some (.getfield 145, 3), none, none, some (.bipush 6, 2), none, some (.if_icmp .ne 44, 3), none, none, some (.iconst 0, 1), some (.istore_n 1, 1), some (.iload_n 1, 1), some (.sipush 5130, 3), none, none, some (.if_icmp .ge 25, 3)], [none, none, some (.aload_n 0, 1), some (.getfield 26, 3), none, none, some (.iload_n 1, 1), some (.aload_n 0, 1), some (.getfield 26, 3), none, none, some (.iload_n 1, 1), some (.sipush 1026, 3), none, none, some (.iadd, 1)], [some (.iaload, 1), some (.iastore, 1), some (.iinc 1 1, 3), none, none, some (.goto (-26), 3), none, none, some (.aload_n 0, 1), some (.dup, 1), some (.getfield 145, 3), none, none, some (.iconst 1, 1), some (.isub, 1), some (.putfield 145, 3)], [none, none, some (.iconst 0, 1), some (.istore_n 1, 1), some (.iload_n 1, 1), some (.sipush 1026, 3), none, none, some (.if_icmp .ge 30, 3), none, none, some (.aload_n 0, 1), some (.getfield 26, 3), none, none, some (.sipush 1026, 3)], [none, none, some (.aload_n 0, 1), some (.getfield 145, 3), none, none, some (.imul, 1), some (.iload_n 1, 1), some (.iadd, 1), some (.aload_n 0, 1), some (.getfield 23, 3), none, none, some (.iload_n 1, 1), some (.iaload, 1), some (.iastore, 1)], [some (.iinc 1 1, 3), none, none, some (.goto (-31), 3), none, none, some (.aload_n 0, 1), some (.dup, 1), some (.getfield 145, 3), none, none, some (.iconst 1, 1), some (.iadd, 1), some (.putfield 145, 3), none, none], [some (.return_, 1)]]
def am_c120 : am_cd := [[some (.aload_n 0, 1), some (.iload_n 1, 1), some (.invokevirtual 172, 3), none, none, some (.ifCond .eq 13, 3), none, none, some (.iload_n 2, 1), some (.iconst 1, 1), some (.bipush 9, 2), none, some (.invokestatic 84, 3), none, none, some (.ifCond .ne 5, 3)], [none, none, some (.iconst (-1), 1), some (.ireturn, 1), some (.aload_n 0, 1), some (.iload_n 1, 1), some (.invokevirtual 176, 3), none, none, some (.bipush (-9), 2), none, some (.if_icmp .eq 6, 3), none, none, some (.bipush (-2), 2), none], [some (.ireturn, 1), some (.aload_n 0, 1), some (.getfield 23, 3), none, none, some (.iconst 0, 1), some (.iaload, 1), some (.aload_n 0, 1), some (.invokevirtual 179, 3), none, none, some (.iadd, 1), some (.iload_n 2, 1), some (.iadd, 1), some (.sipush 999, 3), none], [none, some (.if_icmp .le 6, 3), none, none, some (.bipush (-3), 2), none, some (.ireturn, 1), some (.aload_n 0, 1), some (.invokevirtual 182, 3), none, none, some (.aload_n 0, 1), some (.getfield 23, 3), none, none, some (.bipush 19, 2)], [none, some (.iaload, 1), some (.ifCond .ne 26, 3), none, none, some (.iload_n 2, 1), some (.aload_n 0, 1), some (.invokevirtual 161, 3), none, none, some (.if_icmp .gt 18, 3), none, none, some (.aload_n 0, 1), some (.getfield 23, 3), none], [none, some (.iconst 0, 1), some (.iaload, 1), some (.istore_n 3, 1), some (.aload_n 0, 1), some (.iload_n 1, 1), some (.iload_n 2, 1), some (.invokevirtual 164, 3), none, none, some (.iload_n 3, 1), some (.ireturn, 1), some (.aload_n 0, 1), some (.getfield 23, 3), none, none], [some (.bipush 20, 2), none, some (.aload_n 0, 1), some (.getfield 23, 3), none, none, some (.bipush 19, 2), none, some (.iaload, 1), some (.iadd, 1), some (.iload_n 1, 1), some (.iastore, 1), some (.aload_n 0, 1), some (.getfield 23, 3), none, none], [some (.bipush 23, 2), none, some (.aload_n 0, 1), some (.getfield 23, 3), none, none, some (.bipush 19, 2), none, some (.iaload, 1), some (.iadd, 1), some (.iload_n 2, 1), some (.iastore, 1), some (.aload_n 0, 1), some (.getfield 23, 3), none, none], [some (.bipush 19, 2), none, some (.dup2, 1), some (.iaload, 1), some (.iconst 1, 1), some (.iadd, 1), some (.iastore, 1), some (.bipush (-9), 2), none, some (.ireturn, 1)]]
def am_c121 : am_cd := [[some (.aload_n 0, 1), some (.iload_n 1, 1), some (.invokevirtual 148, 3), none, none, some (.ifCond .eq 6, 3), none, none, some (.bipush (-2), 2), none, some (.ireturn, 1), some (.aload_n 0, 1), some (.invokevirtual 182, 3), none, none, some (.aload_n 0, 1)], [some (.getfield 23, 3), none, none, some (.bipush 26, 2), none, some (.iload_n 1, 1), some (.iadd, 1), some (.dup2, 1), some (.iaload, 1), some (.iload_n 2, 1), some (.bipush 16, 2), none, some (.iload_n 3, 1), some (.imul, 1), some (.iadd, 1), some (.iadd, 1)], [some (.iastore, 1), some (.aload_n 0, 1), some (.invokevirtual 155, 3), none, none, some (.ireturn, 1)]]
def am_c122 : am_cd := [[some (.aload_n 0, 1), some (.iload_n 1, 1), some (.invokevirtual 185, 3), none, none, some (.ifCond .eq 23, 3), none, none, some (.iload_n 2, 1), some (.iconst 0, 1), some (.bipush 99, 2), none, some (.invokestatic 84, 3), none, none, some (.ifCond .eq 13, 3)], [none, none, some (.aload_n 0, 1), some (.iload_n 1, 1), some (.iconst 1, 1), some (.iload_n 2, 1), some (.invokevirtual 188, 3), none, none, some (.goto 4, 3), none, none, some (.iconst (-1), 1), some (.ireturn, 1)]]
def am_c123 : am_cd := [[some (.aload_n 0, 1), some (.iload_n 1, 1), some (.invokevirtual 185, 3), none, none, some (.ifCond .eq 13, 3), none, none, some (.aload_n 0, 1), some (.iload_n 1, 1), some (.iconst 2, 1), some (.iconst 0, 1), some (.invokevirtual 188, 3), none, none, some (.goto 4, 3)], [none, none, some (.iconst (-1), 1), some (.ireturn, 1)]]
def am_c124 : am_cd := [[some (.aload_n 0, 1), some (.iload_n 2, 1), some (.invokevirtual 148, 3), none, none, some (.iconst 1, 1), some (.if_icmp .ne 56, 3), none, none, some (.aload_n 0, 1), some (.getfield 23, 3), none, none, some (.bipush 7, 2), none, some (.iload_n 1, 1)], [some (.iadd, 1), some (.dup2, 1), some (.iaload, 1), some (.iconst 1, 1), some (.iadd, 1), some (.iastore, 1), some (.aload_n 0, 1), some (.getfield 23, 3), none, none, some (.bipush 13, 2), none, some (.iload_n 1, 1), some (.iadd, 1), some (.bipush 31, 2), none], [some (.aload_n 0, 1), some (.getfield 23, 3), none, none, some (.bipush 13, 2), none, some (.iload_n 1, 1), some (.iadd, 1), some (.iaload, 1), some (.imul, 1), some (.aload_n 0, 1), some (.getfield 23, 3), none, none, some (.bipush 26, 2), none], [some (.iload_n 2, 1), some (.iadd, 1), some (.iaload, 1), some (.bipush 16, 2), none, some (.idiv, 1), some (.iadd, 1), some (.iload_n 1, 1), some (.iadd, 1), some (.sipush 9973, 3), none, none, some (.irem, 1), some (.iastore, 1), some (.return_, 1)]]
def am_c125 : am_cd := [[some (.aload_n 0, 1), some (.iload_n 1, 1), some (.invokevirtual 192, 3), none, none, some (.ifCond .eq 13, 3), none, none, some (.iload_n 2, 1), some (.iconst 1, 1), some (.bipush 16, 2), none, some (.invokestatic 84, 3), none, none, some (.ifCond .ne 5, 3)], [none, none, some (.iconst (-1), 1), some (.ireturn, 1), some (.aload_n 0, 1), some (.getfield 23, 3), none, none, some (.iconst 1, 1), some (.iload_n 1, 1), some (.iadd, 1), some (.iaload, 1), some (.istore_n 3, 1), some (.aload_n 0, 1), some (.iload_n 1, 1), some (.invokevirtual 195, 3)], [none, none, some (.istore 4, 2), none, some (.iload_n 3, 1), some (.iload 4, 2), none, some (.if_icmp .lt 6, 3), none, none, some (.bipush (-2), 2), none, some (.ireturn, 1), some (.aload_n 0, 1), some (.invokevirtual 182, 3), none], [none, some (.iload_n 3, 1), some (.iload_n 2, 1), some (.iadd, 1), some (.iload 4, 2), none, some (.if_icmp .ge 9, 3), none, none, some (.iload_n 3, 1), some (.iload_n 2, 1), some (.iadd, 1), some (.goto 5, 3), none, none, some (.iload 4, 2)], [none, some (.istore 4, 2), none, some (.iload_n 3, 1), some (.istore 5, 2), none, some (.iload 5, 2), none, some (.iload 4, 2), none, some (.if_icmp .ge 16, 3), none, none, some (.aload_n 0, 1), some (.iload_n 1, 1), some (.iload 5, 2)], [none, some (.invokevirtual 198, 3), none, none, some (.iinc 5 1, 3), none, none, some (.goto (-17), 3), none, none, some (.aload_n 0, 1), some (.getfield 23, 3), none, none, some (.iconst 1, 1), some (.iload_n 1, 1)], [some (.iadd, 1), some (.iload 4, 2), none, some (.iastore, 1), some (.aload_n 0, 1), some (.invokevirtual 201, 3), none, none, some (.iload 4, 2), none, some (.iload_n 3, 1), some (.isub, 1), some (.ireturn, 1)]]
def am_c126 : am_cd := [[some (.aload_n 0, 1), some (.iload_n 1, 1), some (.invokevirtual 172, 3), none, none, some (.ifCond .ne 5, 3), none, none, some (.iconst (-1), 1), some (.ireturn, 1), some (.aload_n 0, 1), some (.iload_n 1, 1), some (.invokevirtual 176, 3), none, none, some (.istore_n 2, 1)], [some (.iload_n 2, 1), some (.bipush (-9), 2), none, some (.if_icmp .ne 6, 3), none, none, some (.bipush (-2), 2), none, some (.ireturn, 1), some (.aload_n 0, 1), some (.invokevirtual 182, 3), none, none, some (.aload_n 0, 1), some (.getfield 23, 3), none], [none, some (.bipush 23, 2), none, some (.iload_n 2, 1), some (.iadd, 1), some (.iaload, 1), some (.istore_n 3, 1), some (.aload_n 0, 1), some (.iload_n 2, 1), some (.invokevirtual 168, 3), none, none, some (.aload_n 0, 1), some (.invokevirtual 201, 3), none, none], [some (.iload_n 3, 1), some (.ireturn, 1)]]
def am_c127 : am_cd := [[some (.aload_n 0, 1), some (.getfield 145, 3), none, none, some (.ifCond .ne 6, 3), none, none, some (.bipush (-2), 2), none, some (.ireturn, 1), some (.aload_n 0, 1), some (.dup, 1), some (.getfield 145, 3), none, none, some (.iconst 1, 1)], [some (.isub, 1), some (.putfield 145, 3), none, none, some (.iconst 0, 1), some (.istore_n 1, 1), some (.iload_n 1, 1), some (.sipush 1026, 3), none, none, some (.if_icmp .ge 30, 3), none, none, some (.aload_n 0, 1), some (.getfield 23, 3), none], [none, some (.iload_n 1, 1), some (.aload_n 0, 1), some (.getfield 26, 3), none, none, some (.sipush 1026, 3), none, none, some (.aload_n 0, 1), some (.getfield 145, 3), none, none, some (.imul, 1), some (.iload_n 1, 1), some (.iadd, 1)], [some (.iaload, 1), some (.iastore, 1), some (.iinc 1 1, 3), none, none, some (.goto (-31), 3), none, none, some (.aload_n 0, 1), some (.getfield 145, 3), none, none, some (.ireturn, 1)]]
def am_c128 : am_cd := [[some (.aload_n 0, 1), some (.getfield 23, 3), none, none, some (.bipush 26, 2), none, some (.iload_n 1, 1), some (.iadd, 1), some (.iaload, 1), some (.istore_n 3, 1), some (.iload_n 2, 1), some (.ifCond .ne 9, 3), none, none, some (.iload_n 3, 1), some (.iconst 3, 1)], [some (.iand, 1), some (.goto 32, 3), none, none, some (.iload_n 2, 1), some (.iconst 1, 1), some (.if_icmp .ne 11, 3), none, none, some (.iload_n 3, 1), some (.iconst 2, 1), some (.ishr, 1), some (.iconst 3, 1), some (.iand, 1), some (.goto 19, 3), none], [none, some (.iload_n 3, 1), some (.iconst 3, 1), some (.iand, 1), some (.iconst 1, 1), some (.if_icmp .ne 10, 3), none, none, some (.iload_n 3, 1), some (.bipush 16, 2), none, some (.idiv, 1), some (.goto 5, 3), none, none, some (.bipush (-9), 2)], [none, some (.ireturn, 1)]]
def am_c129 : am_cd := [[some (.aload_n 0, 1), some (.iload_n 1, 1), some (.invokevirtual 185, 3), none, none, some (.ifCond .eq 21, 3), none, none, some (.iload_n 2, 1), some (.iconst 0, 1), some (.iconst 2, 1), some (.invokestatic 84, 3), none, none, some (.ifCond .eq 12, 3), none], [none, some (.aload_n 0, 1), some (.iload_n 1, 1), some (.iload_n 2, 1), some (.invokevirtual 204, 3), none, none, some (.goto 4, 3), none, none, some (.iconst (-1), 1), some (.ireturn, 1)]]
def am_c130 : am_cd := [[some (.iload_n 2, 1), some (.tableswitch 92 0 5 #[39, 46, 53, 62, 68, 82], 39), none, none, none, none, none, none, none, none, none, none, none, none, none, none], [none, none, none, none, none, none, none, none, none, none, none, none, none, none, none, none], [none, none, none, none, none, none, none, none, some (.aload_n 0, 1), some (.getfield 17, 3), none, none, some (.iload_n 1, 1), some (.iaload, 1), some (.ireturn, 1), some (.aload_n 0, 1)], [some (.getfield 20, 3), none, none, some (.iload_n 1, 1), some (.iaload, 1), some (.ireturn, 1), some (.aload_n 0, 1), some (.getfield 23, 3), none, none, some (.iconst 1, 1), some (.iload_n 1, 1), some (.iadd, 1), some (.iaload, 1), some (.ireturn, 1), some (.aload_n 0, 1)], [some (.iload_n 1, 1), some (.invokevirtual 195, 3), none, none, some (.ireturn, 1), some (.aload_n 0, 1), some (.invokevirtual 155, 3), none, none, some (.aload_n 0, 1), some (.getfield 23, 3), none, none, some (.iconst 1, 1), some (.iload_n 1, 1), some (.iadd, 1)], [some (.iaload, 1), some (.isub, 1), some (.ireturn, 1), some (.aload_n 0, 1), some (.getfield 23, 3), none, none, some (.bipush 7, 2), none, some (.iload_n 1, 1), some (.iadd, 1), some (.iaload, 1), some (.ireturn, 1), some (.aload_n 0, 1), some (.getfield 23, 3), none], [none, some (.bipush 13, 2), none, some (.iload_n 1, 1), some (.iadd, 1), some (.iaload, 1), some (.ireturn, 1)]]
def am_c131 : am_cd := [[some (.aload_n 0, 1), some (.iload_n 1, 1), some (.invokevirtual 192, 3), none, none, some (.ifCond .eq 22, 3), none, none, some (.iload_n 2, 1), some (.iconst 0, 1), some (.bipush 6, 2), none, some (.invokestatic 84, 3), none, none, some (.ifCond .eq 12, 3)], [none, none, some (.aload_n 0, 1), some (.iload_n 1, 1), some (.iload_n 2, 1), some (.invokevirtual 207, 3), none, none, some (.goto 4, 3), none, none, some (.iconst (-1), 1), some (.ireturn, 1)]]
def am_c132 : am_cd := [[some (.iconst 0, 1), some (.istore_n 2, 1), some (.iconst 0, 1), some (.istore_n 3, 1), some (.iload_n 3, 1), some (.aload_n 0, 1), some (.getfield 23, 3), none, none, some (.iconst 0, 1), some (.iaload, 1), some (.if_icmp .ge 34, 3), none, none, some (.iload_n 2, 1), some (.aload_n 0, 1)], [some (.getfield 23, 3), none, none, some (.bipush 26, 2), none, some (.iload_n 3, 1), some (.iadd, 1), some (.iaload, 1), some (.iconst 0, 1), some (.iconst 4, 1), some (.iload_n 1, 1), some (.imul, 1), some (.iadd, 1), some (.if_icmp .ne 7, 3), none, none], [some (.iconst 1, 1), some (.goto 4, 3), none, none, some (.iconst 0, 1), some (.iadd, 1), some (.istore_n 2, 1), some (.iinc 3 1, 3), none, none, some (.goto (-38), 3), none, none, some (.iload_n 2, 1), some (.ireturn, 1)]]
def am_c133 : am_cd := [[some (.aload_n 0, 1), some (.iload_n 1, 1), some (.invokevirtual 176, 3), none, none, some (.istore_n 3, 1), some (.iload_n 2, 1), some (.ifCond .ne 12, 3), none, none, some (.aload_n 0, 1), some (.getfield 13, 3), none, none, some (.iload_n 1, 1), some (.iaload, 1)], [some (.goto 44, 3), none, none, some (.iload_n 2, 1), some (.iconst 1, 1), some (.if_icmp .ne 25, 3), none, none, some (.iload_n 3, 1), some (.bipush (-9), 2), none, some (.if_icmp .ne 7, 3), none, none, some (.iconst 0, 1), some (.goto 29, 3)], [none, none, some (.aload_n 0, 1), some (.getfield 23, 3), none, none, some (.bipush 23, 2), none, some (.iload_n 3, 1), some (.iadd, 1), some (.iaload, 1), some (.goto 17, 3), none, none, some (.iload_n 2, 1), some (.iconst 2, 1)], [some (.if_icmp .ne 7, 3), none, none, some (.iload_n 3, 1), some (.goto 8, 3), none, none, some (.aload_n 0, 1), some (.iload_n 1, 1), some (.invokevirtual 210, 3), none, none, some (.ireturn, 1)]]
def am_c134 : am_cd := [[some (.aload_n 0, 1), some (.iload_n 1, 1), some (.invokevirtual 172, 3), none, none, some (.ifCond .eq 21, 3), none, none, some (.iload_n 2, 1), some (.iconst 0, 1), some (.iconst 3, 1), some (.invokestatic 84, 3), none, none, some (.ifCond .eq 12, 3), none], [none, some (.aload_n 0, 1), some (.iload_n 1, 1), some (.iload_n 2, 1), some (.invokevirtual 213, 3), none, none, some (.goto 4, 3), none, none, some (.iconst (-1), 1), some (.ireturn, 1)]]
def am_c135 : am_cd := [[some (.bipush (-9), 2), none, some (.istore_n 2, 1), some (.iconst 0, 1), some (.istore_n 3, 1), some (.iload_n 3, 1), some (.aload_n 0, 1), some (.getfield 139, 3), none, none, some (.if_icmp .ge 60, 3), none, none, some (.iload_n 1, 1), some (.iload_n 3, 1), some (.invokestatic 158, 3)], [none, none, some (.ifCond .eq 32, 3), none, none, some (.iload_n 2, 1), some (.bipush (-9), 2), none, some (.if_icmp .eq 22, 3), none, none, some (.aload_n 0, 1), some (.getfield 23, 3), none, none, some (.iconst 1, 1)], [some (.iload_n 3, 1), some (.iadd, 1), some (.iaload, 1), some (.aload_n 0, 1), some (.getfield 23, 3), none, none, some (.iconst 1, 1), some (.iload_n 2, 1), some (.iadd, 1), some (.iaload, 1), some (.if_icmp .ge 7, 3), none, none, some (.iconst 1, 1), some (.goto 4, 3)], [none, none, some (.iconst 0, 1), some (.istore 4, 2), none, some (.iload 4, 2), none, some (.ifCond .eq 7, 3), none, none, some (.iload_n 3, 1), some (.goto 4, 3), none, none, some (.iload_n 2, 1), some (.istore_n 2, 1)], [some (.iinc 3 1, 3), none, none, some (.goto (-62), 3), none, none, some (.iload_n 2, 1), some (.ireturn, 1)]]
def am_c136 : am_cd := [[some (.aload_n 0, 1), some (.getfield 23, 3), none, none, some (.bipush 19, 2), none, some (.iaload, 1), some (.ifCond .eq 10, 3), none, none, some (.aload_n 0, 1), some (.getfield 139, 3), none, none, some (.ifCond .ne 6, 3), none], [none, some (.bipush (-9), 2), none, some (.ireturn, 1), some (.aload_n 0, 1), some (.iconst 1, 1), some (.aload_n 0, 1), some (.getfield 139, 3), none, none, some (.ishl, 1), some (.iconst 1, 1), some (.isub, 1), some (.invokevirtual 216, 3), none, none], [some (.istore_n 1, 1), some (.aload_n 0, 1), some (.getfield 23, 3), none, none, some (.iconst 1, 1), some (.iload_n 1, 1), some (.iadd, 1), some (.iaload, 1), some (.aload_n 0, 1), some (.iload_n 1, 1), some (.invokevirtual 195, 3), none, none, some (.if_icmp .ne 63, 3), none], [none, some (.aload_n 0, 1), some (.getfield 20, 3), none, none, some (.iload_n 1, 1), some (.iaload, 1), some (.ifCond .ne 40, 3), none, none, some (.aload_n 0, 1), some (.invokevirtual 155, 3), none, none, some (.istore_n 2, 1), some (.iload_n 2, 1)], [some (.aload_n 0, 1), some (.getfield 23, 3), none, none, some (.iconst 0, 1), some (.iaload, 1), some (.if_icmp .ge 22, 3), none, none, some (.bipush 10, 2), none, some (.aload_n 0, 1), some (.getfield 23, 3), none, none, some (.bipush 26, 2)], [none, some (.iload_n 2, 1), some (.iadd, 1), some (.iaload, 1), some (.iconst 2, 1), some (.ishr, 1), some (.iconst 3, 1), some (.iand, 1), some (.iadd, 1), some (.goto 5, 3), none, none, some (.bipush (-9), 2), none, some (.ireturn, 1), some (.aload_n 0, 1)], [some (.aload_n 0, 1), some (.getfield 20, 3), none, none, some (.iload_n 1, 1), some (.iaload, 1), some (.invokevirtual 216, 3), none, none, some (.istore_n 1, 1), some (.goto (-73), 3), none, none, some (.iload_n 1, 1), some (.ireturn, 1)]]
def am_c137 : am_cd := [[some (.aload_n 0, 1), some (.getfield 23, 3), none, none, some (.bipush 19, 2), none, some (.iaload, 1), some (.ifCond .ne 9, 3), none, none, some (.sipush 1000, 3), none, none, some (.goto 22, 3), none, none], [some (.aload_n 0, 1), some (.getfield 23, 3), none, none, some (.iconst 0, 1), some (.iaload, 1), some (.aload_n 0, 1), some (.getfield 23, 3), none, none, some (.bipush 23, 2), none, some (.iaload, 1), some (.iadd, 1), some (.aload_n 0, 1), some (.getfield 7, 3)], [none, none, some (.isub, 1), some (.istore_n 1, 1), some (.iload_n 1, 1), some (.aload_n 0, 1), some (.invokevirtual 155, 3), none, none, some (.if_icmp .le 6, 3), none, none, some (.bipush (-9), 2), none, some (.ireturn, 1), some (.iconst 0, 1)], [some (.istore_n 2, 1), some (.iconst 0, 1), some (.istore_n 3, 1), some (.iload_n 3, 1), some (.aload_n 0, 1), some (.getfield 139, 3), none, none, some (.if_icmp .ge 29, 3), none, none, some (.iload_n 2, 1), some (.aload_n 0, 1), some (.getfield 23, 3), none, none], [some (.iconst 1, 1), some (.iload_n 3, 1), some (.iadd, 1), some (.iaload, 1), some (.iload_n 1, 1), some (.if_icmp .ge 7, 3), none, none, some (.iconst 1, 1), some (.goto 4, 3), none, none, some (.iconst 0, 1), some (.iadd, 1), some (.istore_n 2, 1), some (.iinc 3 1, 3)], [none, none, some (.goto (-31), 3), none, none, some (.iload_n 2, 1), some (.ireturn, 1)]]
def am_c138 : am_cd := [[some (.aload_n 0, 1), some (.getfield 219, 3), none, none, some (.istore_n 1, 1), some (.iconst 0, 1), some (.istore_n 2, 1), some (.iload_n 2, 1), some (.aload_n 0, 1), some (.getfield 139, 3), none, none, some (.if_icmp .ge 30, 3), none, none, some (.aload_n 0, 1)], [some (.getfield 72, 3), none, none, some (.iload_n 2, 1), some (.iaload, 1), some (.iload_n 1, 1), some (.if_icmp .ge 12, 3), none, none, some (.aload_n 0, 1), some (.getfield 72, 3), none, none, some (.iload_n 2, 1), some (.iaload, 1), some (.goto 4, 3)], [none, none, some (.iload_n 1, 1), some (.istore_n 1, 1), some (.iinc 2 1, 3), none, none, some (.goto (-32), 3), none, none, some (.iload_n 1, 1), some (.ireturn, 1)]]
def am_c139 : am_cd := [[some (.aload_n 0, 1), some (.getfield 222, 3), none, none, some (.ifCond .le 98, 3), none, none, some (.aload_n 0, 1), some (.getfield 69, 3), none, none, some (.iconst 0, 1), some (.iaload, 1), some (.aload_n 0, 1), some (.getfield 7, 3), none], [none, some (.aload_n 0, 1), some (.invokevirtual 225, 3), none, none, some (.iadd, 1), some (.aload_n 0, 1), some (.getfield 219, 3), none, none, some (.isub, 1), some (.if_icmp .gt 75, 3), none, none, some (.aload_n 0, 1), some (.dup, 1)], [some (.getfield 219, 3), none, none, some (.aload_n 0, 1), some (.getfield 69, 3), none, none, some (.iconst 0, 1), some (.iaload, 1), some (.iadd, 1), some (.putfield 219, 3), none, none, some (.aload_n 0, 1), some (.dup, 1), some (.getfield 222, 3)], [none, none, some (.iconst 1, 1), some (.isub, 1), some (.putfield 222, 3), none, none, some (.iconst 0, 1), some (.istore_n 1, 1), some (.iload_n 1, 1), some (.aload_n 0, 1), some (.getfield 222, 3), none, none, some (.if_icmp .ge 37, 3), none], [none, some (.aload_n 0, 1), some (.getfield 66, 3), none, none, some (.iload_n 1, 1), some (.aload_n 0, 1), some (.getfield 66, 3), none, none, some (.iload_n 1, 1), some (.iconst 1, 1), some (.iadd, 1), some (.iaload, 1), some (.iastore, 1), some (.aload_n 0, 1)], [some (.getfield 69, 3), none, none, some (.iload_n 1, 1), some (.aload_n 0, 1), some (.getfield 69, 3), none, none, some (.iload_n 1, 1), some (.iconst 1, 1), some (.iadd, 1), some (.iaload, 1), some (.iastore, 1), some (.iinc 1 1, 3), none, none], [some (.goto (-39), 3), none, none, some (.goto (-99), 3), none, none, some (.return_, 1)]]
def am_c140 : am_cd := [[some (.iconst 0, 1), some (.istore_n 2, 1), some (.iconst 0, 1), some (.istore_n 3, 1), some (.iload_n 3, 1), some (.aload_n 0, 1), some (.getfield 222, 3), none, none, some (.if_icmp .ge 29, 3), none, none, some (.iload_n 2, 1), some (.ifCond .ne 13, 3), none, none], [some (.aload_n 0, 1), some (.getfield 66, 3), none, none, some (.iload_n 3, 1), some (.iaload, 1), some (.iload_n 1, 1), some (.if_icmp .ne 7, 3), none, none, some (.iconst 1, 1), some (.goto 4, 3), none, none, some (.iconst 0, 1), some (.istore_n 2, 1)], [some (.iinc 3 1, 3), none, none, some (.goto (-31), 3), none, none, some (.iload_n 2, 1), some (.ireturn, 1)]]
def am_c141 : am_cd := [[some (.aload_n 0, 1), some (.getfield 13, 3), none, none, some (.iload_n 1, 1), some (.iaload, 1), some (.ifCond .eq 11, 3), none, none, some (.aload_n 0, 1), some (.iload_n 1, 1), some (.invokevirtual 228, 3), none, none, some (.ifCond .eq 4, 3), none], [none, some (.return_, 1), some (.aload_n 0, 1), some (.getfield 222, 3), none, none, some (.ifCond .ne 44, 3), none, none, some (.aload_n 0, 1), some (.getfield 13, 3), none, none, some (.iload_n 1, 1), some (.iaload, 1), some (.aload_n 0, 1)], [some (.getfield 7, 3), none, none, some (.aload_n 0, 1), some (.invokevirtual 225, 3), none, none, some (.iadd, 1), some (.aload_n 0, 1), some (.getfield 219, 3), none, none, some (.isub, 1), some (.if_icmp .gt 21, 3), none, none], [some (.aload_n 0, 1), some (.dup, 1), some (.getfield 219, 3), none, none, some (.aload_n 0, 1), some (.getfield 13, 3), none, none, some (.iload_n 1, 1), some (.iaload, 1), some (.iadd, 1), some (.putfield 219, 3), none, none, some (.goto 38, 3)], [none, none, some (.aload_n 0, 1), some (.getfield 66, 3), none, none, some (.aload_n 0, 1), some (.getfield 222, 3), none, none, some (.iload_n 1, 1), some (.iastore, 1), some (.aload_n 0, 1), some (.getfield 69, 3), none, none], [some (.aload_n 0, 1), some (.getfield 222, 3), none, none, some (.aload_n 0, 1), some (.getfield 13, 3), none, none, some (.iload_n 1, 1), some (.iaload, 1), some (.iastore, 1), some (.aload_n 0, 1), some (.dup, 1), some (.getfield 222, 3), none, none], [some (.iconst 1, 1), some (.iadd, 1), some (.putfield 222, 3), none, none, some (.return_, 1)]]
def am_c142 : am_cd := [[some (.aload_n 0, 1), some (.getfield 20, 3), none, none, some (.iload_n 1, 1), some (.iaload, 1), some (.ifCond .ne 7, 3), none, none, some (.iload_n 2, 1), some (.goto 12, 3), none, none, some (.aload_n 0, 1), some (.getfield 72, 3), none], [none, some (.iload_n 1, 1), some (.iaload, 1), some (.bipush 16, 2), none, some (.iadd, 1), some (.istore_n 3, 1), some (.iconst 0, 1), some (.istore 4, 2), none, some (.iload 4, 2), none, some (.iload_n 1, 1), some (.if_icmp .ge 46, 3), none, none], [some (.aload_n 0, 1), some (.getfield 20, 3), none, none, some (.iload_n 1, 1), some (.iaload, 1), some (.iload 4, 2), none, some (.invokestatic 158, 3), none, none, some (.ifCond .eq 24, 3), none, none, some (.aload_n 0, 1), some (.getfield 72, 3)], [none, none, some (.iload 4, 2), none, some (.iaload, 1), some (.iload_n 3, 1), some (.if_icmp .ge 13, 3), none, none, some (.aload_n 0, 1), some (.getfield 72, 3), none, none, some (.iload 4, 2), none, some (.iaload, 1)], [some (.goto 4, 3), none, none, some (.iload_n 3, 1), some (.istore_n 3, 1), some (.iinc 4 1, 3), none, none, some (.goto (-46), 3), none, none, some (.iload_n 3, 1), some (.ireturn, 1)]]
def am_c143 : am_cd := [[some (.aload_n 0, 1), some (.getfield 219, 3), none, none, some (.istore_n 1, 1), some (.iconst 0, 1), some (.istore_n 2, 1), some (.iload_n 2, 1), some (.aload_n 0, 1), some (.getfield 136, 3), none, none, some (.if_icmp .ge 14, 3), none, none, some (.aload_n 0, 1)], [some (.iload_n 2, 1), some (.invokevirtual 231, 3), none, none, some (.iinc 2 1, 3), none, none, some (.goto (-16), 3), none, none, some (.iconst 0, 1), some (.istore_n 2, 1), some (.iload_n 2, 1), some (.aload_n 0, 1), some (.getfield 139, 3), none], [none, some (.if_icmp .ge 53, 3), none, none, some (.aload_n 0, 1), some (.iload_n 2, 1), some (.iload_n 1, 1), some (.invokevirtual 234, 3), none, none, some (.istore_n 3, 1), some (.aload_n 0, 1), some (.getfield 72, 3), none, none, some (.iload_n 2, 1)], [some (.iaload, 1), some (.aload_n 0, 1), some (.getfield 17, 3), none, none, some (.iload_n 2, 1), some (.iaload, 1), some (.iadd, 1), some (.istore 4, 2), none, some (.aload_n 0, 1), some (.getfield 72, 3), none, none, some (.iload_n 2, 1), some (.iload 4, 2)], [none, some (.iload_n 3, 1), some (.if_icmp .ge 8, 3), none, none, some (.iload 4, 2), none, some (.goto 4, 3), none, none, some (.iload_n 3, 1), some (.iastore, 1), some (.aload_n 0, 1), some (.invokevirtual 237, 3), none, none], [some (.iinc 2 1, 3), none, none, some (.goto (-55), 3), none, none, some (.return_, 1)]]
def am_c144 : am_cd := [[some (.aload_n 0, 1), some (.getfield 54, 3), none, none, some (.iload_n 1, 1), some (.aload_n 0, 1), some (.getfield 219, 3), none, none, some (.iastore, 1), some (.aload_n 0, 1), some (.getfield 57, 3), none, none, some (.iload_n 1, 1), some (.aload_n 0, 1)], [some (.getfield 222, 3), none, none, some (.iastore, 1), some (.iconst 0, 1), some (.istore_n 2, 1), some (.iload_n 2, 1), some (.aload_n 0, 1), some (.getfield 139, 3), none, none, some (.if_icmp .ge 26, 3), none, none, some (.aload_n 0, 1), some (.getfield 60, 3)], [none, none, some (.bipush 6, 2), none, some (.iload_n 1, 1), some (.imul, 1), some (.iload_n 2, 1), some (.iadd, 1), some (.aload_n 0, 1), some (.getfield 72, 3), none, none, some (.iload_n 2, 1), some (.iaload, 1), some (.iastore, 1), some (.iinc 2 1, 3)], [none, none, some (.goto (-28), 3), none, none, some (.iconst 0, 1), some (.istore_n 2, 1), some (.iload_n 2, 1), some (.aload_n 0, 1), some (.getfield 136, 3), none, none, some (.if_icmp .ge 53, 3), none, none, some (.aload_n 0, 1)], [some (.getfield 63, 3), none, none, some (.iconst 3, 1), some (.iload_n 1, 1), some (.imul, 1), some (.iload_n 2, 1), some (.iadd, 1), some (.iload_n 1, 1), some (.ifCond .ne 7, 3), none, none, some (.iconst 0, 1), some (.goto 29, 3), none, none], [some (.aload_n 0, 1), some (.getfield 63, 3), none, none, some (.iconst 3, 1), some (.iload_n 1, 1), some (.iconst 1, 1), some (.isub, 1), some (.imul, 1), some (.iload_n 2, 1), some (.iadd, 1), some (.iaload, 1), some (.aload_n 0, 1), some (.iload_n 2, 1), some (.invokevirtual 228, 3), none], [none, some (.ifCond .eq 7, 3), none, none, some (.iconst 1, 1), some (.goto 4, 3), none, none, some (.iconst 0, 1), some (.iadd, 1), some (.iastore, 1), some (.iinc 2 1, 3), none, none, some (.goto (-55), 3), none], [none, some (.return_, 1)]]
def am_c145 : am_cd := [[some (.aload_n 0, 1), some (.aload_n 0, 1), some (.getfield 23, 3), none, none, some (.iconst 0, 1), some (.iaload, 1), some (.putfield 219, 3), none, none, some (.aload_n 0, 1), some (.aload_n 0, 1), some (.getfield 23, 3), none, none, some (.bipush 19, 2)], [none, some (.iaload, 1), some (.putfield 222, 3), none, none, some (.iconst 0, 1), some (.istore_n 2, 1), some (.iload_n 2, 1), some (.iconst 3, 1), some (.if_icmp .ge 39, 3), none, none, some (.aload_n 0, 1), some (.getfield 66, 3), none, none], [some (.iload_n 2, 1), some (.aload_n 0, 1), some (.getfield 23, 3), none, none, some (.bipush 20, 2), none, some (.iload_n 2, 1), some (.iadd, 1), some (.iaload, 1), some (.iastore, 1), some (.aload_n 0, 1), some (.getfield 69, 3), none, none, some (.iload_n 2, 1)], [some (.aload_n 0, 1), some (.getfield 23, 3), none, none, some (.bipush 23, 2), none, some (.iload_n 2, 1), some (.iadd, 1), some (.iaload, 1), some (.iastore, 1), some (.iinc 2 1, 3), none, none, some (.goto (-38), 3), none, none], [some (.iconst 0, 1), some (.istore_n 2, 1), some (.iload_n 2, 1), some (.bipush 6, 2), none, some (.if_icmp .ge 23, 3), none, none, some (.aload_n 0, 1), some (.getfield 72, 3), none, none, some (.iload_n 2, 1), some (.aload_n 0, 1), some (.getfield 23, 3), none], [none, some (.iconst 1, 1), some (.iload_n 2, 1), some (.iadd, 1), some (.iaload, 1), some (.iastore, 1), some (.iinc 2 1, 3), none, none, some (.goto (-23), 3), none, none, some (.aload_n 0, 1), some (.iconst 0, 1), some (.invokevirtual 240, 3), none], [none, some (.iconst 1, 1), some (.istore_n 2, 1), some (.iload_n 2, 1), some (.iload_n 1, 1), some (.if_icmp .gt 18, 3), none, none, some (.aload_n 0, 1), some (.invokevirtual 243, 3), none, none, some (.aload_n 0, 1), some (.iload_n 2, 1), some (.invokevirtual 240, 3), none], [none, some (.iinc 2 1, 3), none, none, some (.goto (-17), 3), none, none, some (.return_, 1)]]
def am_c146 : am_cd := [[some (.bipush (-9), 2), none, some (.istore_n 2, 1), some (.iconst 0, 1), some (.istore_n 3, 1), some (.iload_n 3, 1), some (.aload_n 0, 1), some (.getfield 139, 3), none, none, some (.if_icmp .ge 46, 3), none, none, some (.iload_n 2, 1), some (.bipush (-9), 2), none], [some (.if_icmp .eq 28, 3), none, none, some (.aload_n 0, 1), some (.getfield 60, 3), none, none, some (.bipush 6, 2), none, some (.iload_n 1, 1), some (.imul, 1), some (.iload_n 3, 1), some (.iadd, 1), some (.iaload, 1), some (.aload_n 0, 1), some (.getfield 60, 3)], [none, none, some (.bipush 6, 2), none, some (.iload_n 1, 1), some (.imul, 1), some (.iload_n 2, 1), some (.iadd, 1), some (.iaload, 1), some (.if_icmp .ge 7, 3), none, none, some (.iload_n 3, 1), some (.goto 4, 3), none, none], [some (.iload_n 2, 1), some (.istore_n 2, 1), some (.iinc 3 1, 3), none, none, some (.goto (-48), 3), none, none, some (.iload_n 2, 1), some (.ireturn, 1)]]
def am_c147 : am_cd := [[some (.aload_n 0, 1), some (.getfield 139, 3), none, none, some (.ifCond .ne 12, 3), none, none, some (.aload_n 0, 1), some (.getfield 54, 3), none, none, some (.iload_n 1, 1), some (.iaload, 1), some (.goto 18, 3), none, none], [some (.aload_n 0, 1), some (.getfield 60, 3), none, none, some (.bipush 6, 2), none, some (.iload_n 1, 1), some (.imul, 1), some (.aload_n 0, 1), some (.iload_n 1, 1), some (.invokevirtual 246, 3), none, none, some (.iadd, 1), some (.iaload, 1), some (.ireturn, 1)]]
def am_c148 : am_cd := [[some (.iload_n 0, 1), some (.iconst 0, 1), some (.bipush 60, 2), none, some (.invokestatic 84, 3), none, none, some (.ireturn, 1)]]
def am_c149 : am_cd := [[some (.aload_n 0, 1), some (.iload_n 1, 1), some (.invokevirtual 249, 3), none, none, some (.iload_n 2, 1), some (.ifCond .ne 12, 3), none, none, some (.aload_n 0, 1), some (.getfield 54, 3), none, none, some (.iload_n 1, 1), some (.iaload, 1), some (.goto 35, 3)], [none, none, some (.iload_n 2, 1), some (.iconst 1, 1), some (.if_icmp .ne 11, 3), none, none, some (.aload_n 0, 1), some (.iload_n 1, 1), some (.invokevirtual 252, 3), none, none, some (.goto 22, 3), none, none, some (.iload_n 2, 1)], [some (.iconst 2, 1), some (.if_icmp .ne 11, 3), none, none, some (.aload_n 0, 1), some (.iload_n 1, 1), some (.invokevirtual 246, 3), none, none, some (.goto 9, 3), none, none, some (.aload_n 0, 1), some (.getfield 57, 3), none, none], [some (.iload_n 1, 1), some (.iaload, 1), some (.ireturn, 1)]]
def am_c150 : am_cd := [[some (.iload_n 1, 1), some (.invokestatic 255, 3), none, none, some (.ifCond .eq 21, 3), none, none, some (.iload_n 2, 1), some (.iconst 0, 1), some (.iconst 3, 1), some (.invokestatic 84, 3), none, none, some (.ifCond .eq 12, 3), none, none], [some (.aload_n 0, 1), some (.iload_n 1, 1), some (.iload_n 2, 1), some (.invokevirtual 258, 3), none, none, some (.goto 4, 3), none, none, some (.iconst (-1), 1), some (.ireturn, 1)]]
def am_c151 : am_cd := [[some (.iload_n 1, 1), some (.invokestatic 255, 3), none, none, some (.ifCond .eq 11, 3), none, none, some (.aload_n 0, 1), some (.iload_n 2, 1), some (.invokevirtual 172, 3), none, none, some (.ifCond .ne 5, 3), none, none, some (.iconst (-1), 1)], [some (.ireturn, 1), some (.aload_n 0, 1), some (.iload_n 1, 1), some (.invokevirtual 249, 3), none, none, some (.aload_n 0, 1), some (.getfield 63, 3), none, none, some (.iconst 3, 1), some (.iload_n 1, 1), some (.imul, 1), some (.iload_n 2, 1), some (.iadd, 1), some (.iaload, 1)], [some (.ireturn, 1)]]
def am_c152 : am_cd := [[some (.iload_n 1, 1), some (.invokestatic 255, 3), none, none, some (.ifCond .eq 11, 3), none, none, some (.aload_n 0, 1), some (.iload_n 2, 1), some (.invokevirtual 192, 3), none, none, some (.ifCond .ne 5, 3), none, none, some (.iconst (-1), 1)], [some (.ireturn, 1), some (.aload_n 0, 1), some (.iload_n 1, 1), some (.invokevirtual 249, 3), none, none, some (.aload_n 0, 1), some (.getfield 60, 3), none, none, some (.bipush 6, 2), none, some (.iload_n 1, 1), some (.imul, 1), some (.iload_n 2, 1), some (.iadd, 1)], [some (.iaload, 1), some (.ireturn, 1)]]
def am_c153 : am_cd := [[some (.iload_n 1, 1), some (.invokestatic 255, 3), none, none, some (.ifCond .eq 14, 3), none, none, some (.iload_n 2, 1), some (.iconst 0, 1), some (.sipush 9999, 3), none, none, some (.invokestatic 84, 3), none, none, some (.ifCond .ne 5, 3)], [none, none, some (.iconst (-1), 1), some (.ireturn, 1), some (.aload_n 0, 1), some (.getfield 142, 3), none, none, some (.bipush 6, 2), none, some (.if_icmp .ne 6, 3), none, none, some (.bipush (-3), 2), none, some (.ireturn, 1)], [some (.aload_n 0, 1), some (.getfield 36, 3), none, none, some (.aload_n 0, 1), some (.getfield 142, 3), none, none, some (.iload_n 1, 1), some (.iastore, 1), some (.aload_n 0, 1), some (.getfield 39, 3), none, none, some (.aload_n 0, 1), some (.getfield 142, 3)], [none, none, some (.iload_n 2, 1), some (.iastore, 1), some (.aload_n 0, 1), some (.dup, 1), some (.getfield 142, 3), none, none, some (.iconst 1, 1), some (.iadd, 1), some (.putfield 142, 3), none, none, some (.aload_n 0, 1), some (.getfield 142, 3)], [none, none, some (.ireturn, 1)]]
def am_c154 : am_cd := [[some (.aload_n 0, 1), some (.getfield 142, 3), none, none, some (.istore_n 1, 1), some (.aload_n 0, 1), some (.iconst 0, 1), some (.putfield 142, 3), none, none, some (.iload_n 1, 1), some (.ireturn, 1)]]
def am_c155 : am_cd := [[some (.aload_n 0, 1), some (.bipush 60, 2), none, some (.invokevirtual 249, 3), none, none, some (.iconst 0, 1), some (.istore_n 1, 1), some (.iconst 0, 1), some (.istore_n 2, 1), some (.iload_n 2, 1), some (.aload_n 0, 1), some (.getfield 139, 3), none, none, some (.if_icmp .ge 80, 3)], [none, none, some (.iconst 1, 1), some (.istore_n 3, 1), some (.iconst 0, 1), some (.istore 4, 2), none, some (.iload 4, 2), none, some (.aload_n 0, 1), some (.getfield 142, 3), none, none, some (.if_icmp .ge 46, 3), none, none], [some (.iload_n 3, 1), some (.ifCond .eq 34, 3), none, none, some (.aload_n 0, 1), some (.getfield 60, 3), none, none, some (.bipush 6, 2), none, some (.aload_n 0, 1), some (.getfield 36, 3), none, none, some (.iload 4, 2), none], [some (.iaload, 1), some (.imul, 1), some (.iload_n 2, 1), some (.iadd, 1), some (.iaload, 1), some (.aload_n 0, 1), some (.getfield 39, 3), none, none, some (.iload 4, 2), none, some (.iaload, 1), some (.if_icmp .ne 7, 3), none, none, some (.iconst 1, 1)], [some (.goto 4, 3), none, none, some (.iconst 0, 1), some (.istore_n 3, 1), some (.iinc 4 1, 3), none, none, some (.goto (-49), 3), none, none, some (.iload_n 1, 1), some (.iload_n 3, 1), some (.ifCond .eq 9, 3), none, none], [some (.iconst 1, 1), some (.iload_n 2, 1), some (.ishl, 1), some (.goto 4, 3), none, none, some (.iconst 0, 1), some (.ior, 1), some (.istore_n 1, 1), some (.iinc 2 1, 3), none, none, some (.goto (-82), 3), none, none, some (.iload_n 1, 1)], [some (.ireturn, 1)]]
def am_c156 : am_cd := [[some (.aload_n 0, 1), some (.invokevirtual 261, 3), none, none, some (.ireturn, 1)]]
def am_c157 : am_cd := [[some (.iconst 0, 1), some (.istore_n 3, 1), some (.iconst 0, 1), some (.istore 4, 2), none, some (.iload 4, 2), none, some (.aload_n 0, 1), some (.getfield 139, 3), none, none, some (.if_icmp .ge 98, 3), none, none, some (.iconst 0, 1), some (.istore 5, 2)], [none, some (.iconst 0, 1), some (.istore 6, 2), none, some (.iload 6, 2), none, some (.aload_n 0, 1), some (.getfield 139, 3), none, none, some (.if_icmp .ge 64, 3), none, none, some (.iload 5, 2), none, some (.iload_n 1, 1)], [some (.iload 4, 2), none, some (.invokestatic 158, 3), none, none, some (.ifCond .eq 43, 3), none, none, some (.iload_n 1, 1), some (.iload 6, 2), none, some (.invokestatic 158, 3), none, none, some (.ifCond .eq 34, 3), none], [none, some (.aload_n 0, 1), some (.getfield 60, 3), none, none, some (.bipush 6, 2), none, some (.iload_n 2, 1), some (.imul, 1), some (.iload 4, 2), none, some (.iadd, 1), some (.iaload, 1), some (.aload_n 0, 1), some (.getfield 60, 3), none], [none, some (.bipush 6, 2), none, some (.iload_n 2, 1), some (.imul, 1), some (.iload 6, 2), none, some (.iadd, 1), some (.iaload, 1), some (.if_icmp .ne 7, 3), none, none, some (.iconst 1, 1), some (.goto 4, 3), none, none], [some (.iconst 0, 1), some (.iadd, 1), some (.istore 5, 2), none, some (.iinc 6 1, 3), none, none, some (.goto (-67), 3), none, none, some (.iload 5, 2), none, some (.iload_n 3, 1), some (.if_icmp .le 8, 3), none, none], [some (.iload 5, 2), none, some (.goto 4, 3), none, none, some (.iload_n 3, 1), some (.istore_n 3, 1), some (.iinc 4 1, 3), none, none, some (.goto (-101), 3), none, none, some (.iload_n 3, 1), some (.ireturn, 1)]]
def am_c158 : am_cd := [[some (.aload_n 0, 1), some (.invokevirtual 261, 3), none, none, some (.istore_n 1, 1), some (.iload_n 1, 1), some (.iload_n 1, 1), some (.iconst 1, 1), some (.isub, 1), some (.iand, 1), some (.ifCond .ne 6, 3), none, none, some (.bipush (-9), 2), none, some (.ireturn, 1)], [some (.iconst 0, 1), some (.istore_n 2, 1), some (.iconst 1, 1), some (.istore_n 3, 1), some (.iload_n 3, 1), some (.bipush 60, 2), none, some (.if_icmp .gt 30, 3), none, none, some (.aload_n 0, 1), some (.iload_n 1, 1), some (.iload_n 3, 1), some (.invokevirtual 264, 3), none, none], [some (.aload_n 0, 1), some (.iload_n 1, 1), some (.iload_n 2, 1), some (.invokevirtual 264, 3), none, none, some (.if_icmp .ge 7, 3), none, none, some (.iload_n 3, 1), some (.goto 4, 3), none, none, some (.iload_n 2, 1), some (.istore_n 2, 1), some (.iinc 3 1, 3)], [none, none, some (.goto (-30), 3), none, none, some (.iload_n 2, 1), some (.ireturn, 1)]]
def am_c159 : am_cd := [[some (.iload_n 1, 1), some (.iconst 0, 1), some (.iconst 1, 1), some (.invokestatic 84, 3), none, none, some (.ifCond .ne 5, 3), none, none, some (.iconst (-1), 1), some (.ireturn, 1), some (.iconst 0, 1), some (.istore_n 2, 1), some (.iload_n 2, 1), some (.sipush 1026, 3), none], [none, some (.if_icmp .ge 27, 3), none, none, some (.aload_n 0, 1), some (.getfield 29, 3), none, none, some (.sipush 1026, 3), none, none, some (.iload_n 1, 1), some (.imul, 1), some (.iload_n 2, 1), some (.iadd, 1), some (.aload_n 0, 1)], [some (.getfield 23, 3), none, none, some (.iload_n 2, 1), some (.iaload, 1), some (.iastore, 1), some (.iinc 2 1, 3), none, none, some (.goto (-28), 3), none, none, some (.aload_n 0, 1), some (.getfield 32, 3), none, none], [some (.iload_n 1, 1), some (.iconst 1, 1), some (.bastore, 1), some (.aload_n 0, 1), some (.getfield 23, 3), none, none, some (.iconst 0, 1), some (.iaload, 1), some (.ireturn, 1)]]
def am_c160 : am_cd := [[some (.iload_n 1, 1), some (.iconst 0, 1), some (.iconst 1, 1), some (.invokestatic 84, 3), none, none, some (.ifCond .ne 5, 3), none, none, some (.iconst (-1), 1), some (.ireturn, 1), some (.aload_n 0, 1), some (.getfield 32, 3), none, none, some (.iload_n 1, 1)], [some (.baload, 1), some (.ifCond .ne 6, 3), none, none, some (.bipush (-2), 2), none, some (.ireturn, 1), some (.iconst 0, 1), some (.istore_n 2, 1), some (.iload_n 2, 1), some (.sipush 1026, 3), none, none, some (.if_icmp .ge 27, 3), none, none], [some (.aload_n 0, 1), some (.getfield 23, 3), none, none, some (.iload_n 2, 1), some (.aload_n 0, 1), some (.getfield 29, 3), none, none, some (.sipush 1026, 3), none, none, some (.iload_n 1, 1), some (.imul, 1), some (.iload_n 2, 1), some (.iadd, 1)], [some (.iaload, 1), some (.iastore, 1), some (.iinc 2 1, 3), none, none, some (.goto (-28), 3), none, none, some (.aload_n 0, 1), some (.iconst 0, 1), some (.putfield 145, 3), none, none, some (.aload_n 0, 1), some (.getfield 23, 3), none], [none, some (.iconst 0, 1), some (.iaload, 1), some (.ireturn, 1)]]
def am_c161 : am_cd := [[some (.iload_n 1, 1), some (.tableswitch 119 0 10 #[59, 64, 69, 74, 81, 86, 91, 96, 104, 109, 114], 59), none, none, none, none, none, none, none, none, none, none, none, none, none, none], [none, none, none, none, none, none, none, none, none, none, none, none, none, none, none, none], [none, none, none, none, none, none, none, none, none, none, none, none, none, none, none, none], [none, none, none, none, none, none, none, none, none, none, none, none, some (.aload_n 0, 1), some (.getfield 7, 3), none, none], [some (.ireturn, 1), some (.aload_n 0, 1), some (.getfield 136, 3), none, none, some (.ireturn, 1), some (.aload_n 0, 1), some (.getfield 139, 3), none, none, some (.ireturn, 1), some (.aload_n 0, 1), some (.getfield 23, 3), none, none, some (.iconst 0, 1)], [some (.iaload, 1), some (.ireturn, 1), some (.aload_n 0, 1), some (.invokevirtual 155, 3), none, none, some (.ireturn, 1), some (.aload_n 0, 1), some (.invokevirtual 152, 3), none, none, some (.ireturn, 1), some (.aload_n 0, 1), some (.invokevirtual 161, 3), none, none], [some (.ireturn, 1), some (.aload_n 0, 1), some (.getfield 23, 3), none, none, some (.bipush 19, 2), none, some (.iaload, 1), some (.ireturn, 1), some (.aload_n 0, 1), some (.getfield 142, 3), none, none, some (.ireturn, 1), some (.aload_n 0, 1), some (.getfield 78, 3)], [none, none, some (.ireturn, 1), some (.aload_n 0, 1), some (.getfield 145, 3), none, none, some (.ireturn, 1), some (.iconst (-1), 1), some (.ireturn, 1)]]
def am_c162 : am_cd := [[some (.iload_n 0, 1), some (.iload_n 0, 1), some (.iconst 1, 1), some (.iushr, 1), some (.ldc_w 265, 3), none, none, some (.iand, 1), some (.isub, 1), some (.istore_n 0, 1), some (.iload_n 0, 1), some (.ldc_w 266, 3), none, none, some (.iand, 1), some (.iload_n 0, 1)], [some (.iconst 2, 1), some (.iushr, 1), some (.ldc_w 266, 3), none, none, some (.iand, 1), some (.iadd, 1), some (.istore_n 0, 1), some (.iload_n 0, 1), some (.iload_n 0, 1), some (.iconst 4, 1), some (.iushr, 1), some (.iadd, 1), some (.ldc_w 267, 3), none, none], [some (.iand, 1), some (.istore_n 0, 1), some (.iload_n 0, 1), some (.iload_n 0, 1), some (.bipush 8, 2), none, some (.iushr, 1), some (.iadd, 1), some (.istore_n 0, 1), some (.iload_n 0, 1), some (.iload_n 0, 1), some (.bipush 16, 2), none, some (.iushr, 1), some (.iadd, 1), some (.istore_n 0, 1)], [some (.iload_n 0, 1), some (.bipush 63, 2), none, some (.iand, 1), some (.ireturn, 1)]]
def am_c163 : am_cd := [[some (.iload_n 0, 1), some (.iload_n 1, 1), some (.if_icmp .lt 7, 3), none, none, some (.iload_n 0, 1), some (.goto 4, 3), none, none, some (.iload_n 1, 1), some (.ireturn, 1)]]
def am_c164 : am_cd := [[some (.iload_n 0, 1), some (.iload_n 1, 1), some (.if_icmp .gt 7, 3), none, none, some (.iload_n 0, 1), some (.goto 4, 3), none, none, some (.iload_n 1, 1), some (.ireturn, 1)]]
def am_c165 : am_cd := [[some (.aload_n 0, 1), some (.getfield 9, 3), none, none, some (.arraylength, 1), some (.aload_n 0, 1), some (.invokevirtual 335, 3), none, none, some (.ishr, 1), some (.ireturn, 1)]]
def am_c166 : am_cd := [[some (.aload_n 0, 1), some (.invokevirtual 492, 3), none, none, some (.ifCond .eq 12, 3), none, none, some (.aload_n 0, 1), some (.getfield 9, 3), none, none, some (.iload_n 1, 1), some (.invokestatic 495, 3), none, none, some (.ireturn, 1)], [some (.aload_n 0, 1), some (.getfield 9, 3), none, none, some (.iload_n 1, 1), some (.invokestatic 498, 3), none, none, some (.ireturn, 1)]]
def am_c167 : am_cd := [[some (.getstatic 38, 3), none, none, some (.ifCond .eq 10, 3), none, none, some (.aload_n 0, 1), some (.getfield 15, 3), none, none, some (.goto 4, 3), none, none, some (.iconst 1, 1), some (.ireturn, 1)]]
def am_c168 : am_cd := [[some (.getstatic 38, 3), none, none, some (.ifCond .eq 14, 3), none, none, some (.aload_n 0, 1), some (.getfield 15, 3), none, none, some (.ifCond .ne 7, 3), none, none, some (.iconst 1, 1), some (.goto 4, 3), none], [none, some (.iconst 0, 1), some (.ireturn, 1)]]
def am_c169 : am_cd := [[some (.iload_n 0, 1), some (.iload_n 1, 1), some (.getstatic 1053, 3), none, none, some (.invokestatic 1059, 3), none, none, some (.pop, 1), some (.return_, 1)]]
def am_c170 : am_cd := [[some (.iload_n 1, 1), some (.aload_n 0, 1), some (.arraylength, 1), some (.invokestatic 9, 3), none, none, some (.aload_n 0, 1), some (.iload_n 1, 1), some (.baload, 1), some (.sipush 255, 3), none, none, some (.iand, 1), some (.i2c, 1), some (.ireturn, 1)]]
def am_c171 : am_cd := [[some (.iload_n 0, 1), some (.ifCond .lt 8, 3), none, none, some (.iload_n 0, 1), some (.iload_n 1, 1), some (.if_icmp .lt 10, 3), none, none, some (.aload_n 2, 1), some (.iload_n 0, 1), some (.iload_n 1, 1), some (.invokestatic 95, 3), none, none, some (.athrow, 1)], [some (.iload_n 0, 1), some (.ireturn, 1)]]
def am_c172 : am_cd := [[some (.new 7, 3), none, none, some (.dup, 1), some (.invokespecial 9, 3), none, none, some (.astore_n 1, 1), some (.new 10, 3), none, none, some (.dup, 1), some (.invokespecial 12, 3), none, none, some (.astore_n 2, 1)], [some (.iconst 0, 1), some (.istore_n 3, 1), some (.iload_n 3, 1), some (.aload_n 0, 1), some (.arraylength, 1), some (.iconst 3, 1), some (.isub, 1), some (.if_icmp .gt 699, 3), none, none, some (.aload_n 0, 1), some (.iload_n 3, 1), some (.iaload, 1), some (.bipush 31, 2), none, some (.iand, 1)], [some (.tableswitch 684 0 23 #[112, 135, 148, 161, 194, 227, 250, 283, 306, 319, 352, 385, 418, 431, 444, 477, 510, 543, 576, 589, 602, 615, 638, 661], 112), none, none, none, none, none, none, none, none, none, none, none, none, none, none, none], [none, none, none, none, none, none, none, none, none, none, none, none, none, none, none, none], [none, none, none, none, none, none, none, none, none, none, none, none, none, none, none, none], [none, none, none, none, none, none, none, none, none, none, none, none, none, none, none, none], [none, none, none, none, none, none, none, none, none, none, none, none, none, none, none, none], [none, none, none, none, none, none, none, none, none, none, none, none, none, none, none, none], [none, none, none, none, none, none, none, none, none, none, none, none, none, none, none, none], [some (.aload_n 1, 1), some (.aload_n 0, 1), some (.iload_n 3, 1), some (.iconst 1, 1), some (.iadd, 1), some (.iaload, 1), some (.invokevirtual 13, 3), none, none, some (.aload_n 2, 1), some (.aload_n 0, 1), some (.iload_n 3, 1), some (.iconst 1, 1), some (.iadd, 1), some (.iaload, 1), some (.invokevirtual 17, 3)], [none, none, some (.if_icmp .eq 554, 3), none, none, some (.iconst 0, 1), some (.ireturn, 1), some (.aload_n 1, 1), some (.invokevirtual 18, 3), none, none, some (.aload_n 2, 1), some (.invokevirtual 22, 3), none, none, some (.if_icmp .eq 541, 3)], [none, none, some (.iconst 0, 1), some (.ireturn, 1), some (.aload_n 1, 1), some (.invokevirtual 23, 3), none, none, some (.aload_n 2, 1), some (.invokevirtual 26, 3), none, none, some (.if_icmp .eq 528, 3), none, none, some (.iconst 0, 1)], [some (.ireturn, 1), some (.aload_n 1, 1), some (.aload_n 0, 1), some (.iload_n 3, 1), some (.iconst 1, 1), some (.iadd, 1), some (.iaload, 1), some (.aload_n 0, 1), some (.iload_n 3, 1), some (.iconst 2, 1), some (.iadd, 1), some (.iaload, 1), some (.invokevirtual 27, 3), none, none, some (.aload_n 2, 1)], [some (.aload_n 0, 1), some (.iload_n 3, 1), some (.iconst 1, 1), some (.iadd, 1), some (.iaload, 1), some (.aload_n 0, 1), some (.iload_n 3, 1), some (.iconst 2, 1), some (.iadd, 1), some (.iaload, 1), some (.invokevirtual 31, 3), none, none, some (.if_icmp .eq 495, 3), none, none], [some (.iconst 0, 1), some (.ireturn, 1), some (.aload_n 1, 1), some (.aload_n 0, 1), some (.iload_n 3, 1), some (.iconst 1, 1), some (.iadd, 1), some (.iaload, 1), some (.aload_n 0, 1), some (.iload_n 3, 1), some (.iconst 2, 1), some (.iadd, 1), some (.iaload, 1), some (.invokevirtual 32, 3), none, none], [some (.aload_n 2, 1), some (.aload_n 0, 1), some (.iload_n 3, 1), some (.iconst 1, 1), some (.iadd, 1), some (.iaload, 1), some (.aload_n 0, 1), some (.iload_n 3, 1), some (.iconst 2, 1), some (.iadd, 1), some (.iaload, 1), some (.invokevirtual 35, 3), none, none, some (.if_icmp .eq 462, 3), none], [none, some (.iconst 0, 1), some (.ireturn, 1), some (.aload_n 1, 1), some (.aload_n 0, 1), some (.iload_n 3, 1), some (.iconst 1, 1), some (.iadd, 1), some (.iaload, 1), some (.invokevirtual 36, 3), none, none, some (.aload_n 2, 1), some (.aload_n 0, 1), some (.iload_n 3, 1), some (.iconst 1, 1)], [some (.iadd, 1), some (.iaload, 1), some (.invokevirtual 39, 3), none, none, some (.if_icmp .eq 439, 3), none, none, some (.iconst 0, 1), some (.ireturn, 1), some (.aload_n 1, 1), some (.aload_n 0, 1), some (.iload_n 3, 1), some (.iconst 1, 1), some (.iadd, 1), some (.iaload, 1)], [some (.aload_n 0, 1), some (.iload_n 3, 1), some (.iconst 2, 1), some (.iadd, 1), some (.iaload, 1), some (.invokevirtual 40, 3), none, none, some (.aload_n 2, 1), some (.aload_n 0, 1), some (.iload_n 3, 1), some (.iconst 1, 1), some (.iadd, 1), some (.iaload, 1), some (.aload_n 0, 1), some (.iload_n 3, 1)], [some (.iconst 2, 1), some (.iadd, 1), some (.iaload, 1), some (.invokevirtual 43, 3), none, none, some (.if_icmp .eq 406, 3), none, none, some (.iconst 0, 1), some (.ireturn, 1), some (.aload_n 1, 1), some (.aload_n 0, 1), some (.iload_n 3, 1), some (.iconst 1, 1), some (.iadd, 1)], [some (.iaload, 1), some (.invokevirtual 44, 3), none, none, some (.aload_n 2, 1), some (.aload_n 0, 1), some (.iload_n 3, 1), some (.iconst 1, 1), some (.iadd, 1), some (.iaload, 1), some (.invokevirtual 47, 3), none, none, some (.if_icmp .eq 383, 3), none, none], [some (.iconst 0, 1), some (.ireturn, 1), some (.aload_n 1, 1), some (.invokevirtual 48, 3), none, none, some (.aload_n 2, 1), some (.invokevirtual 51, 3), none, none, some (.if_icmp .eq 370, 3), none, none, some (.iconst 0, 1), some (.ireturn, 1), some (.aload_n 1, 1)], [some (.aload_n 0, 1), some (.iload_n 3, 1), some (.iconst 1, 1), some (.iadd, 1), some (.iaload, 1), some (.aload_n 0, 1), some (.iload_n 3, 1), some (.iconst 2, 1), some (.iadd, 1), some (.iaload, 1), some (.invokevirtual 52, 3), none, none, some (.aload_n 2, 1), some (.aload_n 0, 1), some (.iload_n 3, 1)], [some (.iconst 1, 1), some (.iadd, 1), some (.iaload, 1), some (.aload_n 0, 1), some (.iload_n 3, 1), some (.iconst 2, 1), some (.iadd, 1), some (.iaload, 1), some (.invokevirtual 55, 3), none, none, some (.if_icmp .eq 337, 3), none, none, some (.iconst 0, 1), some (.ireturn, 1)], [some (.aload_n 1, 1), some (.aload_n 0, 1), some (.iload_n 3, 1), some (.iconst 1, 1), some (.iadd, 1), some (.iaload, 1), some (.aload_n 0, 1), some (.iload_n 3, 1), some (.iconst 2, 1), some (.iadd, 1), some (.iaload, 1), some (.invokevirtual 56, 3), none, none, some (.aload_n 2, 1), some (.aload_n 0, 1)], [some (.iload_n 3, 1), some (.iconst 1, 1), some (.iadd, 1), some (.iaload, 1), some (.aload_n 0, 1), some (.iload_n 3, 1), some (.iconst 2, 1), some (.iadd, 1), some (.iaload, 1), some (.invokevirtual 59, 3), none, none, some (.if_icmp .eq 304, 3), none, none, some (.iconst 0, 1)], [some (.ireturn, 1), some (.aload_n 1, 1), some (.aload_n 0, 1), some (.iload_n 3, 1), some (.iconst 1, 1), some (.iadd, 1), some (.iaload, 1), some (.aload_n 0, 1), some (.iload_n 3, 1), some (.iconst 2, 1), some (.iadd, 1), some (.iaload, 1), some (.invokevirtual 60, 3), none, none, some (.aload_n 2, 1)], [some (.aload_n 0, 1), some (.iload_n 3, 1), some (.iconst 1, 1), some (.iadd, 1), some (.iaload, 1), some (.aload_n 0, 1), some (.iload_n 3, 1), some (.iconst 2, 1), some (.iadd, 1), some (.iaload, 1), some (.invokevirtual 63, 3), none, none, some (.if_icmp .eq 271, 3), none, none], [some (.iconst 0, 1), some (.ireturn, 1), some (.aload_n 1, 1), some (.invokevirtual 64, 3), none, none, some (.aload_n 2, 1), some (.invokevirtual 67, 3), none, none, some (.if_icmp .eq 258, 3), none, none, some (.iconst 0, 1), some (.ireturn, 1), some (.aload_n 1, 1)], [some (.invokevirtual 68, 3), none, none, some (.aload_n 2, 1), some (.invokevirtual 71, 3), none, none, some (.if_icmp .eq 245, 3), none, none, some (.iconst 0, 1), some (.ireturn, 1), some (.aload_n 1, 1), some (.aload_n 0, 1), some (.iload_n 3, 1), some (.iconst 1, 1)], [some (.iadd, 1), some (.iaload, 1), some (.aload_n 0, 1), some (.iload_n 3, 1), some (.iconst 2, 1), some (.iadd, 1), some (.iaload, 1), some (.invokevirtual 72, 3), none, none, some (.aload_n 2, 1), some (.aload_n 0, 1), some (.iload_n 3, 1), some (.iconst 1, 1), some (.iadd, 1), some (.iaload, 1)], [some (.aload_n 0, 1), some (.iload_n 3, 1), some (.iconst 2, 1), some (.iadd, 1), some (.iaload, 1), some (.invokevirtual 75, 3), none, none, some (.if_icmp .eq 212, 3), none, none, some (.iconst 0, 1), some (.ireturn, 1), some (.aload_n 1, 1), some (.aload_n 0, 1), some (.iload_n 3, 1)], [some (.iconst 1, 1), some (.iadd, 1), some (.iaload, 1), some (.aload_n 0, 1), some (.iload_n 3, 1), some (.iconst 2, 1), some (.iadd, 1), some (.iaload, 1), some (.invokevirtual 76, 3), none, none, some (.aload_n 2, 1), some (.aload_n 0, 1), some (.iload_n 3, 1), some (.iconst 1, 1), some (.iadd, 1)], [some (.iaload, 1), some (.aload_n 0, 1), some (.iload_n 3, 1), some (.iconst 2, 1), some (.iadd, 1), some (.iaload, 1), some (.invokevirtual 79, 3), none, none, some (.if_icmp .eq 179, 3), none, none, some (.iconst 0, 1), some (.ireturn, 1), some (.aload_n 1, 1), some (.aload_n 0, 1)], [some (.iload_n 3, 1), some (.iconst 1, 1), some (.iadd, 1), some (.iaload, 1), some (.aload_n 0, 1), some (.iload_n 3, 1), some (.iconst 2, 1), some (.iadd, 1), some (.iaload, 1), some (.invokevirtual 80, 3), none, none, some (.aload_n 2, 1), some (.aload_n 0, 1), some (.iload_n 3, 1), some (.iconst 1, 1)], [some (.iadd, 1), some (.iaload, 1), some (.aload_n 0, 1), some (.iload_n 3, 1), some (.iconst 2, 1), some (.iadd, 1), some (.iaload, 1), some (.invokevirtual 83, 3), none, none, some (.if_icmp .eq 146, 3), none, none, some (.iconst 0, 1), some (.ireturn, 1), some (.aload_n 1, 1)], [some (.aload_n 0, 1), some (.iload_n 3, 1), some (.iconst 1, 1), some (.iadd, 1), some (.iaload, 1), some (.aload_n 0, 1), some (.iload_n 3, 1), some (.iconst 2, 1), some (.iadd, 1), some (.iaload, 1), some (.invokevirtual 84, 3), none, none, some (.aload_n 2, 1), some (.aload_n 0, 1), some (.iload_n 3, 1)], [some (.iconst 1, 1), some (.iadd, 1), some (.iaload, 1), some (.aload_n 0, 1), some (.iload_n 3, 1), some (.iconst 2, 1), some (.iadd, 1), some (.iaload, 1), some (.invokevirtual 87, 3), none, none, some (.if_icmp .eq 113, 3), none, none, some (.iconst 0, 1), some (.ireturn, 1)], [some (.aload_n 1, 1), some (.invokevirtual 88, 3), none, none, some (.aload_n 2, 1), some (.invokevirtual 91, 3), none, none, some (.if_icmp .eq 100, 3), none, none, some (.iconst 0, 1), some (.ireturn, 1), some (.aload_n 1, 1), some (.invokevirtual 92, 3), none], [none, some (.aload_n 2, 1), some (.invokevirtual 95, 3), none, none, some (.if_icmp .eq 87, 3), none, none, some (.iconst 0, 1), some (.ireturn, 1), some (.aload_n 1, 1), some (.invokevirtual 96, 3), none, none, some (.aload_n 2, 1), some (.invokevirtual 99, 3)], [none, none, some (.if_icmp .eq 74, 3), none, none, some (.iconst 0, 1), some (.ireturn, 1), some (.aload_n 1, 1), some (.aload_n 0, 1), some (.iload_n 3, 1), some (.iconst 1, 1), some (.iadd, 1), some (.iaload, 1), some (.invokevirtual 100, 3), none, none], [some (.aload_n 2, 1), some (.aload_n 0, 1), some (.iload_n 3, 1), some (.iconst 1, 1), some (.iadd, 1), some (.iaload, 1), some (.invokevirtual 103, 3), none, none, some (.if_icmp .eq 51, 3), none, none, some (.iconst 0, 1), some (.ireturn, 1), some (.aload_n 1, 1), some (.aload_n 0, 1)], [some (.iload_n 3, 1), some (.iconst 1, 1), some (.iadd, 1), some (.iaload, 1), some (.invokevirtual 104, 3), none, none, some (.aload_n 2, 1), some (.aload_n 0, 1), some (.iload_n 3, 1), some (.iconst 1, 1), some (.iadd, 1), some (.iaload, 1), some (.invokevirtual 107, 3), none, none], [some (.if_icmp .eq 28, 3), none, none, some (.iconst 0, 1), some (.ireturn, 1), some (.aload_n 1, 1), some (.aload_n 0, 1), some (.iload_n 3, 1), some (.iconst 1, 1), some (.iadd, 1), some (.iaload, 1), some (.invokevirtual 108, 3), none, none, some (.aload_n 2, 1), some (.aload_n 0, 1)], [some (.iload_n 3, 1), some (.iconst 1, 1), some (.iadd, 1), some (.iaload, 1), some (.invokevirtual 111, 3), none, none, some (.if_icmp .eq 5, 3), none, none, some (.iconst 0, 1), some (.ireturn, 1), some (.iinc 3 3, 3), none, none, some (.goto (-701), 3)], [none, none, some (.iconst 1, 1), some (.ireturn, 1)]]
/-- code, own class, arguments, locals, answer, height -/
abbrev am_mt : Type := am_cd × Nat × Nat × Nat × Option FieldType × Nat
def am_MT : List (List am_mt) := [[(am_c0, 0, 2, 2, none, 2), (am_c1, 0, 3, 4, (some (.object "NumberedRings$Standing")), 5), (am_c2, 0, 2, 3, none, 2), (am_c3, 0, 1, 2, none, 4), (am_c4, 0, 3, 7, (some .int), 5), (am_c5, 0, 3, 7, (some .int), 5), (am_c6, 0, 2, 6, (some .int), 1), (am_c7, 1, 2, 2, none, 2), (am_c8, 2, 2, 3, none, 2), (am_c9, 2, 3, 3, none, 2), (am_c10, 2, 2, 2, (some .boolean), 2), (am_c11, 3, 1, 1, none, 1), (am_c12, 3, 3, 3, (some .boolean), 0), (am_c13, 3, 1, 3, (some .int), 1), (am_c14, 3, 3, 4, (some .boolean), 0), (am_c15, 4, 3, 3, none, 1)],
  [(am_c16, 4, 1, 2, none, 0), (am_c17, 4, 2, 3, none, 1), (am_c18, 4, 2, 2, (some .boolean), 0), (am_c19, 4, 2, 2, (some .int), 0), (am_c20, 4, 2, 2, (some .int), 0), (am_c21, 4, 2, 2, (some .int), 0), (am_c22, 4, 1, 3, (some .int), 0), (am_c23, 4, 1, 1, (some .int), 1), (am_c24, 4, 2, 3, (some .int), 1), (am_c25, 4, 2, 2, (some .boolean), 2), (am_c26, 4, 1, 1, (some .int), 1), (am_c27, 4, 2, 4, (some .int), 0), (am_c28, 4, 1, 3, (some .int), 0), (am_c29, 4, 2, 3, (some .int), 0), (am_c30, 4, 2, 4, (some .int), 1), (am_c31, 4, 3, 3, (some .int), 2)],
  [(am_c32, 4, 3, 5, (some .int), 0), (am_c33, 4, 1, 4, none, 2), (am_c34, 4, 2, 4, none, 1), (am_c35, 4, 4, 4, none, 1), (am_c36, 4, 2, 2, none, 1), (am_c37, 4, 1, 1, none, 0), (am_c38, 4, 3, 6, (some .int), 3), (am_c39, 4, 1, 4, (some .int), 3), (am_c40, 4, 1, 4, (some .int), 0), (am_c41, 5, 1, 1, none, 1), (am_c42, 5, 2, 2, (some .boolean), 0), (am_c43, 5, 2, 4, (some .int), 9), (am_c44, 5, 2, 2, (some .boolean), 8), (am_c45, 5, 2, 2, (some .boolean), 8), (am_c46, 5, 2, 4, (some .boolean), 8), (am_c47, 5, 3, 3, (some .boolean), 7)],
  [(am_c48, 5, 1, 1, (some .boolean), 7), (am_c49, 5, 1, 1, none, 6), (am_c50, 5, 1, 1, none, 5), (am_c51, 5, 1, 2, none, 1), (am_c52, 5, 2, 3, (some .boolean), 4), (am_c53, 5, 1, 1, (some .boolean), 0), (am_c54, 5, 1, 1, (some .boolean), 0), (am_c55, 6, 1, 1, none, 1), (am_c56, 6, 1, 1, none, 0), (am_c57, 6, 2, 2, none, 1), (am_c58, 6, 2, 2, (some .boolean), 0), (am_c59, 6, 2, 2, (some .boolean), 0), (am_c60, 6, 2, 2, (some .boolean), 0), (am_c61, 6, 3, 3, (some .boolean), 0), (am_c62, 7, 1, 1, none, 3), (am_c63, 7, 2, 2, (some .int), 1)],
  [(am_c64, 7, 1, 2, (some .int), 0), (am_c65, 7, 1, 2, (some .int), 10), (am_c66, 7, 3, 3, (some .int), 3), (am_c67, 7, 3, 3, (some .int), 4), (am_c68, 7, 2, 2, (some .int), 4), (am_c69, 7, 4, 4, (some .int), 3), (am_c70, 7, 3, 3, (some .int), 4), (am_c71, 7, 2, 3, (some .int), 3), (am_c72, 7, 1, 1, (some .int), 3), (am_c73, 7, 3, 3, (some .int), 1), (am_c74, 7, 3, 3, (some .int), 2), (am_c75, 7, 3, 3, (some .int), 2), (am_c76, 7, 1, 1, (some .int), 4), (am_c77, 7, 1, 1, (some .int), 1), (am_c78, 7, 3, 4, (some .int), 6), (am_c79, 7, 3, 3, (some .int), 6)],
  [(am_c80, 7, 3, 3, (some .int), 6), (am_c81, 7, 1, 1, (some .boolean), 0), (am_c82, 7, 3, 3, (some .int), 1), (am_c83, 7, 1, 2, (some .int), 0), (am_c84, 7, 1, 1, (some .int), 6), (am_c85, 7, 1, 2, (some .int), 6), (am_c86, 7, 2, 3, (some .int), 2), (am_c87, 7, 2, 3, (some .int), 2), (am_c88, 7, 2, 2, (some (.object "NumberedRings$Image")), 0), (am_c89, 7, 2, 2, (some .int), 2), (am_c90, 8, 1, 1, none, 1), (am_c91, 8, 3, 3, (some .boolean), 0), (am_c92, 8, 2, 2, (some .boolean), 0), (am_c93, 8, 1, 1, none, 0), (am_c94, 8, 3, 3, (some .boolean), 1), (am_c95, 8, 1, 2, (some .boolean), 2)],
  [(am_c96, 8, 3, 6, (some .int), 2), (am_c97, 8, 6, 7, (some .boolean), 0), (am_c98, 8, 1, 1, (some .int), 2), (am_c99, 8, 1, 1, (some .boolean), 3), (am_c100, 8, 1, 1, (some .boolean), 3), (am_c101, 8, 1, 1, (some .boolean), 3), (am_c102, 8, 1, 4, (some .int), 4), (am_c103, 8, 2, 2, (some .int), 1), (am_c104, 8, 1, 2, (some .int), 0), (am_c105, 8, 1, 3, (some .int), 5), (am_c106, 8, 2, 2, (some .boolean), 1), (am_c107, 8, 2, 2, (some .boolean), 1), (am_c108, 8, 2, 2, (some .boolean), 1), (am_c109, 8, 2, 2, (some .int), 0), (am_c110, 8, 1, 2, (some .int), 1), (am_c111, 8, 1, 3, (some .int), 0)],
  [(am_c112, 8, 1, 1, (some .int), 1), (am_c113, 8, 2, 4, (some .int), 2), (am_c114, 8, 2, 4, (some .int), 0), (am_c115, 8, 3, 4, none, 0), (am_c116, 8, 2, 3, none, 0), (am_c117, 8, 1, 1, none, 2), (am_c118, 8, 1, 3, (some .int), 0), (am_c119, 8, 1, 2, none, 0), (am_c120, 8, 3, 4, (some .int), 2), (am_c121, 8, 4, 4, (some .int), 2), (am_c122, 8, 3, 3, (some .int), 3), (am_c123, 8, 2, 2, (some .int), 3), (am_c124, 8, 3, 3, none, 1), (am_c125, 8, 3, 6, (some .int), 3), (am_c126, 8, 2, 4, (some .int), 3), (am_c127, 8, 1, 2, (some .int), 0)],
  [(am_c128, 8, 3, 4, (some .int), 0), (am_c129, 8, 3, 3, (some .int), 2), (am_c130, 8, 3, 3, (some .int), 3), (am_c131, 8, 3, 3, (some .int), 4), (am_c132, 8, 2, 4, (some .int), 0), (am_c133, 8, 3, 4, (some .int), 1), (am_c134, 8, 3, 3, (some .int), 2), (am_c135, 8, 2, 5, (some .int), 1), (am_c136, 8, 1, 3, (some .int), 3), (am_c137, 8, 1, 4, (some .int), 2), (am_c138, 8, 1, 3, (some .int), 0), (am_c139, 8, 1, 2, none, 1), (am_c140, 8, 2, 4, (some .boolean), 0), (am_c141, 8, 2, 2, none, 1), (am_c142, 8, 3, 5, (some .int), 1), (am_c143, 8, 1, 5, none, 2)],
  [(am_c144, 8, 2, 3, none, 1), (am_c145, 8, 2, 3, none, 3), (am_c146, 8, 2, 4, (some .int), 0), (am_c147, 8, 2, 2, (some .int), 1), (am_c148, 8, 1, 1, (some .boolean), 1), (am_c149, 8, 3, 3, (some .int), 4), (am_c150, 8, 3, 3, (some .int), 5), (am_c151, 8, 3, 3, (some .int), 4), (am_c152, 8, 3, 3, (some .int), 4), (am_c153, 8, 3, 3, (some .int), 2), (am_c154, 8, 1, 2, (some .int), 0), (am_c155, 8, 1, 5, (some .int), 4), (am_c156, 8, 1, 1, (some .int), 5), (am_c157, 8, 3, 7, (some .int), 1), (am_c158, 8, 1, 4, (some .int), 5), (am_c159, 8, 2, 3, (some .int), 1)],
  [(am_c160, 8, 2, 3, (some .int), 1), (am_c161, 8, 2, 2, (some .int), 2), (am_c162, 13, 1, 1, (some .int), 0), (am_c163, 14, 2, 2, (some .int), 0), (am_c164, 14, 2, 2, (some .int), 0), (am_c165, 10, 1, 1, (some .int), 1), (am_c166, 10, 2, 2, (some .char), 3), (am_c167, 10, 1, 1, (some .byte), 0), (am_c168, 10, 1, 1, (some .boolean), 0), (am_c169, 10, 2, 2, none, 1), (am_c170, 11, 2, 2, (some .char), 2), (am_c171, 12, 3, 3, (some .int), 0), (am_c172, 9, 1, 4, (some .boolean), 11)]]
/-- fields by own class: pool index, class, field, place of the word -/
def am_FL : List (List (Nat × Nat × Nat × Nat)) := [[(9, 0, 2, 258), (15, 0, 0, 256), (24, 0, 1, 257), (41, 6, 1, 129), (47, 6, 3, 139), (50, 4, 8, 184), (57, 6, 2, 134), (60, 6, 4, 142), (72, 4, 4, 176)],
  [(14, 1, 0, 240)],
  [(11, 2, 0, 218), (17, 2, 1, 219), (24, 2, 2, 220), (32, 2, 3, 221)],
  [(9, 3, 0, 273), (15, 3, 1, 274), (18, 3, 2, 275)],
  [(9, 4, 4, 175), (15, 4, 5, 178), (18, 4, 6, 180), (21, 4, 7, 182), (24, 4, 8, 183), (27, 4, 0, 169), (37, 4, 1, 170), (40, 4, 2, 171), (44, 4, 3, 173), (47, 4, 9, 186), (59, 6, 2, 136), (64, 6, 0, 126), (71, 6, 5, 145), (81, 6, 1, 131)],
  [(9, 5, 0, 91), (15, 5, 1, 92), (24, 5, 7, 99), (28, 5, 4, 96), (34, 5, 2, 94), (47, 5, 3, 95), (54, 5, 6, 98), (57, 6, 0, 125), (64, 6, 1, 130), (71, 6, 2, 135), (77, 5, 5, 97)],
  [(9, 6, 0, 124), (15, 6, 3, 138), (19, 6, 4, 141), (22, 6, 5, 144), (25, 6, 1, 128), (28, 6, 2, 133)],
  [(10, 7, 0, 284), (19, 7, 1, 285), (23, 7, 2, 286), (31, 7, 3, 287), (40, 7, 4, 288), (47, 7, 5, 289), (51, 7, 6, 290), (57, 7, 7, 291), (64, 7, 8, 292), (72, 5, 1, 93), (86, 2, 3, 222), (89, 1, 1, 242), (93, 3, 2, 276), (99, 4, 8, 185), (103, 4, 2, 172), (133, 4, 3, 174), (162, 6, 4, 143), (165, 6, 5, 146), (168, 4, 4, 177), (174, 4, 5, 179), (177, 4, 6, 181), (180, 6, 3, 140), (208, 4, 9, 187), (211, 0, 2, 259), (235, 1, 0, 241), (241, 6, 0, 127), (244, 6, 1, 132), (247, 6, 2, 137)],
  [(7, 8, 0, 728), (13, 8, 2, 730), (17, 8, 4, 732), (20, 8, 5, 733), (23, 8, 6, 734), (26, 8, 7, 735), (29, 8, 9, 737), (32, 8, 10, 738), (36, 8, 12, 740), (39, 8, 13, 741), (42, 8, 14, 742), (45, 8, 22, 750), (48, 8, 23, 751), (51, 8, 24, 752), (54, 8, 25, 753), (57, 8, 26, 754), (60, 8, 27, 755), (63, 8, 28, 756), (66, 8, 31, 759), (69, 8, 32, 760), (72, 8, 33, 761), (75, 8, 16, 744), (78, 8, 15, 743), (81, 8, 17, 745), (99, 8, 18, 746), (103, 8, 20, 748), (106, 8, 21, 749), (113, 8, 19, 747), (136, 8, 1, 729), (139, 8, 3, 731), (142, 8, 11, 739), (145, 8, 8, 736), (219, 8, 29, 757), (222, 8, 30, 758)],
  [],
  [],
  [],
  [],
  [],
  []]
/-- calls by own class: pool index, kind (0 virtual, 1 static, 2 <init>, 3 <init> of a nest mate, 4 Object.<init>, 5 arraycopy), method, place of the word -/
def am_CL : List (List (Nat × Nat × Nat × Nat)) := [[(3, 4, 0, 253), (21, 2, 15, 255), (28, 0, 2, 631), (32, 0, 3, 636), (35, 0, 17, 635), (38, 0, 37, 640), (53, 0, 31, 644), (63, 0, 38, 645), (66, 0, 13, 676), (75, 0, 14, 681), (79, 0, 6, 699), (83, 1, 163, 703)],
  [(3, 4, 0, 237), (11, 2, 15, 239)],
  [(3, 4, 0, 214), (21, 2, 15, 217), (28, 0, 17, 468), (35, 1, 164, 474), (41, 0, 36, 574)],
  [(3, 4, 0, 272), (22, 1, 163, 680)],
  [(3, 4, 0, 165), (31, 1, 163, 166), (50, 5, 0, 472), (56, 1, 164, 473), (67, 0, 22, 483), (74, 0, 27, 536), (78, 0, 24, 532), (84, 0, 20, 515), (87, 0, 19, 511), (90, 0, 23, 479), (93, 0, 32, 487), (96, 0, 34, 552), (100, 0, 29, 556), (103, 0, 18, 578), (107, 0, 21, 544), (110, 0, 33, 548), (113, 0, 26, 607), (116, 0, 25, 611)],
  [(3, 4, 0, 90), (19, 0, 56, 332), (31, 0, 49, 336), (37, 0, 44, 412), (41, 0, 45, 424), (44, 0, 46, 432), (50, 0, 47, 416), (60, 0, 48, 420), (67, 0, 60, 428), (74, 0, 61, 436), (80, 1, 53, 340), (83, 0, 50, 343), (86, 1, 54, 402), (89, 0, 51, 405), (93, 0, 52, 348), (101, 1, 164, 409), (107, 0, 165, 352), (112, 0, 166, 362)],
  [(3, 4, 0, 123), (31, 5, 0, 444)],
  [(1, 4, 0, 82), (9, 3, 41, 87), (18, 3, 55, 120), (28, 2, 15, 162), (37, 2, 8, 211), (46, 2, 7, 234), (56, 2, 0, 250), (63, 3, 11, 269), (68, 0, 42, 316), (76, 0, 43, 328), (80, 0, 57, 440), (83, 0, 16, 447), (96, 0, 58, 456), (106, 0, 28, 460), (110, 0, 9, 464), (114, 0, 31, 475), (118, 0, 18, 495), (121, 0, 69, 499), (125, 0, 20, 503), (129, 0, 35, 507), (136, 0, 59, 524), (139, 0, 25, 528), (142, 0, 38, 540), (145, 0, 34, 564), (149, 0, 33, 565), (152, 0, 10, 570), (156, 0, 19, 583), (159, 0, 21, 584), (171, 0, 24, 589), (183, 0, 29, 594), (186, 0, 30, 595), (189, 0, 39, 603), (192, 0, 40, 616), (195, 1, 81, 624), (198, 0, 1, 627), (202, 0, 22, 646), (205, 0, 26, 647), (214, 0, 12, 660), (218, 0, 4, 672), (222, 1, 162, 689), (227, 0, 5, 695), (231, 0, 88, 708), (238, 0, 17, 712), (250, 0, 23, 721)],
  [(1, 4, 0, 727), (84, 1, 91, 836), (88, 0, 93, 851), (91, 0, 94, 859), (95, 0, 97, 863), (109, 0, 96, 871), (116, 0, 95, 875), (120, 0, 98, 855), (124, 0, 99, 867), (127, 0, 100, 879), (130, 0, 101, 883), (133, 0, 102, 847), (148, 0, 109, 931), (152, 0, 111, 911), (155, 0, 110, 935), (158, 1, 92, 955), (161, 0, 112, 907), (164, 0, 115, 915), (168, 0, 116, 966), (172, 0, 106, 891), (176, 0, 114, 895), (179, 0, 118, 899), (182, 0, 119, 903), (185, 0, 108, 923), (188, 0, 121, 927), (192, 0, 107, 947), (195, 0, 113, 951), (198, 0, 124, 958), (201, 0, 117, 962), (204, 0, 128, 982), (207, 0, 130, 990), (210, 0, 132, 1002), (213, 0, 133, 998), (216, 0, 135, 1010), (225, 0, 138, 1049), (228, 0, 140, 1037), (231, 0, 141, 1045), (234, 0, 142, 1053), (237, 0, 139, 1057), (240, 0, 144, 1033), (243, 0, 143, 1041), (246, 0, 146, 1065), (249, 0, 145, 1029), (252, 0, 147, 1061), (255, 1, 148, 1022), (258, 0, 149, 1025), (261, 0, 155, 1089), (264, 0, 157, 1097)],
  [(9, 2, 62, 79), (12, 2, 90, 724), (13, 0, 63, 312), (17, 0, 103, 832), (18, 0, 64, 320), (22, 0, 104, 839), (23, 0, 65, 324), (26, 0, 105, 843), (27, 0, 66, 452), (31, 0, 120, 887), (32, 0, 67, 491), (35, 0, 122, 919), (36, 0, 68, 516), (39, 0, 123, 939), (40, 0, 70, 520), (43, 0, 125, 943), (44, 0, 71, 560), (47, 0, 126, 970), (48, 0, 72, 566), (51, 0, 127, 974), (52, 0, 73, 579), (55, 0, 129, 978), (56, 0, 74, 585), (59, 0, 131, 986), (60, 0, 75, 590), (63, 0, 134, 994), (64, 0, 76, 599), (67, 0, 136, 1006), (68, 0, 77, 612), (71, 0, 137, 1014), (72, 0, 78, 620), (75, 0, 150, 1018), (76, 0, 79, 648), (79, 0, 151, 1069), (80, 0, 80, 652), (83, 0, 152, 1073), (84, 0, 82, 656), (87, 0, 153, 1077), (88, 0, 83, 664), (91, 0, 154, 1081), (92, 0, 84, 668), (95, 0, 156, 1085), (96, 0, 85, 685), (99, 0, 158, 1093), (100, 0, 86, 704), (103, 0, 159, 1101), (104, 0, 87, 713), (107, 0, 160, 1105), (108, 0, 89, 717), (111, 0, 161, 1109)],
  [(335, 0, 167, 356), (492, 0, 168, 366), (495, 1, 170, 370), (1059, 1, 171, 378)],
  [(9, 1, 169, 373)],
  [],
  [],
  []]
/-- classes by own class: pool index, class, place of the word -/
def am_NL : List (List (Nat × Nat × Nat)) := [[(19, 4, 254)], [(9, 4, 238)], [(9, 4, 215)], [], [], [], [], [(7, 5, 85), (16, 6, 118), (26, 4, 160), (35, 2, 209), (44, 1, 232), (54, 0, 248), (61, 3, 267)], [], [(7, 7, 77), (10, 8, 722)], [], [], [], [], []]
/-- names and bytes by method, with the places of their words: code, instanceMethod or static, selects, initialized -/
def am_MN : List (List ((MethodName × ByteArray) × Nat × Nat × Nat × Nat)) := [[((yX0_init, cX0_init), 252, 251, 0, 68), ((yX0_after, cX0_after), 630, 628, 629, 68), ((yX0_start, cX0_start), 634, 633, 12, 68), ((yX0_tick, cX0_tick), 639, 638, 13, 68), ((yX0_takersSeen, cX0_takersSeen), 675, 673, 674, 68), ((yX0_ticksThatPart, cX0_ticksThatPart), 698, 696, 697, 68), ((yX0_greatestGroup, cX0_greatestGroup), 702, 701, 14, 68), ((yX1_init, cX1_init), 236, 235, 0, 67), ((yX2_init, cX2_init), 213, 212, 0, 66), ((yX2_remember, cX2_remember), 467, 465, 466, 66), ((yX2_restore, cX2_restore), 573, 571, 572, 66), ((yX3_init, cX3_init), 271, 270, 0, 69), ((yX3_add, cX3_add), 663, 661, 662, 69), ((yX3_lastTick, cX3_lastTick), 679, 677, 678, 69), ((yX3_allows, cX3_allows), 684, 682, 683, 69), ((yX4_init, cX4_init), 164, 163, 0, 64)],
  [((yX4_reset, cX4_reset), 450, 448, 449, 64), ((yX4_copyFrom, cX4_copyFrom), 471, 469, 470, 64), ((yX4_hasEvent, cX4_hasEvent), 498, 496, 497, 64), ((yX4_makerOf, cX4_makerOf), 514, 512, 513, 64), ((yX4_kindOf, cX4_kindOf), 506, 504, 505, 64), ((yX4_valueOf, cX4_valueOf), 547, 545, 546, 64), ((yX4_least, cX4_least), 486, 484, 485, 64), ((yX4_room, cX4_room), 482, 480, 481, 64), ((yX4_atMost, cX4_atMost), 535, 533, 534, 64), ((yX4_hasAhead, cX4_hasAhead), 531, 529, 530, 64), ((yX4_slowest, cX4_slowest), 610, 608, 609, 64), ((yX4_slowestOf, cX4_slowestOf), 539, 538, 11, 64), ((yX4_wantedByAll, cX4_wantedByAll), 463, 461, 462, 64), ((yX4_placeInRow, cX4_placeInRow), 559, 557, 558, 64), ((yX4_openOf, cX4_openOf), 598, 596, 597, 64), ((yX4_claimOrWait, cX4_claimOrWait), 478, 476, 477, 64)],
  [((yX4_claim, cX4_claim), 490, 489, 9, 64), ((yX4_admit, cX4_admit), 551, 549, 550, 64), ((yX4_leaveRow, cX4_leaveRow), 555, 553, 554, 64), ((yX4_close, cX4_close), 510, 508, 509, 64), ((yX4_reopen, cX4_reopen), 577, 575, 576, 64), ((yX4_closeAllByRule, cX4_closeAllByRule), 643, 641, 642, 64), ((yX4_goOver, cX4_goOver), 543, 541, 542, 64), ((yX4_toBlame, cX4_toBlame), 606, 604, 605, 64), ((yX4_takesToAdmitFirst, cX4_takesToAdmitFirst), 619, 617, 618, 64), ((yX5_init, cX5_init), 89, 88, 0, 62), ((yX5_append, cX5_append), 319, 317, 318, 62), ((yX5_readInto, cX5_readInto), 331, 329, 330, 62), ((yX5_readSlots, cX5_readSlots), 415, 414, 4, 62), ((yX5_readMaker, cX5_readMaker), 427, 426, 7, 62), ((yX5_readTaker, cX5_readTaker), 435, 434, 8, 62), ((yX5_accept, cX5_accept), 419, 418, 5, 62)],
  [((yX5_acceptSemicolon, cX5_acceptSemicolon), 423, 422, 6, 62), ((yX5_next, cX5_next), 339, 338, 0, 62), ((yX5_readWord, cX5_readWord), 346, 345, 1, 62), ((yX5_readNumber, cX5_readNumber), 408, 407, 3, 62), ((yX5_isWord, cX5_isWord), 351, 350, 2, 62), ((yX5_isWordLetter, cX5_isWordLetter), 342, 341, 0, 62), ((yX5_isFigure, cX5_isFigure), 404, 403, 0, 62), ((yX6_init, cX6_init), 122, 121, 0, 63), ((yX6_reset, cX6_reset), 335, 333, 334, 63), ((yX6_copyFrom, cX6_copyFrom), 443, 441, 442, 63), ((yX6_hasMaker, cX6_hasMaker), 459, 457, 458, 63), ((yX6_hasTaker, cX6_hasTaker), 527, 525, 526, 63), ((yX6_addMaker, cX6_addMaker), 431, 429, 430, 63), ((yX6_addTaker, cX6_addTaker), 439, 437, 438, 63), ((yX7_init, cX7_init), 81, 80, 0, 61), ((yX7_type, cX7_type), 315, 313, 314, 61)],
  [((yX7_clear, cX7_clear), 323, 321, 322, 61), ((yX7_tells, cX7_tells), 327, 325, 326, 61), ((yX7_claims, cX7_claims), 455, 453, 454, 61), ((yX7_fills, cX7_fills), 494, 492, 493, 61), ((yX7_gaps, cX7_gaps), 519, 517, 518, 61), ((yX7_closeOpen, cX7_closeOpen), 502, 501, 10, 61), ((yX7_takes, cX7_takes), 523, 521, 522, 61), ((yX7_calls, cX7_calls), 563, 561, 562, 61), ((yX7_undo, cX7_undo), 569, 567, 568, 61), ((yX7_event, cX7_event), 582, 580, 581, 61), ((yX7_taker, cX7_taker), 588, 586, 587, 61), ((yX7_maker, cX7_maker), 593, 591, 592, 61), ((yX7_blamed, cX7_blamed), 602, 600, 601, 61), ((yX7_steps, cX7_steps), 615, 613, 614, 61), ((yX7_rule, cX7_rule), 623, 621, 622, 61), ((yX7_waited, cX7_waited), 651, 649, 650, 61)],
  [((yX7_done, cX7_done), 655, 653, 654, 61), ((yX7_isTicks, cX7_isTicks), 626, 625, 0, 61), ((yX7_sees, cX7_sees), 659, 657, 658, 61), ((yX7_forget, cX7_forget), 667, 665, 666, 61), ((yX7_which, cX7_which), 671, 669, 670, 61), ((yX7_look, cX7_look), 688, 686, 687, 61), ((yX7_keep, cX7_keep), 707, 705, 706, 61), ((yX7_back, cX7_back), 716, 714, 715, 61), ((yX7_imageOf, cX7_imageOf), 711, 710, 15, 61), ((yX7_count, cX7_count), 720, 718, 719, 61), ((yX8_init, cX8_init), 726, 725, 0, 70), ((yX8_within, cX8_within), 838, 837, 0, 70), ((yX8_has, cX8_has), 957, 956, 0, 70), ((yX8_skips, cX8_skips), 854, 853, 17, 70), ((yX8_isAt, cX8_isAt), 862, 861, 19, 70), ((yX8_passesEnd, cX8_passesEnd), 878, 877, 23, 70)],
  [((yX8_number, cX8_number), 874, 873, 22, 70), ((yX8_spells, cX8_spells), 866, 865, 20, 70), ((yX8_wordPassed, cX8_wordPassed), 858, 857, 18, 70), ((yX8_readsSlots, cX8_readsSlots), 870, 869, 21, 70), ((yX8_readsMaker, cX8_readsMaker), 882, 881, 24, 70), ((yX8_readsTaker, cX8_readsTaker), 886, 885, 25, 70), ((yX8_reads, cX8_reads), 850, 849, 16, 70), ((yX8_type, cX8_type), 835, 833, 834, 70), ((yX8_clear, cX8_clear), 842, 840, 841, 70), ((yX8_tells, cX8_tells), 846, 844, 845, 70), ((yX8_isMaker, cX8_isMaker), 894, 893, 26, 70), ((yX8_isTaker, cX8_isTaker), 950, 949, 37, 70), ((yX8_isEvent, cX8_isEvent), 926, 925, 33, 70), ((yX8_kindOf, cX8_kindOf), 934, 933, 35, 70), ((yX8_cursor, cX8_cursor), 938, 937, 36, 70), ((yX8_least, cX8_least), 914, 913, 31, 70)],
  [((yX8_room, cX8_room), 910, 909, 30, 70), ((yX8_atMost, cX8_atMost), 954, 953, 38, 70), ((yX8_placeOf, cX8_placeOf), 898, 897, 27, 70), ((yX8_claimsNow, cX8_claimsNow), 918, 917, 32, 70), ((yX8_leavesRow, cX8_leavesRow), 969, 968, 41, 70), ((yX8_lets, cX8_lets), 965, 964, 40, 70), ((yX8_wanted, cX8_wanted), 902, 901, 28, 70), ((yX8_keeps, cX8_keeps), 906, 905, 29, 70), ((yX8_claims, cX8_claims), 890, 888, 889, 70), ((yX8_becomes, cX8_becomes), 930, 929, 34, 70), ((yX8_fills, cX8_fills), 922, 920, 921, 70), ((yX8_gaps, cX8_gaps), 942, 940, 941, 70), ((yX8_goesOver, cX8_goesOver), 961, 960, 39, 70), ((yX8_takes, cX8_takes), 946, 944, 945, 70), ((yX8_calls, cX8_calls), 973, 971, 972, 70), ((yX8_undo, cX8_undo), 977, 975, 976, 70)],
  [((yX8_tellEvent, cX8_tellEvent), 985, 984, 42, 70), ((yX8_event, cX8_event), 981, 979, 980, 70), ((yX8_tellTaker, cX8_tellTaker), 993, 992, 43, 70), ((yX8_taker, cX8_taker), 989, 987, 988, 70), ((yX8_openOf, cX8_openOf), 1005, 1004, 45, 70), ((yX8_tellMaker, cX8_tellMaker), 1001, 1000, 44, 70), ((yX8_maker, cX8_maker), 997, 995, 996, 70), ((yX8_slowest, cX8_slowest), 1013, 1012, 46, 70), ((yX8_blamed, cX8_blamed), 1009, 1007, 1008, 70), ((yX8_steps, cX8_steps), 1017, 1015, 1016, 70), ((yX8_leastOver, cX8_leastOver), 1052, 1051, 53, 70), ((yX8_letsByRule, cX8_letsByRule), 1060, 1059, 55, 70), ((yX8_doesWait, cX8_doesWait), 1040, 1039, 50, 70), ((yX8_claimsByRule, cX8_claimsByRule), 1048, 1047, 52, 70), ((yX8_mostByRule, cX8_mostByRule), 1056, 1055, 54, 70), ((yX8_ticks, cX8_ticks), 1044, 1043, 51, 70)],
  [((yX8_saves, cX8_saves), 1036, 1035, 49, 70), ((yX8_laysRule, cX8_laysRule), 1032, 1031, 48, 70), ((yX8_slowAt, cX8_slowAt), 1068, 1067, 57, 70), ((yX8_leastAt, cX8_leastAt), 1064, 1063, 56, 70), ((yX8_isTicks, cX8_isTicks), 1024, 1023, 0, 70), ((yX8_tellRule, cX8_tellRule), 1028, 1027, 47, 70), ((yX8_rule, cX8_rule), 1021, 1019, 1020, 70), ((yX8_waited, cX8_waited), 1072, 1070, 1071, 70), ((yX8_done, cX8_done), 1076, 1074, 1075, 70), ((yX8_sees, cX8_sees), 1080, 1078, 1079, 70), ((yX8_forget, cX8_forget), 1084, 1082, 1083, 70), ((yX8_candidates, cX8_candidates), 1092, 1091, 58, 70), ((yX8_which, cX8_which), 1088, 1086, 1087, 70), ((yX8_mostAlike, cX8_mostAlike), 1100, 1099, 59, 70), ((yX8_look, cX8_look), 1096, 1094, 1095, 70), ((yX8_keep, cX8_keep), 1104, 1102, 1103, 70)],
  [((yX8_back, cX8_back), 1108, 1106, 1107, 70), ((yX8_count, cX8_count), 1112, 1110, 1111, 70), ((yJ6_bitCount_0f7a4, cJ6_bitCount_0f7a4), 691, 690, 0, 76), ((yJ9_max_7cf53, cJ9_max_7cf53), 168, 167, 0, 65), ((yJ9_min_7cf53, cJ9_min_7cf53), 411, 410, 0, 65), ((yJ0_length_8abf5, cJ0_length_8abf5), 355, 353, 354, 71), ((yJ0_charAt_5068e, cJ0_charAt_5068e), 365, 363, 364, 71), ((yJ0_coder_7d493, cJ0_coder_7d493), 359, 357, 358, 71), ((yJ0_isLatin1_aae02, cJ0_isLatin1_aae02), 369, 367, 368, 71), ((yJ0_checkIndex_df160, cJ0_checkIndex_df160), 375, 374, 0, 71), ((yJ1_charAt_3b067, cJ1_charAt_3b067), 372, 371, 0, 72), ((yJ3_checkIndex_8e157, cJ3_checkIndex_8e157), 380, 379, 0, 73), ((yL_law, cL_law), 0, 0, 0, 60)]]
def am_RN : List String := [RX0, RX1, RX2, RX3, RX4, RX5, RX6, RX7, RX8, RL, RJ0, RJ1, RJ3, RJ6, RJ9]
end
section
/-! the abstract machine: its state, its steps -/
abbrev am_M : Type := Nat → Nat → Int32
abbrev am_K : Type := (Nat ⊕ (FieldType × Nat)) × List (Option Nat)
abbrev am_G : Type := List am_K
abbrev am_L : Type := List (Option Value)
abbrev am_F : Type := Nat × am_L × List Value × am_G × am_M
abbrev am_X : Type := Nat × (Nat → Int32)
def am_nth {α : Type} : List α → Nat → Option α
  | [], _ => none
  | a :: _, 0 => some a
  | _ :: l, n + 1 => am_nth l n
def am_two {α : Type} (t : List (List α)) (k : Nat) : Option α := match am_nth t (k / 16) with
  | some l => am_nth l (k % 16)
  | none => none
def am_as {α : Type} : List (Nat × α) → Nat → Option α
  | [], _ => none
  | (k, v) :: l, n => bif Nat.beq k n then some v else am_as l n
def am_own {α : Type} (t : List (List (Nat × α))) (o k : Nat) : Option α := match am_nth t o with
  | some l => am_as l k
  | none => none
def am_at (c : am_cd) (pc : Nat) : Option (Instr × Nat) := match am_two c pc with
  | some (some x) => some x
  | _ => none
def am_m0 : am_mt := ([], 0, 0, 0, none, 0)
def am_m (j : Nat) : am_mt := match am_two am_MT j with
  | some q => q
  | none => am_m0
def am_int (n : Int) : Int32 := match n with
  | .ofNat k => Int32.ofNat k
  | .negSucc k => -(Int32.ofNat (k + 1))
def am_tg (pc : Nat) (off : Int) : Nat := ((pc : Int) + off).toNat
def am_br {α : Type} (c : ClassFile.Cond) (a b : Int32) (X Y : α) : α := match c with
  | .eq => if a = b then X else Y
  | .ne => if a = b then Y else X
  | .lt => if a < b then X else Y
  | .ge => if a < b then Y else X
  | .gt => if b < a then X else Y
  | .le => if b < a then Y else X
def am_swr {α : Type} (x : Int32) (go : Int → α) (d : α) : List Int → Int → α
  | [], _ => d
  | o :: r, k => if x = am_int k then go o else am_swr x go d r (k + 1)
def am_wr (f : am_M) (p k : Nat) (v : Int32) : am_M := fun p' k' => if p' = p then (if k' = k then v else f p' k') else f p' k'
def am_cl (f : am_M) (p : Nat) : am_M := fun p' k' => if p' = p then 0 else f p' k'
def am_cp (f : am_M) (a b sp dp n : Nat) : am_M := fun p k => if p = b then (if dp ≤ k ∧ k < dp + n then f a (sp + (k - dp)) else f p k) else f p k
/-- is the index within -/
def am_in (i : Int32) (n : Nat) : Prop := ¬ (i < 0 ∨ n ≤ i.toNatClampNeg)
def am_inD (i : Int32) (n : Nat) : Decidable (am_in i n) := inferInstanceAs (Decidable (¬ (i < 0 ∨ n ≤ i.toNatClampNeg)))
def am_chk {α : Type} (i : Int32) (n : Nat) (x : Option α) : Option α := if i < 0 then none else if i.toNatClampNeg < n then x else none
/-- fields: 0 an int, 1 a boolean, 2 a reference -/
def am_fk : List (List Nat) := [[2, 2, 2], [2, 1], [2, 2, 0, 0], [2, 2, 0], [2, 2, 0, 0, 2, 2, 2, 2, 2, 0], [2, 0, 0, 0, 0, 0, 0, 1], [0, 0, 0, 2, 2, 2], [2, 2, 2, 2, 2, 2, 2, 2, 2],
  [0, 0, 2, 0, 2, 2, 2, 2, 0, 2, 2, 0, 2, 2, 2, 0, 0, 0, 1, 0, 0, 0, 2, 2, 2, 2, 2, 2, 2, 0, 0, 2, 2, 2]]
def am_ks (ci : Nat) : List Nat := match am_nth am_fk ci with
  | some l => l
  | none => []
def am_rv (r : Option (Option Nat)) : Value := match r with
  | some (some p) => .ref p
  | _ => .null
/-- the script 1000; the formatter 1001; the texts from 1010 on, their bytes from 1020 on -/
def am_str : List (List Int32) := [[115, 108, 111, 116, 115], [109, 97, 107, 101, 114], [116, 97, 107, 101, 114]]
def am_ldl : List (Nat × Nat × Value) := [(5, 92, .ref 1010), (5, 97, .ref 1011), (5, 99, .ref 1012), (13, 265, .int 1431655765), (13, 266, .int 858993459), (13, 267, .int 252645135)]
def am_ldf (o idx : Nat) : List (Nat × Nat × Value) → Option Value
  | [] => none
  | (a, b, v) :: l => bif Nat.beq a o && Nat.beq b idx then some v else am_ldf o idx l
def am_ldc (o idx : Nat) : Option Value := am_ldf o idx am_ldl
def am_get (o idx p : Nat) (G : am_G) (f : am_M) : Option Value := match am_nth G p with
  | some (.inl ci, rs) => (match am_own am_FL o idx with
    | some (ci', k, _) => bif Nat.beq ci ci' then (match am_nth (am_ks ci) k with
      | some 2 => some (am_rv (am_nth rs k))
      | some _ => some (.int (f p k))
      | none => none) else none
    | none => none)
  | some (.inr _, _) => none
  | none => bif Nat.beq o 10 && (Nat.ble 1010 p && Nat.ble p 1012) then (bif Nat.beq idx 9 then some (.ref (p + 10)) else bif Nat.beq idx 15 then some (.int 0) else none) else none
def am_bin (i : Instr) (a b : Int32) : Option Int32 := match i with
  | .iadd => some (a + b)
  | .isub => some (a - b)
  | .imul => some (a * b)
  | .iand => some (a &&& b)
  | .ior => some (a ||| b)
  | .ixor => some (a ^^^ b)
  | .ishl => some (a <<< (b &&& 31))
  | .ishr => some (a >>> (b &&& 31))
  | .iushr => some (a.toUInt32 >>> (b.toUInt32 &&& Int32.toUInt32 31)).toInt32
  | .idiv => if b = 0 then none else some (a / b)
  | .irem => if b = 0 then none else some (a - a / b * b)
  | _ => none
/-- an object comes -/
def am_obj (o idx : Nat) : Option am_K := match am_own am_NL o idx with
  | some (ci, _) => some (.inl ci, List.replicate (am_ks ci).length none)
  | none => none
/-- all but branches, calls and answers -/
def am_sim {ρ : Type} (X : am_X) (o h : Nat) (i : Instr) (len pc : Nat) (ls : am_L) (st : List Value) (G : am_G) (f : am_M) (k : Nat → am_L → List Value → am_G → am_M → Option ρ) : Option ρ := match i with
  | .aload x9 => (match am_nth ls x9 with
    | some (some (.ref p)) => k (pc + len) ls (.ref p :: st) G f
    | _ => none)
  | .aload_n x9 => (match am_nth ls x9.val with
    | some (some (.ref p)) => k (pc + len) ls (.ref p :: st) G f
    | _ => none)
  | .iload x9 => (match am_nth ls x9 with
    | some (some (.int x)) => k (pc + len) ls (.int x :: st) G f
    | _ => none)
  | .iload_n x9 => (match am_nth ls x9.val with
    | some (some (.int x)) => k (pc + len) ls (.int x :: st) G f
    | _ => none)
  | .istore x9 => (match st, am_nth ls x9 with
    | .int x :: st, some _ => k (pc + len) (ls.set x9 (some (.int x))) st G f
    | _, _ => none)
  | .istore_n x9 => (match st, am_nth ls x9.val with
    | .int x :: st, some _ => k (pc + len) (ls.set x9.val (some (.int x))) st G f
    | _, _ => none)
  | .astore x9 => (match st, am_nth ls x9 with
    | .ref p :: st, some _ => k (pc + len) (ls.set x9 (some (.ref p))) st G f
    | _, _ => none)
  | .astore_n x9 => (match st, am_nth ls x9.val with
    | .ref p :: st, some _ => k (pc + len) (ls.set x9.val (some (.ref p))) st G f
    | _, _ => none)
  | .iconst n => k (pc + len) ls (.int (am_int n) :: st) G f
  | .bipush n => k (pc + len) ls (.int (am_int n) :: st) G f
  | .sipush n => k (pc + len) ls (.int (am_int n) :: st) G f
  | .ldc idx => (match am_ldc o idx with
    | some (.ref p) => k (pc + len) ls (.ref p :: st) G f
    | _ => none)
  | .ldc_w idx => (match am_ldc o idx with
    | some (.int v) => k (pc + len) ls (.int v :: st) G f
    | _ => none)
  | .getstatic idx => bif Nat.beq o 10 then (bif Nat.beq idx 38 then k (pc + len) ls (.int 1 :: st) G f else bif Nat.beq idx 1053 then k (pc + len) ls (.ref 1001 :: st) G f else none) else none
  | .iinc x9 n => (match am_nth ls x9 with
    | some (some (.int x)) => k (pc + len) (ls.set x9 (some (.int (x + am_int n)))) st G f
    | _ => none)
  | .dup => (match st with
    | v :: st => k (pc + len) ls (v :: v :: st) G f
    | _ => none)
  | .dup2 => (match st with
    | v :: w :: st => k (pc + len) ls (v :: w :: v :: w :: st) G f
    | _ => none)
  | .pop => (match st with
    | _ :: st => k (pc + len) ls st G f
    | _ => none)
  | .i2c => (match st with
    | .int x :: st => k (pc + len) ls (.int (x.toUInt32 % 65536).toInt32 :: st) G f
    | _ => none)
  | .goto off => k (am_tg pc off) ls st G f
  | .getfield idx => (match st with
    | .ref p :: st => (match am_get o idx p G f with
      | some v => k (pc + len) ls (v :: st) G f
      | none => none)
    | _ => none)
  | .putfield idx => (match st with
    | v :: .ref p :: st => (match am_nth G p with
      | some (.inl ci, rs) => (match am_own am_FL o idx with
        | some (ci', x9, _) => bif Nat.beq ci ci' then (match am_nth (am_ks ci) x9, v with
          | some 0, .int x => k (pc + len) ls st G (am_wr f p x9 x)
          | some 1, .int x => if x = 0 ∨ x = 1 then k (pc + len) ls st G (am_wr f p x9 x) else none
          | some 2, .ref q => (match am_nth rs x9 with
            | some _ => k (pc + len) ls st (G.set p (.inl ci, rs.set x9 (some q))) f
            | none => none)
          | _, _ => none) else none
        | none => none)
      | _ => none)
    | _ => none)
  | .arraylength => (match st with
    | .ref p :: st => (match am_nth G p with
      | some (.inr (_, n), _) => k (pc + len) ls (.int (Int32.ofNat n) :: st) G f
      | some (.inl _, _) => none
      | none => bif Nat.beq p 1000 then k (pc + len) ls (.int (Int32.ofNat X.1) :: st) G f else bif Nat.ble 1020 p && Nat.ble p 1022 then k (pc + len) ls (.int 5 :: st) G f else none)
    | _ => none)
  | .iaload => (match st with
    | .int i :: .ref p :: st => (match am_nth G p with
      | some (.inr (.int, n), _) => am_chk i n (k (pc + len) ls (.int (f p i.toNatClampNeg) :: st) G f)
      | some _ => none
      | none => bif Nat.beq p 1000 then am_chk i X.1 (k (pc + len) ls (.int (X.2 i.toNatClampNeg) :: st) G f) else none)
    | _ => none)
  | .baload => (match st with
    | .int i :: .ref p :: st => (match am_nth G p with
      | some (.inr (.boolean, n), _) => am_chk i n (k (pc + len) ls (.int (f p i.toNatClampNeg) :: st) G f)
      | some _ => none
      | none => bif Nat.ble 1020 p && Nat.ble p 1022 then am_chk i 5 (match am_nth am_str (p - 1020) with
        | some l => (match am_nth l i.toNatClampNeg with
          | some x => k (pc + len) ls (.int x :: st) G f
          | none => none)
        | none => none) else none)
    | _ => none)
  | .iastore => (match st with
    | .int x :: .int i :: .ref p :: st => (match am_nth G p with
      | some (.inr (.int, n), _) => am_chk i n (k (pc + len) ls st G (am_wr f p i.toNatClampNeg x))
      | _ => none)
    | _ => none)
  | .bastore => (match st with
    | .int x :: .int i :: .ref p :: st => (match am_nth G p with
      | some (.inr (.boolean, n), _) => if x = 0 ∨ x = 1 then am_chk i n (k (pc + len) ls st G (am_wr f p i.toNatClampNeg x)) else none
      | _ => none)
    | _ => none)
  | .aaload => (match st with
    | .int i :: .ref p :: st => (match am_nth G p with
      | some (.inr (.object _, n), rs) => am_chk i n (k (pc + len) ls (am_rv (am_nth rs i.toNatClampNeg) :: st) G f)
      | _ => none)
    | _ => none)
  | .aastore => (match st with
    | .ref q :: .int i :: .ref p :: st => (match am_nth G p, am_nth G q with
      | some (.inr (.object _, n), rs), some (.inl 4, _) => am_chk i n (match am_nth rs i.toNatClampNeg with
        | some _ => k (pc + len) ls st (G.set p (.inr (.object "NumberedRings$Standing", n), rs.set i.toNatClampNeg (some q))) f
        | none => none)
      | _, _ => none)
    | _ => none)
  | .new idx => (match am_obj o idx with
    | some x9 => k (pc + len) ls (.ref G.length :: st) (G ++ [x9]) (am_cl f G.length)
    | none => none)
  | .newarray ty => (match st with
    | .int n :: st => if n < 0 then none else if 10000 < n.toNatClampNeg then none else (match ty with
      | .int => k (pc + len) ls (.ref G.length :: st) (G ++ [(.inr (.int, n.toNatClampNeg), [])]) (am_cl f G.length)
      | .boolean => k (pc + len) ls (.ref G.length :: st) (G ++ [(.inr (.boolean, n.toNatClampNeg), [])]) (am_cl f G.length)
      | _ => none)
    | _ => none)
  | .anewarray idx => (match st, am_own am_NL o idx with
    | .int n :: st, some (4, _) => if n < 0 then none else if 10000 < n.toNatClampNeg then none else k (pc + len) ls (.ref G.length :: st) (G ++ [(.inr (.object "NumberedRings$Standing", n.toNatClampNeg), List.replicate n.toNatClampNeg none)]) (am_cl f G.length)
    | _, _ => none)
  | .invokespecial idx => (match st, am_own am_CL o idx, h with
    | .ref p :: st, some (4, _, _), _ + 1 => bif Nat.ble st.length 8 && Nat.ble p 999 then k (pc + len) ls st G f else none
    | _, _, _ => none)
  | .invokestatic idx => (match st, am_own am_CL o idx, h with
    | .int n :: .int dp :: .ref b :: .int sp :: .ref a :: st, some (5, _, _), _ + 1 => (match am_nth G a, am_nth G b with
      | some (.inr (.int, na), _), some (.inr (.int, nb), _) => bif Nat.ble st.length 8 then (if sp < 0 then none else if dp < 0 then none else if n < 0 then none else
          if sp.toNatClampNeg + n.toNatClampNeg ≤ na then if dp.toNatClampNeg + n.toNatClampNeg ≤ nb then k (pc + len) ls st G (am_cp f a b sp.toNatClampNeg dp.toNatClampNeg n.toNatClampNeg) else none else none) else none
      | _, _ => none)
    | _, _, _ => none)
  | _ => (match st with
    | .int b :: .int a :: st => (match am_bin i a b with
      | some v => k (pc + len) ls (.int v :: st) G f
      | none => none)
    | _ => none)
/-- may the method of the class o be called on it -/
def am_rcv (G : am_G) (v : Option Value) (o : Nat) : Bool := match v with
  | some (.ref p) => (match am_nth G p with
    | some (.inl ci, _) => Nat.beq ci o
    | some (.inr _, _) => false
    | none => Nat.beq o 10 && (Nat.ble 1010 p && Nat.ble p 1012))
  | _ => false
def am_cj (o : Nat) (i : Instr) : Option (Nat × Nat) := match i with
  | .invokevirtual idx => (match am_own am_CL o idx with
    | some (0, j, _) => some (0, j)
    | _ => none)
  | .invokestatic idx => (match am_own am_CL o idx with
    | some (1, j, _) => some (1, j)
    | _ => none)
  | .invokespecial idx => (match am_own am_CL o idx with
    | some (2, j, _) => some (2, j)
    | some (3, j, _) => some (3, j)
    | _ => none)
  | _ => none
/-- a call: the method, its arguments, what stays on the stack -/
def am_cal (o h : Nat) (i : Instr) (st : List Value) (G : am_G) : Option (Nat × List Value × List Value) :=
  match am_cj o i with
  | none => none
  | some (kd, j) => match am_m j with
    | (_, o', na, _, _, h') => bif Nat.blt h' h && (Nat.ble na st.length && (Nat.ble (st.length - na) 8 && (Nat.beq kd 1 || am_rcv G (am_nth st (na - 1)) o'))) then some (j, (st.take na).reverse, st.drop na) else none
def am_ent (As : List Value) (n : Nat) : am_L := As.map some ++ List.replicate (n - As.length) none
def am_rt {α : Type} (ty : Option FieldType) (v : Int32) (x : Option α) : Option α := match ty with
  | some .int => x
  | some .boolean => if v = 0 ∨ v = 1 then x else none
  | some t => if narrow t (.int v) = .int v then x else none
  | none => none
abbrev am_R : Type := Option (Option Value × am_G × am_M)
def am_aft (x : am_R) (k : Option Value → am_G → am_M → am_R) : am_R := match x with
  | some (r, G, f) => k r G f
  | none => none
/-- a call, or a step that is neither a branch nor an answer -/
def am_gen (X : am_X) (k : Nat → Nat → am_L → List Value → am_G → am_M → am_R) (j o h : Nat) (i : Instr) (len pc : Nat) (ls : am_L) (st : List Value) (G : am_G) (f : am_M) : am_R := match am_cal o h i st G with
  | some (j', As, rest) => am_aft (k j' 0 (am_ent As (am_m j').2.2.2.1) [] G f) (fun r G' f' => k j (pc + len) ls (r.toList ++ rest) G' f')
  | none => am_sim X o h i len pc ls st G f (fun pc' ls' st' G' f' => k j pc' ls' st' G' f')
/-- one step, with what comes behind it -/
def am_one (X : am_X) (k : Nat → Nat → am_L → List Value → am_G → am_M → am_R) (j pc : Nat) (ls : am_L) (st : List Value) (G : am_G) (f : am_M) : am_R := match am_m j with
  | (c, o, _, _, rt, h) => match am_at c pc with
    | none => none
    | some (i, len) => match i with
      | .if_icmp cd off => (match st with
        | .int b :: .int a :: st => am_br cd a b (k j (am_tg pc off) ls st G f) (k j (pc + len) ls st G f)
        | _ => none)
      | .ifCond cd off => (match st with
        | .int a :: st => am_br cd a 0 (k j (am_tg pc off) ls st G f) (k j (pc + len) ls st G f)
        | _ => none)
      | .tableswitch d lo _ offs => (match st with
        | .int x :: st => am_swr x (fun q => k j (am_tg pc q) ls st G f) (k j (am_tg pc d) ls st G f) offs.toList lo
        | _ => none)
      | .ireturn => (match st with
        | [.int v] => am_rt rt v (some (some (.int v), G, f))
        | _ => none)
      | .areturn => (match st with
        | [.ref p] => some (some (.ref p), G, f)
        | _ => none)
      | .return_ => (match st with
        | [] => some (none, G, f)
        | _ => none)
      | i => am_gen X k j o h i len pc ls st G f
def am_run (X : am_X) : Nat → Nat → Nat → am_L → List Value → am_G → am_M → am_R
  | 0, _, _, _, _, _, _ => none
  | n + 1, j, pc, ls, st, G, f => am_one X (am_run X n) j pc ls st G f
end
section
/-! the world behind the two constructors -/
def am_G0 : am_G := [(.inl 7, [some 1, some 3, some 7, some 11, some 18, some 63, some 71, some 79, some 88]),
  (.inl 5, [some 2, none, none, none, none, none, none, none]),
  (.inr (.int, 120), []),
  (.inl 6, [none, none, none, some 4, some 5, some 6]),
  (.inr (.int, 3), []),
  (.inr (.int, 6), []),
  (.inr (.int, 6), []),
  (.inl 6, [none, none, none, some 8, some 9, some 10]),
  (.inr (.int, 3), []),
  (.inr (.int, 6), []),
  (.inr (.int, 6), []),
  (.inl 4, [some 3, some 17, none, none, some 12, some 13, some 14, some 15, some 16, none]),
  (.inr (.int, 6), []),
  (.inr (.int, 6), []),
  (.inr (.int, 6), []),
  (.inr (.int, 3), []),
  (.inr (.int, 3), []),
  (.inr (.int, 999), []),
  (.inl 2, [some 19, some 20, none, none]),
  (.inr (.object "NumberedRings$Standing", 6), [some 21, some 28, some 35, some 42, some 49, some 56]),
  (.inr (.int, 6), []),
  (.inl 4, [some 3, some 27, none, none, some 22, some 23, some 24, some 25, some 26, none]),
  (.inr (.int, 6), []),
  (.inr (.int, 6), []),
  (.inr (.int, 6), []),
  (.inr (.int, 3), []),
  (.inr (.int, 3), []),
  (.inr (.int, 0), []),
  (.inl 4, [some 3, some 34, none, none, some 29, some 30, some 31, some 32, some 33, none]),
  (.inr (.int, 6), []),
  (.inr (.int, 6), []),
  (.inr (.int, 6), []),
  (.inr (.int, 3), []),
  (.inr (.int, 3), []),
  (.inr (.int, 0), []),
  (.inl 4, [some 3, some 41, none, none, some 36, some 37, some 38, some 39, some 40, none]),
  (.inr (.int, 6), []),
  (.inr (.int, 6), []),
  (.inr (.int, 6), []),
  (.inr (.int, 3), []),
  (.inr (.int, 3), []),
  (.inr (.int, 0), []),
  (.inl 4, [some 3, some 48, none, none, some 43, some 44, some 45, some 46, some 47, none]),
  (.inr (.int, 6), []),
  (.inr (.int, 6), []),
  (.inr (.int, 6), []),
  (.inr (.int, 3), []),
  (.inr (.int, 3), []),
  (.inr (.int, 0), []),
  (.inl 4, [some 3, some 55, none, none, some 50, some 51, some 52, some 53, some 54, none]),
  (.inr (.int, 6), []),
  (.inr (.int, 6), []),
  (.inr (.int, 6), []),
  (.inr (.int, 3), []),
  (.inr (.int, 3), []),
  (.inr (.int, 0), []),
  (.inl 4, [some 3, some 62, none, none, some 57, some 58, some 59, some 60, some 61, none]),
  (.inr (.int, 6), []),
  (.inr (.int, 6), []),
  (.inr (.int, 6), []),
  (.inr (.int, 3), []),
  (.inr (.int, 3), []),
  (.inr (.int, 0), []),
  (.inl 1, [some 64, none]),
  (.inl 4, [some 3, some 70, none, none, some 65, some 66, some 67, some 68, some 69, none]),
  (.inr (.int, 6), []),
  (.inr (.int, 6), []),
  (.inr (.int, 6), []),
  (.inr (.int, 3), []),
  (.inr (.int, 3), []),
  (.inr (.int, 999), []),
  (.inl 1, [some 72, none]),
  (.inl 4, [some 3, some 78, none, none, some 73, some 74, some 75, some 76, some 77, none]),
  (.inr (.int, 6), []),
  (.inr (.int, 6), []),
  (.inr (.int, 6), []),
  (.inr (.int, 3), []),
  (.inr (.int, 3), []),
  (.inr (.int, 999), []),
  (.inl 0, [some 3, some 81, some 80]),
  (.inr (.int, 3), []),
  (.inl 4, [some 3, some 87, none, none, some 82, some 83, some 84, some 85, some 86, none]),
  (.inr (.int, 6), []),
  (.inr (.int, 6), []),
  (.inr (.int, 6), []),
  (.inr (.int, 3), []),
  (.inr (.int, 3), []),
  (.inr (.int, 0), []),
  (.inl 3, [some 89, some 90, none]),
  (.inr (.int, 6), []),
  (.inr (.int, 6), []),
  (.inl 8, [none, none, some 92, none, some 93, some 94, some 95, some 96, none, some 97, some 98, none, some 99, some 100, some 101, none, none, none, none, none, none, none, some 102, some 103, some 104, some 105, some 106, some 107, some 108, none, none, some 109, some 110, some 111]),
  (.inr (.int, 3), []),
  (.inr (.int, 6), []),
  (.inr (.int, 6), []),
  (.inr (.int, 1026), []),
  (.inr (.int, 6156), []),
  (.inr (.int, 2052), []),
  (.inr (.boolean, 2), []),
  (.inr (.int, 6), []),
  (.inr (.int, 6), []),
  (.inr (.int, 120), []),
  (.inr (.int, 3), []),
  (.inr (.int, 6), []),
  (.inr (.int, 6), []),
  (.inr (.int, 61), []),
  (.inr (.int, 61), []),
  (.inr (.int, 366), []),
  (.inr (.int, 183), []),
  (.inr (.int, 3), []),
  (.inr (.int, 3), []),
  (.inr (.int, 6), [])]
end
section
/-! the abstract machine: more fuel does no harm; what a run comes to -/
set_option maxHeartbeats 4000000 in
set_option maxRecDepth 20000 in
theorem am_sim_bind {ρ : Type} (X : am_X) (o h : Nat) (i : Instr) (len pc : Nat) (ls : am_L) (st : List Value) (G : am_G) (f : am_M) (k : Nat → am_L → List Value → am_G → am_M → Option ρ) :
    am_sim X o h i len pc ls st G f k = (am_sim X o h i len pc ls st G f (fun a b c d e => some ((a, b, c, d, e) : am_F))).bind (fun q => k q.1 q.2.1 q.2.2.1 q.2.2.2.1 q.2.2.2.2) := by
  cases i <;> simp only [am_sim, am_chk, cond_eq_ite] <;> repeat' (first | rfl | split)
theorem am_br_some {α : Type} {c : ClassFile.Cond} {a b : Int32} {A B A' B' : Option α} {r : α} (h : am_br c a b A B = some r) (hA : A = some r → A' = some r) (hB : B = some r → B' = some r) : am_br c a b A' B' = some r := by
  cases c <;> simp only [am_br] at h ⊢ <;> split at h <;> rename_i q <;> simp only [q, if_true, if_false] <;> first | exact hA h | exact hB h
theorem am_swr_some {α : Type} {x : Int32} {go go' : Int → Option α} {d d' : Option α} {r : α} (hg : ∀ q, go q = some r → go' q = some r) (hd : d = some r → d' = some r) : ∀ (l : List Int) (k : Int), am_swr x go d l k = some r → am_swr x go' d' l k = some r
  | [], _, h => hd h
  | o :: l, k, h => by
    simp only [am_swr] at h ⊢
    split at h
    · rename_i q
      rw [if_pos q]
      exact hg o h
    · rename_i q
      rw [if_neg q]
      exact am_swr_some hg hd l (k + 1) h
theorem am_gen_some {X : am_X} {k k' : Nat → Nat → am_L → List Value → am_G → am_M → am_R} (ih : ∀ j pc ls st G f r, k j pc ls st G f = some r → k' j pc ls st G f = some r) {j o hh : Nat} {i : Instr} {len pc : Nat} {ls : am_L} {st : List Value} {G : am_G} {f : am_M} {r : Option Value × am_G × am_M} (h : am_gen X k j o hh i len pc ls st G f = some r) : am_gen X k' j o hh i len pc ls st G f = some r := by
  unfold am_gen at h ⊢
  cases hcal : am_cal o hh i st G with
  | none =>
    simp only [hcal] at h ⊢
    rw [am_sim_bind] at h ⊢
    obtain ⟨q, h1, h2⟩ := Option.bind_eq_some_iff.mp h
    rw [h1]
    exact ih _ _ _ _ _ _ _ h2
  | some y =>
    obtain ⟨j', As, rs⟩ := y
    simp only [hcal] at h ⊢
    cases hr : k j' 0 (am_ent As (am_m j').2.2.2.1) [] G f with
    | none => simp only [hr, am_aft] at h; cases h
    | some y =>
      obtain ⟨r1, G1, f1⟩ := y
      simp only [hr, am_aft] at h
      simp only [ih _ _ _ _ _ _ _ hr, am_aft]
      exact ih _ _ _ _ _ _ _ h
set_option maxHeartbeats 4000000 in
theorem am_one_some {X : am_X} {k k' : Nat → Nat → am_L → List Value → am_G → am_M → am_R} (ih : ∀ j pc ls st G f r, k j pc ls st G f = some r → k' j pc ls st G f = some r) (j pc : Nat) (ls : am_L) (st : List Value) (G : am_G) (f : am_M) (r : Option Value × am_G × am_M) (h : am_one X k j pc ls st G f = some r) : am_one X k' j pc ls st G f = some r := by
  unfold am_one at h ⊢
  generalize am_m j = mm at h ⊢
  obtain ⟨c, o, x1, x2, rt, hh⟩ := mm
  dsimp only at h ⊢
  generalize am_at c pc = w at h ⊢
  cases w with
  | none => exact h
  | some x =>
    obtain ⟨i, len⟩ := x
    cases i
    case if_icmp cd off =>
      dsimp only at h ⊢
      split at h
      · exact am_br_some h (ih _ _ _ _ _ _ _) (ih _ _ _ _ _ _ _)
      · cases h
    case ifCond cd off =>
      dsimp only at h ⊢
      split at h
      · exact am_br_some h (ih _ _ _ _ _ _ _) (ih _ _ _ _ _ _ _)
      · cases h
    case tableswitch d lo hi offs =>
      dsimp only at h ⊢
      split at h
      · exact am_swr_some (fun q => ih _ _ _ _ _ _ _) (ih _ _ _ _ _ _ _) _ _ h
      · cases h
    case ireturn => exact h
    case areturn => exact h
    case return_ => exact h
    all_goals exact am_gen_some ih h
theorem am_run_one (X : am_X) : ∀ (n j pc : Nat) (ls : am_L) (st : List Value) (G : am_G) (f : am_M) (r : Option Value × am_G × am_M), am_run X n j pc ls st G f = some r → am_run X (n + 1) j pc ls st G f = some r := by
  intro n
  induction n with
  | zero => intro j pc ls st G f r h; simp [am_run] at h
  | succ n ih => exact fun j pc ls st G f r h => am_one_some ih j pc ls st G f r h
theorem am_run_mono {X : am_X} {n j pc : Nat} {ls : am_L} {st : List Value} {G : am_G} {f : am_M} {r : Option Value × am_G × am_M} (h : am_run X n j pc ls st G f = some r) : ∀ k, am_run X (n + k) j pc ls st G f = some r
  | 0 => h
  | k + 1 => am_run_one X (n + k) j pc ls st G f r (am_run_mono h k)
theorem am_run_le {X : am_X} {n m j pc : Nat} {ls : am_L} {st : List Value} {G : am_G} {f : am_M} {r : Option Value × am_G × am_M} (h : am_run X n j pc ls st G f = some r) (hm : n ≤ m) : am_run X m j pc ls st G f = some r := by
  obtain ⟨k, rfl⟩ := Nat.exists_eq_add_of_le hm
  exact am_run_mono h k

/-- from here, over the made world, the method comes to answer r with the ints f' -/
def am_Ev (X : am_X) (j pc : Nat) (ls : am_L) (st : List Value) (f : am_M) (r : Option Value) (f' : am_M) : Prop := ∃ n, am_run X n j pc ls st am_G0 f = some (r, am_G0, f')
theorem am_Ev.call {X : am_X} {j pc j1 pc1 : Nat} {ls : am_L} {st : List Value} {f : am_M} {r : Option Value} {f' : am_M} {ls0 ls1 : am_L} {rest : List Value} {f1 : am_M} {v : Option Value}
    (hr : ∀ n, am_run X (n + 1) j pc ls st am_G0 f = am_aft (am_run X n j1 0 ls0 [] am_G0 f) (fun r G' f' => am_run X n j pc1 ls1 (r.toList ++ rest) G' f')) (h : am_Ev X j1 0 ls0 [] f v f1) (k : am_Ev X j pc1 ls1 (v.toList ++ rest) f1 r f') : am_Ev X j pc ls st f r f' := by
  obtain ⟨n, hn⟩ := h
  obtain ⟨m, hm⟩ := k
  refine ⟨n + m + 1, ?_⟩
  rw [hr (n + m)]
  have h1 := am_run_le hn (m := n + m) (by omega)
  have h2 := am_run_le hm (m := n + m) (by omega)
  simp only [h1, h2, am_aft]
abbrev am_k : Type := Nat → am_L → List Value → am_G → am_M → am_R
/-- one step that is no call -/
def am_onc (X : am_X) (k : am_k) (j pc : Nat) (ls : am_L) (st : List Value) (G : am_G) (f : am_M) : am_R := match am_m j with
  | (c, o, _, _, rt, h) => match am_at c pc with
    | none => none
    | some (i, len) => match i with
      | .if_icmp cd off => (match st with
        | .int b :: .int a :: st => am_br cd a b (k (am_tg pc off) ls st G f) (k (pc + len) ls st G f)
        | _ => none)
      | .ifCond cd off => (match st with
        | .int a :: st => am_br cd a 0 (k (am_tg pc off) ls st G f) (k (pc + len) ls st G f)
        | _ => none)
      | .tableswitch d lo _ offs => (match st with
        | .int x :: st => am_swr x (fun q => k (am_tg pc q) ls st G f) (k (am_tg pc d) ls st G f) offs.toList lo
        | _ => none)
      | .ireturn => (match st with
        | [.int v] => am_rt rt v (some (some (.int v), G, f))
        | _ => none)
      | .areturn => (match st with
        | [.ref p] => some (some (.ref p), G, f)
        | _ => none)
      | .return_ => (match st with
        | [] => some (none, G, f)
        | _ => none)
      | i => (match am_cal o h i st G with
        | some _ => none
        | none => am_sim X o h i len pc ls st G f k)
theorem am_onc_some {X : am_X} {k : am_k} {k' : Nat → Nat → am_L → List Value → am_G → am_M → am_R} {j : Nat} (ih : ∀ pc ls st G f r, k pc ls st G f = some r → k' j pc ls st G f = some r) (pc : Nat) (ls : am_L) (st : List Value) (G : am_G) (f : am_M) (r : Option Value × am_G × am_M) (h : am_onc X k j pc ls st G f = some r) : am_one X k' j pc ls st G f = some r := by
  unfold am_onc at h
  unfold am_one
  generalize am_m j = mm at h ⊢
  obtain ⟨c, o, x1, x2, rt, hh⟩ := mm
  dsimp only at h ⊢
  generalize am_at c pc = w at h ⊢
  have rest : ∀ (i : Instr) (len : Nat), (match am_cal o hh i st G with
        | some _ => none
        | none => am_sim X o hh i len pc ls st G f k) = some r → am_gen X k' j o hh i len pc ls st G f = some r := by
    intro i len h
    unfold am_gen
    cases hcal : am_cal o hh i st G with
    | none =>
      simp only [hcal] at h ⊢
      rw [am_sim_bind] at h ⊢
      obtain ⟨q, h1, h2⟩ := Option.bind_eq_some_iff.mp h
      rw [h1]
      exact ih _ _ _ _ _ _ h2
    | some y => simp only [hcal] at h; cases h
  cases w with
  | none => exact h
  | some x =>
    obtain ⟨i, len⟩ := x
    cases i
    case if_icmp cd off =>
      dsimp only at h ⊢
      split at h
      · exact am_br_some h (ih _ _ _ _ _ _) (ih _ _ _ _ _ _)
      · cases h
    case ifCond cd off =>
      dsimp only at h ⊢
      split at h
      · exact am_br_some h (ih _ _ _ _ _ _) (ih _ _ _ _ _ _)
      · cases h
    case tableswitch d lo hi offs =>
      dsimp only at h ⊢
      split at h
      · exact am_swr_some (fun q => ih _ _ _ _ _ _) (ih _ _ _ _ _ _) _ _ h
      · cases h
    case ireturn => exact h
    case areturn => exact h
    case return_ => exact h
    all_goals exact rest _ _ h
def am_mem : List Nat → Nat → Bool
  | [], _ => false
  | a :: l, n => bif Nat.beq a n then true else am_mem l n
/-- on to the next place of these -/
def am_sg (X : am_X) (sp : List Nat) (k : am_k) (j : Nat) : Nat → am_k
  | 0, pc, ls, st, G, f => k pc ls st G f
  | n + 1, pc, ls, st, G, f => bif am_mem sp pc then k pc ls st G f else am_onc X (am_sg X sp k j n) j pc ls st G f
theorem am_sg_run {X : am_X} {sp : List Nat} {j m : Nat} : ∀ (n pc : Nat) (ls : am_L) (st : List Value) (G : am_G) (f : am_M) (r : Option Value × am_G × am_M), am_sg X sp (am_run X m j) j n pc ls st G f = some r → am_run X (m + n) j pc ls st G f = some r := by
  intro n
  induction n with
  | zero => intro pc ls st G f r h; exact h
  | succ n ih =>
    intro pc ls st G f r h
    rw [am_sg] at h
    cases hm : am_mem sp pc with
    | true => rw [hm] at h; exact am_run_mono h (n + 1)
    | false => rw [hm] at h; exact am_onc_some ih pc ls st G f r h
/-- a text of runs that go on at places -/
def am_Ew (X : am_X) (j : Nat) (T : am_k → am_R) (r : Option Value) (f' : am_M) : Prop := ∃ n, T (am_run X n j) = some (r, am_G0, f')
section EW
variable {X : am_X} {j pc : Nat} {ls : am_L} {st : List Value} {f : am_M} {r : Option Value} {f' : am_M} {T T' T1 T2 : am_k → am_R} {ρ : Type} {A B : Option ρ} {q : ρ}
theorem am_Ew.start (sp : List Nat) (n : Nat) (h : am_Ew X j (fun k => am_onc X (am_sg X sp k j n) j pc ls st am_G0 f) r f') : am_Ev X j pc ls st f r f' := by
  obtain ⟨m, h⟩ := h
  exact ⟨m + n + 1, am_onc_some (fun pc ls st G f r h => am_sg_run n pc ls st G f r h) pc ls st am_G0 f _ h⟩
theorem am_Ew.conv (T' : am_k → am_R) (h : ∀ k, T k = T' k) (k : am_Ew X j T' r f') : am_Ew X j T r f' := by
  obtain ⟨n, k⟩ := k
  exact ⟨n, (h _).trans k⟩
theorem am_Ew.ite {c : Prop} [d : Decidable c] (h : (if c then A else B) = some q) (k1 : c → A = some q → am_Ew X j T1 r f') (k2 : ¬ c → B = some q → am_Ew X j T2 r f') : am_Ew X j (fun n => if c then T1 n else T2 n) r f' := by
  by_cases hc : c
  · rw [if_pos hc] at h
    obtain ⟨n, hn⟩ := k1 hc h
    exact ⟨n, (if_pos hc).trans hn⟩
  · rw [if_neg hc] at h
    obtain ⟨n, hn⟩ := k2 hc h
    exact ⟨n, (if_neg hc).trans hn⟩
theorem am_Ew.chk {i : Int32} {m : Nat} (h : am_chk i m A = some q) (k : A = some q → am_Ew X j T r f') : am_Ew X j (fun n => am_chk i m (T n)) r f' := by
  unfold am_chk at h ⊢
  split at h
  · cases h
  · rename_i h1
    split at h
    · rename_i h2
      obtain ⟨n, hn⟩ := k h
      exact ⟨n, by dsimp only; rw [if_neg h1, if_pos h2]; exact hn⟩
    · cases h
theorem am_Ew.run (h : am_Ev X j pc ls st f r f') : am_Ew X j (fun k => k pc ls st am_G0 f) r f' := h
theorem am_Ew.retI {v v' : Int32} (h : some (v, f) = some (v', f')) : am_Ew X j (fun _ => some (some (.int v), am_G0, f)) (some (.int v')) f' := by
  cases h
  exact ⟨0, rfl⟩
theorem am_Ew.retV (h : some f = some f') : am_Ew X j (fun _ => some (none, am_G0, f)) none f' := by
  cases h
  exact ⟨0, rfl⟩
theorem am_Ew.retR {p : Nat} (h : some f = some f') : am_Ew X j (fun _ => some (some (.ref p), am_G0, f)) (some (.ref p)) f' := by
  cases h
  exact ⟨0, rfl⟩
theorem am_Ew.none (h : (Option.none : Option ρ) = some q) : am_Ew X j T r f' := by cases h
end EW
def am_bI {ρ : Type} (x : Option (Int32 × am_M)) (k : Int32 → am_M → Option ρ) : Option ρ := match x with
  | some (v, f) => k v f
  | none => none
def am_bV {ρ : Type} (x : Option am_M) (k : am_M → Option ρ) : Option ρ := match x with
  | some f => k f
  | none => none
theorem am_bI_some {ρ : Type} {x : Option (Int32 × am_M)} {k : Int32 → am_M → Option ρ} {q : ρ} (h : am_bI x k = some q) : ∃ v f, x = some (v, f) ∧ k v f = some q := by
  match x, h with
  | some (v, f), h => exact ⟨v, f, rfl, h⟩
theorem am_bV_some {ρ : Type} {x : Option am_M} {k : am_M → Option ρ} {q : ρ} (h : am_bV x k = some q) : ∃ f, x = some f ∧ k f = some q := by
  match x, h with
  | some f, h => exact ⟨f, rfl, h⟩
def am_six {α : Type} (i : Int32) (a0 a1 a2 a3 a4 a5 : Option α) : Option α := if i = 0 then a0 else if i = 1 then a1 else if i = 2 then a2 else if i = 3 then a3 else if i = 4 then a4 else if i = 5 then a5 else none
theorem am_Ev.six {X : am_X} {j pc : Nat} {ls : am_L} {st : List Value} {f : am_M} {r : Option Value} {f' : am_M} {ρ : Type} {q : ρ} {i : Int32} {A0 A1 A2 A3 A4 A5 : Option ρ} (h : am_chk i 6 (am_six i A0 A1 A2 A3 A4 A5) = some q)
    (k0 : A0 = some q → am_Ev X j pc ls (.int 0 :: st) f r f') (k1 : A1 = some q → am_Ev X j pc ls (.int 1 :: st) f r f') (k2 : A2 = some q → am_Ev X j pc ls (.int 2 :: st) f r f')
    (k3 : A3 = some q → am_Ev X j pc ls (.int 3 :: st) f r f') (k4 : A4 = some q → am_Ev X j pc ls (.int 4 :: st) f r f') (k5 : A5 = some q → am_Ev X j pc ls (.int 5 :: st) f r f') : am_Ev X j pc ls (.int i :: st) f r f' := by
  unfold am_chk at h
  split at h
  · cases h
  · split at h
    · unfold am_six at h
      repeat' split at h
      · rename_i e; subst e; exact k0 h
      · rename_i e; subst e; exact k1 h
      · rename_i e; subst e; exact k2 h
      · rename_i e; subst e; exact k3 h
      · rename_i e; subst e; exact k4 h
      · rename_i e; subst e; exact k5 h
      · cases h
    · cases h
/-- enough for every loop -/
def am_fu : Nat := 6000
end
section
/-! the tables of the abstract machine against the statement's words and bytes -/
def am_tb : List Jvm.Cond := lw_tbl.filter goodWord
theorem am_tb_of {i : Nat} {w : Jvm.Cond} (h : lw_tbl[i]? = some w) (g : goodWord w = true) : w ∈ am_tb := List.mem_filter.mpr ⟨List.mem_of_getElem? h, g⟩
theorem am_tb_good {w : Jvm.Cond} (h : w ∈ am_tb) : w ∈ lw_tbl ∧ goodWord w = true := List.mem_filter.mp h
theorem am_nth_eq {α : Type} : ∀ (l : List α) (k : Nat), am_nth l k = l[k]?
  | [], _ => by simp [am_nth]
  | a :: l, 0 => by simp [am_nth]
  | a :: l, n + 1 => by simp [am_nth, am_nth_eq l n]
theorem am_as_mem {α : Type} : ∀ (l : List (Nat × α)) (k : Nat) (v : α), am_as l k = some v → (k, v) ∈ l
  | [], _, _, h => by simp [am_as] at h
  | (a, w) :: l, k, v, h => by
    rw [am_as] at h
    cases hb : Nat.beq a k with
    | true =>
      rw [hb] at h
      have e : a = k := Nat.eq_of_beq_eq_true hb
      simp at h
      subst e
      subst h
      exact List.mem_cons_self
    | false =>
      rw [hb] at h
      exact List.mem_cons_of_mem _ (am_as_mem l k v h)
theorem am_own_mem {α : Type} {t : List (List (Nat × α))} {o k : Nat} {v : α} (h : am_own t o k = some v) : ∃ l, t[o]? = some l ∧ (k, v) ∈ l := by
  unfold am_own at h
  rw [am_nth_eq] at h
  cases hl : t[o]? with
  | none => simp [hl] at h
  | some l =>
    simp only [hl] at h
    exact ⟨l, rfl, am_as_mem l k v h⟩
def am_rn (o : Nat) : String := match am_nth am_RN o with
  | some q => q
  | none => ""
def am_word (i : Nat) (w : Jvm.Cond) : Bool := decide (lw_tbl[i]? = some w) && goodWord w
theorem am_word_of {i : Nat} {w : Jvm.Cond} (h : am_word i w = true) : w ∈ am_tb := by
  unfold am_word at h
  simp only [Bool.and_eq_true, decide_eq_true_eq] at h
  exact am_tb_of h.1 h.2
def am_isf (i : Nat) (w : Jvm.Cond) : Bool := decide (lw_tbl[i]? = some w)
/-- a field's row -/
def am_flk (o : Nat) (q : Nat × Nat × Nat × Nat) : Bool := match vwCl[q.2.1]? with
  | some (C, T, N) => am_word q.2.2.2 (.fieldLink (am_rn o) q.1 C (T q.2.2.1).2.1 (T q.2.2.1).2.2.1) && Nat.blt q.2.2.1 N && decide ((T q.2.2.1).1 = C)
  | none => false
theorem am_FL_ok : (am_FL.zipIdx).all (fun q => q.1.all (am_flk q.2)) = true := by decide +kernel
/-- a class's row -/
def am_nlk (o : Nat) (q : Nat × Nat × Nat) : Bool := match vwCl[q.2.1]? with
  | some (C, _, _) => am_word q.2.2 (.classLink (am_rn o) q.1 C)
  | none => false
theorem am_NL_ok : (am_NL.zipIdx).all (fun q => q.1.all (am_nlk q.2)) = true := by decide +kernel
def am_mn (j : Nat) : (MethodName × ByteArray) × Nat × Nat × Nat × Nat := match am_two am_MN j with
  | some q => q
  | none => ((yL_law, cL_law), 0, 0, 0, 0)
def am_y (j : Nat) : MethodName := (am_mn j).1.1
def am_by (j : Nat) : ByteArray := (am_mn j).1.2
/-- a call's row -/
def am_clk (o : Nat) (q : Nat × Nat × Nat × Nat) : Bool := match q.2.1 with
  | 0 => am_word q.2.2.2 (.methodLink (am_rn o) q.1 (am_y q.2.2.1)) && Nat.blt q.2.2.1 172
  | 1 => am_word q.2.2.2 (.methodLink (am_rn o) q.1 (am_y q.2.2.1)) && Nat.blt q.2.2.1 172
  | 2 => am_word q.2.2.2 (.methodLink (am_rn o) q.1 (am_y q.2.2.1)) && Nat.blt q.2.2.1 172
  | 3 => am_isf q.2.2.2 (.methodLinkNest (am_rn o) q.1 (am_y q.2.2.1) "NumberedRings") && Nat.blt q.2.2.1 172
  | 4 => am_word q.2.2.2 (.methodLink (am_rn o) q.1 objectInit)
  | 5 => am_word q.2.2.2 (.methodLink (am_rn o) q.1 arraycopyName)
  | _ => false
theorem am_CL_ok : (am_CL.zipIdx).all (fun q => q.1.all (am_clk q.2)) = true := by decide +kernel
/-- a method's row: kinds 0 and 2 are of objects, 1 is static -/
def am_kind (j : Nat) : Nat := if (am_y j).name = "<init>" then 2 else if lw_tbl[(am_mn j).2.2.1]? = some (.static (am_y j)) then 1 else 0
def am_mlk (j : Nat) : Bool := match am_m j, am_mn j with
  | (_, o, na, mL, rt, h), ((y, bb), p1, p2, p3, p4) => am_word p1 (.code y bb mL rt) && (am_word p4 (.initialized y.cls) && (decide (y.cls = am_rn o) && (plainFor y && (decide (y.cls ≠ "java/lang/invoke/MethodHandle" ∧ y.cls ≠ "java/lang/invoke/VarHandle") && (Nat.ble mL 16 && (Nat.ble na mL &&
    (match am_kind j with
     | 0 => am_word p2 (.instanceMethod y) && (am_word p3 (.selects y.cls y y) && decide ((parseMethodDescriptor y.desc).map (fun d => d.parameters.length + 1) = some na))
     | 1 => am_word p2 (.static y) && decide ((parseMethodDescriptor y.desc).map (fun d => d.parameters.length) = some na)
     | _ => am_word p2 (.instanceMethod y) && (decide (rt = none) && decide ((parseMethodDescriptor y.desc).map (fun d => d.parameters.length + 1) = some na)))))))))

theorem am_ml_0 : (List.range 16).all (fun j => am_mlk (0 + j)) = true := by decide +kernel
theorem am_ml_16 : (List.range 16).all (fun j => am_mlk (16 + j)) = true := by decide +kernel
theorem am_ml_32 : (List.range 16).all (fun j => am_mlk (32 + j)) = true := by decide +kernel
theorem am_ml_48 : (List.range 16).all (fun j => am_mlk (48 + j)) = true := by decide +kernel
theorem am_ml_64 : (List.range 16).all (fun j => am_mlk (64 + j)) = true := by decide +kernel
theorem am_ml_80 : (List.range 16).all (fun j => am_mlk (80 + j)) = true := by decide +kernel
theorem am_ml_96 : (List.range 16).all (fun j => am_mlk (96 + j)) = true := by decide +kernel
theorem am_ml_112 : (List.range 16).all (fun j => am_mlk (112 + j)) = true := by decide +kernel
theorem am_ml_128 : (List.range 16).all (fun j => am_mlk (128 + j)) = true := by decide +kernel
theorem am_ml_144 : (List.range 16).all (fun j => am_mlk (144 + j)) = true := by decide +kernel
theorem am_ml_160 : (List.range 12).all (fun j => am_mlk (160 + j)) = true := by decide +kernel
theorem am_ml (j : Nat) (h : j < 172) : am_mlk j = true := by
  have key : ∀ a n, (List.range n).all (fun j => am_mlk (a + j)) = true → a ≤ j → j < a + n → am_mlk j = true := fun a n h1 h2 h3 => by
    have := List.all_eq_true.mp h1 (j - a) (List.mem_range.mpr (by omega))
    rwa [show a + (j - a) = j by omega] at this
  by_cases c0 : j < 16
  · exact key 0 16 am_ml_0 (by omega) (by omega)
  by_cases c16 : j < 32
  · exact key 16 16 am_ml_16 (by omega) (by omega)
  by_cases c32 : j < 48
  · exact key 32 16 am_ml_32 (by omega) (by omega)
  by_cases c48 : j < 64
  · exact key 48 16 am_ml_48 (by omega) (by omega)
  by_cases c64 : j < 80
  · exact key 64 16 am_ml_64 (by omega) (by omega)
  by_cases c80 : j < 96
  · exact key 80 16 am_ml_80 (by omega) (by omega)
  by_cases c96 : j < 112
  · exact key 96 16 am_ml_96 (by omega) (by omega)
  by_cases c112 : j < 128
  · exact key 112 16 am_ml_112 (by omega) (by omega)
  by_cases c128 : j < 144
  · exact key 128 16 am_ml_128 (by omega) (by omega)
  by_cases c144 : j < 160
  · exact key 144 16 am_ml_144 (by omega) (by omega)
  by_cases c160 : j < 172
  · exact key 160 12 am_ml_160 (by omega) (by omega)
  exact absurd h (by omega)
/-- calls: the kind in the row is the method's -/
def am_ckk (q : Nat × Nat × Nat × Nat) : Bool := match q.2.1 with
  | 0 => decide (am_kind q.2.2.1 = 0)
  | 1 => decide (am_kind q.2.2.1 = 1)
  | 2 => decide (am_kind q.2.2.1 = 2)
  | 3 => decide (am_kind q.2.2.1 = 2)
  | _ => true
theorem am_CL_kind : am_CL.all (fun l => l.all am_ckk) = true := by decide +kernel
end
section
/-! the code tables are what the bytes decode to -/
def am_jmp (pc : Nat) (off : Int) : Bool := decide (0 ≤ (pc : Int) + off)
/-- what a row of a code table must keep; ini: the method makes objects -/
def am_good (o : Nat) (ini : Bool) (pc : Nat) (i : Instr) (len : Nat) : Bool := match i with
  | .aload _ => Nat.beq len 2
  | .iload _ => Nat.beq len 2
  | .astore _ => Nat.beq len 2
  | .istore _ => Nat.beq len 2
  | .bipush n => Nat.beq len 2 && decide ((Int8.ofInt n).toInt32 = am_int n)
  | .sipush n => Nat.beq len 3 && decide ((Int16.ofInt n).toInt32 = am_int n)
  | .ldc _ => Nat.beq len 2
  | .ldc_w _ => Nat.beq len 3
  | .getstatic _ => Nat.beq len 3
  | .iinc _ _ => Nat.beq len 3
  | .goto off => Nat.beq len 3 && am_jmp pc off
  | .if_icmp _ off => Nat.beq len 3 && am_jmp pc off
  | .ifCond _ off => Nat.beq len 3 && am_jmp pc off
  | .tableswitch d lo hi offs => am_jmp pc d && (offs.toList.all (am_jmp pc) && (decide (hi - lo + 1 = offs.size) && (decide (-1000 ≤ lo) && decide (hi ≤ 1000))))
  | .getfield _ => Nat.beq len 3
  | .putfield idx => Nat.beq len 3 && (match am_own am_FL o idx with
    | some (ci, k, _) => (match am_nth (am_ks ci) k with
      | some 2 => ini && Nat.beq o ci
      | _ => true)
    | none => false)
  | .new _ => Nat.beq len 3
  | .newarray _ => Nat.beq len 2
  | .anewarray _ => Nat.beq len 3
  | .invokevirtual _ => Nat.beq len 3
  | .invokespecial _ => Nat.beq len 3
  | .invokestatic _ => Nat.beq len 3
  | _ => Nat.beq len 1
def am_dok (bb : ByteArray) (c : am_cd) (o : Nat) (ini : Bool) : Bool := (List.range (16 * c.length)).all fun pc => match am_at c pc with
  | none => true
  | some (i, len) => decide (decode bb pc = .ok (i, len)) && am_good o ini pc i len
theorem am_dok_at {bb : ByteArray} {c : am_cd} {o : Nat} {ini : Bool} (h : am_dok bb c o ini = true) {pc : Nat} {i : Instr} {len : Nat} (ha : am_at c pc = some (i, len)) : decode bb pc = .ok (i, len) ∧ am_good o ini pc i len = true := by
  have hlt : pc < 16 * c.length := by
    unfold am_at am_two at ha
    rw [am_nth_eq] at ha
    cases hc : c[pc / 16]? with
    | none => simp [hc] at ha
    | some l =>
      have := (List.getElem?_eq_some_iff.mp hc).1
      omega
  have h1 := List.all_eq_true.mp h pc (List.mem_range.mpr hlt)
  simp only [ha, Bool.and_eq_true, decide_eq_true_eq] at h1
  exact h1
def am_ini (j : Nat) : Bool := decide ((am_y j).name = "<init>")

theorem am_dc_0 : am_dok (am_by 0) (am_m 0).1 (am_m 0).2.1 (am_ini 0) = true := by decide +kernel
theorem am_dc_1 : am_dok (am_by 1) (am_m 1).1 (am_m 1).2.1 (am_ini 1) = true := by decide +kernel
theorem am_dc_2 : am_dok (am_by 2) (am_m 2).1 (am_m 2).2.1 (am_ini 2) = true := by decide +kernel
theorem am_dc_3 : am_dok (am_by 3) (am_m 3).1 (am_m 3).2.1 (am_ini 3) = true := by decide +kernel
theorem am_dc_4 : am_dok (am_by 4) (am_m 4).1 (am_m 4).2.1 (am_ini 4) = true := by decide +kernel
theorem am_dc_5 : am_dok (am_by 5) (am_m 5).1 (am_m 5).2.1 (am_ini 5) = true := by decide +kernel
theorem am_dc_6 : am_dok (am_by 6) (am_m 6).1 (am_m 6).2.1 (am_ini 6) = true := by decide +kernel
theorem am_dc_7 : am_dok (am_by 7) (am_m 7).1 (am_m 7).2.1 (am_ini 7) = true := by decide +kernel
theorem am_dc_8 : am_dok (am_by 8) (am_m 8).1 (am_m 8).2.1 (am_ini 8) = true := by decide +kernel
theorem am_dc_9 : am_dok (am_by 9) (am_m 9).1 (am_m 9).2.1 (am_ini 9) = true := by decide +kernel
theorem am_dc_10 : am_dok (am_by 10) (am_m 10).1 (am_m 10).2.1 (am_ini 10) = true := by decide +kernel
theorem am_dc_11 : am_dok (am_by 11) (am_m 11).1 (am_m 11).2.1 (am_ini 11) = true := by decide +kernel
theorem am_dc_12 : am_dok (am_by 12) (am_m 12).1 (am_m 12).2.1 (am_ini 12) = true := by decide +kernel
theorem am_dc_13 : am_dok (am_by 13) (am_m 13).1 (am_m 13).2.1 (am_ini 13) = true := by decide +kernel
theorem am_dc_14 : am_dok (am_by 14) (am_m 14).1 (am_m 14).2.1 (am_ini 14) = true := by decide +kernel
theorem am_dc_15 : am_dok (am_by 15) (am_m 15).1 (am_m 15).2.1 (am_ini 15) = true := by decide +kernel
theorem am_dc_16 : am_dok (am_by 16) (am_m 16).1 (am_m 16).2.1 (am_ini 16) = true := by decide +kernel
theorem am_dc_17 : am_dok (am_by 17) (am_m 17).1 (am_m 17).2.1 (am_ini 17) = true := by decide +kernel
theorem am_dc_18 : am_dok (am_by 18) (am_m 18).1 (am_m 18).2.1 (am_ini 18) = true := by decide +kernel
theorem am_dc_19 : am_dok (am_by 19) (am_m 19).1 (am_m 19).2.1 (am_ini 19) = true := by decide +kernel
theorem am_dc_20 : am_dok (am_by 20) (am_m 20).1 (am_m 20).2.1 (am_ini 20) = true := by decide +kernel
theorem am_dc_21 : am_dok (am_by 21) (am_m 21).1 (am_m 21).2.1 (am_ini 21) = true := by decide +kernel
theorem am_dc_22 : am_dok (am_by 22) (am_m 22).1 (am_m 22).2.1 (am_ini 22) = true := by decide +kernel
theorem am_dc_23 : am_dok (am_by 23) (am_m 23).1 (am_m 23).2.1 (am_ini 23) = true := by decide +kernel
theorem am_dc_24 : am_dok (am_by 24) (am_m 24).1 (am_m 24).2.1 (am_ini 24) = true := by decide +kernel
theorem am_dc_25 : am_dok (am_by 25) (am_m 25).1 (am_m 25).2.1 (am_ini 25) = true := by decide +kernel
theorem am_dc_26 : am_dok (am_by 26) (am_m 26).1 (am_m 26).2.1 (am_ini 26) = true := by decide +kernel
theorem am_dc_27 : am_dok (am_by 27) (am_m 27).1 (am_m 27).2.1 (am_ini 27) = true := by decide +kernel
theorem am_dc_28 : am_dok (am_by 28) (am_m 28).1 (am_m 28).2.1 (am_ini 28) = true := by decide +kernel
theorem am_dc_29 : am_dok (am_by 29) (am_m 29).1 (am_m 29).2.1 (am_ini 29) = true := by decide +kernel
theorem am_dc_30 : am_dok (am_by 30) (am_m 30).1 (am_m 30).2.1 (am_ini 30) = true := by decide +kernel
theorem am_dc_31 : am_dok (am_by 31) (am_m 31).1 (am_m 31).2.1 (am_ini 31) = true := by decide +kernel
theorem am_dc_32 : am_dok (am_by 32) (am_m 32).1 (am_m 32).2.1 (am_ini 32) = true := by decide +kernel
theorem am_dc_33 : am_dok (am_by 33) (am_m 33).1 (am_m 33).2.1 (am_ini 33) = true := by decide +kernel
theorem am_dc_34 : am_dok (am_by 34) (am_m 34).1 (am_m 34).2.1 (am_ini 34) = true := by decide +kernel
theorem am_dc_35 : am_dok (am_by 35) (am_m 35).1 (am_m 35).2.1 (am_ini 35) = true := by decide +kernel
theorem am_dc_36 : am_dok (am_by 36) (am_m 36).1 (am_m 36).2.1 (am_ini 36) = true := by decide +kernel
theorem am_dc_37 : am_dok (am_by 37) (am_m 37).1 (am_m 37).2.1 (am_ini 37) = true := by decide +kernel
theorem am_dc_38 : am_dok (am_by 38) (am_m 38).1 (am_m 38).2.1 (am_ini 38) = true := by decide +kernel
theorem am_dc_39 : am_dok (am_by 39) (am_m 39).1 (am_m 39).2.1 (am_ini 39) = true := by decide +kernel
theorem am_dc_40 : am_dok (am_by 40) (am_m 40).1 (am_m 40).2.1 (am_ini 40) = true := by decide +kernel
theorem am_dc_41 : am_dok (am_by 41) (am_m 41).1 (am_m 41).2.1 (am_ini 41) = true := by decide +kernel
theorem am_dc_42 : am_dok (am_by 42) (am_m 42).1 (am_m 42).2.1 (am_ini 42) = true := by decide +kernel
theorem am_dc_43 : am_dok (am_by 43) (am_m 43).1 (am_m 43).2.1 (am_ini 43) = true := by decide +kernel
theorem am_dc_44 : am_dok (am_by 44) (am_m 44).1 (am_m 44).2.1 (am_ini 44) = true := by decide +kernel
theorem am_dc_45 : am_dok (am_by 45) (am_m 45).1 (am_m 45).2.1 (am_ini 45) = true := by decide +kernel
theorem am_dc_46 : am_dok (am_by 46) (am_m 46).1 (am_m 46).2.1 (am_ini 46) = true := by decide +kernel
theorem am_dc_47 : am_dok (am_by 47) (am_m 47).1 (am_m 47).2.1 (am_ini 47) = true := by decide +kernel
theorem am_dc_48 : am_dok (am_by 48) (am_m 48).1 (am_m 48).2.1 (am_ini 48) = true := by decide +kernel
theorem am_dc_49 : am_dok (am_by 49) (am_m 49).1 (am_m 49).2.1 (am_ini 49) = true := by decide +kernel
theorem am_dc_50 : am_dok (am_by 50) (am_m 50).1 (am_m 50).2.1 (am_ini 50) = true := by decide +kernel
theorem am_dc_51 : am_dok (am_by 51) (am_m 51).1 (am_m 51).2.1 (am_ini 51) = true := by decide +kernel
theorem am_dc_52 : am_dok (am_by 52) (am_m 52).1 (am_m 52).2.1 (am_ini 52) = true := by decide +kernel
theorem am_dc_53 : am_dok (am_by 53) (am_m 53).1 (am_m 53).2.1 (am_ini 53) = true := by decide +kernel
theorem am_dc_54 : am_dok (am_by 54) (am_m 54).1 (am_m 54).2.1 (am_ini 54) = true := by decide +kernel
theorem am_dc_55 : am_dok (am_by 55) (am_m 55).1 (am_m 55).2.1 (am_ini 55) = true := by decide +kernel
theorem am_dc_56 : am_dok (am_by 56) (am_m 56).1 (am_m 56).2.1 (am_ini 56) = true := by decide +kernel
theorem am_dc_57 : am_dok (am_by 57) (am_m 57).1 (am_m 57).2.1 (am_ini 57) = true := by decide +kernel
theorem am_dc_58 : am_dok (am_by 58) (am_m 58).1 (am_m 58).2.1 (am_ini 58) = true := by decide +kernel
theorem am_dc_59 : am_dok (am_by 59) (am_m 59).1 (am_m 59).2.1 (am_ini 59) = true := by decide +kernel
theorem am_dc_60 : am_dok (am_by 60) (am_m 60).1 (am_m 60).2.1 (am_ini 60) = true := by decide +kernel
theorem am_dc_61 : am_dok (am_by 61) (am_m 61).1 (am_m 61).2.1 (am_ini 61) = true := by decide +kernel
theorem am_dc_62 : am_dok (am_by 62) (am_m 62).1 (am_m 62).2.1 (am_ini 62) = true := by decide +kernel
theorem am_dc_63 : am_dok (am_by 63) (am_m 63).1 (am_m 63).2.1 (am_ini 63) = true := by decide +kernel
theorem am_dc_64 : am_dok (am_by 64) (am_m 64).1 (am_m 64).2.1 (am_ini 64) = true := by decide +kernel
theorem am_dc_65 : am_dok (am_by 65) (am_m 65).1 (am_m 65).2.1 (am_ini 65) = true := by decide +kernel
theorem am_dc_66 : am_dok (am_by 66) (am_m 66).1 (am_m 66).2.1 (am_ini 66) = true := by decide +kernel
theorem am_dc_67 : am_dok (am_by 67) (am_m 67).1 (am_m 67).2.1 (am_ini 67) = true := by decide +kernel
theorem am_dc_68 : am_dok (am_by 68) (am_m 68).1 (am_m 68).2.1 (am_ini 68) = true := by decide +kernel
theorem am_dc_69 : am_dok (am_by 69) (am_m 69).1 (am_m 69).2.1 (am_ini 69) = true := by decide +kernel
theorem am_dc_70 : am_dok (am_by 70) (am_m 70).1 (am_m 70).2.1 (am_ini 70) = true := by decide +kernel
theorem am_dc_71 : am_dok (am_by 71) (am_m 71).1 (am_m 71).2.1 (am_ini 71) = true := by decide +kernel
theorem am_dc_72 : am_dok (am_by 72) (am_m 72).1 (am_m 72).2.1 (am_ini 72) = true := by decide +kernel
theorem am_dc_73 : am_dok (am_by 73) (am_m 73).1 (am_m 73).2.1 (am_ini 73) = true := by decide +kernel
theorem am_dc_74 : am_dok (am_by 74) (am_m 74).1 (am_m 74).2.1 (am_ini 74) = true := by decide +kernel
theorem am_dc_75 : am_dok (am_by 75) (am_m 75).1 (am_m 75).2.1 (am_ini 75) = true := by decide +kernel
theorem am_dc_76 : am_dok (am_by 76) (am_m 76).1 (am_m 76).2.1 (am_ini 76) = true := by decide +kernel
theorem am_dc_77 : am_dok (am_by 77) (am_m 77).1 (am_m 77).2.1 (am_ini 77) = true := by decide +kernel
theorem am_dc_78 : am_dok (am_by 78) (am_m 78).1 (am_m 78).2.1 (am_ini 78) = true := by decide +kernel
theorem am_dc_79 : am_dok (am_by 79) (am_m 79).1 (am_m 79).2.1 (am_ini 79) = true := by decide +kernel
theorem am_dc_80 : am_dok (am_by 80) (am_m 80).1 (am_m 80).2.1 (am_ini 80) = true := by decide +kernel
theorem am_dc_81 : am_dok (am_by 81) (am_m 81).1 (am_m 81).2.1 (am_ini 81) = true := by decide +kernel
theorem am_dc_82 : am_dok (am_by 82) (am_m 82).1 (am_m 82).2.1 (am_ini 82) = true := by decide +kernel
theorem am_dc_83 : am_dok (am_by 83) (am_m 83).1 (am_m 83).2.1 (am_ini 83) = true := by decide +kernel
theorem am_dc_84 : am_dok (am_by 84) (am_m 84).1 (am_m 84).2.1 (am_ini 84) = true := by decide +kernel
theorem am_dc_85 : am_dok (am_by 85) (am_m 85).1 (am_m 85).2.1 (am_ini 85) = true := by decide +kernel
theorem am_dc_86 : am_dok (am_by 86) (am_m 86).1 (am_m 86).2.1 (am_ini 86) = true := by decide +kernel
theorem am_dc_87 : am_dok (am_by 87) (am_m 87).1 (am_m 87).2.1 (am_ini 87) = true := by decide +kernel
theorem am_dc_88 : am_dok (am_by 88) (am_m 88).1 (am_m 88).2.1 (am_ini 88) = true := by decide +kernel
theorem am_dc_89 : am_dok (am_by 89) (am_m 89).1 (am_m 89).2.1 (am_ini 89) = true := by decide +kernel
theorem am_dc_90 : am_dok (am_by 90) (am_m 90).1 (am_m 90).2.1 (am_ini 90) = true := by decide +kernel
theorem am_dc_91 : am_dok (am_by 91) (am_m 91).1 (am_m 91).2.1 (am_ini 91) = true := by decide +kernel
theorem am_dc_92 : am_dok (am_by 92) (am_m 92).1 (am_m 92).2.1 (am_ini 92) = true := by decide +kernel
theorem am_dc_93 : am_dok (am_by 93) (am_m 93).1 (am_m 93).2.1 (am_ini 93) = true := by decide +kernel
theorem am_dc_94 : am_dok (am_by 94) (am_m 94).1 (am_m 94).2.1 (am_ini 94) = true := by decide +kernel
theorem am_dc_95 : am_dok (am_by 95) (am_m 95).1 (am_m 95).2.1 (am_ini 95) = true := by decide +kernel
theorem am_dc_96 : am_dok (am_by 96) (am_m 96).1 (am_m 96).2.1 (am_ini 96) = true := by decide +kernel
theorem am_dc_97 : am_dok (am_by 97) (am_m 97).1 (am_m 97).2.1 (am_ini 97) = true := by decide +kernel
theorem am_dc_98 : am_dok (am_by 98) (am_m 98).1 (am_m 98).2.1 (am_ini 98) = true := by decide +kernel
theorem am_dc_99 : am_dok (am_by 99) (am_m 99).1 (am_m 99).2.1 (am_ini 99) = true := by decide +kernel
theorem am_dc_100 : am_dok (am_by 100) (am_m 100).1 (am_m 100).2.1 (am_ini 100) = true := by decide +kernel
theorem am_dc_101 : am_dok (am_by 101) (am_m 101).1 (am_m 101).2.1 (am_ini 101) = true := by decide +kernel
theorem am_dc_102 : am_dok (am_by 102) (am_m 102).1 (am_m 102).2.1 (am_ini 102) = true := by decide +kernel
theorem am_dc_103 : am_dok (am_by 103) (am_m 103).1 (am_m 103).2.1 (am_ini 103) = true := by decide +kernel
theorem am_dc_104 : am_dok (am_by 104) (am_m 104).1 (am_m 104).2.1 (am_ini 104) = true := by decide +kernel
theorem am_dc_105 : am_dok (am_by 105) (am_m 105).1 (am_m 105).2.1 (am_ini 105) = true := by decide +kernel
theorem am_dc_106 : am_dok (am_by 106) (am_m 106).1 (am_m 106).2.1 (am_ini 106) = true := by decide +kernel
theorem am_dc_107 : am_dok (am_by 107) (am_m 107).1 (am_m 107).2.1 (am_ini 107) = true := by decide +kernel
theorem am_dc_108 : am_dok (am_by 108) (am_m 108).1 (am_m 108).2.1 (am_ini 108) = true := by decide +kernel
theorem am_dc_109 : am_dok (am_by 109) (am_m 109).1 (am_m 109).2.1 (am_ini 109) = true := by decide +kernel
theorem am_dc_110 : am_dok (am_by 110) (am_m 110).1 (am_m 110).2.1 (am_ini 110) = true := by decide +kernel
theorem am_dc_111 : am_dok (am_by 111) (am_m 111).1 (am_m 111).2.1 (am_ini 111) = true := by decide +kernel
theorem am_dc_112 : am_dok (am_by 112) (am_m 112).1 (am_m 112).2.1 (am_ini 112) = true := by decide +kernel
theorem am_dc_113 : am_dok (am_by 113) (am_m 113).1 (am_m 113).2.1 (am_ini 113) = true := by decide +kernel
theorem am_dc_114 : am_dok (am_by 114) (am_m 114).1 (am_m 114).2.1 (am_ini 114) = true := by decide +kernel
theorem am_dc_115 : am_dok (am_by 115) (am_m 115).1 (am_m 115).2.1 (am_ini 115) = true := by decide +kernel
theorem am_dc_116 : am_dok (am_by 116) (am_m 116).1 (am_m 116).2.1 (am_ini 116) = true := by decide +kernel
theorem am_dc_117 : am_dok (am_by 117) (am_m 117).1 (am_m 117).2.1 (am_ini 117) = true := by decide +kernel
theorem am_dc_118 : am_dok (am_by 118) (am_m 118).1 (am_m 118).2.1 (am_ini 118) = true := by decide +kernel
theorem am_dc_119 : am_dok (am_by 119) (am_m 119).1 (am_m 119).2.1 (am_ini 119) = true := by decide +kernel
theorem am_dc_120 : am_dok (am_by 120) (am_m 120).1 (am_m 120).2.1 (am_ini 120) = true := by decide +kernel
theorem am_dc_121 : am_dok (am_by 121) (am_m 121).1 (am_m 121).2.1 (am_ini 121) = true := by decide +kernel
theorem am_dc_122 : am_dok (am_by 122) (am_m 122).1 (am_m 122).2.1 (am_ini 122) = true := by decide +kernel
theorem am_dc_123 : am_dok (am_by 123) (am_m 123).1 (am_m 123).2.1 (am_ini 123) = true := by decide +kernel
theorem am_dc_124 : am_dok (am_by 124) (am_m 124).1 (am_m 124).2.1 (am_ini 124) = true := by decide +kernel
theorem am_dc_125 : am_dok (am_by 125) (am_m 125).1 (am_m 125).2.1 (am_ini 125) = true := by decide +kernel
theorem am_dc_126 : am_dok (am_by 126) (am_m 126).1 (am_m 126).2.1 (am_ini 126) = true := by decide +kernel
theorem am_dc_127 : am_dok (am_by 127) (am_m 127).1 (am_m 127).2.1 (am_ini 127) = true := by decide +kernel
theorem am_dc_128 : am_dok (am_by 128) (am_m 128).1 (am_m 128).2.1 (am_ini 128) = true := by decide +kernel
theorem am_dc_129 : am_dok (am_by 129) (am_m 129).1 (am_m 129).2.1 (am_ini 129) = true := by decide +kernel
theorem am_dc_130 : am_dok (am_by 130) (am_m 130).1 (am_m 130).2.1 (am_ini 130) = true := by decide +kernel
theorem am_dc_131 : am_dok (am_by 131) (am_m 131).1 (am_m 131).2.1 (am_ini 131) = true := by decide +kernel
theorem am_dc_132 : am_dok (am_by 132) (am_m 132).1 (am_m 132).2.1 (am_ini 132) = true := by decide +kernel
theorem am_dc_133 : am_dok (am_by 133) (am_m 133).1 (am_m 133).2.1 (am_ini 133) = true := by decide +kernel
theorem am_dc_134 : am_dok (am_by 134) (am_m 134).1 (am_m 134).2.1 (am_ini 134) = true := by decide +kernel
theorem am_dc_135 : am_dok (am_by 135) (am_m 135).1 (am_m 135).2.1 (am_ini 135) = true := by decide +kernel
theorem am_dc_136 : am_dok (am_by 136) (am_m 136).1 (am_m 136).2.1 (am_ini 136) = true := by decide +kernel
theorem am_dc_137 : am_dok (am_by 137) (am_m 137).1 (am_m 137).2.1 (am_ini 137) = true := by decide +kernel
theorem am_dc_138 : am_dok (am_by 138) (am_m 138).1 (am_m 138).2.1 (am_ini 138) = true := by decide +kernel
theorem am_dc_139 : am_dok (am_by 139) (am_m 139).1 (am_m 139).2.1 (am_ini 139) = true := by decide +kernel
theorem am_dc_140 : am_dok (am_by 140) (am_m 140).1 (am_m 140).2.1 (am_ini 140) = true := by decide +kernel
theorem am_dc_141 : am_dok (am_by 141) (am_m 141).1 (am_m 141).2.1 (am_ini 141) = true := by decide +kernel
theorem am_dc_142 : am_dok (am_by 142) (am_m 142).1 (am_m 142).2.1 (am_ini 142) = true := by decide +kernel
theorem am_dc_143 : am_dok (am_by 143) (am_m 143).1 (am_m 143).2.1 (am_ini 143) = true := by decide +kernel
theorem am_dc_144 : am_dok (am_by 144) (am_m 144).1 (am_m 144).2.1 (am_ini 144) = true := by decide +kernel
theorem am_dc_145 : am_dok (am_by 145) (am_m 145).1 (am_m 145).2.1 (am_ini 145) = true := by decide +kernel
theorem am_dc_146 : am_dok (am_by 146) (am_m 146).1 (am_m 146).2.1 (am_ini 146) = true := by decide +kernel
theorem am_dc_147 : am_dok (am_by 147) (am_m 147).1 (am_m 147).2.1 (am_ini 147) = true := by decide +kernel
theorem am_dc_148 : am_dok (am_by 148) (am_m 148).1 (am_m 148).2.1 (am_ini 148) = true := by decide +kernel
theorem am_dc_149 : am_dok (am_by 149) (am_m 149).1 (am_m 149).2.1 (am_ini 149) = true := by decide +kernel
theorem am_dc_150 : am_dok (am_by 150) (am_m 150).1 (am_m 150).2.1 (am_ini 150) = true := by decide +kernel
theorem am_dc_151 : am_dok (am_by 151) (am_m 151).1 (am_m 151).2.1 (am_ini 151) = true := by decide +kernel
theorem am_dc_152 : am_dok (am_by 152) (am_m 152).1 (am_m 152).2.1 (am_ini 152) = true := by decide +kernel
theorem am_dc_153 : am_dok (am_by 153) (am_m 153).1 (am_m 153).2.1 (am_ini 153) = true := by decide +kernel
theorem am_dc_154 : am_dok (am_by 154) (am_m 154).1 (am_m 154).2.1 (am_ini 154) = true := by decide +kernel
theorem am_dc_155 : am_dok (am_by 155) (am_m 155).1 (am_m 155).2.1 (am_ini 155) = true := by decide +kernel
theorem am_dc_156 : am_dok (am_by 156) (am_m 156).1 (am_m 156).2.1 (am_ini 156) = true := by decide +kernel
theorem am_dc_157 : am_dok (am_by 157) (am_m 157).1 (am_m 157).2.1 (am_ini 157) = true := by decide +kernel
theorem am_dc_158 : am_dok (am_by 158) (am_m 158).1 (am_m 158).2.1 (am_ini 158) = true := by decide +kernel
theorem am_dc_159 : am_dok (am_by 159) (am_m 159).1 (am_m 159).2.1 (am_ini 159) = true := by decide +kernel
theorem am_dc_160 : am_dok (am_by 160) (am_m 160).1 (am_m 160).2.1 (am_ini 160) = true := by decide +kernel
theorem am_dc_161 : am_dok (am_by 161) (am_m 161).1 (am_m 161).2.1 (am_ini 161) = true := by decide +kernel
theorem am_dc_162 : am_dok (am_by 162) (am_m 162).1 (am_m 162).2.1 (am_ini 162) = true := by decide +kernel
theorem am_dc_163 : am_dok (am_by 163) (am_m 163).1 (am_m 163).2.1 (am_ini 163) = true := by decide +kernel
theorem am_dc_164 : am_dok (am_by 164) (am_m 164).1 (am_m 164).2.1 (am_ini 164) = true := by decide +kernel
theorem am_dc_165 : am_dok (am_by 165) (am_m 165).1 (am_m 165).2.1 (am_ini 165) = true := by decide +kernel
theorem am_dc_166 : am_dok (am_by 166) (am_m 166).1 (am_m 166).2.1 (am_ini 166) = true := by decide +kernel
theorem am_dc_167 : am_dok (am_by 167) (am_m 167).1 (am_m 167).2.1 (am_ini 167) = true := by decide +kernel
theorem am_dc_168 : am_dok (am_by 168) (am_m 168).1 (am_m 168).2.1 (am_ini 168) = true := by decide +kernel
theorem am_dc_169 : am_dok (am_by 169) (am_m 169).1 (am_m 169).2.1 (am_ini 169) = true := by decide +kernel
theorem am_dc_170 : am_dok (am_by 170) (am_m 170).1 (am_m 170).2.1 (am_ini 170) = true := by decide +kernel
theorem am_dc_171 : am_dok (am_by 171) (am_m 171).1 (am_m 171).2.1 (am_ini 171) = true := by decide +kernel
theorem am_dc : ∀ j, j < 172 → am_dok (am_by j) (am_m j).1 (am_m j).2.1 (am_ini j) = true
  | 0, _ => am_dc_0
  | 1, _ => am_dc_1
  | 2, _ => am_dc_2
  | 3, _ => am_dc_3
  | 4, _ => am_dc_4
  | 5, _ => am_dc_5
  | 6, _ => am_dc_6
  | 7, _ => am_dc_7
  | 8, _ => am_dc_8
  | 9, _ => am_dc_9
  | 10, _ => am_dc_10
  | 11, _ => am_dc_11
  | 12, _ => am_dc_12
  | 13, _ => am_dc_13
  | 14, _ => am_dc_14
  | 15, _ => am_dc_15
  | 16, _ => am_dc_16
  | 17, _ => am_dc_17
  | 18, _ => am_dc_18
  | 19, _ => am_dc_19
  | 20, _ => am_dc_20
  | 21, _ => am_dc_21
  | 22, _ => am_dc_22
  | 23, _ => am_dc_23
  | 24, _ => am_dc_24
  | 25, _ => am_dc_25
  | 26, _ => am_dc_26
  | 27, _ => am_dc_27
  | 28, _ => am_dc_28
  | 29, _ => am_dc_29
  | 30, _ => am_dc_30
  | 31, _ => am_dc_31
  | 32, _ => am_dc_32
  | 33, _ => am_dc_33
  | 34, _ => am_dc_34
  | 35, _ => am_dc_35
  | 36, _ => am_dc_36
  | 37, _ => am_dc_37
  | 38, _ => am_dc_38
  | 39, _ => am_dc_39
  | 40, _ => am_dc_40
  | 41, _ => am_dc_41
  | 42, _ => am_dc_42
  | 43, _ => am_dc_43
  | 44, _ => am_dc_44
  | 45, _ => am_dc_45
  | 46, _ => am_dc_46
  | 47, _ => am_dc_47
  | 48, _ => am_dc_48
  | 49, _ => am_dc_49
  | 50, _ => am_dc_50
  | 51, _ => am_dc_51
  | 52, _ => am_dc_52
  | 53, _ => am_dc_53
  | 54, _ => am_dc_54
  | 55, _ => am_dc_55
  | 56, _ => am_dc_56
  | 57, _ => am_dc_57
  | 58, _ => am_dc_58
  | 59, _ => am_dc_59
  | 60, _ => am_dc_60
  | 61, _ => am_dc_61
  | 62, _ => am_dc_62
  | 63, _ => am_dc_63
  | 64, _ => am_dc_64
  | 65, _ => am_dc_65
  | 66, _ => am_dc_66
  | 67, _ => am_dc_67
  | 68, _ => am_dc_68
  | 69, _ => am_dc_69
  | 70, _ => am_dc_70
  | 71, _ => am_dc_71
  | 72, _ => am_dc_72
  | 73, _ => am_dc_73
  | 74, _ => am_dc_74
  | 75, _ => am_dc_75
  | 76, _ => am_dc_76
  | 77, _ => am_dc_77
  | 78, _ => am_dc_78
  | 79, _ => am_dc_79
  | 80, _ => am_dc_80
  | 81, _ => am_dc_81
  | 82, _ => am_dc_82
  | 83, _ => am_dc_83
  | 84, _ => am_dc_84
  | 85, _ => am_dc_85
  | 86, _ => am_dc_86
  | 87, _ => am_dc_87
  | 88, _ => am_dc_88
  | 89, _ => am_dc_89
  | 90, _ => am_dc_90
  | 91, _ => am_dc_91
  | 92, _ => am_dc_92
  | 93, _ => am_dc_93
  | 94, _ => am_dc_94
  | 95, _ => am_dc_95
  | 96, _ => am_dc_96
  | 97, _ => am_dc_97
  | 98, _ => am_dc_98
  | 99, _ => am_dc_99
  | 100, _ => am_dc_100
  | 101, _ => am_dc_101
  | 102, _ => am_dc_102
  | 103, _ => am_dc_103
  | 104, _ => am_dc_104
  | 105, _ => am_dc_105
  | 106, _ => am_dc_106
  | 107, _ => am_dc_107
  | 108, _ => am_dc_108
  | 109, _ => am_dc_109
  | 110, _ => am_dc_110
  | 111, _ => am_dc_111
  | 112, _ => am_dc_112
  | 113, _ => am_dc_113
  | 114, _ => am_dc_114
  | 115, _ => am_dc_115
  | 116, _ => am_dc_116
  | 117, _ => am_dc_117
  | 118, _ => am_dc_118
  | 119, _ => am_dc_119
  | 120, _ => am_dc_120
  | 121, _ => am_dc_121
  | 122, _ => am_dc_122
  | 123, _ => am_dc_123
  | 124, _ => am_dc_124
  | 125, _ => am_dc_125
  | 126, _ => am_dc_126
  | 127, _ => am_dc_127
  | 128, _ => am_dc_128
  | 129, _ => am_dc_129
  | 130, _ => am_dc_130
  | 131, _ => am_dc_131
  | 132, _ => am_dc_132
  | 133, _ => am_dc_133
  | 134, _ => am_dc_134
  | 135, _ => am_dc_135
  | 136, _ => am_dc_136
  | 137, _ => am_dc_137
  | 138, _ => am_dc_138
  | 139, _ => am_dc_139
  | 140, _ => am_dc_140
  | 141, _ => am_dc_141
  | 142, _ => am_dc_142
  | 143, _ => am_dc_143
  | 144, _ => am_dc_144
  | 145, _ => am_dc_145
  | 146, _ => am_dc_146
  | 147, _ => am_dc_147
  | 148, _ => am_dc_148
  | 149, _ => am_dc_149
  | 150, _ => am_dc_150
  | 151, _ => am_dc_151
  | 152, _ => am_dc_152
  | 153, _ => am_dc_153
  | 154, _ => am_dc_154
  | 155, _ => am_dc_155
  | 156, _ => am_dc_156
  | 157, _ => am_dc_157
  | 158, _ => am_dc_158
  | 159, _ => am_dc_159
  | 160, _ => am_dc_160
  | 161, _ => am_dc_161
  | 162, _ => am_dc_162
  | 163, _ => am_dc_163
  | 164, _ => am_dc_164
  | 165, _ => am_dc_165
  | 166, _ => am_dc_166
  | 167, _ => am_dc_167
  | 168, _ => am_dc_168
  | 169, _ => am_dc_169
  | 170, _ => am_dc_170
  | 171, _ => am_dc_171
  | n + 172, h => absurd h (by omega)
end
section
/-! the abstract machine's world as cells of the heap -/
def am_E (B b : Nat) (adK adV : Nat → Nat) (fm : Option Nat) (p : Nat) : Option Nat := if p < 1000 then some (B + p) else if p = 1000 then some b else if p = 1001 then fm else if p < 1020 then some (adK (p - 1010)) else some (adV (p - 1020))
def am_cv (E : Nat → Option Nat) (v : Value) : Value := match v with
  | .int x => .int x
  | .ref p => va_rf (E p)
  | _ => .null
def am_re (E : Nat → Option Nat) (r : Option (Option Nat)) : Option Nat := match r with
  | some (some p) => E p
  | _ => none
theorem am_cv_rv (E : Nat → Option Nat) (r : Option (Option Nat)) : am_cv E (am_rv r) = va_rf (am_re E r) := by
  rcases r with _ | _ | p <;> rfl
theorem am_cv_cat (E : Nat → Option Nat) (v : Value) : (am_cv E v).category = 1 := by
  cases v <;> simp only [am_cv, Value.category] <;> (rename_i p; cases E p <;> rfl)
theorem am_cv_ref (E : Nat → Option Nat) (p : Nat) : am_cv E (.ref p) = .null ∨ ∃ a, am_cv E (.ref p) = .ref a := by
  simp only [am_cv]
  cases E p with
  | none => exact Or.inl rfl
  | some a => exact Or.inr ⟨a, rfl⟩
def am_fs (E : Nat → Option Nat) (f : Nat → Int32) (rs : List (Option Nat)) : List Nat → Nat → List Value
  | [], _ => []
  | q :: ks, k => (if q = 2 then va_rf (am_re E (am_nth rs k)) else .int (f k)) :: am_fs E f rs ks (k + 1)
theorem am_fs_at (E : Nat → Option Nat) (f : Nat → Int32) (rs : List (Option Nat)) : ∀ (ks : List Nat) (k i : Nat), (am_fs E f rs ks k)[i]? = (ks[i]?).map (fun q => if q = 2 then va_rf (am_re E (am_nth rs (k + i))) else .int (f (k + i)))
  | [], _, _ => by simp [am_fs]
  | q :: ks, k, 0 => by simp [am_fs]
  | q :: ks, k, i + 1 => by
    simp only [am_fs, List.getElem?_cons_succ]
    rw [am_fs_at E f rs ks (k + 1) i, show k + 1 + i = k + (i + 1) by omega]
theorem am_fs_len (E : Nat → Option Nat) (f : Nat → Int32) (rs : List (Option Nat)) : ∀ (ks : List Nat) (k : Nat), (am_fs E f rs ks k).length = ks.length
  | [], _ => rfl
  | _ :: ks, k => by simp [am_fs, am_fs_len E f rs ks (k + 1)]
theorem am_fs_int {E : Nat → Option Nat} {f : Nat → Int32} {rs : List (Option Nat)} {ks : List Nat} {i q : Nat} (x : Int32) (h : am_nth ks i = some q) (hq : q ≠ 2) : (am_fs E f rs ks 0).set i (.int x) = am_fs E (upd f i x) rs ks 0 := by
  rw [am_nth_eq] at h
  apply List.ext_getElem?
  intro n
  rw [List.getElem?_set, am_fs_at, am_fs_at, am_fs_len]
  have hi : i < ks.length := (List.getElem?_eq_some_iff.mp h).1
  by_cases e : i = n
  · subst e
    rw [if_pos rfl, if_pos hi, h]
    simp [hq, upd]
  · simp [e, upd, Ne.symm e]
theorem am_fs_ref {E : Nat → Option Nat} {f : Nat → Int32} {rs : List (Option Nat)} {ks : List Nat} {i p : Nat} {r : Option Nat} (h : am_nth ks i = some 2) (hr : am_nth rs i = some r) : (am_fs E f rs ks 0).set i (va_rf (E p)) = am_fs E f (rs.set i (some p)) ks 0 := by
  rw [am_nth_eq] at h hr
  apply List.ext_getElem?
  intro n
  rw [List.getElem?_set, am_fs_at, am_fs_at, am_fs_len]
  have hi : i < ks.length := (List.getElem?_eq_some_iff.mp h).1
  have hi2 : i < rs.length := (List.getElem?_eq_some_iff.mp hr).1
  by_cases e : i = n
  · subst e
    rw [if_pos rfl, if_pos hi, h]
    simp [am_nth_eq, hi2, am_re]
  · simp [e, am_nth_eq]
def am_cO : FieldType := .object "NumberedRings$Standing"
def am_nt (ty : FieldType) : FieldType := match ty with
  | .boolean => .boolean
  | _ => .int
def am_ct (E : Nat → Option Nat) (ac : FieldType → ClassId) (f : am_M) (p : Nat) (q : am_K) : va_E := match q with
  | (.inl ci, rs) => .inr (ci, am_fs E (f p) rs (am_ks ci) 0)
  | (.inr (.object _, n), rs) => .inl (ac am_cO, n, .inr (.inr (.inr (.inr (fun i => am_re E (am_nth rs i))))))
  | (.inr (ty, n), _) => .inl (ac (am_nt ty), n, .inl (f p))
theorem am_ct_f {E : Nat → Option Nat} {ac : FieldType → ClassId} {f f' : am_M} {p : Nat} (h : f' p = f p) (q : am_K) : am_ct E ac f' p q = am_ct E ac f p q := by
  unfold am_ct
  rw [h]
def am_ws (E : Nat → Option Nat) (ac : FieldType → ClassId) (f : am_M) : am_G → Nat → va_W
  | [], _ => []
  | q :: G, k => ((E k).getD 0, am_ct E ac f k q) :: am_ws E ac f G (k + 1)
theorem am_ws_at (E : Nat → Option Nat) (ac : FieldType → ClassId) (f : am_M) : ∀ (G : am_G) (k i : Nat), (am_ws E ac f G k)[i]? = (G[i]?).map (fun q => ((E (k + i)).getD 0, am_ct E ac f (k + i) q))
  | [], _, _ => by simp [am_ws]
  | q :: G, k, 0 => by simp [am_ws]
  | q :: G, k, i + 1 => by
    simp only [am_ws, List.getElem?_cons_succ]
    rw [am_ws_at E ac f G (k + 1) i, show k + 1 + i = k + (i + 1) by omega]
theorem am_ws_len (E : Nat → Option Nat) (ac : FieldType → ClassId) (f : am_M) : ∀ (G : am_G) (k : Nat), (am_ws E ac f G k).length = G.length
  | [], _ => rfl
  | _ :: G, k => by simp [am_ws, am_ws_len E ac f G (k + 1)]
theorem am_ws_get {E : Nat → Option Nat} {ac : FieldType → ClassId} {f : am_M} {G : am_G} {p : Nat} {q : am_K} (h : am_nth G p = some q) : (am_ws E ac f G 0)[p]? = some ((E p).getD 0, am_ct E ac f p q) := by
  rw [am_nth_eq] at h
  rw [am_ws_at, h]
  simp
theorem am_ws_set {E : Nat → Option Nat} {ac : FieldType → ClassId} {f f' : am_M} {G : am_G} {p : Nat} (q : am_K) (hf : ∀ n, n ≠ p → f' n = f n) : (am_ws E ac f G 0).set p ((E p).getD 0, am_ct E ac f' p q) = am_ws E ac f' (G.set p q) 0 := by
  apply List.ext_getElem?
  intro n
  rw [List.getElem?_set, am_ws_at, am_ws_at, am_ws_len, List.getElem?_set]
  by_cases e : p = n
  · subst e
    by_cases hl : p < G.length
    · simp [hl]
    · simp [hl]
  · simp only [e, if_false, Nat.zero_add]
    cases G[n]? with
    | none => rfl
    | some x => simp only [Option.map_some]; rw [am_ct_f (hf n (Ne.symm e))]
theorem am_ws_same {E : Nat → Option Nat} {ac : FieldType → ClassId} {f f' : am_M} {G : am_G} {p : Nat} {q : am_K} (h : am_nth G p = some q) (hf : ∀ n, n ≠ p → f' n = f n) : (am_ws E ac f G 0).set p ((E p).getD 0, am_ct E ac f' p q) = am_ws E ac f' G 0 := by
  rw [am_ws_set q hf]
  rw [am_nth_eq] at h
  congr 1
  apply List.ext_getElem?
  intro n
  rw [List.getElem?_set]
  by_cases e : p = n
  · subst e
    have hl : p < G.length := (List.getElem?_eq_some_iff.mp h).1
    rw [if_pos rfl, if_pos hl, h]
  · simp [e]
theorem am_ws_push {E : Nat → Option Nat} {ac : FieldType → ClassId} {f f' : am_M} {G : am_G} (q : am_K) (hf : ∀ n, n ≠ G.length → f' n = f n) : am_ws E ac f' (G ++ [q]) 0 = am_ws E ac f G 0 ++ [((E G.length).getD 0, am_ct E ac f' G.length q)] := by
  apply List.ext_getElem?
  intro n
  rw [am_ws_at]
  rcases Nat.lt_trichotomy n G.length with h | h | h
  · rw [List.getElem?_append_left h, List.getElem?_append_left (by rw [am_ws_len]; exact h), am_ws_at]
    cases G[n]? with
    | none => rfl
    | some x => simp only [Option.map_some, Nat.zero_add]; rw [am_ct_f (hf n (by omega))]
  · subst h
    rw [List.getElem?_append_right (Nat.le_refl _), List.getElem?_append_right (by rw [am_ws_len]; exact Nat.le_refl _), am_ws_len]
    simp
  · rw [List.getElem?_eq_none (by simp; omega), List.getElem?_eq_none (by simp [am_ws_len]; omega)]
    rfl
theorem am_ws_D {B b : Nat} {adK adV : Nat → Nat} {fm : Option Nat} {ac : FieldType → ClassId} {f : am_M} {G : am_G} (hG : G.length ≤ 1000) : va_D (fun q => B ≤ q) (am_ws (am_E B b adK adV fm) ac f G 0) := by
  have key : ∀ (i : Nat) (p : Nat × va_E), (am_ws (am_E B b adK adV fm) ac f G 0)[i]? = some p → p.1 = B + i := by
    intro i p h
    rw [am_ws_at] at h
    cases hg : G[i]? with
    | none => simp [hg] at h
    | some q =>
      have hl : i < G.length := (List.getElem?_eq_some_iff.mp hg).1
      simp [hg] at h
      rw [← h]
      simp [am_E, show i < 1000 by omega]
  refine ⟨fun i j p q hi hj e => ?_, fun k q hk => ?_⟩
  · rw [key i p hi, key j q hj] at e
    omega
  · show B ≤ q.1
    rw [key k q hk]
    omega
theorem am_wr_ne {f : am_M} {p k : Nat} {x : Int32} : ∀ n, n ≠ p → am_wr f p k x n = f n := fun n h => by
  funext j
  simp [am_wr, h]
theorem am_wr_eq {f : am_M} {p k : Nat} {x : Int32} : am_wr f p k x p = upd (f p) k x := by
  funext j
  simp [am_wr, upd]
theorem am_cl_ne {f : am_M} {p : Nat} : ∀ n, n ≠ p → am_cl f p n = f n := fun n h => by
  funext j
  simp [am_cl, h]
theorem am_cl_eq {f : am_M} {p : Nat} : am_cl f p p = fun _ => 0 := by
  funext j
  simp [am_cl]
theorem am_cp_ne {f : am_M} {a b sp dp m : Nat} : ∀ n, n ≠ b → am_cp f a b sp dp m n = f n := fun n h => by
  funext j
  simp [am_cp, h]
theorem am_cp_eq {f : am_M} {a b sp dp m : Nat} : am_cp f a b sp dp m b = va_cpy (f a) (f b) sp dp m := by
  funext j
  simp [am_cp, va_cpy]
/-- how many fields and elements -/
def am_s1 (q : am_K) : Nat := match q with
  | (.inl ci, _) => (am_ks ci).length
  | (.inr (_, n), _) => n
def am_sz : am_G → Nat
  | [] => 0
  | q :: G => am_s1 q + am_sz G
theorem am_sz_app : ∀ (G : am_G) (q : am_K), am_sz (G ++ [q]) = am_sz G + am_s1 q
  | [], q => by simp [am_sz]
  | a :: G, q => by simp only [List.cons_append, am_sz, am_sz_app G q]; omega
theorem am_sz_set : ∀ (G : am_G) (p : Nat) (q q' : am_K), G[p]? = some q → am_s1 q' = am_s1 q → am_sz (G.set p q') = am_sz G
  | [], _, _, _, h, _ => by simp at h
  | a :: G, 0, q, q', h, e => by
    simp at h
    subst h
    simp [am_sz, e]
  | a :: G, p + 1, q, q', h, e => by
    simp at h
    simp [am_sz, am_sz_set G p q q' h e]
/-- the locals, as the kit lists them -/
def am_asc (E : Nat → Option Nat) : Nat → am_L → List (Nat × Value)
  | _, [] => []
  | k, none :: l => am_asc E (k + 1) l
  | k, some v :: l => (k, am_cv E v) :: am_asc E (k + 1) l
theorem am_asc_mem (E : Nat → Option Nat) : ∀ (l : am_L) (k : Nat) (q : Nat × Value), q ∈ am_asc E k l ↔ ∃ i v, l[i]? = some (some v) ∧ q = (k + i, am_cv E v)
  | [], k, q => by simp [am_asc]
  | none :: l, k, q => by
    rw [am_asc, am_asc_mem E l (k + 1) q]
    constructor
    · rintro ⟨i, v, h, e⟩
      exact ⟨i + 1, v, by simpa using h, by rw [e, show k + 1 + i = k + (i + 1) by omega]⟩
    · rintro ⟨i, v, h, e⟩
      cases i with
      | zero => simp at h
      | succ i => exact ⟨i, v, by simpa using h, by rw [e, show k + 1 + i = k + (i + 1) by omega]⟩
  | some w :: l, k, q => by
    rw [am_asc, List.mem_cons, am_asc_mem E l (k + 1) q]
    constructor
    · rintro (e | ⟨i, v, h, e⟩)
      · exact ⟨0, w, by simp, by simpa using e⟩
      · exact ⟨i + 1, v, by simpa using h, by rw [e, show k + 1 + i = k + (i + 1) by omega]⟩
    · rintro ⟨i, v, h, e⟩
      cases i with
      | zero =>
        simp at h
        subst h
        exact Or.inl (by simpa using e)
      | succ i => exact Or.inr ⟨i, v, by simpa using h, by rw [e, show k + 1 + i = k + (i + 1) by omega]⟩
theorem am_asc_at {E : Nat → Option Nat} {LS : Array Slot} {nL : Nat} {l : am_L} (h : lv_has LS nL (am_asc E 0 l)) {i : Nat} {v : Value} (hi : am_nth l i = some (some v)) : LS[i]? = some (.val (am_cv E v)) := by
  rw [am_nth_eq] at hi
  have := h.2.2 (i, am_cv E v) ((am_asc_mem E l 0 _).mpr ⟨i, v, hi, by simp⟩)
  exact this
/-- a store into the locals -/
theorem am_asc_set {E : Nat → Option Nat} {LS : Array Slot} {nL : Nat} {l : am_L} {i : Nat} {v : Value} {w : Value} (hw : w = am_cv E v) (h : lv_has LS nL ((i, w) :: (am_asc E 0 l).filter (fun q => !(q.1 == i) && !(q.1 + 1 == i && q.2.category == 2)))) : lv_has LS nL (am_asc E 0 (l.set i (some v))) := by
  refine ⟨h.1, h.2.1, fun q hq => ?_⟩
  obtain ⟨j, u, hj, e⟩ := (am_asc_mem E _ 0 q).mp hq
  rw [List.getElem?_set] at hj
  by_cases c : i = j
  · subst c
    by_cases hl : i < l.length
    · simp [hl] at hj
      subst hj
      rw [e, ← hw]
      simpa using h.2.2 (i, w) List.mem_cons_self
    · simp [hl] at hj
  · simp only [c, if_false] at hj
    refine h.2.2 q (List.mem_cons_of_mem _ (List.mem_filter.mpr ⟨(am_asc_mem E l 0 q).mpr ⟨j, u, hj, e⟩, ?_⟩))
    rw [e]
    have h1 : ((0 + j) == i) = false := by simp; omega
    have h2 : (am_cv E u).category = 1 := am_cv_cat E u
    simp only [h1, h2]
    simp
theorem am_int_eq (n : Int) : am_int n = Int32.ofInt n := by
  cases n with
  | ofNat k => rfl
  | negSucc k =>
    show -(Int32.ofNat (k + 1)) = Int32.ofInt (Int.negSucc k)
    rw [Int.negSucc_eq, Int32.ofInt_neg]
    rfl
end
section
/-! the classes: their words, types, kinds of fields -/
def am_ty (ci k : Nat) : FieldType := match ci with
  | 0 => tyX0 k
  | 1 => tyX1 k
  | 2 => tyX2 k
  | 3 => tyX3 k
  | 4 => tyX4 k
  | 5 => tyX5 k
  | 6 => tyX6 k
  | 7 => tyX7 k
  | _ => tyX8 k
def am_kd (t : FieldType) : Nat := match t with
  | .int => 0
  | .boolean => 1
  | _ => 2
def am_rk (t : FieldType) : Bool := match t with
  | .object _ => true
  | .array _ => true
  | _ => false
def am_CF (ci : Nat) (q : vw_C) : Prop := (∀ w ∈ u_ws q.1 q.2.1 q.2.2, w ∈ am_tb) ∧ (∀ k, k < q.2.2 → parseFieldDescriptor (q.2.1 k).2.2.1 = some (am_ty ci k)) ∧ (∀ a, a < q.2.2 → ∀ b, b < q.2.2 → a ≠ b → (q.2.1 a).2.1 ≠ (q.2.1 b).2.1) ∧ (am_ks ci).length = q.2.2 ∧
  (∀ k, k < q.2.2 → am_nth (am_ks ci) k = some (am_kd (am_ty ci k)) ∧ (q.2.1 k).2.2.2 = decide (am_kd (am_ty ci k) = 2)) ∧ Cond.instantiable q.1 q.2.2 ∈ am_tb ∧ Cond.initialized q.1 ∈ am_tb ∧ q.1 = am_rn ci ∧ (∀ k, k < q.2.2 → am_kd (am_ty ci k) = 2 → am_rk (am_ty ci k) = true)
theorem am_uw {C : String} {T : u_T} {N : Nat} (h : ∀ k, k < N → u_lay C T k ∈ am_tb) : ∀ w ∈ u_ws C T N, w ∈ am_tb := by
  intro w hw
  obtain ⟨k, hk, e⟩ := List.mem_map.mp hw
  rw [← e]
  exact h k (List.mem_range.mp hk)
theorem am_ul_0 : ∀ k, k < 3 → u_lay RX0 TX0 k ∈ am_tb
  | 0, _ => am_word_of (i := 260) (by decide +kernel)
  | 1, _ => am_word_of (i := 262) (by decide +kernel)
  | 2, _ => am_word_of (i := 264) (by decide +kernel)
  | n + 3, h => absurd h (by omega)
theorem am_cf_0 : am_CF 0 (RX0, TX0, 3) := ⟨am_uw am_ul_0, tyX0_ok, nmX0, by decide +kernel, by decide +kernel, am_word_of (i := 249) (by decide +kernel), am_word_of (i := 68) (by decide +kernel), by decide +kernel, by decide +kernel⟩
theorem am_ul_1 : ∀ k, k < 2 → u_lay RX1 TX1 k ∈ am_tb
  | 0, _ => am_word_of (i := 243) (by decide +kernel)
  | 1, _ => am_word_of (i := 245) (by decide +kernel)
  | n + 2, h => absurd h (by omega)
theorem am_cf_1 : am_CF 1 (RX1, TX1, 2) := ⟨am_uw am_ul_1, tyX1_ok, nmX1, by decide +kernel, by decide +kernel, am_word_of (i := 233) (by decide +kernel), am_word_of (i := 67) (by decide +kernel), by decide +kernel, by decide +kernel⟩
theorem am_ul_2 : ∀ k, k < 4 → u_lay RX2 TX2 k ∈ am_tb
  | 0, _ => am_word_of (i := 223) (by decide +kernel)
  | 1, _ => am_word_of (i := 225) (by decide +kernel)
  | 2, _ => am_word_of (i := 227) (by decide +kernel)
  | 3, _ => am_word_of (i := 229) (by decide +kernel)
  | n + 4, h => absurd h (by omega)
theorem am_cf_2 : am_CF 2 (RX2, TX2, 4) := ⟨am_uw am_ul_2, tyX2_ok, nmX2, by decide +kernel, by decide +kernel, am_word_of (i := 210) (by decide +kernel), am_word_of (i := 66) (by decide +kernel), by decide +kernel, by decide +kernel⟩
theorem am_ul_3 : ∀ k, k < 3 → u_lay RX3 TX3 k ∈ am_tb
  | 0, _ => am_word_of (i := 277) (by decide +kernel)
  | 1, _ => am_word_of (i := 279) (by decide +kernel)
  | 2, _ => am_word_of (i := 281) (by decide +kernel)
  | n + 3, h => absurd h (by omega)
theorem am_cf_3 : am_CF 3 (RX3, TX3, 3) := ⟨am_uw am_ul_3, tyX3_ok, nmX3, by decide +kernel, by decide +kernel, am_word_of (i := 268) (by decide +kernel), am_word_of (i := 69) (by decide +kernel), by decide +kernel, by decide +kernel⟩
theorem am_ul_4 : ∀ k, k < 10 → u_lay RX4 TX4 k ∈ am_tb
  | 0, _ => am_word_of (i := 188) (by decide +kernel)
  | 1, _ => am_word_of (i := 190) (by decide +kernel)
  | 2, _ => am_word_of (i := 192) (by decide +kernel)
  | 3, _ => am_word_of (i := 194) (by decide +kernel)
  | 4, _ => am_word_of (i := 196) (by decide +kernel)
  | 5, _ => am_word_of (i := 198) (by decide +kernel)
  | 6, _ => am_word_of (i := 200) (by decide +kernel)
  | 7, _ => am_word_of (i := 202) (by decide +kernel)
  | 8, _ => am_word_of (i := 204) (by decide +kernel)
  | 9, _ => am_word_of (i := 206) (by decide +kernel)
  | n + 10, h => absurd h (by omega)
theorem am_cf_4 : am_CF 4 (RX4, TX4, 10) := ⟨am_uw am_ul_4, tyX4_ok, nmX4, by decide +kernel, by decide +kernel, am_word_of (i := 161) (by decide +kernel), am_word_of (i := 64) (by decide +kernel), by decide +kernel, by decide +kernel⟩
theorem am_ul_5 : ∀ k, k < 8 → u_lay RX5 TX5 k ∈ am_tb
  | 0, _ => am_word_of (i := 100) (by decide +kernel)
  | 1, _ => am_word_of (i := 102) (by decide +kernel)
  | 2, _ => am_word_of (i := 104) (by decide +kernel)
  | 3, _ => am_word_of (i := 106) (by decide +kernel)
  | 4, _ => am_word_of (i := 108) (by decide +kernel)
  | 5, _ => am_word_of (i := 110) (by decide +kernel)
  | 6, _ => am_word_of (i := 112) (by decide +kernel)
  | 7, _ => am_word_of (i := 114) (by decide +kernel)
  | n + 8, h => absurd h (by omega)
theorem am_cf_5 : am_CF 5 (RX5, TX5, 8) := ⟨am_uw am_ul_5, tyX5_ok, nmX5, by decide +kernel, by decide +kernel, am_word_of (i := 86) (by decide +kernel), am_word_of (i := 62) (by decide +kernel), by decide +kernel, by decide +kernel⟩
theorem am_ul_6 : ∀ k, k < 6 → u_lay RX6 TX6 k ∈ am_tb
  | 0, _ => am_word_of (i := 147) (by decide +kernel)
  | 1, _ => am_word_of (i := 149) (by decide +kernel)
  | 2, _ => am_word_of (i := 151) (by decide +kernel)
  | 3, _ => am_word_of (i := 153) (by decide +kernel)
  | 4, _ => am_word_of (i := 155) (by decide +kernel)
  | 5, _ => am_word_of (i := 157) (by decide +kernel)
  | n + 6, h => absurd h (by omega)
theorem am_cf_6 : am_CF 6 (RX6, TX6, 6) := ⟨am_uw am_ul_6, tyX6_ok, nmX6, by decide +kernel, by decide +kernel, am_word_of (i := 119) (by decide +kernel), am_word_of (i := 63) (by decide +kernel), by decide +kernel, by decide +kernel⟩
theorem am_ul_7 : ∀ k, k < 9 → u_lay RX7 TX7 k ∈ am_tb
  | 0, _ => am_word_of (i := 293) (by decide +kernel)
  | 1, _ => am_word_of (i := 295) (by decide +kernel)
  | 2, _ => am_word_of (i := 297) (by decide +kernel)
  | 3, _ => am_word_of (i := 299) (by decide +kernel)
  | 4, _ => am_word_of (i := 301) (by decide +kernel)
  | 5, _ => am_word_of (i := 303) (by decide +kernel)
  | 6, _ => am_word_of (i := 305) (by decide +kernel)
  | 7, _ => am_word_of (i := 307) (by decide +kernel)
  | 8, _ => am_word_of (i := 309) (by decide +kernel)
  | n + 9, h => absurd h (by omega)
theorem am_cf_7 : am_CF 7 (RX7, TX7, 9) := ⟨am_uw am_ul_7, tyX7_ok, nmX7, by decide +kernel, by decide +kernel, am_word_of (i := 78) (by decide +kernel), am_word_of (i := 61) (by decide +kernel), by decide +kernel, by decide +kernel⟩
theorem am_ul_8 : ∀ k, k < 34 → u_lay RX8 TX8 k ∈ am_tb
  | 0, _ => am_word_of (i := 762) (by decide +kernel)
  | 1, _ => am_word_of (i := 764) (by decide +kernel)
  | 2, _ => am_word_of (i := 766) (by decide +kernel)
  | 3, _ => am_word_of (i := 768) (by decide +kernel)
  | 4, _ => am_word_of (i := 770) (by decide +kernel)
  | 5, _ => am_word_of (i := 772) (by decide +kernel)
  | 6, _ => am_word_of (i := 774) (by decide +kernel)
  | 7, _ => am_word_of (i := 776) (by decide +kernel)
  | 8, _ => am_word_of (i := 778) (by decide +kernel)
  | 9, _ => am_word_of (i := 780) (by decide +kernel)
  | 10, _ => am_word_of (i := 782) (by decide +kernel)
  | 11, _ => am_word_of (i := 784) (by decide +kernel)
  | 12, _ => am_word_of (i := 786) (by decide +kernel)
  | 13, _ => am_word_of (i := 788) (by decide +kernel)
  | 14, _ => am_word_of (i := 790) (by decide +kernel)
  | 15, _ => am_word_of (i := 792) (by decide +kernel)
  | 16, _ => am_word_of (i := 794) (by decide +kernel)
  | 17, _ => am_word_of (i := 796) (by decide +kernel)
  | 18, _ => am_word_of (i := 798) (by decide +kernel)
  | 19, _ => am_word_of (i := 800) (by decide +kernel)
  | 20, _ => am_word_of (i := 802) (by decide +kernel)
  | 21, _ => am_word_of (i := 804) (by decide +kernel)
  | 22, _ => am_word_of (i := 806) (by decide +kernel)
  | 23, _ => am_word_of (i := 808) (by decide +kernel)
  | 24, _ => am_word_of (i := 810) (by decide +kernel)
  | 25, _ => am_word_of (i := 812) (by decide +kernel)
  | 26, _ => am_word_of (i := 814) (by decide +kernel)
  | 27, _ => am_word_of (i := 816) (by decide +kernel)
  | 28, _ => am_word_of (i := 818) (by decide +kernel)
  | 29, _ => am_word_of (i := 820) (by decide +kernel)
  | 30, _ => am_word_of (i := 822) (by decide +kernel)
  | 31, _ => am_word_of (i := 824) (by decide +kernel)
  | 32, _ => am_word_of (i := 826) (by decide +kernel)
  | 33, _ => am_word_of (i := 828) (by decide +kernel)
  | n + 34, h => absurd h (by omega)
theorem am_cf_8 : am_CF 8 (RX8, TX8, 34) := ⟨am_uw am_ul_8, tyX8_ok, nmX8, by decide +kernel, by decide +kernel, am_word_of (i := 723) (by decide +kernel), am_word_of (i := 70) (by decide +kernel), by decide +kernel, by decide +kernel⟩
theorem am_cf {ci : Nat} {q : vw_C} (h : vwCl[ci]? = some q) : am_CF ci q := by
  match ci, h with
  | 0, h => cases h; exact am_cf_0
  | 1, h => cases h; exact am_cf_1
  | 2, h => cases h; exact am_cf_2
  | 3, h => cases h; exact am_cf_3
  | 4, h => cases h; exact am_cf_4
  | 5, h => cases h; exact am_cf_5
  | 6, h => cases h; exact am_cf_6
  | 7, h => cases h; exact am_cf_7
  | 8, h => cases h; exact am_cf_8
  | n + 9, h => simp [vwCl] at h
/-- a field's row, used -/
theorem am_fl {o idx ci k pl : Nat} (h : am_own am_FL o idx = some (ci, k, pl)) : ∃ q : vw_C, vwCl[ci]? = some q ∧ k < q.2.2 ∧ (q.2.1 k).1 = q.1 ∧ Cond.fieldLink (am_rn o) idx q.1 (q.2.1 k).2.1 (q.2.1 k).2.2.1 ∈ am_tb := by
  obtain ⟨l, h1, h2⟩ := am_own_mem h
  have h3 := List.all_eq_true.mp am_FL_ok (l, o) (List.mem_zipIdx_iff_getElem?.mpr h1)
  have h4 := List.all_eq_true.mp h3 _ h2
  unfold am_flk at h4
  dsimp only at h4
  cases hq : vwCl[ci]? with
  | none => simp [hq] at h4
  | some q =>
    obtain ⟨C, T, N⟩ := q
    simp only [hq, Bool.and_eq_true, decide_eq_true_eq] at h4
    exact ⟨(C, T, N), rfl, Nat.le_of_ble_eq_true h4.1.2, h4.2, am_word_of h4.1.1⟩
theorem am_nl {o idx ci pl : Nat} (h : am_own am_NL o idx = some (ci, pl)) : ∃ q : vw_C, vwCl[ci]? = some q ∧ Cond.classLink (am_rn o) idx q.1 ∈ am_tb := by
  obtain ⟨l, h1, h2⟩ := am_own_mem h
  have h3 := List.all_eq_true.mp am_NL_ok (l, o) (List.mem_zipIdx_iff_getElem?.mpr h1)
  have h4 := List.all_eq_true.mp h3 _ h2
  unfold am_nlk at h4
  dsimp only at h4
  cases hq : vwCl[ci]? with
  | none => simp [hq] at h4
  | some q =>
    obtain ⟨C, T, N⟩ := q
    simp only [hq] at h4
    exact ⟨(C, T, N), rfl, am_word_of h4⟩
/-- a call's row, used -/
theorem am_cl9 {o idx kd j pl : Nat} (h : am_own am_CL o idx = some (kd, j, pl)) : am_clk o (idx, kd, j, pl) = true ∧ am_ckk (idx, kd, j, pl) = true := by
  obtain ⟨l, h1, h2⟩ := am_own_mem h
  have h3 := List.all_eq_true.mp am_CL_ok (l, o) (List.mem_zipIdx_iff_getElem?.mpr h1)
  have h4 := List.all_eq_true.mp am_CL_kind l (List.mem_of_getElem? h1)
  exact ⟨List.all_eq_true.mp h3 _ h2, List.all_eq_true.mp h4 _ h2⟩
end
section
/-! each step of the abstract machine is a step of the machine -/
def am_tys (ac : FieldType → ClassId) : List (ClassId × FieldType) := [(ac .int, .int), (ac .boolean, .boolean), (ac am_cO, am_cO)]
def am_nest : List Jvm.Cond := [.methodLinkNest RX7 9 yX5_init "NumberedRings", .methodLinkNest RX7 18 yX6_init "NumberedRings", .methodLinkNest RX7 63 yX3_init "NumberedRings"]
/-- what a method may know of the state in which it is called -/
def am_St (B b L : Nat) (xs : Nat → Int32) (D : va_G) (ac : FieldType → ClassId) (adK adV : Nat → Nat) (fm : Option Nat) (U : State) : Prop :=
  va_K D vwCl (am_tys ac) U ∧ va_AO "NumberedRings$Standing" U ∧ (∀ w ∈ am_nest, va_Nw w U) ∧ (vk_R RX5 92 "slots" (adK 0) U ∧ vk_R RX5 97 "maker" (adK 1) U ∧ vk_R RX5 99 "taker" (adK 2) U) ∧
  vk_S 3 [5, 5, 5] am_str adK adV (fun q => B ≤ q) U U.heap ∧ va_Z "java/lang/String" "COMPACT_STRINGS" "Z" (.int 1) (fun q => B ≤ q) U U.heap ∧
  va_Z "jdk/internal/util/Preconditions" "SIOOBE_FORMATTER" "Ljava/util/function/BiFunction;" (va_rf fm) (fun q => B ≤ q) U U.heap ∧ va_X b L xs U U.heap ∧ b < B ∧ B ≤ U.heap.size
theorem am_w_value : Cond.fieldLink (am_rn 10) 9 "java/lang/String" "value" "[B" ∈ am_tb := am_word_of (i := 1113) (by decide +kernel)
section STP
variable {p : Program} {l : Launch} {e : Env} {R : Room} {s : State} {m : MethodId} {args : Array Value} {below : List Frame} {meth : Method} {c : Code} {H : Heap} {locs : List Loc} {Q : State → Prop} {cells slots : Nat}
variable {B b L : Nat} {xs : Nat → Int32} {D : va_G} {ac : FieldType → ClassId} {adK adV : Nat → Nat} {fm : Option Nat} {E : Nat → Option Nat}
variable {cc : ByteArray} {o hh mL N0 S0 : Nat} {ini : Bool}
/-- no more cells than were counted -/
theorem am_Wsz {g : JFrame} (h : H.size ≤ s.heap.size + cells → W p l e R s m args below meth c H locs cells slots Q g) : W p l e R s m args below meth c H locs cells slots Q g := by
  intro T hT X
  have h1 : T.heap.size ≤ s.heap.size + cells := X.same.2.2.1
  rw [hT] at h1
  exact h h1 T hT X
theorem am_Ein {q : Nat} (h : q < 1000) : am_E B b adK adV fm q = some (B + q) := by simp [am_E, h]
theorem am_Eg {G : am_G} {q : Nat} {x : am_K} (hG : G.length ≤ 1000) (h : am_nth G q = some x) : am_E B b adK adV fm q = some (B + q) := by
  rw [am_nth_eq] at h
  have := (List.getElem?_eq_some_iff.mp h).1
  exact am_Ein (by omega)
theorem am_St.moved {U : State} (h : am_St B b L xs D ac adK adV fm s) (hW : s.WarmedH U.vm) (hS : va_S (fun q => B ≤ q) s.heap U.heap locs) : am_St B b L xs D ac adK adV fm U := by
  obtain ⟨h1, h2, h3, ⟨h4, h5, h6⟩, h7, h8, h9, h10, h11, h12⟩ := h
  have hq : ∀ a : Nat, a < s.heap.size → ¬ B ≤ a → U.heap[a]? = s.heap[a]? := hS.2.1
  have hbl : b < s.heap.size := by
    obtain ⟨scr, g1, -⟩ := h10
    exact (Array.getElem?_eq_some_iff.mp g1).1
  refine ⟨h1.moved hW.alike, h2.moved hW.alike, fun w hw => ?_, ⟨h4.warm hW, h5.warm hW, h6.warm hW⟩, (h7.moved hW.alike).kept hq, (h8.moved hW.alike).kept hq, (h9.moved hW.alike).kept hq, (h10.moved hW.alike).kept (hq b hbl (by omega)), h11, Nat.le_trans h12 hS.1⟩
  have h3w := h3 w hw
  simp only [am_nest, List.mem_cons, List.not_mem_nil, or_false] at hw
  rcases hw with rfl | rfl | rfl <;> exact va_Nw.warmM hW h3w
theorem am_St.same {U : State} (h : am_St B b L xs D ac adK adV fm s) (hv : s.vm = U.vm) (hh : U.heap = s.heap) : am_St B b L xs D ac adK adV fm U := by
  obtain ⟨h1, h2, h3, ⟨h4, h5, h6⟩, h7, h8, h9, h10, h11, h12⟩ := h
  have ha : s.vm.Alike U.vm := by rw [hv]; exact Vm.Alike.refl _
  rw [← hh] at h7 h8 h9 h10
  refine ⟨h1.moved ha, h2.moved ha, fun w hw => ?_, ⟨h4.same hv.symm, h5.same hv.symm, h6.same hv.symm⟩, h7.moved ha, h8.moved ha, h9.moved ha, h10.moved ha, h11, by rw [hh]; exact h12⟩
  have h3w := h3 w hw
  simp only [am_nest, List.mem_cons, List.not_mem_nil, or_false] at hw
  rcases hw with rfl | rfl | rfl <;> exact va_Nw.same rfl hv h3w
/-- what a step is walked with -/
def am_Cx (p : Program) (R : Room) (s : State) (m : MethodId) (args : Array Value) (meth : Method) (c : Code) (B b L : Nat) (xs : Nat → Int32) (D : va_G) (ac : FieldType → ClassId) (adK adV : Nat → Nat) (fm : Option Nat) (E : Nat → Option Nat) (cc : ByteArray) (o hh mL N0 : Nat) (ini : Bool) : Prop :=
  p.tables.exec = Jvm.exec ∧ c.code = cc ∧ c.maxLocals = mL ∧ s.vm.findClass (am_rn o) = some m.cls ∧ (∀ w ∈ am_tb, w.before args s = true) ∧ (ini = true → meth.name = "<init>") ∧ am_St B b L xs D ac adK adV fm s ∧ hh ≤ R.frames ∧ 36 * hh ≤ R.locals ∧ s.heap.size = B + N0 ∧ E = am_E B b adK adV fm
/-- what holds at a step -/
def am_Pt (s : State) (B : Nat) (D : va_G) (ac : FieldType → ClassId) (E : Nat → Option Nat) (mL N0 S0 : Nat) (ls : am_L) (G : am_G) (f : am_M) (H : Heap) (locs : List Loc) (LS : Array Slot) : Prop :=
  va_P D vwCl (am_ws E ac f G 0) H ∧ va_S (fun q => B ≤ q) s.heap H locs ∧ lv_has LS mL (am_asc E 0 ls) ∧ ls.length = mL ∧ N0 ≤ G.length ∧ S0 ≤ am_sz G ∧ G.length ≤ 1000
theorem am_get_W {LS : Array Slot} {ls : am_L} {G : am_G} {f : am_M} {pc idx q : Nat} {v : Value} {rest : List Value} (hC : am_Cx p R s m args meth c B b L xs D ac adK adV fm E cc o hh mL N0 ini) (hI : am_Pt s B D ac E mL N0 S0 ls G f H locs LS)
    (hv : am_get o idx q G f = some v) (hd : decode cc pc = .ok (.getfield idx, 3)) (kk : W p l e R s m args below meth c H locs cells slots Q (F0 m (pc + 3) LS (am_cv E v :: rest))) : W p l e R s m args below meth c H locs cells slots Q (F0 m pc LS (am_cv E (.ref q) :: rest)) := by
  obtain ⟨hx, hb, hml, hown, hts, hini, hSt, hfr, hlo, hsz, hE⟩ := hC
  obtain ⟨hP, hS, hl, hll, hN, hS0, hG⟩ := hI
  unfold am_get at hv
  cases hn : am_nth G q with
  | none =>
    simp only [hn] at hv
    cases hc : (Nat.beq o 10 && (Nat.ble 1010 q && Nat.ble q 1012)) with
    | false => rw [hc] at hv; cases hv
    | true =>
      rw [hc] at hv
      simp only [Bool.and_eq_true] at hc
      have ho : o = 10 := Nat.eq_of_beq_eq_true hc.1
      have h1 := Nat.le_of_ble_eq_true hc.2.1
      have h2 := Nat.le_of_ble_eq_true hc.2.2
      subst ho
      obtain ⟨-, -, -, -, hK, -⟩ := hSt
      have hi : q - 1010 < 3 := by omega
      obtain ⟨k1, k2, k3, k4⟩ := hK.1 (q - 1010) hi
      have e1 : E q = some (adK (q - 1010)) := by rw [hE]; simp [am_E, show ¬ q < 1000 by omega, show q ≠ 1000 by omega, show q ≠ 1001 by omega, show q < 1020 by omega]
      have e2 : E (q + 10) = some (adV (q - 1010)) := by rw [hE]; simp [am_E, show ¬ q + 10 < 1000 by omega, show q + 10 ≠ 1000 by omega, show q + 10 ≠ 1001 by omega, show ¬ q + 10 < 1020 by omega, show q + 10 - 1020 = q - 1010 by omega]
      show W p l e R s m args below meth c H locs cells slots Q (F0 m pc LS (va_rf (E q) :: rest))
      rw [e1]
      cases h9 : Nat.beq idx 9 with
      | true =>
        simp only [h9, cond_true] at hv
        have : idx = 9 := Nat.eq_of_beq_eq_true h9
        subst this
        cases hv
        refine vk_getf hx hb k3 hS hown (hts _ am_w_value) (fun _ h => h) hd ?_
        have kk' : W p l e R s m args below meth c H locs cells slots Q (F0 m (pc + 3) LS (va_rf (E (q + 10)) :: rest)) := kk
        rw [e2] at kk'
        exact kk'
      | false =>
        simp only [h9, cond_true, cond_false] at hv
        cases h15 : Nat.beq idx 15 with
        | false => simp [h15] at hv
        | true =>
          simp only [h15, cond_true] at hv
          have : idx = 15 := Nat.eq_of_beq_eq_true h15
          subst this
          cases hv
          exact vk_getf hx hb k2 hS hown (hts _ (am_word_of (w := Cond.fieldLink (am_rn 10) 15 "java/lang/String" "coder" "B") (i := 1114) (by decide +kernel))) (fun _ h => h) hd kk
  | some x =>
    obtain ⟨kd, rs⟩ := x
    cases kd with
    | inr y => simp [hn] at hv
    | inl ci =>
      simp only [hn] at hv
      cases hf : am_own am_FL o idx with
      | none => simp [hf] at hv
      | some y =>
        obtain ⟨ci', k, pl⟩ := y
        simp only [hf] at hv
        cases hbq : Nat.beq ci ci' with
        | false => simp [hbq] at hv
        | true =>
          simp only [hbq, cond_true] at hv
          have hcc : ci = ci' := Nat.eq_of_beq_eq_true hbq
          subst hcc
          obtain ⟨⟨C, T, N⟩, hq, hk, hT, hlink⟩ := am_fl hf
          dsimp only at hk hT hlink
          have hcf := am_cf hq
          have hEq : E q = some (B + q) := by rw [hE]; exact am_Eg hG hn
          have hat : (am_ws E ac f G 0)[q]? = some (B + q, .inr (ci, am_fs E (f q) rs (am_ks ci) 0)) := by rw [am_ws_get hn, hEq]; rfl
          show W p l e R s m args below meth c H locs cells slots Q (F0 m pc LS (va_rf (E q) :: rest))
          rw [hEq]
          have hv' : (am_fs E (f q) rs (am_ks ci) 0)[k]? = some (am_cv E v) := by
            rw [am_fs_at, ← am_nth_eq]
            split at hv
            · rename_i h2
              rw [h2]
              cases hv
              simp [am_cv_rv]
            · rename_i z h2 h3
              rw [h3]
              cases hv
              simp only [Option.map_some, Nat.zero_add]
              rw [if_neg h2]
              rfl
            · cases hv
          exact va_get (D := D) (ci := ci) (v := am_cv E v) (C := C) (T := T) (N := N) hx hb hts hcf.1 hown hSt.1 hP q hat hq k hk (hts _ hlink) (fun x h => by rw [hT] at h; exact h) hv' hd kk
end STP
end
section
/-! steps that write, make, load and store -/
section STQ
variable {p : Program} {l : Launch} {e : Env} {R : Room} {s : State} {m : MethodId} {args : Array Value} {below : List Frame} {meth : Method} {c : Code} {H : Heap} {locs : List Loc} {Q : State → Prop} {cells slots : Nat}
variable {B b L : Nat} {xs : Nat → Int32} {D : va_G} {ac : FieldType → ClassId} {adK adV : Nat → Nat} {fm : Option Nat} {E : Nat → Option Nat}
variable {cc : ByteArray} {o hh mL N0 S0 : Nat} {ini : Bool}
variable {LS : Array Slot} {ls : am_L} {G : am_G} {f : am_M} {pc : Nat} {rest : List Value}
theorem am_aload_W {i : Nat} {r : Option Nat} (hx : p.tables.exec = Jvm.exec) (hb : c.code = cc) (hd : decode cc pc = .ok (.aload i, 2)) (hl : LS[i]? = some (.val (va_rf r))) (kk : W p l e R s m args below meth c H locs cells slots Q (F0 m (pc + 2) LS (va_rf r :: rest))) : W p l e R s m args below meth c H locs cells slots Q (F0 m pc LS rest) := by
  cases r with
  | none => exact lv_aloadN hx hb hd hl kk
  | some a => exact lv_aload hx hb hd hl kk
theorem am_aload_n_W {i : Fin 4} {r : Option Nat} (hx : p.tables.exec = Jvm.exec) (hb : c.code = cc) (hd : decode cc pc = .ok (.aload_n i, 1)) (hl : LS[i.val]? = some (.val (va_rf r))) (kk : W p l e R s m args below meth c H locs cells slots Q (F0 m (pc + 1) LS (va_rf r :: rest))) : W p l e R s m args below meth c H locs cells slots Q (F0 m pc LS rest) := by
  cases r with
  | none => exact lv_aload_nN hx hb hd rfl hl kk
  | some a => exact lv_aload_n hx hb hd rfl hl kk
theorem am_astore_W {i : Nat} {r : Option Nat} {lv : List (Nat × Value)} (hx : p.tables.exec = Jvm.exec) (hb : c.code = cc) (hd : decode cc pc = .ok (.astore i, 2)) (h : lv_has LS mL lv) (hn : i < mL) (kk : ∀ LS' : Array Slot, lv_has LS' mL ((i, va_rf r) :: lv.filter (fun q => !(q.1 == i) && !(q.1 + 1 == i && q.2.category == 2))) → W p l e R s m args below meth c H locs cells slots Q (F0 m (pc + 2) LS' rest)) : W p l e R s m args below meth c H locs cells slots Q (F0 m pc LS (va_rf r :: rest)) := by
  cases r with
  | none => exact lv_astoreN hx hb hd h hn rfl kk
  | some a => exact lv_astore hx hb hd h hn rfl kk
theorem am_astore_n_W {i : Fin 4} {r : Option Nat} {lv : List (Nat × Value)} (hx : p.tables.exec = Jvm.exec) (hb : c.code = cc) (hd : decode cc pc = .ok (.astore_n i, 1)) (h : lv_has LS mL lv) (hn : i.val < mL) (kk : ∀ LS' : Array Slot, lv_has LS' mL ((i.val, va_rf r) :: lv.filter (fun q => !(q.1 == i.val) && !(q.1 + 1 == i.val && q.2.category == 2))) → W p l e R s m args below meth c H locs cells slots Q (F0 m (pc + 1) LS' rest)) : W p l e R s m args below meth c H locs cells slots Q (F0 m pc LS (va_rf r :: rest)) := by
  cases r with
  | none => exact lv_astore_nN hx hb hd rfl h hn rfl kk
  | some a => exact lv_astore_n hx hb hd rfl h hn rfl kk
/-- a field is written -/
theorem am_put_W {q ci k idx pl kd : Nat} {rs rs' : List (Option Nat)} {f' : am_M} {v : Value} (hC : am_Cx p R s m args meth c B b L xs D ac adK adV fm E cc o hh mL N0 ini) (hI : am_Pt s B D ac E mL N0 S0 ls G f H locs LS)
    (hn : am_nth G q = some (.inl ci, rs)) (hf : am_own am_FL o idx = some (ci, k, pl)) (hkd : am_nth (am_ks ci) k = some kd) (hgood : kd = 2 → ini = true ∧ o = ci)
    (hv : (kd = 0 ∧ ∃ x, v = .int x) ∨ (kd = 1 ∧ (v = .int 0 ∨ v = .int 1)) ∨ (kd = 2 ∧ ∃ x, v = .ref x))
    (hfs : (am_fs E (f q) rs (am_ks ci) 0).set k (am_cv E v) = am_fs E (f' q) rs' (am_ks ci) 0) (hne : ∀ n, n ≠ q → f' n = f n) (hd : decode cc pc = .ok (.putfield idx, 3))
    (kk : ∀ (H1 : Heap) (locs1 : List Loc), am_Pt s B D ac E mL N0 S0 ls (G.set q (.inl ci, rs')) f' H1 locs1 LS → W p l e R s m args below meth c H1 locs1 cells slots Q (F0 m (pc + 3) LS rest)) : W p l e R s m args below meth c H locs cells slots Q (F0 m pc LS (am_cv E v :: am_cv E (.ref q) :: rest)) := by
  obtain ⟨hx, hb, hml, hown, hts, hini, hSt, hfr, hlo, hsz, hE⟩ := hC
  obtain ⟨hP, hS, hl, hll, hN, hS0, hG⟩ := hI
  obtain ⟨⟨C, T, N⟩, hq, hk, hT, hlink⟩ := am_fl hf
  dsimp only at hk hT hlink
  obtain ⟨c1, c2, c3, c4, c5, -, -, c8, c9⟩ := am_cf hq
  have hEq : E q = some (B + q) := by rw [hE]; exact am_Eg hG hn
  have hat : (am_ws E ac f G 0)[q]? = some (B + q, .inr (ci, am_fs E (f q) rs (am_ks ci) 0)) := by rw [am_ws_get hn, hEq]; rfl
  have hD : va_D (fun q => B ≤ q) (am_ws E ac f G 0) := by rw [hE]; exact am_ws_D hG
  have hlen : k < (am_fs E (f q) rs (am_ks ci) 0).length := by rw [am_fs_len, c4]; exact hk
  have hset : (am_ws E ac f G 0).set q (B + q, .inr (ci, (am_fs E (f q) rs (am_ks ci) 0).set k (am_cv E v))) = am_ws E ac f' (G.set q (.inl ci, rs')) 0 := by
    rw [hfs]
    have := am_ws_set (E := E) (ac := ac) (G := G) (p := q) (.inl ci, rs') hne
    rw [hEq] at this
    exact this
  have hkt : kd = am_kd (am_ty ci k) := Option.some.inj (hkd.symm.trans (c5 k hk).1)
  have hnar : narrow (am_ty ci k) (am_cv E v) = am_cv E v ∧ fits (am_ty ci k) (am_cv E v) = true := by
    rcases hv with ⟨h0, x, rfl⟩ | ⟨h1, h2⟩ | ⟨h2, x, rfl⟩
    · rw [hkt] at h0
      revert h0
      cases am_ty ci k <;> intro h0 <;> first | exact ⟨rfl, rfl⟩ | cases h0
    · rw [hkt] at h1
      revert h1
      cases am_ty ci k <;> intro h1 <;> first | (rcases h2 with rfl | rfl <;> exact ⟨rfl, rfl⟩) | cases h1
    · rw [hkt] at h2
      have h3 := c9 k hk h2
      rcases am_cv_ref E x with h4 | ⟨a, h4⟩ <;> rw [h4] <;> revert h3 <;> cases am_ty ci k <;> intro h3 <;> first | exact ⟨rfl, rfl⟩ | cases h3
  have hpt : ∀ (H1 : Heap) (locs1 : List Loc), va_P D vwCl ((am_ws E ac f G 0).set q (B + q, .inr (ci, (am_fs E (f q) rs (am_ks ci) 0).set k (am_cv E v)))) H1 → va_D (fun q => B ≤ q) ((am_ws E ac f G 0).set q (B + q, .inr (ci, (am_fs E (f q) rs (am_ks ci) 0).set k (am_cv E v)))) → va_S (fun q => B ≤ q) s.heap H1 locs1 → W p l e R s m args below meth c H1 locs1 cells slots Q (F0 m (pc + 3) LS rest) := by
    intro H1 locs1 hP1 _ hS1
    rw [hset] at hP1
    refine kk H1 locs1 ⟨hP1, hS1, hl, hll, by rw [List.length_set]; exact hN, ?_, by rw [List.length_set]; exact hG⟩
    rw [am_sz_set G q (.inl ci, rs) (.inl ci, rs') (by rw [← am_nth_eq]; exact hn) rfl]
    exact hS0
  show W p l e R s m args below meth c H locs cells slots Q (F0 m pc LS (am_cv E v :: va_rf (E q) :: rest))
  rw [hEq]
  have hfin := (c5 k hk).2
  by_cases h2 : kd = 2
  · obtain ⟨hi, ho⟩ := hgood h2
    subst ho
    exact va_putF (D := D) (ci := o) (v := am_cv E v) (ty := am_ty o k) (C := C) (T := T) (N := N) hx hb hts c1 (am_ty o) c2 c3 hown hSt.1 hP hD hS q hat hq k hk (hts _ hlink) (fun x h => by rw [hT] at h; exact h) (by rw [hfin, ← hkt, h2]; rfl) (hini hi) (by rw [hT]; exact c8) (c2 k hk) hnar.1 hnar.2 hlen hd hpt
  · exact va_put (D := D) (ci := ci) (v := am_cv E v) (ty := am_ty ci k) (C := C) (T := T) (N := N) hx hb hts c1 (am_ty ci) c2 c3 hown hSt.1 hP hD hS q hat hq k hk (hts _ hlink) (fun x h => by rw [hT] at h; exact h) (by rw [hfin, ← hkt]; simp [h2]) (c2 k hk) hnar.1 hnar.2 hlen hd hpt
theorem am_inX {i : Int32} {n : Nat} (h1 : ¬ i < 0) (h2 : i.toNatClampNeg < n) : vp_in i n := by
  intro h
  rcases h with h | h
  · exact h1 h
  · omega
theorem am_chk_some {α : Type} {i : Int32} {n : Nat} {x : Option α} {r : α} (h : am_chk i n x = some r) : vp_in i n ∧ i.toNatClampNeg < n ∧ x = some r := by
  unfold am_chk at h
  split at h
  · cases h
  · rename_i h1
    split at h
    · rename_i h2
      exact ⟨am_inX h1 h2, h2, h⟩
    · cases h
/-- an int of an array is written -/
theorem am_ast_W {q n : Nat} {i x : Int32} {rs : List (Option Nat)} {ty : FieldType} {op : Instr} (hC : am_Cx p R s m args meth c B b L xs D ac adK adV fm E cc o hh mL N0 ini) (hI : am_Pt s B D ac E mL N0 S0 ls G f H locs LS)
    (hn : am_nth G q = some (.inr (ty, n), rs)) (hty : (ty = .int ∧ op = .iastore) ∨ (ty = .boolean ∧ op = .bastore ∧ (x = 0 ∨ x = 1))) (hin : vp_in i n) (hd : decode cc pc = .ok (op, 1))
    (kk : ∀ (H1 : Heap) (locs1 : List Loc), am_Pt s B D ac E mL N0 S0 ls G (am_wr f q i.toNatClampNeg x) H1 locs1 LS → W p l e R s m args below meth c H1 locs1 cells slots Q (F0 m (pc + 1) LS rest)) : W p l e R s m args below meth c H locs cells slots Q (F0 m pc LS (.int x :: .int i :: am_cv E (.ref q) :: rest)) := by
  obtain ⟨hx, hb, hml, hown, hts, hini, hSt, hfr, hlo, hsz, hE⟩ := hC
  obtain ⟨hP, hS, hl, hll, hN, hS0, hG⟩ := hI
  have hEq : E q = some (B + q) := by rw [hE]; exact am_Eg hG hn
  have hD : va_D (fun q => B ≤ q) (am_ws E ac f G 0) := by rw [hE]; exact am_ws_D hG
  have hset := am_ws_same (E := E) (ac := ac) hn (am_wr_ne (f := f) (p := q) (k := i.toNatClampNeg) (x := x))
  rw [hEq] at hset
  show W p l e R s m args below meth c H locs cells slots Q (F0 m pc LS (.int x :: .int i :: va_rf (E q) :: rest))
  rw [hEq]
  rcases hty with ⟨rfl, rfl⟩ | ⟨rfl, rfl, h01⟩
  · have hat : (am_ws E ac f G 0)[q]? = some (B + q, .inl (ac .int, n, .inl (f q))) := by rw [am_ws_get hn, hEq]; rfl
    refine va_iast (D := D) hx hb hSt.1 hP hD hS q 0 hat rfl hin hd (fun H1 locs1 hP1 _ hS1 => ?_)
    refine kk H1 locs1 ⟨?_, hS1, hl, hll, hN, hS0, hG⟩
    rw [← hset]
    simp only [am_ct, am_wr_eq, am_nt]
    exact hP1
  · have hat : (am_ws E ac f G 0)[q]? = some (B + q, .inl (ac .boolean, n, .inl (f q))) := by rw [am_ws_get hn, hEq]; rfl
    refine va_zast (D := D) hx hb hSt.1 hP hD hS q 1 hat rfl hin hd (fun H1 locs1 hP1 _ hS1 => ?_)
    refine kk H1 locs1 ⟨?_, hS1, hl, hll, hN, hS0, hG⟩
    rw [← hset]
    simp only [am_ct, am_wr_eq, am_nt]
    have hnar : vp_nar .boolean x = x := by rcases h01 with rfl | rfl <;> decide
    rw [hnar] at hP1
    exact hP1
/-- an array copied into another -/
theorem am_cpy_W {a1 a2 n1 n2 idx pl : Nat} {sp dp n : Int32} {r1 r2 : List (Option Nat)} (hC : am_Cx p R s m args meth c B b L xs D ac adK adV fm E cc o hh mL N0 ini) (hI : am_Pt s B D ac E mL N0 S0 ls G f H locs LS)
    {j9 : Nat} (hf : am_own am_CL o idx = some (5, j9, pl)) (hh1 : 1 ≤ hh) (g1 : am_nth G a1 = some (.inr (.int, n1), r1)) (g2 : am_nth G a2 = some (.inr (.int, n2), r2)) (h1 : ¬ sp < 0) (h2 : ¬ dp < 0) (h3 : ¬ n < 0) (h4 : sp.toNatClampNeg + n.toNatClampNeg ≤ n1) (h5 : dp.toNatClampNeg + n.toNatClampNeg ≤ n2)
    (hrest : rest.length ≤ 8) (hd : decode cc pc = .ok (.invokestatic idx, 3))
    (kk : ∀ (H1 : Heap) (locs1 : List Loc), am_Pt s B D ac E mL N0 S0 ls G (am_cp f a1 a2 sp.toNatClampNeg dp.toNatClampNeg n.toNatClampNeg) H1 locs1 LS → W p l e R s m args below meth c H1 locs1 cells slots Q (F0 m (pc + 3) LS (rest.map (am_cv E)))) : W p l e R s m args below meth c H locs cells slots Q (F0 m pc LS (.int n :: .int dp :: am_cv E (.ref a2) :: .int sp :: am_cv E (.ref a1) :: rest.map (am_cv E))) := by
  obtain ⟨hx, hb, hml, hown, hts, hini, hSt, hfr, hlo, hsz, hE⟩ := hC
  obtain ⟨hP, hS, hl, hll, hN, hS0, hG⟩ := hI
  have e1 : E a1 = some (B + a1) := by rw [hE]; exact am_Eg hG g1
  have e2 : E a2 = some (B + a2) := by rw [hE]; exact am_Eg hG g2
  have hD : va_D (fun q => B ≤ q) (am_ws E ac f G 0) := by rw [hE]; exact am_ws_D hG
  have hset := am_ws_same (E := E) (ac := ac) g2 (am_cp_ne (f := f) (a := a1) (b := a2) (sp := sp.toNatClampNeg) (dp := dp.toNatClampNeg) (m := n.toNatClampNeg))
  rw [e2] at hset
  have t1 : (am_ws E ac f G 0)[a1]? = some (B + a1, .inl (ac .int, n1, .inl (f a1))) := by rw [am_ws_get g1, e1]; rfl
  have t2 : (am_ws E ac f G 0)[a2]? = some (B + a2, .inl (ac .int, n2, .inl (f a2))) := by rw [am_ws_get g2, e2]; rfl
  have hlink : Cond.methodLink (am_rn o) idx arraycopyName ∈ am_tb := am_word_of (am_cl9 hf).1
  have hsum : ((rest.map (am_cv E)).map fun v => v.category).sum = rest.length := by
    clear hrest kk
    induction rest with
    | nil => rfl
    | cons v r ih => simp only [List.map_cons, List.sum_cons, am_cv_cat, ih, List.length_cons]; omega
  show W p l e R s m args below meth c H locs cells slots Q (F0 m pc LS (.int n :: .int dp :: va_rf (E a2) :: .int sp :: va_rf (E a1) :: rest.map (am_cv E)))
  rw [e1, e2]
  refine va_copyi (D := D) (ty := .int) hx hb (by rw [hml]; exact hl.1.symm) hown (hts _ hlink) (hts _ (am_word_of (i := 446) (by decide +kernel))) (hts _ (am_word_of (i := 445) (by decide +kernel))) (hts _ (am_word_of (i := 75) (by decide +kernel))) hSt.1 hP hD hS a1 a2 0 0 t1 t2 rfl rfl rfl h1 h2 h3 h4 h5 (fun _ _ => rfl) (by omega) ?_ hd (fun H1 locs1 hP1 _ hS1 => ?_)
  · rw [hsum]
    have : nativeFrameWords "java/lang/System" "arraycopy" 5 = 7 := by decide +kernel
    omega
  · refine kk H1 locs1 ⟨?_, hS1, hl, hll, hN, hS0, hG⟩
    rw [← hset]
    simp only [am_ct, am_cp_eq, am_nt]
    exact hP1
end STQ
end
section
/-! steps that make cells -/
section STR
variable {p : Program} {l : Launch} {e : Env} {R : Room} {s : State} {m : MethodId} {args : Array Value} {below : List Frame} {meth : Method} {c : Code} {H : Heap} {locs : List Loc} {Q : State → Prop}
variable {B b L : Nat} {xs : Nat → Int32} {D : va_G} {ac : FieldType → ClassId} {adK adV : Nat → Nat} {fm : Option Nat} {E : Nat → Option Nat}
variable {cc : ByteArray} {o hh mL N0 S0 : Nat} {ini : Bool}
variable {LS : Array Slot} {ls : am_L} {G : am_G} {f : am_M} {pc : Nat} {rest : List Value}
/-- a new cell lies behind all others -/
theorem am_newaddr {q : Nat} {x : va_E} {H1 : Heap} (hE : E = am_E B b adK adV fm) (hG : G.length + 1 ≤ 1000) (hP : va_P D vwCl (am_ws E ac f G 0 ++ [(q, x)]) H1) (hD : va_D (fun q => B ≤ q) (am_ws E ac f G 0 ++ [(q, x)])) (hsz : H1.size ≤ B + G.length + 1) : q = B + G.length := by
  have hl : (am_ws E ac f G 0).length = G.length := am_ws_len E ac f G 0
  have hat : (am_ws E ac f G 0 ++ [(q, x)])[G.length]? = some (q, x) := by
    rw [List.getElem?_append_right (by omega), hl]
    simp
  have h1 : q < H1.size := (hP G.length _ hat).lt
  have h2 : B ≤ q := hD.2 G.length _ hat
  by_cases hq : q = B + G.length
  · exact hq
  · exfalso
    have h3 : q - B < G.length := by omega
    have hgi : G[q - B]? = some G[q - B] := List.getElem?_eq_getElem h3
    have hat2 : (am_ws E ac f G 0 ++ [(q, x)])[q - B]? = some (B + (q - B), am_ct E ac f (q - B) G[q - B]) := by
      rw [List.getElem?_append_left (by omega), am_ws_get (by rw [am_nth_eq]; exact hgi), hE, am_Ein (by omega)]
      rfl
    have := hD.1 _ _ _ _ hat hat2 (by show q = B + (q - B); omega)
    omega
/-- what holds behind a new cell -/
theorem am_push_Pt {q : Nat} {x : va_E} {H1 : Heap} {k : am_K} (hC : am_Cx p R s m args meth c B b L xs D ac adK adV fm E cc o hh mL N0 ini) (hI : am_Pt s B D ac E mL N0 S0 ls G f H locs LS) (hG1 : G.length + 1 ≤ 1000) (hx9 : am_ct E ac (am_cl f G.length) G.length k = x) (hP1 : va_P D vwCl (am_ws E ac f G 0 ++ [(q, x)]) H1) (hS1 : va_S (fun q => B ≤ q) s.heap H1 locs) (hq : q = B + G.length) : am_Pt s B D ac E mL N0 S0 ls (G ++ [k]) (am_cl f G.length) H1 locs LS := by
  obtain ⟨hx, hb, hml, hown, hts, hini, hSt, hfr, hlo, hsz, hE⟩ := hC
  obtain ⟨hP, hS, hl, hll, hN, hS0, hG⟩ := hI
  refine ⟨?_, hS1, hl, hll, by rw [List.length_append]; omega, by rw [am_sz_app]; omega, by rw [List.length_append]; exact hG1⟩
  rw [am_ws_push k (am_cl_ne (f := f) (p := G.length)), hx9]
  have : (E G.length).getD 0 = q := by rw [hE, am_Ein (by omega), hq]; rfl
  rw [this]
  exact hP1
theorem am_new_W {idx : Nat} {k : am_K} (hC : am_Cx p R s m args meth c B b L xs D ac adK adV fm E cc o hh mL N0 ini) (hI : am_Pt s B D ac E mL N0 S0 ls G f H locs LS) (ho : am_obj o idx = some k) (hG1 : (G ++ [k]).length ≤ 1000) (hc1 : (G ++ [k]).length - N0 ≤ R.cells) (hs1 : am_sz (G ++ [k]) - S0 ≤ R.slots) (hd : decode cc pc = .ok (.new idx, 3))
    (kk : ∀ (H1 : Heap), am_Pt s B D ac E mL N0 S0 ls (G ++ [k]) (am_cl f G.length) H1 locs LS → W p l e R s m args below meth c H1 locs ((G ++ [k]).length - N0) (am_sz (G ++ [k]) - S0) Q (F0 m (pc + 3) LS (am_cv E (.ref G.length) :: rest))) : W p l e R s m args below meth c H locs (G.length - N0) (am_sz G - S0) Q (F0 m pc LS rest) := by
  have hC' := hC
  have hI' := hI
  obtain ⟨hx, hb, hml, hown, hts, hini, hSt, hfr, hlo, hsz, hE⟩ := hC
  obtain ⟨hP, hS, hl, hll, hN, hS0, hG⟩ := hI
  unfold am_obj at ho
  cases hn : am_own am_NL o idx with
  | none => simp [hn] at ho
  | some y =>
    obtain ⟨ci, pl⟩ := y
    simp only [hn, Option.some.injEq] at ho
    subst ho
    obtain ⟨⟨C, T, N⟩, hq, hlink⟩ := am_nl hn
    obtain ⟨c1, c2, c3, c4, c5, c6, c7, c8, c9⟩ := am_cf hq
    dsimp only at c4 c5 c6 c7 hlink
    have hD : va_D (fun q => B ≤ q) (am_ws E ac f G 0) := by rw [hE]; exact am_ws_D hG
    have e1 : (G ++ [((.inl ci, List.replicate (am_ks ci).length none) : am_K)]).length - N0 = G.length - N0 + 1 := by rw [List.length_append]; simp only [List.length_cons, List.length_nil]; omega
    have e2 : am_sz (G ++ [((.inl ci, List.replicate (am_ks ci).length none) : am_K)]) - S0 = am_sz G - S0 + N := by rw [am_sz_app]; simp only [am_s1, c4]; omega
    rw [List.length_append] at hG1
    simp only [List.length_cons, List.length_nil, Nat.zero_add] at hG1
    rw [e1] at hc1
    rw [e2] at hs1
    refine va_new (D := D) (ci := ci) (fs := am_fs E (fun _ => 0) (List.replicate (am_ks ci).length none) (am_ks ci) 0) (C := C) (T := T) (N := N) hx hb hts c1 (am_ty ci) c2 hown (hts _ hlink) (hts _ c6) (hts _ c7) hSt.1 hP hD hS (fun q h => by show B ≤ q; omega) hq ?_ hc1 hs1 hd (fun q H1 hP1 hD1 hS1 => ?_)
    · intro j hj
      have h1 := (c5 j hj).1
      have h2 := am_fs_at E (fun _ => 0) (List.replicate (am_ks ci).length none) (am_ks ci) 0 j
      rw [am_nth_eq] at h1
      rw [h1] at h2
      have h3 : vp_V (am_fs E (fun _ => 0) (List.replicate (am_ks ci).length none) (am_ks ci) 0) j = (if am_kd (am_ty ci j) = 2 then va_rf (am_re E (am_nth (List.replicate (am_ks ci).length none) (0 + j))) else .int 0) := by
        unfold vp_V
        rw [List.getD_eq_getElem?_getD, h2]
        rfl
      rw [h3]
      have h4 := c9 j hj
      have h5 : va_rf (am_re E (am_nth (List.replicate (am_ks ci).length none) (0 + j))) = .null := by
        rw [am_nth_eq]
        cases hr : (List.replicate (am_ks ci).length (none : Option Nat))[0 + j]? with
        | none => rfl
        | some z =>
          have := List.eq_of_mem_replicate (List.mem_of_getElem? hr)
          subst this
          rfl
      rw [h5]
      revert h4
      cases am_ty ci j <;> intro h4 <;> first | rfl | exact absurd (h4 rfl) (by decide)
    · rw [← e1, ← e2]
      refine am_Wsz (fun hs9 => ?_)
      have hq9 : q = B + G.length := am_newaddr hE (by omega) hP1 hD1 (by omega)
      have hcv : am_cv E (.ref G.length) = .ref q := by
        show va_rf (E G.length) = _
        rw [hE, am_Ein (by omega), hq9]
        rfl
      rw [← hcv]
      exact kk H1 (am_push_Pt hC' hI' (by omega) (by simp only [am_ct, am_cl_eq]) hP1 hS1 hq9)
theorem am_newa_W {n : Int32} {ty : FieldType} {at9 : ArrayType} (hC : am_Cx p R s m args meth c B b L xs D ac adK adV fm E cc o hh mL N0 ini) (hI : am_Pt s B D ac E mL N0 S0 ls G f H locs LS) (ht : (ty = .int ∧ at9 = .int) ∨ (ty = .boolean ∧ at9 = .boolean)) (h0 : ¬ n < 0) (hbig : ¬ 10000 < n.toNatClampNeg)
    (hG1 : (G ++ [((.inr (ty, n.toNatClampNeg), []) : am_K)]).length ≤ 1000) (hc1 : (G ++ [((.inr (ty, n.toNatClampNeg), []) : am_K)]).length - N0 ≤ R.cells) (hs1 : am_sz (G ++ [((.inr (ty, n.toNatClampNeg), []) : am_K)]) - S0 ≤ R.slots) (hd : decode cc pc = .ok (.newarray at9, 2))
    (kk : ∀ (H1 : Heap), am_Pt s B D ac E mL N0 S0 ls (G ++ [((.inr (ty, n.toNatClampNeg), []) : am_K)]) (am_cl f G.length) H1 locs LS → W p l e R s m args below meth c H1 locs ((G ++ [((.inr (ty, n.toNatClampNeg), []) : am_K)]).length - N0) (am_sz (G ++ [((.inr (ty, n.toNatClampNeg), []) : am_K)]) - S0) Q (F0 m (pc + 2) LS (am_cv E (.ref G.length) :: rest))) : W p l e R s m args below meth c H locs (G.length - N0) (am_sz G - S0) Q (F0 m pc LS (.int n :: rest)) := by
  have hC' := hC
  have hI' := hI
  obtain ⟨hx, hb, hml, hown, hts, hini, hSt, hfr, hlo, hsz, hE⟩ := hC
  obtain ⟨hP, hS, hl, hll, hN, hS0, hG⟩ := hI
  have hD : va_D (fun q => B ≤ q) (am_ws E ac f G 0) := by rw [hE]; exact am_ws_D hG
  have e1 : (G ++ [((.inr (ty, n.toNatClampNeg), []) : am_K)]).length - N0 = G.length - N0 + 1 := by rw [List.length_append]; simp only [List.length_cons, List.length_nil]; omega
  have e2 : am_sz (G ++ [((.inr (ty, n.toNatClampNeg), []) : am_K)]) - S0 = am_sz G - S0 + n.toNatClampNeg := by rw [am_sz_app]; simp only [am_s1]; omega
  rw [List.length_append] at hG1
  simp only [List.length_cons, List.length_nil, Nat.zero_add] at hG1
  rw [e1] at hc1
  rw [e2] at hs1
  have fin : ∀ (q : Nat) (cA : ClassId) (H1 : Heap), cA = ac ty → va_P D vwCl (am_ws E ac f G 0 ++ [(q, .inl (cA, n.toNatClampNeg, .inl (fun _ => 0)))]) H1 → va_D (fun q => B ≤ q) (am_ws E ac f G 0 ++ [(q, .inl (cA, n.toNatClampNeg, .inl (fun _ => 0)))]) → va_S (fun q => B ≤ q) s.heap H1 locs →
      W p l e R s m args below meth c H1 locs (G.length - N0 + 1) (am_sz G - S0 + n.toNatClampNeg) Q (F0 m (pc + 2) LS (.ref q :: rest)) := by
    intro q cA H1 hcA hP1 hD1 hS1
    subst hcA
    rw [← e1, ← e2]
    refine am_Wsz (fun hs9 => ?_)
    have hq9 : q = B + G.length := am_newaddr hE (by omega) hP1 hD1 (by omega)
    have hcv : am_cv E (.ref G.length) = .ref q := by
      show va_rf (E G.length) = _
      rw [hE, am_Ein (by omega), hq9]
      rfl
    rw [← hcv]
    refine kk H1 (am_push_Pt hC' hI' (by omega) ?_ hP1 hS1 hq9)
    rcases ht with ⟨rfl, -⟩ | ⟨rfl, -⟩ <;> simp only [am_ct, am_cl_eq, am_nt]
  rcases ht with ⟨rfl, rfl⟩ | ⟨rfl, rfl⟩
  · refine va_newa (D := D) (atype := .int) (a0 := (n.toNatClampNeg, .inl (fun _ => 0))) hx hb (hts _ (am_word_of (w := Cond.arrayClass .int) (i := 117) (by decide +kernel))) rfl hSt.1 hP hD hS (fun q h => by show B ≤ q; omega) (fun _ => rfl) h0 rfl (by show n.toNatClampNeg * 4 ≤ 536870912; omega) hc1 hs1 hd (fun q cA H1 hK1 hP1 hD1 hS1 => ?_)
    have g1 := (hK1.2 3 (cA, .int) rfl).2
    have g2 := (hSt.1.2 0 (ac .int, .int) rfl).2
    exact fin q cA H1 (Option.some.inj (g1.symm.trans g2)) hP1 hD1 hS1
  · refine va_newa (D := D) (atype := .boolean) (a0 := (n.toNatClampNeg, .inl (fun _ => 0))) hx hb (hts _ (am_word_of (w := Cond.arrayClass .boolean) (i := 831) (by decide +kernel))) rfl hSt.1 hP hD hS (fun q h => by show B ≤ q; omega) (fun _ => rfl) h0 rfl (by show n.toNatClampNeg * 1 ≤ 536870912; omega) hc1 hs1 hd (fun q cA H1 hK1 hP1 hD1 hS1 => ?_)
    have g1 := (hK1.2 3 (cA, .boolean) rfl).2
    have g2 := (hSt.1.2 1 (ac .boolean, .boolean) rfl).2
    exact fin q cA H1 (Option.some.inj (g1.symm.trans g2)) hP1 hD1 hS1
theorem am_newq_W {n : Int32} {idx pl : Nat} (hC : am_Cx p R s m args meth c B b L xs D ac adK adV fm E cc o hh mL N0 ini) (hI : am_Pt s B D ac E mL N0 S0 ls G f H locs LS) (hnl : am_own am_NL o idx = some (4, pl)) (h0 : ¬ n < 0) (hbig : ¬ 10000 < n.toNatClampNeg)
    (hG1 : (G ++ [((.inr (.object "NumberedRings$Standing", n.toNatClampNeg), List.replicate n.toNatClampNeg none) : am_K)]).length ≤ 1000) (hc1 : (G ++ [((.inr (.object "NumberedRings$Standing", n.toNatClampNeg), List.replicate n.toNatClampNeg none) : am_K)]).length - N0 ≤ R.cells) (hs1 : am_sz (G ++ [((.inr (.object "NumberedRings$Standing", n.toNatClampNeg), List.replicate n.toNatClampNeg none) : am_K)]) - S0 ≤ R.slots) (hd : decode cc pc = .ok (.anewarray idx, 3))
    (kk : ∀ (H1 : Heap), am_Pt s B D ac E mL N0 S0 ls (G ++ [((.inr (.object "NumberedRings$Standing", n.toNatClampNeg), List.replicate n.toNatClampNeg none) : am_K)]) (am_cl f G.length) H1 locs LS → W p l e R s m args below meth c H1 locs ((G ++ [((.inr (.object "NumberedRings$Standing", n.toNatClampNeg), List.replicate n.toNatClampNeg none) : am_K)]).length - N0) (am_sz (G ++ [((.inr (.object "NumberedRings$Standing", n.toNatClampNeg), List.replicate n.toNatClampNeg none) : am_K)]) - S0) Q (F0 m (pc + 3) LS (am_cv E (.ref G.length) :: rest))) : W p l e R s m args below meth c H locs (G.length - N0) (am_sz G - S0) Q (F0 m pc LS (.int n :: rest)) := by
  have hC' := hC
  have hI' := hI
  obtain ⟨hx, hb, hml, hown, hts, hini, hSt, hfr, hlo, hsz, hE⟩ := hC
  obtain ⟨hP, hS, hl, hll, hN, hS0, hG⟩ := hI
  have hD : va_D (fun q => B ≤ q) (am_ws E ac f G 0) := by rw [hE]; exact am_ws_D hG
  obtain ⟨q4, hq4, hlink⟩ := am_nl hnl
  cases hq4
  generalize hk9 : ((.inr (.object "NumberedRings$Standing", n.toNatClampNeg), List.replicate n.toNatClampNeg none) : am_K) = k9 at hG1 hc1 hs1 kk
  have e1 : (G ++ [k9]).length - N0 = G.length - N0 + 1 := by rw [List.length_append]; simp only [List.length_cons, List.length_nil]; omega
  have e2 : am_sz (G ++ [k9]) - S0 = am_sz G - S0 + n.toNatClampNeg := by rw [am_sz_app, ← hk9]; simp only [am_s1]; omega
  rw [List.length_append] at hG1
  simp only [List.length_cons, List.length_nil, Nat.zero_add] at hG1
  rw [e1] at hc1
  rw [e2] at hs1
  refine va_newq (D := D) (C := "NumberedRings$Standing") hx hb hown (hts _ hlink) hSt.2.1 hSt.1 hP hD hS (fun q h => by show B ≤ q; omega) h0 rfl (by omega) hc1 hs1 hd (fun q cA H1 hK1 hP1 hD1 hS1 => ?_)
  obtain ⟨-, -, -, -, -, g1⟩ := (hK1.2 3 (cA, am_cO) rfl).2
  obtain ⟨-, -, -, -, -, g2⟩ := (hSt.1.2 2 (ac am_cO, am_cO) rfl).2
  have hcA : cA = ac am_cO := Option.some.inj (g1.symm.trans g2)
  subst hcA
  rw [← e1, ← e2]
  refine am_Wsz (fun hs9 => ?_)
  have hq9 : q = B + G.length := am_newaddr hE (by omega) hP1 hD1 (by omega)
  have hcv : am_cv E (.ref G.length) = .ref q := by
    show va_rf (E G.length) = _
    rw [hE, am_Ein (by omega), hq9]
    rfl
  rw [← hcv]
  refine kk H1 (am_push_Pt hC' hI' (by omega) ?_ hP1 hS1 hq9)
  rw [← hk9]
  have hfun : (fun i => am_re E (am_nth (List.replicate n.toNatClampNeg none) i)) = fun _ => none := by
    funext i
    rw [am_nth_eq]
    cases hr : (List.replicate n.toNatClampNeg (none : Option Nat))[i]? with
    | none => rfl
    | some z =>
      have := List.eq_of_mem_replicate (List.mem_of_getElem? hr)
      subst this
      rfl
  simp only [am_ct, hfun]
/-- a reference is stored into an array -/
theorem am_aast_W {q v n : Nat} {i : Int32} {rs rv : List (Option Nat)} {C : String} {r0 : Option Nat} {cells slots : Nat} (hC : am_Cx p R s m args meth c B b L xs D ac adK adV fm E cc o hh mL N0 ini) (hI : am_Pt s B D ac E mL N0 S0 ls G f H locs LS)
    (hn : am_nth G q = some (.inr (.object C, n), rs)) (hv : am_nth G v = some (.inl 4, rv)) (hin : vp_in i n) (hr : am_nth rs i.toNatClampNeg = some r0) (hd : decode cc pc = .ok (.aastore, 1))
    (kk : ∀ (H1 : Heap) (locs1 : List Loc), am_Pt s B D ac E mL N0 S0 ls (G.set q (.inr (.object "NumberedRings$Standing", n), rs.set i.toNatClampNeg (some v))) f H1 locs1 LS → W p l e R s m args below meth c H1 locs1 cells slots Q (F0 m (pc + 1) LS rest)) : W p l e R s m args below meth c H locs cells slots Q (F0 m pc LS (am_cv E (.ref v) :: .int i :: am_cv E (.ref q) :: rest)) := by
  obtain ⟨hx, hb, hml, hown, hts, hini, hSt, hfr, hlo, hsz, hE⟩ := hC
  obtain ⟨hP, hS, hl, hll, hN, hS0, hG⟩ := hI
  have hEq : E q = some (B + q) := by rw [hE]; exact am_Eg hG hn
  have hEv : E v = some (B + v) := by rw [hE]; exact am_Eg hG hv
  have hD : va_D (fun q => B ≤ q) (am_ws E ac f G 0) := by rw [hE]; exact am_ws_D hG
  have hat : (am_ws E ac f G 0)[q]? = some (B + q, .inl (ac am_cO, n, .inr (.inr (.inr (.inr (fun i => am_re E (am_nth rs i))))))) := by rw [am_ws_get hn, hEq]; rfl
  have hav : (am_ws E ac f G 0)[v]? = some (B + v, .inr (4, am_fs E (f v) rv (am_ks 4) 0)) := by rw [am_ws_get hv, hEv]; rfl
  have hset := am_ws_set (E := E) (ac := ac) (f := f) (f' := f) (G := G) (p := q) (.inr (.object "NumberedRings$Standing", n), rs.set i.toNatClampNeg (some v)) (fun _ _ => rfl)
  rw [hEq] at hset
  show W p l e R s m args below meth c H locs cells slots Q (F0 m pc LS (va_rf (E v) :: .int i :: va_rf (E q) :: rest))
  rw [hEq, hEv]
  refine va_astq (D := D) (r := (RX4, TX4, 10)) hx hb hSt.1 hP hD hS q 2 v 4 hat rfl hav rfl hin hd (fun H1 locs1 hP1 _ hS1 => ?_)
  refine kk H1 locs1 ⟨?_, hS1, hl, hll, by rw [List.length_set]; exact hN, ?_, by rw [List.length_set]; exact hG⟩
  · rw [← hset]
    have hfun : (fun j => am_re E (am_nth (rs.set i.toNatClampNeg (some v)) j)) = va_up (fun j => am_re E (am_nth rs j)) i.toNatClampNeg (some (B + v)) := by
      funext j
      rw [am_nth_eq] at hr
      have hi : i.toNatClampNeg < rs.length := (List.getElem?_eq_some_iff.mp hr).1
      simp only [am_nth_eq, List.getElem?_set, va_up]
      by_cases hj : j = i.toNatClampNeg
      · subst hj
        simp [hi, am_re, hEv]
      · simp [hj, Ne.symm hj]
    simp only [am_ct, hfun]
    exact hP1
  · have := am_sz_set G q (.inr (.object C, n), rs) (.inr (.object "NumberedRings$Standing", n), rs.set i.toNatClampNeg (some v)) (by rw [← am_nth_eq]; exact hn) rfl
    omega
end STR
end
section
/-! every step that is neither a branch, a call nor an answer -/
section STS
variable {p : Program} {l : Launch} {e : Env} {R : Room} {s : State} {m : MethodId} {args : Array Value} {below : List Frame} {meth : Method} {c : Code} {H : Heap} {locs : List Loc} {Q : State → Prop}
variable {B b L : Nat} {xs : Nat → Int32} {D : va_G} {ac : FieldType → ClassId} {adK adV : Nat → Nat} {fm : Option Nat} {E : Nat → Option Nat}
variable {cc : ByteArray} {o hh mL N0 S0 : Nat} {ini : Bool}
variable {LS : Array Slot} {ls : am_L} {G : am_G} {f : am_M} {pc : Nat}
theorem am_E1020 {q : Nat} (h1 : 1020 ≤ q) (h2 : q ≤ 1022) : ∃ j, j < 3 ∧ q = 1020 + j ∧ am_E B b adK adV fm q = some (adV j) := by
  refine ⟨q - 1020, by omega, by omega, ?_⟩
  simp [am_E, show ¬ q < 1000 by omega, show q ≠ 1000 by omega, show q ≠ 1001 by omega, show ¬ q < 1020 by omega]
theorem am_nth_lt {α : Type} {t : List α} {k : Nat} {x : α} (h : am_nth t k = some x) : k < t.length := by
  rw [am_nth_eq] at h
  exact (List.getElem?_eq_some_iff.mp h).1
theorem am_catsum (E : Nat → Option Nat) : ∀ st : List Value, ((st.map (am_cv E)).map fun v => v.category).sum = st.length
  | [] => rfl
  | v :: r => by simp only [List.map_cons, List.sum_cons, am_cv_cat, am_catsum E r, List.length_cons]; omega
theorem am_Pt.store {i : Nat} {v w : Value} {LS' : Array Slot} (hI : am_Pt s B D ac E mL N0 S0 ls G f H locs LS) (hw : w = am_cv E v) (h : lv_has LS' mL ((i, w) :: (am_asc E 0 ls).filter (fun q => !(q.1 == i) && !(q.1 + 1 == i && q.2.category == 2)))) : am_Pt s B D ac E mL N0 S0 (ls.set i (some v)) G f H locs LS' :=
  ⟨hI.1, hI.2.1, am_asc_set hw h, by rw [List.length_set]; exact hI.2.2.2.1, hI.2.2.2.2⟩
theorem am_iinc_W {i : Nat} {n : Int} {x : Int32} {cells slots : Nat} {rest : List Value} (hx : p.tables.exec = Jvm.exec) (hb : c.code = cc) (hd : decode cc pc = .ok (.iinc i n, 3)) (hl : lv_has LS mL (am_asc E 0 ls)) (hi : am_nth ls i = some (some (.int x))) (hn : i < mL)
    (kk : ∀ LS' : Array Slot, lv_has LS' mL ((i, Value.int (x + am_int n)) :: (am_asc E 0 ls).filter (fun q => !(q.1 == i) && !(q.1 + 1 == i && q.2.category == 2))) → W p l e R s m args below meth c H locs cells slots Q (F0 m (pc + 3) LS' rest)) : W p l e R s m args below meth c H locs cells slots Q (F0 m pc LS rest) := by
  have hm : (i, Value.int x) ∈ am_asc E 0 ls := (am_asc_mem E ls 0 _).mpr ⟨i, .int x, by rw [← am_nth_eq]; exact hi, by simp [am_cv]⟩
  obtain ⟨k, hk⟩ := List.getElem?_of_mem hm
  exact lv_iinc (v := x + am_int n) hx hb hd hl hk (by rw [am_int_eq]) hn rfl kk
set_option maxHeartbeats 4000000 in
set_option maxRecDepth 100000 in
theorem am_sim_W {ρ : Type} {i : Instr} {len : Nat} {st : List Value} {k : Nat → am_L → List Value → am_G → am_M → Option ρ} {r : ρ} (hC : am_Cx p R s m args meth c B b L xs D ac adK adV fm E cc o hh mL N0 ini) (hI : am_Pt s B D ac E mL N0 S0 ls G f H locs LS)
    (hd : decode cc pc = .ok (i, len)) (hg : am_good o ini pc i len = true) (h : am_sim (L, xs) o hh i len pc ls st G f k = some r)
    (hmx : ∀ pc' ls' st' G' f', k pc' ls' st' G' f' = some r → G'.length ≤ 1000 ∧ G'.length - N0 ≤ R.cells ∧ am_sz G' - S0 ≤ R.slots)
    (hk : ∀ pc' ls' st' G' f' H' locs' LS', k pc' ls' st' G' f' = some r → am_Pt s B D ac E mL N0 S0 ls' G' f' H' locs' LS' → W p l e R s m args below meth c H' locs' (G'.length - N0) (am_sz G' - S0) Q (F0 m pc' LS' (st'.map (am_cv E)))) :
    W p l e R s m args below meth c H locs (G.length - N0) (am_sz G - S0) Q (F0 m pc LS (st.map (am_cv E))) := by
  have hC' := hC
  have hI' := hI
  obtain ⟨hx, hb, hml, hown, hts, hini, hSt, hfr, hlo, hsz, hE⟩ := hC
  obtain ⟨hP, hS, hl, hll, hN, hS0, hG⟩ := hI
  have lenE : ∀ n : Nat, Nat.beq len n = true → len = n := fun n h => Nat.eq_of_beq_eq_true h
  cases i
  case aload x9 =>
    simp only [am_sim] at h
    obtain rfl := lenE 2 hg
    split at h
    · rename_i q hq
      exact am_aload_W hx hb hd (am_asc_at hl hq) (hk _ _ _ _ _ _ _ _ h hI')
    · cases h
  case aload_n x9 =>
    simp only [am_sim] at h
    obtain rfl := lenE 1 hg
    split at h
    · rename_i q hq
      exact am_aload_n_W hx hb hd (am_asc_at hl hq) (hk _ _ _ _ _ _ _ _ h hI')
    · cases h
  case iload x9 =>
    simp only [am_sim] at h
    obtain rfl := lenE 2 hg
    split at h
    · rename_i q hq
      exact lv_iload hx hb hd (am_asc_at hl hq) (hk _ _ _ _ _ _ _ _ h hI')
    · cases h
  case iload_n x9 =>
    simp only [am_sim] at h
    obtain rfl := lenE 1 hg
    split at h
    · rename_i q hq
      exact lv_iload_n hx hb hd rfl (am_asc_at hl hq) (hk _ _ _ _ _ _ _ _ h hI')
    · cases h
  case istore x9 =>
    simp only [am_sim] at h
    obtain rfl := lenE 2 hg
    split at h
    · rename_i x st' w hw
      exact lv_istore hx hb hd hl (by have := am_nth_lt hw; omega) rfl (fun LS' hl' => hk _ _ _ _ _ _ _ _ h (hI'.store rfl hl'))
    · cases h
  case istore_n x9 =>
    simp only [am_sim] at h
    obtain rfl := lenE 1 hg
    split at h
    · rename_i x st' w hw
      exact lv_istore_n hx hb hd rfl hl (by have := am_nth_lt hw; omega) rfl (fun LS' hl' => hk _ _ _ _ _ _ _ _ h (hI'.store rfl hl'))
    · cases h
  case astore x9 =>
    simp only [am_sim] at h
    obtain rfl := lenE 2 hg
    split at h
    · rename_i x st' w hw
      exact am_astore_W hx hb hd hl (by have := am_nth_lt hw; omega) (fun LS' hl' => hk _ _ _ _ _ _ _ _ h (hI'.store (v := .ref x) rfl hl'))
    · cases h
  case astore_n x9 =>
    simp only [am_sim] at h
    obtain rfl := lenE 1 hg
    split at h
    · rename_i x st' w hw
      exact am_astore_n_W hx hb hd hl (by have := am_nth_lt hw; omega) (fun LS' hl' => hk _ _ _ _ _ _ _ _ h (hI'.store (v := .ref x) rfl hl'))
    · cases h
  case iconst n =>
    simp only [am_sim] at h
    obtain rfl := lenE 1 hg
    exact lv_iconst hx hb hd (am_int_eq n).symm (hk _ _ _ _ _ _ _ _ h hI')
  case bipush n =>
    simp only [am_sim] at h
    simp only [am_good, Bool.and_eq_true, decide_eq_true_eq] at hg
    obtain rfl := lenE 2 hg.1
    exact lv_bipush hx hb hd hg.2 (hk _ _ _ _ _ _ _ _ h hI')
  case sipush n =>
    simp only [am_sim] at h
    simp only [am_good, Bool.and_eq_true, decide_eq_true_eq] at hg
    obtain rfl := lenE 3 hg.1
    exact lv_sipush hx hb hd hg.2 (hk _ _ _ _ _ _ _ _ h hI')
  case ldc idx =>
    simp only [am_sim] at h
    obtain rfl := lenE 2 hg
    split at h
    · rename_i q hq
      have hcases : (o = 5 ∧ idx = 92 ∧ q = 1010) ∨ (o = 5 ∧ idx = 97 ∧ q = 1011) ∨ (o = 5 ∧ idx = 99 ∧ q = 1012) := by
        simp only [am_ldc, am_ldl, am_ldf, cond_eq_ite, Bool.and_eq_true] at hq
        split at hq
        · rename_i g; cases hq; exact Or.inl ⟨(Nat.eq_of_beq_eq_true g.1).symm, (Nat.eq_of_beq_eq_true g.2).symm, rfl⟩
        · split at hq
          · rename_i g; cases hq; exact Or.inr (Or.inl ⟨(Nat.eq_of_beq_eq_true g.1).symm, (Nat.eq_of_beq_eq_true g.2).symm, rfl⟩)
          · split at hq
            · rename_i g; cases hq; exact Or.inr (Or.inr ⟨(Nat.eq_of_beq_eq_true g.1).symm, (Nat.eq_of_beq_eq_true g.2).symm, rfl⟩)
            · split at hq
              · cases hq
              · split at hq
                · cases hq
                · split at hq
                  · cases hq
                  · cases hq
      have hkk := hk _ _ _ _ _ _ _ _ h hI'
      obtain ⟨-, -, -, ⟨r1, r2, r3⟩, -⟩ := hSt
      rcases hcases with ⟨rfl, rfl, rfl⟩ | ⟨rfl, rfl, rfl⟩ | ⟨rfl, rfl, rfl⟩
      · have e1 : E 1010 = some (adK 0) := by rw [hE]; rfl
        have hkk' : W p l e R s m args below meth c H locs (G.length - N0) (am_sz G - S0) Q (F0 m (pc + 2) LS (va_rf (E 1010) :: st.map (am_cv E))) := hkk
        rw [e1] at hkk'
        exact va_ldcS hx hb hown r1 hd hkk'
      · have e1 : E 1011 = some (adK 1) := by rw [hE]; rfl
        have hkk' : W p l e R s m args below meth c H locs (G.length - N0) (am_sz G - S0) Q (F0 m (pc + 2) LS (va_rf (E 1011) :: st.map (am_cv E))) := hkk
        rw [e1] at hkk'
        exact va_ldcS hx hb hown r2 hd hkk'
      · have e1 : E 1012 = some (adK 2) := by rw [hE]; rfl
        have hkk' : W p l e R s m args below meth c H locs (G.length - N0) (am_sz G - S0) Q (F0 m (pc + 2) LS (va_rf (E 1012) :: st.map (am_cv E))) := hkk
        rw [e1] at hkk'
        exact va_ldcS hx hb hown r3 hd hkk'
    · cases h
  case ldc_w idx =>
    simp only [am_sim] at h
    obtain rfl := lenE 3 hg
    split at h
    · rename_i q hq
      have hcases : Cond.constant (am_rn o) idx q ∈ am_tb := by
        simp only [am_ldc, am_ldl, am_ldf, cond_eq_ite, Bool.and_eq_true] at hq
        split at hq
        · cases hq
        · split at hq
          · cases hq
          · split at hq
            · cases hq
            · split at hq
              · rename_i g; cases hq; rw [← Nat.eq_of_beq_eq_true g.1, ← Nat.eq_of_beq_eq_true g.2]; exact am_word_of (i := 692) (by decide +kernel)
              · split at hq
                · rename_i g; cases hq; rw [← Nat.eq_of_beq_eq_true g.1, ← Nat.eq_of_beq_eq_true g.2]; exact am_word_of (i := 693) (by decide +kernel)
                · split at hq
                  · rename_i g; cases hq; rw [← Nat.eq_of_beq_eq_true g.1, ← Nat.eq_of_beq_eq_true g.2]; exact am_word_of (i := 694) (by decide +kernel)
                  · cases hq
      exact lv_ldcw hx hb hown (hts _ hcases) hd (hk _ _ _ _ _ _ _ _ h hI')
    · cases h
  case getstatic idx =>
    simp only [am_sim, cond_eq_ite] at h
    obtain rfl := lenE 3 hg
    split at h
    · rename_i g1
      have ho : o = 10 := Nat.eq_of_beq_eq_true g1
      subst ho
      obtain ⟨-, -, -, -, -, z1, z2, -⟩ := hSt
      split at h
      · rename_i g2
        have hi : idx = 38 := Nat.eq_of_beq_eq_true g2
        subst hi
        exact va_gets hx hb z1 hS hown (hts _ (am_word_of (w := Cond.fieldLink (am_rn 10) 38 "java/lang/String" "COMPACT_STRINGS" "Z") (i := 360) (by decide +kernel))) (fun _ h => h) hd (hk _ _ _ _ _ _ _ _ h hI')
      · split at h
        · rename_i g2
          have hi : idx = 1053 := Nat.eq_of_beq_eq_true g2
          subst hi
          have e1 : E 1001 = fm := by rw [hE]; rfl
          have hkk : W p l e R s m args below meth c H locs (G.length - N0) (am_sz G - S0) Q (F0 m (pc + 3) LS (va_rf (E 1001) :: st.map (am_cv E))) := hk _ _ _ _ _ _ _ _ h hI'
          rw [e1] at hkk
          exact va_gets hx hb z2 hS hown (hts _ (am_word_of (w := Cond.fieldLink (am_rn 10) 1053 "jdk/internal/util/Preconditions" "SIOOBE_FORMATTER" "Ljava/util/function/BiFunction;") (i := 376) (by decide +kernel))) (fun _ h => h) hd hkk
        · cases h
    · cases h
  case iinc x9 n =>
    simp only [am_sim] at h
    obtain rfl := lenE 3 hg
    split at h
    · rename_i x hq
      exact am_iinc_W hx hb hd hl hq (by have := am_nth_lt hq; omega) (fun LS' hl' => hk _ _ _ _ _ _ _ _ h (hI'.store rfl hl'))
    · cases h
  case dup =>
    simp only [am_sim] at h
    obtain rfl := lenE 1 hg
    split at h
    · rename_i v st'
      exact lv_dup hx hb hd (am_cv_cat E v) (hk _ _ _ _ _ _ _ _ h hI')
    · cases h
  case dup2 =>
    simp only [am_sim] at h
    obtain rfl := lenE 1 hg
    split at h
    · rename_i v w st'
      exact lv_dup2_11 hx hb hd (am_cv_cat E v) (am_cv_cat E w) (hk _ _ _ _ _ _ _ _ h hI')
    · cases h
  case pop =>
    simp only [am_sim] at h
    obtain rfl := lenE 1 hg
    split at h
    · rename_i v st'
      exact lv_pop hx hb hd (am_cv_cat E v) (hk _ _ _ _ _ _ _ _ h hI')
    · cases h
  case i2c =>
    simp only [am_sim] at h
    obtain rfl := lenE 1 hg
    split at h
    · exact lv_i2c hx hb hd rfl (hk _ _ _ _ _ _ _ _ h hI')
    · cases h
  case goto off =>
    simp only [am_sim] at h
    simp only [am_good, Bool.and_eq_true, am_jmp, decide_eq_true_eq] at hg
    obtain rfl := lenE 3 hg.1
    exact lv_goto (tgt := am_tg pc off) hx hb hd (by unfold am_tg; omega) (hk _ _ _ _ _ _ _ _ h hI')
  case getfield idx =>
    simp only [am_sim] at h
    obtain rfl := lenE 3 hg
    split at h
    · split at h
      · rename_i v hv
        exact am_get_W hC' hI' hv hd (hk _ _ _ _ _ _ _ _ h hI')
      · cases h
    · cases h
  case putfield idx =>
    simp only [am_sim] at h
    simp only [am_good, Bool.and_eq_true] at hg
    obtain rfl := lenE 3 hg.1
    split at h
    · rename_i v q st'
      split at h
      · rename_i ci rs hn
        split at h
        · rename_i ci' k9 pl hf
          cases hbq : Nat.beq ci ci' with
          | false => rw [hbq] at h; cases h
          | true =>
            rw [hbq, cond_true] at h
            have hcc : ci = ci' := Nat.eq_of_beq_eq_true hbq
            subst hcc
            have hg2 := hg.2
            simp only [hf] at hg2
            split at h
            · rename_i x hkd
              refine am_put_W (v := .int x) (f' := am_wr f q k9 x) (rs' := rs) hC' hI' hn hf hkd (fun h => by cases h) (Or.inl ⟨rfl, x, rfl⟩) (by rw [am_wr_eq]; exact am_fs_int x hkd (by decide)) am_wr_ne hd (fun H1 locs1 hI1 => ?_)
              have hGs : G.set q (.inl ci, rs) = G := by
                rw [am_nth_eq] at hn
                apply List.ext_getElem?
                intro n
                rw [List.getElem?_set]
                by_cases e : q = n
                · subst e
                  rw [if_pos rfl, if_pos (List.getElem?_eq_some_iff.mp hn).1, hn]
                · simp [e]
              rw [hGs] at hI1
              exact hk _ _ _ _ _ _ _ _ h hI1
            · rename_i x hkd
              split at h
              · rename_i h01
                refine am_put_W (v := .int x) (f' := am_wr f q k9 x) (rs' := rs) hC' hI' hn hf hkd (fun h => by cases h) (Or.inr (Or.inl ⟨rfl, by rcases h01 with rfl | rfl; exact Or.inl rfl; exact Or.inr rfl⟩)) (by rw [am_wr_eq]; exact am_fs_int x hkd (by decide)) am_wr_ne hd (fun H1 locs1 hI1 => ?_)
                have hGs : G.set q (.inl ci, rs) = G := by
                  rw [am_nth_eq] at hn
                  apply List.ext_getElem?
                  intro n
                  rw [List.getElem?_set]
                  by_cases e : q = n
                  · subst e
                    rw [if_pos rfl, if_pos (List.getElem?_eq_some_iff.mp hn).1, hn]
                  · simp [e]
                rw [hGs] at hI1
                exact hk _ _ _ _ _ _ _ _ h hI1
              · cases h
            · rename_i x hkd
              split at h
              · rename_i r9 hr9
                simp only [hkd, Bool.and_eq_true] at hg2
                have hlen : (G.set q (.inl ci, rs.set k9 (some x))).length = G.length := List.length_set
                have hsz9 : am_sz (G.set q (.inl ci, rs.set k9 (some x))) = am_sz G := am_sz_set G q (.inl ci, rs) _ (by rw [← am_nth_eq]; exact hn) rfl
                refine am_put_W (v := .ref x) (f' := f) (rs' := rs.set k9 (some x)) hC' hI' hn hf hkd (fun _ => ⟨hg2.1, Nat.eq_of_beq_eq_true hg2.2⟩) (Or.inr (Or.inr ⟨rfl, x, rfl⟩)) (am_fs_ref hkd hr9) (fun _ _ => rfl) hd (fun H1 locs1 hI1 => ?_)
                have hkk := hk _ _ _ _ _ _ _ _ h hI1
                rw [hlen, hsz9] at hkk
                exact hkk
              · cases h
            · cases h
        · cases h
      · cases h
    · cases h
  case arraylength =>
    simp only [am_sim, cond_eq_ite] at h
    obtain rfl := lenE 1 hg
    split at h
    · rename_i q st'
      show W p l e R s m args below meth c H locs (G.length - N0) (am_sz G - S0) Q (F0 m pc LS (va_rf (E q) :: st'.map (am_cv E)))
      split at h
      · rename_i ty n rs hn
        have hEq : E q = some (B + q) := by rw [hE]; exact am_Eg hG hn
        have hget := am_ws_get (E := E) (ac := ac) (f := f) hn
        rw [hEq] at hget ⊢
        have key : ∃ (t0 : Nat) (cA : ClassId) (ty' : FieldType) (x : vp_A), (am_ws E ac f G 0)[q]? = some (B + q, .inl (cA, x)) ∧ x.1 = n ∧ (am_tys ac)[t0]? = some (cA, ty') := by
          cases ty <;> first
            | exact ⟨0, _, _, _, hget, rfl, rfl⟩
            | exact ⟨1, _, _, _, hget, rfl, rfl⟩
            | exact ⟨2, _, _, _, hget, rfl, rfl⟩
        obtain ⟨t0, cA, ty', x, k1, k2, k3⟩ := key
        exact va_alen (D := D) hx hb hSt.1 hP q t0 k1 k3 (by rw [k2]) hd (hk _ _ _ _ _ _ _ _ h hI')
      · cases h
      · split at h
        · rename_i hq
          have hq' : q = 1000 := Nat.eq_of_beq_eq_true hq
          subst hq'
          have e1 : E 1000 = some b := by rw [hE]; rfl
          rw [e1]
          obtain ⟨-, -, -, -, -, -, -, hX, hbB, hBs⟩ := hSt
          exact va_slen (A := fun q => B ≤ q) hx hb hX (by omega) (by omega) hS hd (hk _ _ _ _ _ _ _ _ h hI')
        · split at h
          · rename_i hq
            simp only [Bool.and_eq_true] at hq
            have h1 := Nat.le_of_ble_eq_true hq.1
            have h2 := Nat.le_of_ble_eq_true hq.2
            obtain ⟨j, hj, hjq, e1⟩ := am_E1020 (B := B) (b := b) (adK := adK) (adV := adV) (fm := fm) h1 h2
            rw [← hE] at e1
            rw [e1]
            obtain ⟨-, -, -, -, hK, -⟩ := hSt
            have hT := (hK.1 j hj).2.2.2
            have hlen : ([5, 5, 5] : List Nat).getD j 0 = 5 := by
              have : j = 0 ∨ j = 1 ∨ j = 2 := by omega
              rcases this with g | g | g <;> rw [g] <;> rfl
            rw [hlen] at hT
            exact va_tlen hx hb hT hS rfl hd (hk _ _ _ _ _ _ _ _ h hI')
          · cases h
    · cases h
  case iaload =>
    simp only [am_sim, cond_eq_ite] at h
    obtain rfl := lenE 1 hg
    split at h
    · rename_i i9 q st'
      show W p l e R s m args below meth c H locs (G.length - N0) (am_sz G - S0) Q (F0 m pc LS (.int i9 :: va_rf (E q) :: st'.map (am_cv E)))
      split at h
      · rename_i n rs hn
        have hEq : E q = some (B + q) := by rw [hE]; exact am_Eg hG hn
        have hat : (am_ws E ac f G 0)[q]? = some (B + q, .inl (ac .int, n, .inl (f q))) := by rw [am_ws_get hn, hEq]; rfl
        obtain ⟨hin, -, h⟩ := am_chk_some h
        rw [hEq]
        exact va_iald (D := D) hx hb hSt.1 hP q 0 hat rfl hin hd (hk _ _ _ _ _ _ _ _ h hI')
      · cases h
      · split at h
        · rename_i hq
          have hq' : q = 1000 := Nat.eq_of_beq_eq_true hq
          subst hq'
          have e1 : E 1000 = some b := by rw [hE]; rfl
          rw [e1]
          obtain ⟨-, -, -, -, -, -, -, hX, hbB, hBs⟩ := hSt
          obtain ⟨hin, -, h⟩ := am_chk_some h
          exact va_sld (A := fun q => B ≤ q) hx hb hX (by omega) (by omega) hS hin hd (hk _ _ _ _ _ _ _ _ h hI')
        · cases h
    · cases h
  case baload =>
    simp only [am_sim, cond_eq_ite] at h
    obtain rfl := lenE 1 hg
    split at h
    · rename_i i9 q st'
      show W p l e R s m args below meth c H locs (G.length - N0) (am_sz G - S0) Q (F0 m pc LS (.int i9 :: va_rf (E q) :: st'.map (am_cv E)))
      split at h
      · rename_i n rs hn
        have hEq : E q = some (B + q) := by rw [hE]; exact am_Eg hG hn
        have hat : (am_ws E ac f G 0)[q]? = some (B + q, .inl (ac .boolean, n, .inl (f q))) := by rw [am_ws_get hn, hEq]; rfl
        obtain ⟨hin, -, h⟩ := am_chk_some h
        rw [hEq]
        exact va_zald (D := D) hx hb hSt.1 hP q 1 hat rfl hin hd (hk _ _ _ _ _ _ _ _ h hI')
      · cases h
      · split at h
        · rename_i hq
          simp only [Bool.and_eq_true] at hq
          have h1 := Nat.le_of_ble_eq_true hq.1
          have h2 := Nat.le_of_ble_eq_true hq.2
          obtain ⟨hin, hlt, h⟩ := am_chk_some h
          obtain ⟨j, hj, hjq, e1⟩ := am_E1020 (B := B) (b := b) (adK := adK) (adV := adV) (fm := fm) h1 h2
          rw [← hE] at e1
          rw [e1]
          obtain ⟨-, -, -, -, hK, -⟩ := hSt
          have hT := (hK.1 j hj).2.2.2
          have hlen : ([5, 5, 5] : List Nat).getD j 0 = 5 := by
            have : j = 0 ∨ j = 1 ∨ j = 2 := by omega
            rcases this with g | g | g <;> rw [g] <;> rfl
          rw [hlen] at hT
          have hjj : q - 1020 = j := by
            rw [hjq]
            exact Nat.add_sub_cancel_left 1020 j
          rw [hjj] at h
          split at h
          · rename_i ll hl9
            split at h
            · rename_i x9 hx9
              refine va_tb hx hb hT hS hin (v := .int x9) ?_ hd (hk _ _ _ _ _ _ _ _ h hI')
              rw [am_nth_eq] at hl9 hx9
              have g1 : am_str.getD j [] = ll := by rw [List.getD_eq_getElem?_getD, hl9]; rfl
              rw [g1, List.getD_eq_getElem?_getD, hx9]
              rfl
            · cases h
          · cases h
        · cases h
    · cases h
  case iastore =>
    simp only [am_sim] at h
    obtain rfl := lenE 1 hg
    split at h
    · rename_i x i9 q st'
      split at h
      · rename_i n rs hn
        obtain ⟨hin, -, h⟩ := am_chk_some h
        exact am_ast_W hC' hI' hn (Or.inl ⟨rfl, rfl⟩) hin hd (fun H1 locs1 hI1 => hk _ _ _ _ _ _ _ _ h hI1)
      · cases h
    · cases h
  case bastore =>
    simp only [am_sim] at h
    obtain rfl := lenE 1 hg
    split at h
    · rename_i x i9 q st'
      split at h
      · rename_i n rs hn
        split at h
        · rename_i h01
          obtain ⟨hin, -, h⟩ := am_chk_some h
          exact am_ast_W hC' hI' hn (Or.inr ⟨rfl, rfl, h01⟩) hin hd (fun H1 locs1 hI1 => hk _ _ _ _ _ _ _ _ h hI1)
        · cases h
      · cases h
    · cases h
  case aaload =>
    simp only [am_sim] at h
    obtain rfl := lenE 1 hg
    split at h
    · rename_i i9 q st'
      show W p l e R s m args below meth c H locs (G.length - N0) (am_sz G - S0) Q (F0 m pc LS (.int i9 :: va_rf (E q) :: st'.map (am_cv E)))
      split at h
      · rename_i C9 n rs hn
        have hEq : E q = some (B + q) := by rw [hE]; exact am_Eg hG hn
        have hat : (am_ws E ac f G 0)[q]? = some (B + q, .inl (ac am_cO, n, .inr (.inr (.inr (.inr (fun i => am_re E (am_nth rs i))))))) := by rw [am_ws_get hn, hEq]; rfl
        obtain ⟨hin, -, h⟩ := am_chk_some h
        rw [hEq]
        have hkk := hk _ _ _ _ _ _ _ _ h hI'
        rw [List.map_cons, am_cv_rv] at hkk
        exact va_aldq (D := D) hx hb hSt.1 hP q 2 hat rfl hin hd hkk
      · cases h
    · cases h
  case aastore =>
    simp only [am_sim] at h
    obtain rfl := lenE 1 hg
    split at h
    · rename_i v i9 q st'
      split at h
      · rename_i C9 n rs rv hn hv
        obtain ⟨hin, -, h⟩ := am_chk_some h
        split at h
        · rename_i r0 hr
          have hlen : (G.set q (.inr (.object "NumberedRings$Standing", n), rs.set i9.toNatClampNeg (some v))).length = G.length := List.length_set
          have hsz9 : am_sz (G.set q (.inr (.object "NumberedRings$Standing", n), rs.set i9.toNatClampNeg (some v))) = am_sz G := am_sz_set G q (.inr (.object C9, n), rs) _ (by rw [← am_nth_eq]; exact hn) rfl
          refine am_aast_W hC' hI' hn hv hin hr hd (fun H1 locs1 hI1 => ?_)
          have hkk := hk _ _ _ _ _ _ _ _ h hI1
          rw [hlen, hsz9] at hkk
          exact hkk
        · cases h
      · cases h
    · cases h
  case new idx =>
    simp only [am_sim] at h
    obtain rfl := lenE 3 hg
    split at h
    · rename_i x9 ho
      obtain ⟨m1, m2, m3⟩ := hmx _ _ _ _ _ h
      exact am_new_W hC' hI' ho m1 m2 m3 hd (fun H1 hI1 => hk _ _ _ _ _ _ _ _ h hI1)
    · cases h
  case newarray ty =>
    simp only [am_sim] at h
    obtain rfl := lenE 2 hg
    split at h
    · rename_i n st'
      split at h
      · cases h
      · rename_i h0
        split at h
        · cases h
        · rename_i hbig
          split at h
          · obtain ⟨m1, m2, m3⟩ := hmx _ _ _ _ _ h
            exact am_newa_W hC' hI' (Or.inl ⟨rfl, rfl⟩) h0 hbig m1 m2 m3 hd (fun H1 hI1 => hk _ _ _ _ _ _ _ _ h hI1)
          · obtain ⟨m1, m2, m3⟩ := hmx _ _ _ _ _ h
            exact am_newa_W hC' hI' (Or.inr ⟨rfl, rfl⟩) h0 hbig m1 m2 m3 hd (fun H1 hI1 => hk _ _ _ _ _ _ _ _ h hI1)
          · cases h
    · cases h
  case anewarray idx =>
    simp only [am_sim] at h
    obtain rfl := lenE 3 hg
    split at h
    · rename_i n st' pl hnl
      split at h
      · cases h
      · rename_i h0
        split at h
        · cases h
        · rename_i hbig
          obtain ⟨m1, m2, m3⟩ := hmx _ _ _ _ _ h
          exact am_newq_W hC' hI' hnl h0 hbig m1 m2 m3 hd (fun H1 hI1 => hk _ _ _ _ _ _ _ _ h hI1)
    · cases h
  case invokespecial idx =>
    simp only [am_sim, cond_eq_ite] at h
    obtain rfl := lenE 3 hg
    split at h
    · rename_i q st' j9 pl h9 hf
      split at h
      · rename_i hcnd
        simp only [Bool.and_eq_true] at hcnd
        have h1 := Nat.le_of_ble_eq_true hcnd.1
        have h2 := Nat.le_of_ble_eq_true hcnd.2
        have hEq : E q = some (B + q) := by rw [hE]; exact am_Ein (Nat.lt_succ_of_le h2)
        show W p l e R s m args below meth c H locs (G.length - N0) (am_sz G - S0) Q (F0 m pc LS (va_rf (E q) :: st'.map (am_cv E)))
        rw [hEq]
        have hlink : Cond.methodLink (am_rn o) idx objectInit ∈ am_tb := am_word_of (am_cl9 hf).1
        have hsum : ((st'.map (am_cv E)).map fun v => v.category).sum = st'.length := am_catsum E st'
        exact W.objInit hx hb hown (hts _ hlink) (hts _ (am_word_of (i := 83) (by decide +kernel))) (hts _ (am_word_of (i := 84) (by decide +kernel))) rfl (by rw [hml]; exact hl.1) rfl hd (by omega) (by rw [hsum]; show 2 * 0 + _ + 12 ≤ _; omega) (hk _ _ _ _ _ _ _ _ h hI')
      · cases h
    · cases h
  case invokestatic idx =>
    simp only [am_sim, cond_eq_ite] at h
    obtain rfl := lenE 3 hg
    split at h
    · rename_i n dp b9 sp a9 st' j9 pl h9 hf
      split at h
      · rename_i na ra nb rb ha hb9
        split at h
        · rename_i hcnd
          have h1 := Nat.le_of_ble_eq_true hcnd
          split at h
          · cases h
          · split at h
            · cases h
            · split at h
              · cases h
              · split at h
                · split at h
                  · rename_i q1 q2 q3 q4 q5
                    exact am_cpy_W hC' hI' hf (by omega) ha hb9 q1 q2 q3 q4 q5 h1 hd (fun H1 locs1 hI1 => hk _ _ _ _ _ _ _ _ h hI1)
                  · cases h
                · cases h
        · cases h
      · cases h
    · cases h
  case iadd =>
    simp only [am_sim, am_bin] at h
    obtain rfl := lenE 1 hg
    split at h
    · exact lv_iadd hx hb hd (hk _ _ _ _ _ _ _ _ h hI')
    · cases h
  case isub =>
    simp only [am_sim, am_bin] at h
    obtain rfl := lenE 1 hg
    split at h
    · exact lv_isub hx hb hd (hk _ _ _ _ _ _ _ _ h hI')
    · cases h
  case imul =>
    simp only [am_sim, am_bin] at h
    obtain rfl := lenE 1 hg
    split at h
    · exact lv_imul hx hb hd (hk _ _ _ _ _ _ _ _ h hI')
    · cases h
  case iand =>
    simp only [am_sim, am_bin] at h
    obtain rfl := lenE 1 hg
    split at h
    · exact lv_iand hx hb hd (hk _ _ _ _ _ _ _ _ h hI')
    · cases h
  case ior =>
    simp only [am_sim, am_bin] at h
    obtain rfl := lenE 1 hg
    split at h
    · exact lv_ior hx hb hd (hk _ _ _ _ _ _ _ _ h hI')
    · cases h
  case ixor =>
    simp only [am_sim, am_bin] at h
    obtain rfl := lenE 1 hg
    split at h
    · exact lv_ixor hx hb hd (hk _ _ _ _ _ _ _ _ h hI')
    · cases h
  case ishl =>
    simp only [am_sim, am_bin] at h
    obtain rfl := lenE 1 hg
    split at h
    · exact lv_ishl hx hb hd (hk _ _ _ _ _ _ _ _ h hI')
    · cases h
  case ishr =>
    simp only [am_sim, am_bin] at h
    obtain rfl := lenE 1 hg
    split at h
    · exact lv_ishr hx hb hd (hk _ _ _ _ _ _ _ _ h hI')
    · cases h
  case iushr =>
    simp only [am_sim, am_bin] at h
    obtain rfl := lenE 1 hg
    split at h
    · exact lv_iushr hx hb hd rfl (hk _ _ _ _ _ _ _ _ h hI')
    · cases h
  case idiv =>
    simp only [am_sim, am_bin] at h
    obtain rfl := lenE 1 hg
    split at h
    · rename_i y9 x9 st'
      by_cases hz : y9 = 0
      · rw [if_pos hz] at h
        cases h
      · rw [if_neg hz] at h
        exact lv_idiv hx hb hd hz (hk _ _ _ _ _ _ _ _ h hI')
    · cases h
  case irem =>
    simp only [am_sim, am_bin] at h
    obtain rfl := lenE 1 hg
    split at h
    · rename_i y9 x9 st'
      by_cases hz : y9 = 0
      · rw [if_pos hz] at h
        cases h
      · rw [if_neg hz] at h
        exact lv_irem hx hb hd hz (hk _ _ _ _ _ _ _ _ h hI')
    · cases h
  all_goals (simp only [am_sim, am_bin] at h; split at h <;> cases h)
end STS
end
section
/-! the world only grows; what tables say of methods -/
set_option maxHeartbeats 4000000 in
set_option maxRecDepth 100000 in
theorem am_sim_G {ρ : Type} {P : Prop} {X : am_X} {o hh : Nat} {i : Instr} {len pc : Nat} {ls : am_L} {st : List Value} {G : am_G} {f : am_M} {k : Nat → am_L → List Value → am_G → am_M → Option ρ} {r : ρ} (h : am_sim X o hh i len pc ls st G f k = some r)
    (hk : ∀ a b c G1 e, k a b c G1 e = some r → G.length ≤ G1.length → am_sz G ≤ am_sz G1 → P) : P := by
  have same : ∀ {a b c e}, k a b c G e = some r → P := fun h => hk _ _ _ G _ h (Nat.le_refl _) (Nat.le_refl _)
  have push : ∀ {a b c e x}, k a b c (G ++ [x]) e = some r → P := fun {a b c e x} h => hk _ _ _ _ _ h (by rw [List.length_append]; omega) (by rw [am_sz_app]; omega)
  cases i <;> simp only [am_sim, cond_eq_ite] at h
  case putfield idx =>
    repeat' split at h
    all_goals first | exact same h | cases h | skip
    all_goals rename_i ci rs hn x0 ci' k9 pl hf hc y1 y2 q hkd y3 r9 hr9
    all_goals exact hk _ _ _ _ _ h (by rw [List.length_set]; exact Nat.le_refl _) (Nat.le_of_eq (am_sz_set G _ (.inl ci, rs) (.inl ci, rs.set k9 (some q)) (by rw [← am_nth_eq]; exact hn) rfl).symm)
  case aastore =>
    split at h
    · split at h
      · rename_i C9 n rs rv hn hv
        obtain ⟨-, -, h⟩ := am_chk_some h
        split at h
        · refine hk _ _ _ _ _ h (by rw [List.length_set]; exact Nat.le_refl _) ?_
          rw [am_sz_set G _ (.inr (.object C9, n), rs) (.inr (.object "NumberedRings$Standing", n), _) (by rw [← am_nth_eq]; exact hn) rfl]
          exact Nat.le_refl _
        · cases h
      · cases h
    · cases h
  all_goals (repeat' split at h)
  all_goals first | exact same h | exact push h | cases h | skip
  all_goals (obtain ⟨-, -, h⟩ := am_chk_some h)
  all_goals first | exact same h | skip
  all_goals (repeat' split at h)
  all_goals first | exact same h | cases h
theorem am_br_or {α : Type} {cd : ClassFile.Cond} {a b : Int32} {A C : Option α} {r : α} (h : am_br cd a b A C = some r) : A = some r ∨ C = some r := by
  cases cd <;> simp only [am_br] at h <;> split at h <;> first | exact Or.inl h | exact Or.inr h
theorem am_swr_or {α : Type} {x : Int32} {go : Int → Option α} {d : Option α} {r : α} : ∀ (t : List Int) (k : Int), am_swr x go d t k = some r → (∃ (n : Nat) (q : Int), t[n]? = some q ∧ x = am_int (k + n) ∧ go q = some r) ∨ ((∀ n : Nat, n < t.length → x ≠ am_int (k + n)) ∧ d = some r)
  | [], _, h => Or.inr ⟨fun n hn => absurd hn (Nat.not_lt_zero n), h⟩
  | o :: t, k, h => by
    simp only [am_swr] at h
    split at h
    · rename_i e
      exact Or.inl ⟨0, o, rfl, by simpa using e, h⟩
    · rename_i e
      rcases am_swr_or t (k + 1) h with ⟨n, q, h1, h2, h3⟩ | ⟨h1, h2⟩
      · exact Or.inl ⟨n + 1, q, by simpa using h1, by rw [h2]; congr 1; push_cast; omega, h3⟩
      · refine Or.inr ⟨fun n hn => ?_, h2⟩
        cases n with
        | zero => simpa using e
        | succ n =>
          have := h1 n (by simpa using hn)
          intro e2
          apply this
          rw [e2]
          congr 1
          push_cast
          omega
theorem am_run_G {X : am_X} : ∀ (n j pc : Nat) (ls : am_L) (st : List Value) (G : am_G) (f : am_M) (r : Option Value) (G' : am_G) (f' : am_M), am_run X n j pc ls st G f = some (r, G', f') → G.length ≤ G'.length ∧ am_sz G ≤ am_sz G' := by
  intro n
  induction n with
  | zero => intro j pc ls st G f r G' f' h; simp [am_run] at h
  | succ n ih =>
    intro j pc ls st G f r G' f' h
    have h' : am_one X (am_run X n) j pc ls st G f = some (r, G', f') := h
    unfold am_one at h'
    generalize am_m j = mm at h'
    obtain ⟨c, o, x1, x2, rt, hh⟩ := mm
    dsimp only at h'
    generalize am_at c pc = w at h'
    cases w with
    | none => cases h'
    | some x =>
      obtain ⟨i, len⟩ := x
      have gen : am_gen X (am_run X n) j o hh i len pc ls st G f = some (r, G', f') → G.length ≤ G'.length ∧ am_sz G ≤ am_sz G' := by
        intro hg
        unfold am_gen at hg
        split at hg
        · rename_i j' As rest hcal
          cases hr : am_run X n j' 0 (am_ent As (am_m j').2.2.2.1) [] G f with
          | none => rw [hr] at hg; cases hg
          | some y =>
            obtain ⟨r1, G1, f1⟩ := y
            rw [hr] at hg
            have a1 := ih _ _ _ _ _ _ _ _ _ hr
            have a2 := ih _ _ _ _ _ _ _ _ _ hg
            omega
        · refine am_sim_G hg (fun a b c G1 e h1 h2 h3 => ?_)
          have a2 := ih _ _ _ _ _ _ _ _ _ h1
          omega
      cases i
      case if_icmp cd off =>
        dsimp only at h'
        split at h'
        · rcases am_br_or h' with h1 | h1 <;> exact ih _ _ _ _ _ _ _ _ _ h1
        · cases h'
      case ifCond cd off =>
        dsimp only at h'
        split at h'
        · rcases am_br_or h' with h1 | h1 <;> exact ih _ _ _ _ _ _ _ _ _ h1
        · cases h'
      case tableswitch d lo hi offs =>
        dsimp only at h'
        split at h'
        · rcases am_swr_or _ _ h' with ⟨q, z, -, -, h1⟩ | ⟨-, h1⟩ <;> exact ih _ _ _ _ _ _ _ _ _ h1
        · cases h'
      case ireturn =>
        dsimp only at h'
        split at h'
        · unfold am_rt at h'
          repeat' split at h'
          all_goals first | (cases h'; exact ⟨Nat.le_refl _, Nat.le_refl _⟩) | cases h'
        · cases h'
      case areturn =>
        dsimp only at h'
        split at h'
        · cases h'; exact ⟨Nat.le_refl _, Nat.le_refl _⟩
        · cases h'
      case return_ =>
        dsimp only at h'
        split at h'
        · cases h'; exact ⟨Nat.le_refl _, Nat.le_refl _⟩
        · cases h'
      all_goals exact gen h'
/-- what a method's row says -/
def am_MF (j : Nat) : Prop := Cond.code (am_y j) (am_by j) (am_m j).2.2.2.1 (am_m j).2.2.2.2.1 ∈ am_tb ∧ Cond.initialized (am_y j).cls ∈ am_tb ∧ (am_y j).cls = am_rn (am_m j).2.1 ∧ plainFor (am_y j) = true ∧ ((am_y j).cls ≠ "java/lang/invoke/MethodHandle" ∧ (am_y j).cls ≠ "java/lang/invoke/VarHandle") ∧ (am_m j).2.2.2.1 ≤ 16 ∧ (am_m j).2.2.1 ≤ (am_m j).2.2.2.1 ∧
  (match am_kind j with
   | 0 => Cond.instanceMethod (am_y j) ∈ am_tb ∧ Cond.selects (am_y j).cls (am_y j) (am_y j) ∈ am_tb ∧ (parseMethodDescriptor (am_y j).desc).map (fun d => d.parameters.length + 1) = some (am_m j).2.2.1
   | 1 => Cond.static (am_y j) ∈ am_tb ∧ (parseMethodDescriptor (am_y j).desc).map (fun d => d.parameters.length) = some (am_m j).2.2.1
   | _ => Cond.instanceMethod (am_y j) ∈ am_tb ∧ (am_m j).2.2.2.2.1 = none ∧ (parseMethodDescriptor (am_y j).desc).map (fun d => d.parameters.length + 1) = some (am_m j).2.2.1)
theorem am_mf {j : Nat} (h : j < 172) : am_MF j := by
  have h1 := am_ml j h
  unfold am_mlk at h1
  unfold am_MF am_y am_by
  generalize am_kind j = kd at h1 ⊢
  generalize am_m j = mm at h1 ⊢
  generalize am_mn j = nn at h1 ⊢
  obtain ⟨c, o, na, mL, rt, hh⟩ := mm
  obtain ⟨⟨y, bb⟩, p1, p2, p3, p4⟩ := nn
  simp only [Bool.and_eq_true, decide_eq_true_eq] at h1
  obtain ⟨a1, a2, a3, a4, a5, a6, a7, a8⟩ := h1
  refine ⟨am_word_of a1, am_word_of a2, a3, a4, a5, Nat.le_of_ble_eq_true a6, Nat.le_of_ble_eq_true a7, ?_⟩
  split at a8
  · simp only [Bool.and_eq_true, decide_eq_true_eq] at a8
    exact ⟨am_word_of a8.1, am_word_of a8.2.1, a8.2.2⟩
  · simp only [Bool.and_eq_true, decide_eq_true_eq] at a8
    exact ⟨am_word_of a8.1, a8.2⟩
  · rename_i q1 q2
    simp only [Bool.and_eq_true, decide_eq_true_eq] at a8
    split
    · exact absurd rfl q1
    · exact absurd rfl q2
    · exact ⟨am_word_of a8.1, a8.2.1, a8.2.2⟩
/-- answers are of the kind that the method tells -/
def am_rts (j : Nat) : Bool := (am_m j).1.all fun q => q.all fun x => match x with
  | some (.areturn, _) => (match (am_m j).2.2.2.2.1 with
    | some t => am_rk t
    | none => false)
  | some (.return_, _) => (match (am_m j).2.2.2.2.1 with
    | some _ => false
    | none => true)
  | _ => true
theorem am_rts_all : (List.range 172).all am_rts = true := by decide +kernel
theorem am_rts_at {j pc : Nat} {i : Instr} {len : Nat} (h : am_rts j = true) (ha : am_at (am_m j).1 pc = some (i, len)) : (i = .areturn → ∃ t, (am_m j).2.2.2.2.1 = some t ∧ am_rk t = true) ∧ (i = .return_ → (am_m j).2.2.2.2.1 = none) := by
  unfold am_at am_two at ha
  rw [am_nth_eq] at ha
  cases hc : (am_m j).1[pc / 16]? with
  | none => simp [hc] at ha
  | some l9 =>
    simp only [hc] at ha
    rw [am_nth_eq] at ha
    cases hl : l9[pc % 16]? with
    | none => simp [hl] at ha
    | some y =>
      simp only [hl] at ha
      cases y with
      | none => cases ha
      | some z =>
        cases ha
        have h1 := List.all_eq_true.mp (List.all_eq_true.mp h l9 (List.mem_of_getElem? hc)) _ (List.mem_of_getElem? hl)
        constructor
        · intro e
          subst e
          dsimp only at h1
          split at h1
          · rename_i t ht
            exact ⟨t, ht, h1⟩
          · cases h1
        · intro e
          subst e
          dsimp only at h1
          split at h1
          · cases h1
          · assumption
end
section
/-! every run of the abstract machine is a run of the machine -/
section RUN
variable {l : Launch} {B b L : Nat} {xs : Nat → Int32} {D : va_G} {ac : FieldType → ClassId} {adK adV : Nat → Nat} {fm : Option Nat} {E : Nat → Option Nat}
theorem am_asc_ent (E : Nat → Option Nat) (n : Nat) : ∀ (As : List Value) (k : Nat), am_asc E k (As.map some ++ List.replicate n none) = lv_args k (As.map (am_cv E))
  | [], k => by
    simp only [List.map_nil, List.nil_append, lv_args]
    induction n generalizing k with
    | zero => rfl
    | succ n ih => rw [List.replicate_succ, am_asc]; exact ih (k + 1)
  | v :: As, k => by
    simp only [List.map_cons, List.cons_append, am_asc, lv_args]
    rw [am_asc_ent E n As (k + 1), if_neg (by rw [am_cv_cat]; decide)]
theorem am_sl_len (E : Nat → Option Nat) : ∀ As : List Value, (lg_sl (As.map (am_cv E))).length = As.length
  | [] => rfl
  | v :: As => by
    have := am_sl_len E As
    unfold lg_sl at this ⊢
    rw [List.map_cons, List.flatMap_cons, if_neg (by rw [am_cv_cat]; decide), List.length_append, this]
    simp
    omega
/-- a method's start -/
def am_Pc (B b L : Nat) (xs : Nat → Int32) (D : va_G) (ac : FieldType → ClassId) (adK adV : Nat → Nat) (fm : Option Nat) (E : Nat → Option Nat) (As : List Value) (G : am_G) (f : am_M) : Array Value → State → Prop :=
  fun v U => v = (As.map (am_cv E)).toArray ∧ am_St B b L xs D ac adK adV fm U ∧ va_P D vwCl (am_ws E ac f G 0) U.heap ∧ U.heap.size = B + G.length
/-- a method's end -/
def am_Qc (B : Nat) (D : va_G) (ac : FieldType → ClassId) (E : Nat → Option Nat) (r : Option Value) (G' : am_G) (f' : am_M) : Array Value → State → Outcome → State → Prop :=
  fun _ st oc t => oc = .returned (r.map (am_cv E)) ∧ va_P D vwCl (am_ws E ac f' G' 0) t.heap ∧ va_F (fun q => B ≤ q) st t
def am_rm (G G' : am_G) (h : Nat) : Room := { frames := h, cells := G'.length - G.length, slots := am_sz G' - am_sz G, locals := 36 * h }
/-- a method's contract, of one run -/
def am_Mt (l : Launch) (B b L : Nat) (xs : Nat → Int32) (D : va_G) (ac : FieldType → ClassId) (adK adV : Nat → Nat) (fm : Option Nat) (E : Nat → Option Nat) (j : Nat) (As : List Value) (G : am_G) (f : am_M) (r : Option Value) (G' : am_G) (f' : am_M) : Prop :=
  Met l (am_y j) (.code (am_y j) (am_by j) (am_m j).2.2.2.1 (am_m j).2.2.2.2.1 :: am_tb) (am_rm G G' (am_m j).2.2.2.2.2) (am_Pc B b L xs D ac adK adV fm E As G f) (am_Qc B D ac E r G' f') (G'.length - G.length) (am_sz G' - am_sz G) (fun q => B ≤ q)
theorem am_blind {As : List Value} {G : am_G} {f : am_M} : FrameBlind (am_Pc B b L xs D ac adK adV fm E As G f) := by
  intro a U g mk ⟨h1, h2, h3, h4⟩
  exact ⟨h1, am_St.same (U := U.calling g mk a) h2 rfl rfl, h3, h4⟩
section CAL
variable {p : Program} {e : Env} {R : Room} {s : State} {m : MethodId} {args : Array Value} {below : List Frame} {meth : Method} {c : Code} {H : Heap} {locs : List Loc} {Q : State → Prop} {cells slots : Nat}
/-- behind a call -/
theorem am_ran {pc : Nat} {LS : Array Slot} {st0 rest : List Value} {a : Array Value} {r : Option Value} {G' : am_G} {f' : am_M} {mc ms : Nat} (hr : va_Run p l e R s m args below meth c H locs cells slots mc ms (F0 m pc LS st0) rest (am_Qc B D ac E r G' f' a) (fun q => B ≤ q)) (hS : va_S (fun q => B ≤ q) s.heap H locs)
    (kk : ∀ (H1 : Heap) (locs1 : List Loc), va_P D vwCl (am_ws E ac f' G' 0) H1 → va_S (fun q => B ≤ q) s.heap H1 locs1 → W p l e R s m args below meth c H1 locs1 (cells + mc) (slots + ms) Q (F0 m (pc + 3) LS ((r.map (am_cv E)).toList ++ rest))) : W p l e R s m args below meth c H locs cells slots Q (F0 m pc LS st0) := by
  intro T hT X
  obtain ⟨v, st₀, t, T', L9, h0, X', hL, e1, e2, ⟨hv, hP, hz, hk⟩, st⟩ := hr T hT X
  cases hv
  rw [h0] at hz hk
  rw [← e1] at hP
  obtain ⟨t2, a1, b1⟩ := kk T'.heap (locs ++ L9) hP
    ⟨Nat.le_trans hS.1 (by rw [e1]; exact hz), fun q h1 h2 => by rw [e1, hk q (Nat.lt_of_lt_of_le h1 hS.1) h2]; exact hS.2.1 q h1 h2, fun q hq => by
      rcases List.mem_append.mp hq with h | h
      · exact hS.2.2 q h
      · exact hL q h⟩ T' rfl X'
  exact ⟨t2, st t2 a1, b1⟩
/-- the heap's size is that of the world -/
theorem am_size {N0 : Nat} {G : am_G} {f : am_M} {cells : Nat} (hE : E = am_E B b adK adV fm) (hsz : s.heap.size = B + N0) (hN : N0 ≤ G.length) (hG : G.length ≤ 1000) (hP : va_P D vwCl (am_ws E ac f G 0) H) (hS : va_S (fun q => B ≤ q) s.heap H locs) (hcl : cells = G.length - N0) (h : H.size ≤ s.heap.size + cells) : H.size = B + G.length := by
  have h1 := hS.1
  by_cases h0 : G.length = 0
  · omega
  · have hlt : G.length - 1 < G.length := by omega
    have hat : (am_ws E ac f G 0)[G.length - 1]? = some (B + (G.length - 1), am_ct E ac f (G.length - 1) G[G.length - 1]) := by
      rw [am_ws_get (q := G[G.length - 1]) (by rw [am_nth_eq]; exact List.getElem?_eq_getElem hlt), hE, am_Ein (by omega)]
      rfl
    have h2 : B + (G.length - 1) < H.size := (hP _ _ hat).lt
    omega
end CAL
end RUN
end
section
/-! calls -/
theorem am_CL_nest : (am_CL.zipIdx).all (fun q => q.1.all (fun r => !(Nat.beq r.2.1 3) || decide (Cond.methodLinkNest (am_rn q.2) r.1 (am_y r.2.2.1) "NumberedRings" ∈ am_nest))) = true := by decide +kernel
theorem am_nest_of {o idx j pl : Nat} (h : am_own am_CL o idx = some (3, j, pl)) : Cond.methodLinkNest (am_rn o) idx (am_y j) "NumberedRings" ∈ am_nest := by
  obtain ⟨l, h1, h2⟩ := am_own_mem h
  have h3 := List.all_eq_true.mp am_CL_nest (l, o) (List.mem_zipIdx_iff_getElem?.mpr h1)
  have h4 := List.all_eq_true.mp h3 _ h2
  simpa using h4
section CLL
variable {l : Launch} {B b L : Nat} {xs : Nat → Int32} {D : va_G} {ac : FieldType → ClassId} {adK adV : Nat → Nat} {fm : Option Nat} {E : Nat → Option Nat}
variable {p : Program} {e : Env} {R : Room} {s : State} {m : MethodId} {args : Array Value} {below : List Frame} {meth : Method} {c : Code} {H : Heap} {locs : List Loc} {Q : State → Prop}
variable {cc : ByteArray} {o hh mL N0 S0 : Nat} {ini : Bool}
variable {LS : Array Slot} {ls : am_L} {G : am_G} {f : am_M} {pc : Nat}
theorem am_E1010 {q : Nat} (h1 : 1010 ≤ q) (h2 : q ≤ 1012) : ∃ j, j < 3 ∧ am_E B b adK adV fm q = some (adK j) := by
  refine ⟨q - 1010, by omega, ?_⟩
  simp [am_E, show ¬ q < 1000 by omega, show q ≠ 1000 by omega, show q ≠ 1001 by omega, show q < 1020 by omega]
/-- the receiver -/
theorem am_recv_W {v : Option Value} {o' : Nat} (hC : am_Cx p R s m args meth c B b L xs D ac adK adV fm E cc o hh mL N0 ini) (hI : am_Pt s B D ac E mL N0 S0 ls G f H locs LS) (h : am_rcv G v o' = true) : ∃ (q a : Nat), v = some (.ref q) ∧ E q = some a ∧ ∃ cell : Cell, H[a]? = some cell ∧ cell.vm.isStatics = false ∧ s.vm.findClass (am_rn o') = some cell.cls := by
  obtain ⟨hx, hb, hml, hown, hts, hini, hSt, hfr, hlo, hsz, hE⟩ := hC
  obtain ⟨hP, hS, hl, hll, hN, hS0, hG⟩ := hI
  unfold am_rcv at h
  split at h
  · rename_i q
    split at h
    · rename_i ci rs hn
      have hc : ci = o' := Nat.eq_of_beq_eq_true h
      subst hc
      have hEq : E q = some (B + q) := by rw [hE]; exact am_Eg hG hn
      have hat : (am_ws E ac f G 0)[q]? = some (B + q, .inr (ci, am_fs E (f q) rs (am_ks ci) 0)) := by rw [am_ws_get hn, hEq]; rfl
      obtain ⟨r9, hr9, -⟩ := hP q _ hat
      have hcf := am_cf hr9
      obtain ⟨cell, g1, g2, g3⟩ := va_recv hSt.1 hP hr9 hat
      exact ⟨q, B + q, rfl, hEq, cell, g1, g2, by rw [← hcf.2.2.2.2.2.2.2.1]; exact g3⟩
    · cases h
    · simp only [Bool.and_eq_true] at h
      have ho : o' = 10 := Nat.eq_of_beq_eq_true h.1
      subst ho
      have h1 := Nat.le_of_ble_eq_true h.2.1
      have h2 := Nat.le_of_ble_eq_true h.2.2
      obtain ⟨j, hj, hEq⟩ := am_E1010 (B := B) (b := b) (adK := adK) (adV := adV) (fm := fm) h1 h2
      rw [← hE] at hEq
      obtain ⟨-, -, -, -, hK, -⟩ := hSt
      obtain ⟨cell, g1, g2, g3⟩ := vk_recv hK hj hS
      exact ⟨q, adK j, rfl, hEq, cell, g1, g2, g3⟩
  · cases h
theorem am_good_tb : ∀ {w : Jvm.Cond}, w ∈ am_tb → ((w.onTables && w.keeps) = true ∨ ∃ ty, w = .arrayClass ty) := fun h => good_of_word (am_tb_good h).2
set_option maxHeartbeats 4000000 in
theorem am_call_W {i : Instr} {len j : Nat} {st As rest : List Value} {r : Option Value} {G1 : am_G} {f1 : am_M} (hC : am_Cx p R s m args meth c B b L xs D ac adK adV fm E cc o hh mL N0 ini) (hI : am_Pt s B D ac E mL N0 S0 ls G f H locs LS) (hd : decode cc pc = .ok (i, len)) (hg : am_good o ini pc i len = true)
    (hcal : am_cal o hh i st G = some (j, As, rest)) (hM : am_Mt l B b L xs D ac adK adV fm E j As G f r G1 f1) (hle : G.length ≤ G1.length) (hsl : am_sz G ≤ am_sz G1) (hG1 : G1.length ≤ 1000) (hc1 : G1.length - N0 ≤ R.cells) (hs1 : am_sz G1 - S0 ≤ R.slots)
    (kk : ∀ (H1 : Heap) (locs1 : List Loc), am_Pt s B D ac E mL N0 S0 ls G1 f1 H1 locs1 LS → W p l e R s m args below meth c H1 locs1 (G1.length - N0) (am_sz G1 - S0) Q (F0 m (pc + len) LS ((r.toList ++ rest).map (am_cv E)))) :
    W p l e R s m args below meth c H locs (G.length - N0) (am_sz G - S0) Q (F0 m pc LS (st.map (am_cv E))) := by
  have hC' := hC
  have hI' := hI
  obtain ⟨hx, hb, hml, hown, hts, hini, hSt, hfr, hlo, hsz, hE⟩ := hC
  obtain ⟨hP, hS, hl, hll, hN, hS0, hG⟩ := hI
  refine am_Wsz (fun hs9 => ?_)
  have hHs : H.size = B + G.length := am_size hE hsz hN hG hP hS rfl hs9
  unfold am_cal at hcal
  cases hcj : am_cj o i with
  | none => simp [hcj] at hcal
  | some y =>
    obtain ⟨kd, j'⟩ := y
    simp only [hcj] at hcal
    cases hcnd : (Nat.blt (am_m j').2.2.2.2.2 hh && (Nat.ble (am_m j').2.2.1 st.length && (Nat.ble (st.length - (am_m j').2.2.1) 8 && (Nat.beq kd 1 || am_rcv G (am_nth st ((am_m j').2.2.1 - 1)) (am_m j').2.1)))) with
    | false => rw [hcnd] at hcal; cases hcal
    | true =>
      rw [hcnd] at hcal
      simp only [cond_true, Option.some.injEq, Prod.mk.injEq] at hcal
      obtain ⟨rfl, rfl, rfl⟩ := hcal
      simp only [Bool.and_eq_true, Bool.or_eq_true] at hcnd
      obtain ⟨d1, d2, d3, d4⟩ := hcnd
      have d1 : (am_m j').2.2.2.2.2 < hh := Nat.le_of_ble_eq_true d1
      have d2 := Nat.le_of_ble_eq_true d2
      have d3 := Nat.le_of_ble_eq_true d3
      generalize hna : (am_m j').2.2.1 = na at d2 d3 d4 hM kk ⊢
      -- the row of the call
      have hrow : j' < 172 ∧ len = 3 := by
        unfold am_cj at hcj
        split at hcj
        · simp only [am_good] at hg
          refine ⟨?_, Nat.eq_of_beq_eq_true hg⟩
          split at hcj
          · rename_i hf
            cases hcj
            have := (am_cl9 hf).1
            simp only [am_clk, Bool.and_eq_true] at this
            exact Nat.le_of_ble_eq_true this.2
          · cases hcj
        · simp only [am_good] at hg
          refine ⟨?_, Nat.eq_of_beq_eq_true hg⟩
          split at hcj
          · rename_i hf
            cases hcj
            have := (am_cl9 hf).1
            simp only [am_clk, Bool.and_eq_true] at this
            exact Nat.le_of_ble_eq_true this.2
          · cases hcj
        · simp only [am_good] at hg
          refine ⟨?_, Nat.eq_of_beq_eq_true hg⟩
          split at hcj
          · rename_i hf
            cases hcj
            have := (am_cl9 hf).1
            simp only [am_clk, Bool.and_eq_true] at this
            exact Nat.le_of_ble_eq_true this.2
          · rename_i hf
            cases hcj
            have := (am_cl9 hf).1
            simp only [am_clk, Bool.and_eq_true] at this
            exact Nat.le_of_ble_eq_true this.2
          · cases hcj
        · cases hcj
      obtain ⟨hj, rfl⟩ := hrow
      obtain ⟨w1, w2, w3, w4, w5, w6, w7, w8⟩ := am_mf hj
      -- the words of the callee
      have hGood : GoodIn am_tb (.code (am_y j') (am_by j') (am_m j').2.2.2.1 (am_m j').2.2.2.2.1 :: am_tb) := by
        intro w hw
        rcases List.mem_cons.mp hw with rfl | hw
        · exact ⟨w1, am_good_tb w1⟩
        · exact ⟨hw, am_good_tb hw⟩
      have hroom : (am_rm G G1 (am_m j').2.2.2.2.2).frames + 1 ≤ R.frames ∧ 8 + ((am_m j').2.2.2.1 + 11) + (am_rm G G1 (am_m j').2.2.2.2.2).locals ≤ R.locals := by
        refine ⟨?_, ?_⟩
        · show (am_m j').2.2.2.2.2 + 1 ≤ R.frames
          omega
        · show 8 + ((am_m j').2.2.2.1 + 11) + 36 * (am_m j').2.2.2.2.2 ≤ R.locals
          omega
      have hfit : (G.length - N0) + (G1.length - G.length) ≤ R.cells ∧ (am_sz G - S0) + (am_sz G1 - am_sz G) ≤ R.slots := ⟨by omega, by omega⟩
      have e1 : (G.length - N0) + (G1.length - G.length) = G1.length - N0 := by omega
      have e2 : (am_sz G - S0) + (am_sz G1 - am_sz G) = am_sz G1 - S0 := by omega
      have hlenD : (st.drop na).length ≤ 8 := by rw [List.length_drop]; exact d3
      have hW8 : 2 * (F0 m pc LS (st.map (am_cv E))).monitorRoom + (((st.drop na).map (am_cv E)).map fun v => v.category).sum ≤ 8 := by
        rw [am_catsum]
        show 2 * 0 + _ ≤ 8
        omega
      have hstk : st.map (am_cv E) = (((st.take na).reverse).map (am_cv E)).reverse ++ (st.drop na).map (am_cv E) := by
        rw [List.map_reverse, List.reverse_reverse, ← List.map_append, List.take_append_drop]
      have hlenA : ((st.take na).reverse).length = na := by rw [List.length_reverse, List.length_take]; omega
      have hPre : ∀ U : State, U.heap = H → s.WarmedH U.vm → am_Pc B b L xs D ac adK adV fm E (st.take na).reverse G f (((st.take na).reverse).map (am_cv E)).toArray U := by
        intro U hU hW
        refine ⟨rfl, am_St.moved (locs := locs) hSt hW (by rw [hU]; exact hS), by rw [hU]; exact hP, by rw [hU]; exact hHs⟩
      have hback : ∀ (H1 : Heap) (locs1 : List Loc), va_P D vwCl (am_ws E ac f1 G1 0) H1 → va_S (fun q => B ≤ q) s.heap H1 locs1 → W p l e R s m args below meth c H1 locs1 ((G.length - N0) + (G1.length - G.length)) ((am_sz G - S0) + (am_sz G1 - am_sz G)) Q (F0 m (pc + 3) LS ((r.map (am_cv E)).toList ++ (st.drop na).map (am_cv E))) := by
        intro H1 locs1 hP1 hS1
        rw [e1, e2]
        have := kk H1 locs1 ⟨hP1, hS1, hl, hll, by omega, by omega, hG1⟩
        rw [List.map_append] at this
        have hr9 : r.toList.map (am_cv E) = (r.map (am_cv E)).toList := by cases r <;> rfl
        rw [hr9] at this
        exact this
      have hS9 : CallFix p m c cc mL s args am_tb (am_rn o) := ⟨hx, hb, hml, hown, hts⟩
      unfold am_cj at hcj
      split at hcj
      · -- virtual
        rename_i idx
        split at hcj
        · rename_i j9 pl hf
          cases hcj
          have hk0 : am_kind j' = 0 := by have := (am_cl9 hf).2; simpa [am_ckk] using this
          rw [hk0] at w8
          obtain ⟨x1, x2, x3⟩ := w8
          have hlink : Cond.methodLink (am_rn o) idx (am_y j') ∈ am_tb := by
            have := (am_cl9 hf).1
            simp only [am_clk, Bool.and_eq_true] at this
            exact am_word_of this.1
          rw [hna] at x3
          obtain ⟨d9, hd9, hn9⟩ := Option.map_eq_some_iff.mp x3
          rcases d4 with d4 | d4
          · exact absurd d4 (by decide)
          · obtain ⟨q, a, hv, hEq, cell, g1, g2, g3⟩ := am_recv_W hC' hI' d4
            -- the arguments: the receiver first
            have hAs : (st.take na).reverse = .ref q :: ((st.take (na - 1)).reverse) := by
              rw [am_nth_eq] at hv
              have h1 : st.take na = st.take (na - 1) ++ [.ref q] := by
                have : na = (na - 1) + 1 := by omega
                rw [this, List.take_add_one, hv]
                rfl
              rw [h1, List.reverse_append]
              rfl
            generalize hA9 : (st.take (na - 1)).reverse = A9 at hAs
            rw [hAs] at hstk hPre hM hlenA
            have hcvq : am_cv E (.ref q) = .ref a := by show va_rf (E q) = _; rw [hEq]; rfl
            rw [List.map_cons, List.reverse_cons, List.append_assoc, hcvq] at hstk
            rw [List.map_cons, hcvq] at hPre
            refine am_ran (va_runV (n := d9.parameters.length) (C := (am_y j').cls) (As := A9.map (am_cv E)) (rest := (st.drop na).map (am_cv E)) hS9 hM ⟨callB_of d9.parameters.length hts hGood rfl rfl rfl (hts _ w2) (hts _ hlink) ⟨w5.1, w5.2, by rw [hd9]; rfl⟩ hroom, hts _ x1, hts _ x2⟩ ⟨am_blind, ⟨cell, g1, g2, by rw [w3]; exact g3⟩, hPre⟩ rfl ?_ hl.1 hstk hW8 hd hfit) hS hback
            rw [List.length_map]
            simp only [List.length_cons] at hlenA
            omega
        · cases hcj
      · -- static
        rename_i idx
        split at hcj
        · rename_i j9 pl hf
          cases hcj
          have hk0 : am_kind j' = 1 := by have := (am_cl9 hf).2; simpa [am_ckk] using this
          rw [hk0] at w8
          obtain ⟨x1, x3⟩ := w8
          have hlink : Cond.methodLink (am_rn o) idx (am_y j') ∈ am_tb := by
            have := (am_cl9 hf).1
            simp only [am_clk, Bool.and_eq_true] at this
            exact am_word_of this.1
          rw [hna] at x3
          refine am_ran (va_runS (n := na) (As := ((st.take na).reverse).map (am_cv E)) (rest := (st.drop na).map (am_cv E)) hS9 hM ⟨callB_of na hts hGood rfl rfl rfl (hts _ w2) (hts _ hlink) ⟨w5.1, w5.2, x3⟩ hroom, hts _ x1⟩ ⟨am_blind, hPre⟩ rfl (by rw [List.length_map]; exact hlenA) hl.1 hstk hW8 hd hfit) hS hback
        · cases hcj
      · -- special
        rename_i idx
        have hsp : ∃ kd9 pl, (kd9 = 2 ∨ kd9 = 3) ∧ am_own am_CL o idx = some (kd9, j', pl) ∧ kd = kd9 := by
          split at hcj
          · rename_i j9 pl hf; cases hcj; exact ⟨2, pl, Or.inl rfl, hf, rfl⟩
          · rename_i j9 pl hf; cases hcj; exact ⟨3, pl, Or.inr rfl, hf, rfl⟩
          · cases hcj
        obtain ⟨kd9, pl, hkd, hf, rfl⟩ := hsp
        have hk0 : am_kind j' = 2 := by
          have := (am_cl9 hf).2
          rcases hkd with rfl | rfl <;> simpa [am_ckk] using this
        rw [hk0] at w8
        obtain ⟨x1, x2, x3⟩ := w8
        rw [hna] at x3
        obtain ⟨d9, hd9, hn9⟩ := Option.map_eq_some_iff.mp x3
        have hname : (am_y j').name = "<init>" := by
          have := hk0
          unfold am_kind at this
          split at this
          · assumption
          · split at this <;> cases this
        rcases d4 with d4 | d4
        · rcases hkd with rfl | rfl <;> exact absurd d4 (by decide)
        · obtain ⟨q, a, hv, hEq, cell, g1, g2, g3⟩ := am_recv_W hC' hI' d4
          have hAs : (st.take na).reverse = .ref q :: ((st.take (na - 1)).reverse) := by
            rw [am_nth_eq] at hv
            have h1 : st.take na = st.take (na - 1) ++ [.ref q] := by
              have : na = (na - 1) + 1 := by omega
              rw [this, List.take_add_one, hv]
              rfl
            rw [h1, List.reverse_append]
            rfl
          generalize hA9 : (st.take (na - 1)).reverse = A9 at hAs
          rw [hAs] at hstk hPre hM hlenA
          have hcvq : am_cv E (.ref q) = .ref a := by show va_rf (E q) = _; rw [hEq]; rfl
          rw [List.map_cons, List.reverse_cons, List.append_assoc, hcvq] at hstk
          rw [List.map_cons, hcvq] at hPre
          have hlenA9 : (A9.map (am_cv E)).length = d9.parameters.length := by
            rw [List.length_map]
            simp only [List.length_cons] at hlenA
            omega
          unfold am_Mt at hM
          rw [x2] at hM hGood
          rcases hkd with rfl | rfl
          · have hlink : Cond.methodLink (am_rn o) idx (am_y j') ∈ am_tb := by
              have := (am_cl9 hf).1
              simp only [am_clk, Bool.and_eq_true] at this
              exact am_word_of this.1
            exact am_ran (va_runI (n := d9.parameters.length) (As := A9.map (am_cv E)) (rest := (st.drop na).map (am_cv E)) hS9 hM ⟨callB_of d9.parameters.length hts hGood rfl rfl rfl (hts _ w2) (hts _ hlink) ⟨w5.1, w5.2, by rw [hd9]; rfl⟩ hroom, hname, hts _ x1⟩ ⟨am_blind, hPre⟩ rfl hlenA9 hl.1 hstk hW8 hd hfit) hS hback
          · have hlink : va_Nw (.methodLinkNest (am_rn o) idx (am_y j') "NumberedRings") s := hSt.2.2.1 _ (am_nest_of hf)
            exact am_ran (va_runIN (host := "NumberedRings") (n := d9.parameters.length) (As := A9.map (am_cv E)) (rest := (st.drop na).map (am_cv E)) hS9 hM ⟨va_cnB d9.parameters.length hts hGood rfl rfl rfl hlink (hts _ w2) ⟨w5.1, w5.2, by rw [hd9]; rfl⟩ hroom, hname, hts _ x1⟩ ⟨am_blind, hPre⟩ rfl hlenA9 hl.1 hstk hW8 hd hfit) hS hback
      · cases hcj
theorem am_cal_lt {i : Instr} {st As rest : List Value} {j : Nat} (h : am_cal o hh i st G = some (j, As, rest)) : j < 172 ∧ As.length = (am_m j).2.2.1 := by
  unfold am_cal at h
  cases hcj : am_cj o i with
  | none => simp [hcj] at h
  | some y =>
    obtain ⟨kd, j'⟩ := y
    simp only [hcj] at h
    cases hcnd : (Nat.blt (am_m j').2.2.2.2.2 hh && (Nat.ble (am_m j').2.2.1 st.length && (Nat.ble (st.length - (am_m j').2.2.1) 8 && (Nat.beq kd 1 || am_rcv G (am_nth st ((am_m j').2.2.1 - 1)) (am_m j').2.1)))) with
    | false => rw [hcnd] at h; cases h
    | true =>
      rw [hcnd] at h
      simp only [cond_true, Option.some.injEq, Prod.mk.injEq] at h
      obtain ⟨rfl, rfl, rfl⟩ := h
      simp only [Bool.and_eq_true] at hcnd
      have d2 := Nat.le_of_ble_eq_true hcnd.2.1
      refine ⟨?_, by rw [List.length_reverse, List.length_take]; exact Nat.min_eq_left d2⟩
      unfold am_cj at hcj
      repeat' split at hcj
      all_goals first | cases hcj | skip
      all_goals (rename_i hf; have h1 := (am_cl9 hf).1; simp only [am_clk, Bool.and_eq_true] at h1; exact Nat.le_of_ble_eq_true h1.2)
end CLL
end
section
/-! every run of the abstract machine is a run of the machine -/
section SND
variable {l : Launch} {B b L : Nat} {xs : Nat → Int32} {D : va_G} {ac : FieldType → ClassId} {adK adV : Nat → Nat} {fm : Option Nat} {E : Nat → Option Nat}
/-- an answer -/
def am_Rt (j : Nat) (r : Option Value) (pc : Nat) : Prop := (∃ v, r = some (.int v) ∧ decode (am_by j) pc = .ok (.ireturn, 1) ∧ am_rt (am_m j).2.2.2.2.1 v (some ()) = some ()) ∨
  (∃ q, r = some (.ref q) ∧ decode (am_by j) pc = .ok (.areturn, 1) ∧ ∃ n, am_at (am_m j).1 pc = some (.areturn, n)) ∨ (r = none ∧ decode (am_by j) pc = .ok (.return_, 1) ∧ ∃ n, am_at (am_m j).1 pc = some (.return_, n))
theorem am_rt_some {α : Type} {ty : Option FieldType} {v : Int32} {x : Option α} {r : α} (h : am_rt ty v x = some r) : am_rt ty v (some ()) = some () ∧ x = some r := by
  unfold am_rt at h ⊢
  split at h
  · exact ⟨rfl, h⟩
  · split at h
    · rename_i q
      exact ⟨if_pos q, h⟩
    · cases h
  · split at h
    · rename_i q
      exact ⟨if_pos q, h⟩
    · cases h
  · cases h
/-- the walk, by fuel -/
def am_WS (l : Launch) (B b L : Nat) (xs : Nat → Int32) (D : va_G) (ac : FieldType → ClassId) (adK adV : Nat → Nat) (fm : Option Nat) (E : Nat → Option Nat) (n : Nat) : Prop :=
  ∀ (j pc : Nat) (ls : am_L) (st : List Value) (G : am_G) (f : am_M) (r : Option Value) (G' : am_G) (f' : am_M), am_run (L, xs) n j pc ls st G f = some (r, G', f') → am_dok (am_by j) (am_m j).1 (am_m j).2.1 (am_ini j) = true →
  ∀ (p : Program) (e : Env) (R : Room) (s : State) (m : MethodId) (args : Array Value) (below : List Frame) (meth : Method) (c : Code) (H : Heap) (locs : List Loc) (LS : Array Slot) (N0 S0 : Nat) (Q : State → Prop),
  am_Cx p R s m args meth c B b L xs D ac adK adV fm E (am_by j) (am_m j).2.1 (am_m j).2.2.2.2.2 (am_m j).2.2.2.1 N0 (am_ini j) → am_Pt s B D ac E (am_m j).2.2.2.1 N0 S0 ls G f H locs LS → G'.length ≤ 1000 → G'.length - N0 ≤ R.cells → am_sz G' - S0 ≤ R.slots →
  (∀ (pc' : Nat) (ls' : am_L) (H' : Heap) (locs' : List Loc) (LS' : Array Slot), am_Rt j r pc' → am_Pt s B D ac E (am_m j).2.2.2.1 N0 S0 ls' G' f' H' locs' LS' → W p l e R s m args below meth c H' locs' (G'.length - N0) (am_sz G' - S0) Q (F0 m pc' LS' (r.toList.map (am_cv E)))) →
  W p l e R s m args below meth c H locs (G.length - N0) (am_sz G - S0) Q (F0 m pc LS (st.map (am_cv E)))
theorem am_met {n j : Nat} {As : List Value} {G : am_G} {f : am_M} {r : Option Value} {G' : am_G} {f' : am_M} (hE : E = am_E B b adK adV fm) (hn : am_WS l B b L xs D ac adK adV fm E n) (hj : j < 172) (hrun : am_run (L, xs) n j 0 (am_ent As (am_m j).2.2.2.1) [] G f = some (r, G', f')) (hAs : As.length ≤ (am_m j).2.2.2.1) (hG' : G'.length ≤ 1000) : am_Mt l B b L xs D ac adK adV fm E j As G f r G' f' := by
  obtain ⟨w1, w2, w3, w4, w5, w6, w7, w8⟩ := am_mf hj
  have hgr := am_run_G _ _ _ _ _ _ _ _ _ _ hrun
  refine va_MetF (cc := am_by j) (maxL := (am_m j).2.2.2.1) (ret := (am_m j).2.2.2.2.1) w4 rfl ?_
  intro p e s m args below meth c s₁ Bd hml hv
  obtain ⟨rfl, hSt, hP, hsz⟩ := hv
  have hx := Bd.exec
  have hb := Bd.bytes
  have hr := Bd.returns
  have hlocks : meth.locks = false := Bd.notSynchronized
  have hts0 := atoms_spec (ws := .code (am_y j) (am_by j) (am_m j).2.2.2.1 (am_m j).2.2.2.2.1 :: am_tb) Bd.pre
  have hts : ∀ w ∈ am_tb, w.before ((As.map (am_cv E)).toArray) s = true := fun w hw => hts0 w (List.mem_cons_of_mem _ hw)
  have hown : s.vm.findClass (am_rn (am_m j).2.1) = some m.cls := by rw [← w3]; exact findClass_of_methodNamed Bd.named
  have hin : meth.name = (am_y j).name := (name_of_methodNamed Bd.named Bd.method).1
  have hl := lv_entry (As.map (am_cv E)) (n := (am_m j).2.2.2.1) (by rw [am_sl_len]; exact hAs)
  rw [lg_entry_eq]
  generalize (lg_sl (As.map (am_cv E)) ++ List.replicate ((am_m j).2.2.2.1 - (lg_sl (As.map (am_cv E))).length) Slot.unset).toArray = LS at hl ⊢
  have hl' : lv_has LS (am_m j).2.2.2.1 (am_asc E 0 (am_ent As (am_m j).2.2.2.1)) := by
    unfold am_ent
    rw [am_asc_ent]
    exact hl
  have key := hn j 0 (am_ent As (am_m j).2.2.2.1) [] G f r G' f' hrun (am_dc j hj) p e (am_rm G G' (am_m j).2.2.2.2.2) s m (As.map (am_cv E)).toArray below meth c s.heap [] LS G.length (am_sz G) (MQ below (am_Qc B D ac E r G' f') (As.map (am_cv E)).toArray s (G'.length - G.length) (am_sz G' - am_sz G) (fun q => B ≤ q))
    ⟨hx, hb, hml, hown, hts, fun hi => by rw [hin]; simpa [am_ini] using hi, hSt, Nat.le_refl _, Nat.le_refl _, hsz, hE⟩ ⟨hP, va_S.rf, hl', ?_, Nat.le_refl _, Nat.le_refl _, by omega⟩ hG' (Nat.le_refl _) (Nat.le_refl _) ?_
  · rw [Nat.sub_self, Nat.sub_self] at key
    exact key
  · unfold am_ent
    rw [List.length_append, List.length_map, List.length_replicate]
    omega
  · intro pc' ls' H' locs' LS' hRt hI1
    obtain ⟨hP1, hS1, -⟩ := hI1
    have hq : ∀ v : Option Value, v = r.map (am_cv E) → ∀ t : State, t.heap = H' → s.WarmedH t.vm → am_Qc B D ac E r G' f' (As.map (am_cv E)).toArray s (.returned v) t := fun v hv t ht _ => ⟨by rw [hv], by rw [ht]; exact hP1, hS1.F ht⟩
    rcases hRt with ⟨v, rfl, hd, hrt⟩ | ⟨q, rfl, hd, n9, hat⟩ | ⟨rfl, hd, n9, hat⟩
    · unfold am_rt at hrt
      split at hrt
      · rename_i ht
        exact W.iret hx hb (hr.trans ht) (hq _ rfl) hS1.2.2 hd hlocks
      · rename_i ht
        split at hrt
        · rename_i h01
          exact W.zret (ty := .boolean) hx hb (hr.trans ht) (by rcases h01 with rfl | rfl <;> rfl) (hq _ rfl) hS1.2.2 hd hlocks
        · cases hrt
      · rename_i t z1 z2 ht
        split at hrt
        · rename_i hna
          exact W.zret (ty := t) hx hb (hr.trans ht) hna (hq _ rfl) hS1.2.2 hd hlocks
        · cases hrt
      · cases hrt
    · obtain ⟨t, ht, hk⟩ := (am_rts_at (List.all_eq_true.mp am_rts_all j (List.mem_range.mpr hj)) hat).1 rfl
      refine W.aret (rt := t) hx hb (hr.trans ht) ?_ (am_cv_ref E q) (hq _ rfl) hS1.2.2 hd hlocks
      cases t <;> first | exact Or.inl ⟨_, rfl⟩ | exact Or.inr ⟨_, rfl⟩ | cases hk
    · have ht := (am_rts_at (List.all_eq_true.mp am_rts_all j (List.mem_range.mpr hj)) hat).2 rfl
      exact W.vret hx hb (hr.trans ht) (hq _ rfl) hS1.2.2 hd hlocks
theorem am_toInt_int {k : Int} (h1 : -2147483648 ≤ k) (h2 : k ≤ 2147483647) : (am_int k).toInt = k := by
  rw [am_int_eq]
  exact Int32.toInt_ofInt_of_le h1 (by omega)
set_option maxHeartbeats 4000000 in
theorem am_run_W (hE : E = am_E B b adK adV fm) : ∀ n, am_WS l B b L xs D ac adK adV fm E n := by
  intro n
  induction n with
  | zero => intro j pc ls st G f r G' f' h; simp [am_run] at h
  | succ n ih =>
    intro j pc ls st G f r G' f' h hdk p e R s m args below meth c H locs LS N0 S0 Q hC hI hG' hc1 hs1 hret
    have h' : am_one (L, xs) (am_run (L, xs) n) j pc ls st G f = some (r, G', f') := h
    unfold am_one at h'
    have hat : ∃ i len, am_at (am_m j).1 pc = some (i, len) := by
      cases hw : am_at (am_m j).1 pc with
      | none => simp only [hw] at h'; cases h'
      | some x => exact ⟨x.1, x.2, rfl⟩
    obtain ⟨i, len, hat⟩ := hat
    obtain ⟨hd, hg⟩ := am_dok_at hdk hat
    have hgo : ∀ {pc' ls' st' G1 f1 H1 locs1 LS1}, am_run (L, xs) n j pc' ls' st' G1 f1 = some (r, G', f') → am_Pt s B D ac E (am_m j).2.2.2.1 N0 S0 ls' G1 f1 H1 locs1 LS1 → W p l e R s m args below meth c H1 locs1 (G1.length - N0) (am_sz G1 - S0) Q (F0 m pc' LS1 (st'.map (am_cv E))) :=
      fun h1 hI1 => ih j _ _ _ _ _ r G' f' h1 hdk p e R s m args below meth c _ _ _ N0 S0 Q hC hI1 hG' hc1 hs1 hret
    simp only [hat] at h'
    have hx := hC.1
    have hb := hC.2.1
    have gen : am_gen (L, xs) (am_run (L, xs) n) j (am_m j).2.1 (am_m j).2.2.2.2.2 i len pc ls st G f = some (r, G', f') → W p l e R s m args below meth c H locs (G.length - N0) (am_sz G - S0) Q (F0 m pc LS (st.map (am_cv E))) := by
      intro hgn
      unfold am_gen at hgn
      split at hgn
      · rename_i j' As rest hcal
        cases hr : am_run (L, xs) n j' 0 (am_ent As (am_m j').2.2.2.1) [] G f with
        | none => rw [hr] at hgn; cases hgn
        | some y =>
          obtain ⟨r1, G1, f1⟩ := y
          rw [hr] at hgn
          have hgn' : am_run (L, xs) n j (pc + len) ls (r1.toList ++ rest) G1 f1 = some (r, G', f') := hgn
          have g1 := am_run_G _ _ _ _ _ _ _ _ _ _ hr
          have g2 := am_run_G _ _ _ _ _ _ _ _ _ _ hgn'
          have hN := hI.2.2.2.2.1
          have hS0 := hI.2.2.2.2.2.1
          have hjj := am_cal_lt hcal
          exact am_call_W hC hI hd hg hcal (am_met hE ih hjj.1 hr (by rw [hjj.2]; exact (am_mf hjj.1).2.2.2.2.2.2.1) (by omega)) g1.1 g1.2 (by omega) (by omega) (by omega) (fun H1 locs1 hI1 => hgo hgn' hI1)
      · refine am_sim_W hC hI hd hg hgn (fun pc' ls' st' G1 f1 h1 => ?_) (fun pc' ls' st' G1 f1 H1 locs1 LS1 h1 hI1 => hgo h1 hI1)
        have g2 := am_run_G _ _ _ _ _ _ _ _ _ _ h1
        omega
    cases i
    case if_icmp cd off =>
      dsimp only at h'
      split at h'
      · rename_i y x st'
        simp only [am_good, Bool.and_eq_true, am_jmp, decide_eq_true_eq] at hg
        have hl3 : len = 3 := Nat.eq_of_beq_eq_true hg.1
        subst hl3
        have htg : (pc : Int) + off = (am_tg pc off : Int) := by unfold am_tg; omega
        cases cd <;> simp only [am_br] at h'
        · refine lv_icmp_eq (tgt := am_tg pc off) hx hb hd htg (fun hc => ?_) (fun hc => ?_)
          · rw [if_pos hc] at h'; exact hgo h' hI
          · rw [if_neg hc] at h'; exact hgo h' hI
        · refine lv_icmp_ne (tgt := am_tg pc off) hx hb hd htg (fun hc => ?_) (fun hc => ?_)
          · rw [if_neg hc] at h'; exact hgo h' hI
          · rw [if_pos hc] at h'; exact hgo h' hI
        · refine lv_icmp_lt (tgt := am_tg pc off) hx hb hd htg (fun hc => ?_) (fun hc => ?_)
          · rw [if_pos hc] at h'; exact hgo h' hI
          · rw [if_neg hc] at h'; exact hgo h' hI
        · refine lv_icmp_ge (tgt := am_tg pc off) hx hb hd htg (fun hc => ?_) (fun hc => ?_)
          · rw [if_neg (Int32.not_lt.mpr hc)] at h'; exact hgo h' hI
          · rw [if_pos (Int32.not_le.mp hc)] at h'; exact hgo h' hI
        · refine lv_icmp_gt (tgt := am_tg pc off) hx hb hd htg (fun hc => ?_) (fun hc => ?_)
          · rw [if_pos hc] at h'; exact hgo h' hI
          · rw [if_neg hc] at h'; exact hgo h' hI
        · refine lv_icmp_le (tgt := am_tg pc off) hx hb hd htg (fun hc => ?_) (fun hc => ?_)
          · rw [if_neg (Int32.not_lt.mpr hc)] at h'; exact hgo h' hI
          · rw [if_pos (Int32.not_le.mp hc)] at h'; exact hgo h' hI
      · cases h'
    case ifCond cd off =>
      dsimp only at h'
      split at h'
      · rename_i x st'
        simp only [am_good, Bool.and_eq_true, am_jmp, decide_eq_true_eq] at hg
        have hl3 : len = 3 := Nat.eq_of_beq_eq_true hg.1
        subst hl3
        have htg : (pc : Int) + off = (am_tg pc off : Int) := by unfold am_tg; omega
        cases cd <;> simp only [am_br] at h'
        · refine lv_if_eq (tgt := am_tg pc off) hx hb hd htg (fun hc => ?_) (fun hc => ?_)
          · rw [if_pos hc] at h'; exact hgo h' hI
          · rw [if_neg hc] at h'; exact hgo h' hI
        · refine lv_if_ne (tgt := am_tg pc off) hx hb hd htg (fun hc => ?_) (fun hc => ?_)
          · rw [if_neg hc] at h'; exact hgo h' hI
          · rw [if_pos hc] at h'; exact hgo h' hI
        · refine lv_if_lt (tgt := am_tg pc off) hx hb hd htg (fun hc => ?_) (fun hc => ?_)
          · rw [if_pos hc] at h'; exact hgo h' hI
          · rw [if_neg hc] at h'; exact hgo h' hI
        · refine lv_if_ge (tgt := am_tg pc off) hx hb hd htg (fun hc => ?_) (fun hc => ?_)
          · rw [if_neg (Int32.not_lt.mpr hc)] at h'; exact hgo h' hI
          · rw [if_pos (Int32.not_le.mp hc)] at h'; exact hgo h' hI
        · refine lv_if_gt (tgt := am_tg pc off) hx hb hd htg (fun hc => ?_) (fun hc => ?_)
          · rw [if_pos hc] at h'; exact hgo h' hI
          · rw [if_neg hc] at h'; exact hgo h' hI
        · refine lv_if_le (tgt := am_tg pc off) hx hb hd htg (fun hc => ?_) (fun hc => ?_)
          · rw [if_neg (Int32.not_lt.mpr hc)] at h'; exact hgo h' hI
          · rw [if_pos (Int32.not_le.mp hc)] at h'; exact hgo h' hI
      · cases h'
    case tableswitch d lo hi offs =>
      dsimp only at h'
      split at h'
      · rename_i x st'
        simp only [am_good, Bool.and_eq_true, am_jmp, decide_eq_true_eq, List.all_eq_true] at hg
        obtain ⟨q1, q2, q3, q4, q5⟩ := hg
        rcases am_swr_or _ _ h' with ⟨k, off, k1, k2, k3⟩ | ⟨k1, k2⟩
        · have hlt : k < offs.toList.length := (List.getElem?_eq_some_iff.mp k1).1
          have hlt' : k < offs.size := by simpa using hlt
          have hti : x.toInt = lo + k := by
            rw [k2]
            exact am_toInt_int (by omega) (by omega)
          have hoff := q2 off (List.mem_of_getElem? k1)
          refine lv_tableIn (tgt := am_tg pc off) (off := off) hx hb hd (by omega) (by omega) ?_ (by unfold am_tg; omega) (hgo k3 hI)
          rw [show (x.toInt - lo).toNat = k by omega, ← Array.getElem?_toList]
          exact k1
        · refine lv_tableOut (tgt := am_tg pc d) hx hb hd ?_ (by unfold am_tg; omega) (hgo k2 hI)
          apply Decidable.byContradiction
          intro hcon
          have hlt : (x.toInt - lo).toNat < offs.toList.length := by simp; omega
          refine k1 _ hlt ?_
          rw [am_int_eq, show lo + ((x.toInt - lo).toNat : Int) = x.toInt by omega]
          exact (Int32.ofInt_toInt x).symm
      · cases h'
    case ireturn =>
      dsimp only at h'
      split at h'
      · rename_i v
        obtain ⟨h1, h2⟩ := am_rt_some h'
        cases h2
        have hl1 : len = 1 := Nat.eq_of_beq_eq_true hg
        subst hl1
        exact hret pc ls H locs LS (Or.inl ⟨v, rfl, hd, h1⟩) hI
      · cases h'
    case areturn =>
      dsimp only at h'
      split at h'
      · rename_i q
        cases h'
        have hl1 : len = 1 := Nat.eq_of_beq_eq_true hg
        subst hl1
        exact hret pc ls H locs LS (Or.inr (Or.inl ⟨q, rfl, hd, _, hat⟩)) hI
      · cases h'
    case return_ =>
      dsimp only at h'
      split at h'
      · cases h'
        have hl1 : len = 1 := Nat.eq_of_beq_eq_true hg
        subst hl1
        exact hret pc ls H locs LS (Or.inr (Or.inr ⟨rfl, hd, _, hat⟩)) hI
      · cases h'
    all_goals exact gen h'
end SND
end
section
/-! the two constructors, run in the abstract machine -/
def am_f0 : am_M := fun _ _ => 0
def am_G1 : am_G := [(.inl 7, [some 1, some 3, some 7, some 11, some 18, some 63, some 71, some 79, some 88]),
  (.inl 5, [some 2, none, none, none, none, none, none, none]),
  (.inr (.int, 120), []),
  (.inl 6, [none, none, none, some 4, some 5, some 6]),
  (.inr (.int, 3), []),
  (.inr (.int, 6), []),
  (.inr (.int, 6), []),
  (.inl 6, [none, none, none, some 8, some 9, some 10]),
  (.inr (.int, 3), []),
  (.inr (.int, 6), []),
  (.inr (.int, 6), []),
  (.inl 4, [some 3, some 17, none, none, some 12, some 13, some 14, some 15, some 16, none]),
  (.inr (.int, 6), []),
  (.inr (.int, 6), []),
  (.inr (.int, 6), []),
  (.inr (.int, 3), []),
  (.inr (.int, 3), []),
  (.inr (.int, 999), []),
  (.inl 2, [some 19, some 20, none, none]),
  (.inr (.object "NumberedRings$Standing", 6), [some 21, some 28, some 35, some 42, some 49, some 56]),
  (.inr (.int, 6), []),
  (.inl 4, [some 3, some 27, none, none, some 22, some 23, some 24, some 25, some 26, none]),
  (.inr (.int, 6), []),
  (.inr (.int, 6), []),
  (.inr (.int, 6), []),
  (.inr (.int, 3), []),
  (.inr (.int, 3), []),
  (.inr (.int, 0), []),
  (.inl 4, [some 3, some 34, none, none, some 29, some 30, some 31, some 32, some 33, none]),
  (.inr (.int, 6), []),
  (.inr (.int, 6), []),
  (.inr (.int, 6), []),
  (.inr (.int, 3), []),
  (.inr (.int, 3), []),
  (.inr (.int, 0), []),
  (.inl 4, [some 3, some 41, none, none, some 36, some 37, some 38, some 39, some 40, none]),
  (.inr (.int, 6), []),
  (.inr (.int, 6), []),
  (.inr (.int, 6), []),
  (.inr (.int, 3), []),
  (.inr (.int, 3), []),
  (.inr (.int, 0), []),
  (.inl 4, [some 3, some 48, none, none, some 43, some 44, some 45, some 46, some 47, none]),
  (.inr (.int, 6), []),
  (.inr (.int, 6), []),
  (.inr (.int, 6), []),
  (.inr (.int, 3), []),
  (.inr (.int, 3), []),
  (.inr (.int, 0), []),
  (.inl 4, [some 3, some 55, none, none, some 50, some 51, some 52, some 53, some 54, none]),
  (.inr (.int, 6), []),
  (.inr (.int, 6), []),
  (.inr (.int, 6), []),
  (.inr (.int, 3), []),
  (.inr (.int, 3), []),
  (.inr (.int, 0), []),
  (.inl 4, [some 3, some 62, none, none, some 57, some 58, some 59, some 60, some 61, none]),
  (.inr (.int, 6), []),
  (.inr (.int, 6), []),
  (.inr (.int, 6), []),
  (.inr (.int, 3), []),
  (.inr (.int, 3), []),
  (.inr (.int, 0), []),
  (.inl 1, [some 64, none]),
  (.inl 4, [some 3, some 70, none, none, some 65, some 66, some 67, some 68, some 69, none]),
  (.inr (.int, 6), []),
  (.inr (.int, 6), []),
  (.inr (.int, 6), []),
  (.inr (.int, 3), []),
  (.inr (.int, 3), []),
  (.inr (.int, 999), []),
  (.inl 1, [some 72, none]),
  (.inl 4, [some 3, some 78, none, none, some 73, some 74, some 75, some 76, some 77, none]),
  (.inr (.int, 6), []),
  (.inr (.int, 6), []),
  (.inr (.int, 6), []),
  (.inr (.int, 3), []),
  (.inr (.int, 3), []),
  (.inr (.int, 999), []),
  (.inl 0, [some 3, some 81, some 80]),
  (.inr (.int, 3), []),
  (.inl 4, [some 3, some 87, none, none, some 82, some 83, some 84, some 85, some 86, none]),
  (.inr (.int, 6), []),
  (.inr (.int, 6), []),
  (.inr (.int, 6), []),
  (.inr (.int, 3), []),
  (.inr (.int, 3), []),
  (.inr (.int, 0), []),
  (.inl 3, [some 89, some 90, none]),
  (.inr (.int, 6), []),
  (.inr (.int, 6), [])]
def am_fa : am_M := (am_cl (am_cl (am_cl (am_cl (am_cl (am_cl (am_cl (am_cl (am_cl (am_cl (am_cl (am_cl (am_cl (am_cl (am_cl (am_cl (am_cl (am_cl (am_cl (am_cl (am_cl (am_cl (am_cl (am_cl (am_cl (am_cl (am_cl (am_cl (am_cl (am_cl (am_cl (am_cl (am_cl (am_cl (am_cl (am_cl (am_cl (am_cl (am_cl (am_cl (am_cl (am_cl (am_cl (am_cl (am_cl (am_cl (am_cl (am_cl (am_cl (am_cl (am_cl (am_cl (am_cl (am_cl (am_cl (am_cl (am_cl (am_cl (am_cl (am_cl (am_cl (am_cl (am_cl (am_cl (am_cl (am_cl (am_cl (am_cl (am_cl (am_cl (am_cl (am_cl (am_cl (am_cl (am_cl (am_cl (am_cl (am_cl (am_cl (am_cl (am_cl (am_cl (am_cl (am_wr (am_cl (am_cl (am_cl (am_cl (am_wr (am_cl (am_cl (am_cl (am_cl am_f0 0) 1) 2) 3) 3 0 8) 4) 5) 6) 7) 7 0 8) 8) 9) 10) 11) 12) 13) 14) 15) 16) 17) 18) 19) 20) 21) 22) 23) 24) 25) 26) 27) 28) 29) 30) 31) 32) 33) 34) 35) 36) 37) 38) 39) 40) 41) 42) 43) 44) 45) 46) 47) 48) 49) 50) 51) 52) 53) 54) 55) 56) 57) 58) 59) 60) 61) 62) 63) 64) 65) 66) 67) 68) 69) 70) 71) 72) 73) 74) 75) 76) 77) 78) 79) 80) 81) 82) 83) 84) 85) 86) 87) 88) 89) 90)
def am_fb : am_M := (am_cl (am_cl (am_cl (am_cl (am_cl (am_cl (am_cl (am_cl (am_cl (am_cl (am_cl (am_cl (am_cl (am_cl (am_cl (am_cl (am_cl (am_cl (am_cl (am_cl (am_wr (am_cl am_fa 91) 91 0 8) 92) 93) 94) 95) 96) 97) 98) 99) 100) 101) 102) 103) 104) 105) 106) 107) 108) 109) 110) 111)
set_option maxHeartbeats 40000000 in
set_option maxRecDepth 1000000 in
theorem am_i1 (X : am_X) : am_run X 3000 62 0 [some (.ref 0)] [] [(.inl 7, List.replicate 9 none)] (am_cl am_f0 0) = some (none, am_G1, am_fa) := rfl
set_option maxHeartbeats 40000000 in
set_option maxRecDepth 1000000 in
theorem am_i2 (X : am_X) : am_run X 3000 90 0 [some (.ref 91)] [] (am_G1 ++ [((.inl 8, List.replicate 34 none) : am_K)]) (am_cl am_fa 91) = some (none, am_G0, am_fb) := rfl
end
section
/-! what the statement gives at the law's entry -/
set_option maxHeartbeats 4000000 in
theorem am_setup {s : State} {args : Array Value} {b L : Nat} {xs : Nat → Int32} (hts : ∀ w ∈ lw_tbl, w.before args s = true) (hX : va_X b L xs s s.heap) (hbl : b < s.heap.size) (hgv : (Jvm.Cond.and given_1 narrow_1).before args s = true) :
    ∃ (D : va_G) (ac : FieldType → ClassId) (adK adV : Nat → Nat) (fm : Option Nat), am_St s.heap.size b L xs D ac adK adV fm s := by
  have hA : ∀ a : Nat, a < s.heap.size → ¬ (fun q : Nat => s.heap.size ≤ q) a := fun a h => Nat.not_le.mpr h
  have htb : ∀ w ∈ am_tb, w.before args s = true := fun w hw => hts w (am_tb_good hw).1
  have hs := flat_of_before _ hgv
  -- the classes
  have h0 : ∀ ci : Nat, ∃ y : ClassId × (Nat → Nat), ∀ q : vw_C, vwCl[ci]? = some q → u_Kn s q.1 q.2.1 q.2.2 y.1 y.2 := by
    intro ci
    cases hq : vwCl[ci]? with
    | none => exact ⟨(0, fun _ => 0), fun q h => by cases h⟩
    | some q =>
      obtain ⟨c1, -, -, -, -, c6, -⟩ := am_cf hq
      obtain ⟨cC, iS, hK⟩ := u_known (C := q.1) (T := q.2.1) (N := q.2.2) (n := q.2.2) htb c1 (htb _ c6)
      exact ⟨(cC, iS), fun q' h => by cases h; exact hK⟩
  obtain ⟨dd, hdd⟩ := Classical.axiomOfChoice h0
  -- the arrays
  obtain ⟨cI, kI, mI, i1, i2, i3⟩ := Cond.arrayClass_spec (args := args) (first := s) (o := none) (s := s) (idx := []) (type := .int) (hts _ (List.mem_of_getElem? (i := 117) (by decide +kernel)))
  obtain ⟨cZ, kZ, mZ, z1, z2, z3⟩ := Cond.arrayClass_spec (args := args) (first := s) (o := none) (s := s) (idx := []) (type := .boolean) (hts _ (List.mem_of_getElem? (i := 831) (by decide +kernel)))
  have hover : (Cond.arrayOver (.object "NumberedRings$Standing")).before args s = true := hts _ (List.mem_of_getElem? (i := 216) (by decide +kernel))
  obtain ⟨mO, cO, kO, o1, o2, o3, o4, o5⟩ := Cond.arrayOver_spec (args := args) (first := s) (o := none) (s := s) (idx := []) (n := "NumberedRings$Standing") hover
  -- the texts
  obtain ⟨adK, adV, hK, hev⟩ := vk_Sof (args := args) (s := s) (N := 3) (tm := fun i => Term.string RX5 (if i = 0 then 92 else if i = 1 then 97 else 99)) (len := [5, 5, 5]) (byt := am_str) (A := fun q : Nat => s.heap.size ≤ q)
    (fun i hi => by
      have : i = 0 ∨ i = 1 ∨ i = 2 := by omega
      rcases this with rfl | rfl | rfl <;> decide)
    (fun i hi => by
      have : i = 0 ∨ i = 1 ∨ i = 2 := by omega
      rcases this with rfl | rfl | rfl <;> exact hs _ (by decide +kernel))
    (fun i hi => by
      have : i = 0 ∨ i = 1 ∨ i = 2 := by omega
      rcases this with rfl | rfl | rfl <;> exact hs _ (by decide +kernel))
    (fun i hi => by
      have : i = 0 ∨ i = 1 ∨ i = 2 := by omega
      rcases this with rfl | rfl | rfl <;> exact hs _ (by decide +kernel))
    (fun i hi => by
      have : i = 0 ∨ i = 1 ∨ i = 2 := by omega
      rcases this with rfl | rfl | rfl <;> exact hs _ (by decide +kernel))
    (fun i hi j hj => by
      have : i = 0 ∨ i = 1 ∨ i = 2 := by omega
      have hj' : j < 5 := by rcases this with rfl | rfl | rfl <;> exact hj
      have hj2 : j = 0 ∨ j = 1 ∨ j = 2 ∨ j = 3 ∨ j = 4 := by omega
      rcases this with rfl | rfl | rfl <;> rcases hj2 with rfl | rfl | rfl | rfl | rfl <;> exact hs _ (by decide +kernel))
    (fun i j hi hj hij => by
      have h1 : i = 0 ∨ i = 1 ∨ i = 2 := by omega
      have h2 : j = 0 ∨ j = 1 ∨ j = 2 := by omega
      rcases h1 with rfl | rfl | rfl <;> rcases h2 with rfl | rfl | rfl <;> first
        | exact absurd rfl hij
        | exact Or.inl (hs _ (by decide +kernel))
        | exact Or.inr (hs _ (by decide +kernel)))
    hA
  have hZ := va_Zof (args := args) (s := s) (A := fun q : Nat => s.heap.size ≤ q) (hts (.laysStatic "java/lang/String" "COMPACT_STRINGS" "Z") (List.mem_of_getElem? (i := 361) (by decide +kernel))) (hts (.initialized "java/lang/String") (List.mem_of_getElem? (i := 71) (by decide +kernel))) (va_eqi (hs (.eq (.static "java/lang/String" "COMPACT_STRINGS" "Z") (.int 1)) (by decide +kernel))) hA
  have hF := va_Zqof (args := args) (s := s) (A := fun q : Nat => s.heap.size ≤ q) (hts (.laysStatic "jdk/internal/util/Preconditions" "SIOOBE_FORMATTER" "Ljava/util/function/BiFunction;") (List.mem_of_getElem? (i := 377) (by decide +kernel))) (hts (.initialized "jdk/internal/util/Preconditions") (List.mem_of_getElem? (i := 73) (by decide +kernel))) (hs (.isRef (.static "jdk/internal/util/Preconditions" "SIOOBE_FORMATTER" "Ljava/util/function/BiFunction;")) (by decide +kernel)) hA
  obtain ⟨fm, hfm⟩ : ∃ fm : Option Nat, va_Z "jdk/internal/util/Preconditions" "SIOOBE_FORMATTER" "Ljava/util/function/BiFunction;" (va_rf fm) (fun q => s.heap.size ≤ q) s s.heap := by
    rcases hF with h | ⟨t, h⟩
    · exact ⟨none, h⟩
    · exact ⟨some t, h⟩
  refine ⟨(fun k => (dd k).1, fun k => (dd k).2), fun ty => if ty = .int then cI else if ty = .boolean then cZ else cO, adK, adV, fm, ⟨fun ci q hq => hdd ci q hq, ?_⟩, va_AO.of (A := args) hover, ?_, ⟨?_, ?_, ?_⟩, hK, hZ, hfm, hX, hbl, Nat.le_refl _⟩
  · intro k q hq
    have hk : k = 0 ∨ k = 1 ∨ k = 2 := by
      have := (List.getElem?_eq_some_iff.mp hq).1
      simp [am_tys] at this
      omega
    rcases hk with rfl | rfl | rfl
    · cases hq
      exact ⟨fun n z => ⟨fun k h => (by cases h), kI, i2, mI, i3⟩, i1⟩
    · cases hq
      exact ⟨fun n z => ⟨fun k h => (by cases h), kZ, z2, mZ, z3⟩, z1⟩
    · cases hq
      exact ⟨fun n z => ⟨fun k h => (by cases h), kO, o3, mO, o4⟩, kO, mO, o3, o4, o1, o5⟩
  · intro w hw
    simp only [am_nest, List.mem_cons, List.not_mem_nil, or_false] at hw
    rcases hw with rfl | rfl | rfl
    · exact va_Nw.of rfl (hts _ (List.mem_of_getElem? (i := 87) (by decide +kernel)))
    · exact va_Nw.of rfl (hts _ (List.mem_of_getElem? (i := 120) (by decide +kernel)))
    · exact va_Nw.of rfl (hts _ (List.mem_of_getElem? (i := 269) (by decide +kernel)))
  · exact vk_R.of (A := args) (hts _ (List.mem_of_getElem? (i := 347) (by decide +kernel))) (hev 0 (by decide))
  · exact vk_R.of (A := args) (hts _ (List.mem_of_getElem? (i := 400) (by decide +kernel))) (hev 1 (by decide))
  · exact vk_R.of (A := args) (hts _ (List.mem_of_getElem? (i := 401) (by decide +kernel))) (hev 2 (by decide))
end
section
theorem am_aft_v {X : am_X} (G : am_G) (f : am_M) (N j pc : Nat) (ls : am_L) (rest : List Value) : am_aft (some (none, G, f)) (fun r G' f' => am_run X N j pc ls (r.toList ++ rest) G' f') = am_run X N j pc ls rest G f := rfl
theorem am_law_run {X : am_X} {f' : am_M} (h : am_Ev X 172 16 [some (.ref 1000), some (.ref 0), some (.ref 91), none] [] am_fb (some (.int 1)) f') : ∃ n, am_run X n 172 0 [some (.ref 1000), none, none, none] [] [] am_f0 = some (some (.int 1), am_G0, f') := by
  obtain ⟨m, h⟩ := h
  have e1 : ∀ N, am_run X (N + 3) 172 0 [some (.ref 1000), none, none, none] [] [] am_f0 = am_aft (am_run X N 62 0 [some (.ref 0)] [] [(.inl 7, List.replicate 9 none)] (am_cl am_f0 0)) (fun r G' f' => am_run X N 172 7 [some (.ref 1000), none, none, none] (r.toList ++ [.ref 0]) G' f') := fun N => rfl
  have e2 : ∀ N, am_run X (N + 4) 172 7 [some (.ref 1000), none, none, none] [.ref 0] am_G1 am_fa = am_aft (am_run X N 90 0 [some (.ref 91)] [] (am_G1 ++ [((.inl 8, List.replicate 34 none) : am_K)]) (am_cl am_fa 91)) (fun r G' f' => am_run X N 172 15 [some (.ref 1000), some (.ref 0), none, none] (r.toList ++ [.ref 91]) G' f') := fun N => rfl
  have e3 : ∀ N, am_run X (N + 1) 172 15 [some (.ref 1000), some (.ref 0), none, none] [.ref 91] am_G0 am_fb = am_run X N 172 16 [some (.ref 1000), some (.ref 0), some (.ref 91), none] [] am_G0 am_fb := fun N => rfl
  have h0 : am_run X (m + 3000) 172 16 [some (.ref 1000), some (.ref 0), some (.ref 91), none] [] am_G0 am_fb = some (some (.int 1), am_G0, f') := am_run_le h (Nat.le_add_right m 3000)
  have h1 : 3000 ≤ m + 3000 := Nat.le_add_left 3000 m
  generalize m + 3000 = M at h0 h1
  have i1 := am_run_le (am_i1 X) (m := M + 1 + 4) (by omega)
  have i2 := am_run_le (am_i2 X) (m := M + 1) (by omega)
  refine ⟨M + 1 + 4 + 3, ?_⟩
  rw [e1, i1, am_aft_v, e2, i2, am_aft_v, e3]
  exact h0
end
section
theorem am_dc_172 : am_dok (am_by 172) (am_m 172).1 (am_m 172).2.1 (am_ini 172) = true := by decide +kernel
end
section
/-! every method as a function over the ints of the made world (written by wip/whole/gen7.py out of the code) -/
def D_X3_add (a1 : Int32) (a2 : Int32) (f : am_M) : Option (Int32 × am_M) :=
  if (f 88 2) < 6 then
    am_chk (f 88 2) 6 (
    am_chk (f 88 2) 6 (
    some (1, (am_wr (am_wr (am_wr f 89 (f 88 2).toNatClampNeg a1) 90 (f 88 2).toNatClampNeg a2) 88 2 ((f 88 2) + 1)))))
  else
    some (0, f)
def D_X3_allows_2 : Nat → Int32 → Int32 → Int32 → am_M → Option (Int32 × am_M)
  | 0, _, _, _, _ => none
  | n + 1, x1, x2, x3, f =>
    if x3 < (f 88 2) then
      am_chk x3 6 (
      if (f 89 x3.toNatClampNeg) = x1 then
        am_chk x3 6 (
        if (f 90 x3.toNatClampNeg) = x2 then
          D_X3_allows_2 n x1 x2 (x3 + 1) f
        else
          some (0, f))
      else
        D_X3_allows_2 n x1 x2 (x3 + 1) f)
    else
      some (1, f)
def D_X3_allows (a1 : Int32) (a2 : Int32) (f : am_M) : Option (Int32 × am_M) :=
  D_X3_allows_2 am_fu a1 a2 0 f
def D_X4_reset_52 (p e : Nat) : Nat → Int32 → am_M → Option am_M
  | 0, _, _ => none
  | n + 1, x1, f =>
    if x1 < 3 then
      am_chk x1 3 (
      D_X4_reset_52 p e n (x1 + 1) (am_wr f (p + 5) x1.toNatClampNeg 0))
    else
      some f
def D_X4_reset_17 (p e : Nat) : Nat → Int32 → am_M → Option am_M
  | 0, _, _ => none
  | n + 1, x1, f =>
    if x1 < 6 then
      am_chk x1 6 (
      am_chk x1 6 (
      am_chk x1 6 (
      D_X4_reset_17 p e n (x1 + 1) (am_wr (am_wr (am_wr f (p + 1) x1.toNatClampNeg 0) (p + 2) x1.toNatClampNeg 0) (p + 3) x1.toNatClampNeg 0))))
    else
      D_X4_reset_52 p e am_fu 0 f
def D_X4_reset (p e : Nat) (f : am_M) : Option am_M :=
  D_X4_reset_17 p e am_fu 0 (am_wr (am_wr (am_wr f p 2 0) p 3 0) p 9 0)
def D_X4_hasEvent (p e : Nat) (a1 : Int32) (f : am_M) : Option (Int32 × am_M) :=
  if a1 < 0 then
    some (0, f)
  else
    if a1 < (f p 2) then
      if a1 < (Int32.ofNat e) then
        some (1, f)
      else
        some (0, f)
    else
      some (0, f)
def D_X4_makerOf (p e : Nat) (a1 : Int32) (f : am_M) : Option (Int32 × am_M) :=
  am_chk a1 e (
  some (((f (p + 6) a1.toNatClampNeg) &&& 3), f))
def D_X4_kindOf (p e : Nat) (a1 : Int32) (f : am_M) : Option (Int32 × am_M) :=
  am_chk a1 e (
  some ((((f (p + 6) a1.toNatClampNeg) >>> ((2 : Int32) &&& 31)) &&& 3), f))
def D_X4_valueOf (p e : Nat) (a1 : Int32) (f : am_M) : Option (Int32 × am_M) :=
  am_chk a1 e (
  some (((f (p + 6) a1.toNatClampNeg) >>> ((4 : Int32) &&& 31)), f))
def D_X4_least_7 (p e : Nat) : Nat → Int32 → Int32 → am_M → Option (Int32 × am_M)
  | 0, _, _, _ => none
  | n + 1, x1, x2, f =>
    if x2 < (f 3 2) then
      am_chk x2 6 (
      if (f (p + 1) x2.toNatClampNeg) < x1 then
        am_chk x2 6 (
        D_X4_least_7 p e n (f (p + 1) x2.toNatClampNeg) (x2 + 1) f)
      else
        D_X4_least_7 p e n x1 (x2 + 1) f)
    else
      some (x1, f)
def D_X4_least (p e : Nat) (f : am_M) : Option (Int32 × am_M) :=
  D_X4_least_7 p e am_fu (f p 2) 0 f
def D_X4_slowestOf_5 (p e : Nat) : Nat → Int32 → Int32 → Int32 → am_M → Option (Int32 × am_M)
  | 0, _, _, _, _ => none
  | n + 1, x1, x2, x3, f =>
    if x3 < (f 3 2) then
      if ((x1 >>> (x3 &&& 31)) &&& 1) = 1 then
        if x2 = (-9) then
          D_X4_slowestOf_5 p e n x1 x3 (x3 + 1) f
        else
          am_chk x3 6 (
          am_chk x2 6 (
          if (f (p + 1) x3.toNatClampNeg) < (f (p + 1) x2.toNatClampNeg) then
            D_X4_slowestOf_5 p e n x1 x3 (x3 + 1) f
          else
            D_X4_slowestOf_5 p e n x1 x2 (x3 + 1) f))
      else
        D_X4_slowestOf_5 p e n x1 x2 (x3 + 1) f
    else
      some (x2, f)
def D_X4_slowestOf (p e : Nat) (a1 : Int32) (f : am_M) : Option (Int32 × am_M) :=
  D_X4_slowestOf_5 p e am_fu a1 (-9) 0 f
def D_X4_wantedByAll_4 (p e : Nat) : Nat → Int32 → Int32 → am_M → Option (Int32 × am_M)
  | 0, _, _, _ => none
  | n + 1, x1, x2, f =>
    if x2 < (f 3 1) then
      am_chk x2 3 (
      D_X4_wantedByAll_4 p e n (x1 + (f (p + 5) x2.toNatClampNeg)) (x2 + 1) f)
    else
      some (x1, f)
def D_X4_wantedByAll (p e : Nat) (f : am_M) : Option (Int32 × am_M) :=
  D_X4_wantedByAll_4 p e am_fu 0 0 f
def D_X4_placeInRow_2 (p e : Nat) : Nat → Int32 → Int32 → am_M → Option (Int32 × am_M)
  | 0, _, _, _ => none
  | n + 1, x1, x2, f =>
    if x2 < (f p 9) then
      am_chk x2 3 (
      if (f (p + 4) x2.toNatClampNeg) = x1 then
        some (x2, f)
      else
        D_X4_placeInRow_2 p e n x1 (x2 + 1) f)
    else
      some ((-9), f)
def D_X4_placeInRow (p e : Nat) (a1 : Int32) (f : am_M) : Option (Int32 × am_M) :=
  D_X4_placeInRow_2 p e am_fu a1 0 f
def D_X4_claim_18 (p e : Nat) : Nat → Int32 → Int32 → Int32 → am_M → Option (Int32 × am_M)
  | 0, _, _, _, _ => none
  | n + 1, x1, x3, x4, f =>
    if x4 < (f p 2) then
      if x4 < (Int32.ofNat e) then
        am_chk x4 e (
        D_X4_claim_18 p e n x1 x3 (x4 + 1) (am_wr f (p + 6) x4.toNatClampNeg x1))
      else
        some (x3, f)
    else
      some (x3, f)
def D_X4_claim (p e : Nat) (a1 : Int32) (a2 : Int32) (f : am_M) : Option (Int32 × am_M) :=
  D_X4_claim_18 p e am_fu a1 (f p 2) (f p 2) (am_wr f p 2 ((f p 2) + a2))
def D_X4_closeAllByRule (p e : Nat) (f : am_M) : Option am_M :=
  some (am_wr f p 3 (f p 2))
def D_X4_takesToAdmitFirst_60 (p e : Nat) : Nat → Int32 → Int32 → Int32 → am_M → Option (Int32 × am_M)
  | 0, _, _, _, _ => none
  | n + 1, x1, x2, x3, f =>
    if x3 < (f 3 2) then
      am_chk x3 6 (
      if (f (p + 1) x3.toNatClampNeg) < x1 then
        D_X4_takesToAdmitFirst_60 p e n x1 (x2 + 1) (x3 + 1) f
      else
        D_X4_takesToAdmitFirst_60 p e n x1 x2 (x3 + 1) f)
    else
      some (x2, f)
def D_X4_takesToAdmitFirst (p e : Nat) (f : am_M) : Option (Int32 × am_M) :=
  if (f p 9) = 0 then
    some ((-9), f)
  else
    if (f 3 2) = 0 then
      some ((-9), f)
    else
      am_chk (f (p + 4) 0) 3 (
      if (f p 3) < (((f p 2) + (f (p + 5) (f (p + 4) 0).toNatClampNeg)) - (f 3 0)) then
        some ((-9), f)
      else
        D_X4_takesToAdmitFirst_60 p e am_fu (((f p 2) + (f (p + 5) (f (p + 4) 0).toNatClampNeg)) - (f 3 0)) 0 0 f)
def D_X5_append (a1 : Int32) (f : am_M) : Option (Int32 × am_M) :=
  if (f 1 1) < 120 then
    am_chk (f 1 1) 120 (
    some (1, (am_wr (am_wr f 2 (f 1 1).toNatClampNeg a1) 1 1 ((f 1 1) + 1))))
  else
    some (0, f)
def D_X5_isWordLetter (a0 : Int32) (f : am_M) : Option (Int32 × am_M) :=
  if a0 < 97 then
    some (0, f)
  else
    if 122 < a0 then
      some (0, f)
    else
      some (1, f)
def D_X5_isFigure (a0 : Int32) (f : am_M) : Option (Int32 × am_M) :=
  if a0 < 48 then
    some (0, f)
  else
    if 57 < a0 then
      some (0, f)
    else
      some (1, f)
def D_X6_reset (f : am_M) : Option am_M :=
  some (am_wr (am_wr (am_wr f 7 0 8) 7 1 0) 7 2 0)
def D_X6_hasMaker (a1 : Int32) (f : am_M) : Option (Int32 × am_M) :=
  if a1 < 0 then
    some (0, f)
  else
    if a1 < (f 3 1) then
      some (1, f)
    else
      some (0, f)
def D_X6_hasTaker (a1 : Int32) (f : am_M) : Option (Int32 × am_M) :=
  if a1 < 0 then
    some (0, f)
  else
    if a1 < (f 3 2) then
      some (1, f)
    else
      some (0, f)
def D_X6_addMaker (a1 : Int32) (f : am_M) : Option (Int32 × am_M) :=
  if (f 7 1) < 3 then
    am_chk (f 7 1) 3 (
    some (1, (am_wr (am_wr f 8 (f 7 1).toNatClampNeg a1) 7 1 ((f 7 1) + 1))))
  else
    some (0, f)
def D_X6_addTaker (a1 : Int32) (a2 : Int32) (f : am_M) : Option (Int32 × am_M) :=
  if (f 7 2) < 6 then
    am_chk (f 7 2) 6 (
    am_chk (f 7 2) 6 (
    some (1, (am_wr (am_wr (am_wr f 9 (f 7 2).toNatClampNeg a1) 10 (f 7 2).toNatClampNeg a2) 7 2 ((f 7 2) + 1)))))
  else
    some (0, f)
def D_X7_clear (f : am_M) : Option (Int32 × am_M) :=
  some ((f 1 1), (am_wr f 1 1 0))
def D_X7_isTicks (a0 : Int32) (f : am_M) : Option (Int32 × am_M) :=
  if a0 < 0 then
    some (0, f)
  else
    if 60 < a0 then
      some (0, f)
    else
      some (1, f)
def D_X7_forget (f : am_M) : Option (Int32 × am_M) :=
  some ((f 88 2), (am_wr f 88 2 0))
def D_X8_within (a0 : Int32) (a1 : Int32) (a2 : Int32) (f : am_M) : Option (Int32 × am_M) :=
  if a0 < a1 then
    some (0, f)
  else
    if a2 < a0 then
      some (0, f)
    else
      some (1, f)
def D_X8_has (a0 : Int32) (a1 : Int32) (f : am_M) : Option (Int32 × am_M) :=
  if ((a0 >>> (a1 &&& 31)) &&& 1) = 1 then
    some (1, f)
  else
    some (0, f)
def D_X8_skips_0 : Nat → am_M → Option am_M
  | 0, _ => none
  | n + 1, f =>
    if (f 91 16) < (f 91 15) then
      am_chk (f 91 16) 120 (
      if (f 101 (f 91 16).toNatClampNeg) = 32 then
        D_X8_skips_0 n (am_wr f 91 16 ((f 91 16) + 1))
      else
        some (am_wr f 91 17 (f 91 16)))
    else
      some (am_wr f 91 17 (f 91 16))
def D_X8_skips (f : am_M) : Option am_M :=
  D_X8_skips_0 am_fu f
def D_X8_spells (a1 : Int32) (a2 : Int32) (a3 : Int32) (a4 : Int32) (a5 : Int32) (f : am_M) : Option (Int32 × am_M) :=
  if ((f 91 16) - (f 91 17)) = 5 then
    am_chk (f 91 17) 120 (
    if (f 101 (f 91 17).toNatClampNeg) = a1 then
      am_chk ((f 91 17) + 1) 120 (
      if (f 101 ((f 91 17) + 1).toNatClampNeg) = a2 then
        am_chk ((f 91 17) + 2) 120 (
        if (f 101 ((f 91 17) + 2).toNatClampNeg) = a3 then
          am_chk ((f 91 17) + 3) 120 (
          if (f 101 ((f 91 17) + 3).toNatClampNeg) = a4 then
            am_chk ((f 91 17) + 4) 120 (
            if (f 101 ((f 91 17) + 4).toNatClampNeg) = a5 then
              some (1, f)
            else
              some (0, f))
          else
            some (0, f))
        else
          some (0, f))
      else
        some (0, f))
    else
      some (0, f))
  else
    some (0, f)
def D_X8_clear (f : am_M) : Option (Int32 × am_M) :=
  some ((f 91 15), (am_wr f 91 15 0))
def D_X8_kindOf (a1 : Int32) (f : am_M) : Option (Int32 × am_M) :=
  am_chk ((26 : Int32) + a1) 1026 (
  some (((f 95 ((26 : Int32) + a1).toNatClampNeg) &&& 3), f))
def D_X8_least_9 : Nat → Int32 → Int32 → am_M → Option (Int32 × am_M)
  | 0, _, _, _ => none
  | n + 1, x1, x2, f =>
    if x2 < (f 91 3) then
      am_chk ((1 : Int32) + x2) 1026 (
      if (f 95 ((1 : Int32) + x2).toNatClampNeg) < x1 then
        am_chk ((1 : Int32) + x2) 1026 (
        D_X8_least_9 n (f 95 ((1 : Int32) + x2).toNatClampNeg) (x2 + 1) f)
      else
        D_X8_least_9 n x1 (x2 + 1) f)
    else
      some (x1, f)
def D_X8_least (f : am_M) : Option (Int32 × am_M) :=
  D_X8_least_9 am_fu (f 95 0) 0 f
def D_X8_placeOf_5 : Nat → Int32 → Int32 → Int32 → am_M → Option (Int32 × am_M)
  | 0, _, _, _, _ => none
  | n + 1, x1, x2, x3, f =>
    if x3 < (f 95 19) then
      am_chk ((20 : Int32) + x3) 1026 (
      if (f 95 ((20 : Int32) + x3).toNatClampNeg) = x1 then
        D_X8_placeOf_5 n x1 x3 (x3 + 1) f
      else
        D_X8_placeOf_5 n x1 x2 (x3 + 1) f)
    else
      some (x2, f)
def D_X8_placeOf (a1 : Int32) (f : am_M) : Option (Int32 × am_M) :=
  D_X8_placeOf_5 am_fu a1 (-9) 0 f
def D_X8_claimsNow_2 : Nat → Int32 → Int32 → Int32 → am_M → Option am_M
  | 0, _, _, _, _ => none
  | n + 1, x1, x2, x3, f =>
    if x3 < x2 then
      am_chk ((26 : Int32) + (f 95 0)) 1026 (
      D_X8_claimsNow_2 n x1 x2 (x3 + 1) (am_wr (am_wr f 95 ((26 : Int32) + (f 95 0)).toNatClampNeg ((0 : Int32) + ((4 : Int32) * x1))) 95 0 (((am_wr f 95 ((26 : Int32) + (f 95 0)).toNatClampNeg ((0 : Int32) + ((4 : Int32) * x1))) 95 0) + 1)))
    else
      some f
def D_X8_claimsNow (a1 : Int32) (a2 : Int32) (f : am_M) : Option am_M :=
  D_X8_claimsNow_2 am_fu a1 a2 0 f
def D_X8_leavesRow_13 : Nat → Int32 → am_M → Option am_M
  | 0, _, _ => none
  | n + 1, x2, f =>
    if x2 < (f 95 19) then
      am_chk (((20 : Int32) + x2) + 1) 1026 (
      am_chk ((20 : Int32) + x2) 1026 (
      am_chk (((23 : Int32) + x2) + 1) 1026 (
      am_chk ((23 : Int32) + x2) 1026 (
      D_X8_leavesRow_13 n (x2 + 1) (am_wr (am_wr f 95 ((20 : Int32) + x2).toNatClampNeg (f 95 (((20 : Int32) + x2) + 1).toNatClampNeg)) 95 ((23 : Int32) + x2).toNatClampNeg ((am_wr f 95 ((20 : Int32) + x2).toNatClampNeg (f 95 (((20 : Int32) + x2) + 1).toNatClampNeg)) 95 (((23 : Int32) + x2) + 1).toNatClampNeg))))))
    else
      some f
def D_X8_leavesRow (a1 : Int32) (f : am_M) : Option am_M :=
  D_X8_leavesRow_13 am_fu a1 (am_wr f 95 19 ((f 95 19) - 1))
def D_X8_wanted_4 : Nat → Int32 → Int32 → am_M → Option (Int32 × am_M)
  | 0, _, _, _ => none
  | n + 1, x1, x2, f =>
    if x2 < (f 95 19) then
      am_chk ((23 : Int32) + x2) 1026 (
      D_X8_wanted_4 n (x1 + (f 95 ((23 : Int32) + x2).toNatClampNeg)) (x2 + 1) f)
    else
      some (x1, f)
def D_X8_wanted (f : am_M) : Option (Int32 × am_M) :=
  D_X8_wanted_4 am_fu 0 0 f
def D_X8_keeps_52 : Nat → Int32 → am_M → Option am_M
  | 0, _, _ => none
  | n + 1, x1, f =>
    if x1 < (am_int 1026) then
      am_chk x1 1026 (
      am_chk ((((am_int 1026) : Int32) * (f 91 8)) + x1) 6156 (
      D_X8_keeps_52 n (x1 + 1) (am_wr f 96 ((((am_int 1026) : Int32) * (f 91 8)) + x1).toNatClampNeg (f 95 x1.toNatClampNeg))))
    else
      some (am_wr f 91 8 ((f 91 8) + 1))
def D_X8_keeps_11 : Nat → Int32 → am_M → Option am_M
  | 0, _, _ => none
  | n + 1, x1, f =>
    if x1 < (am_int 5130) then
      am_chk (x1 + (am_int 1026)) 6156 (
      am_chk x1 6156 (
      D_X8_keeps_11 n (x1 + 1) (am_wr f 96 x1.toNatClampNeg (f 96 (x1 + (am_int 1026)).toNatClampNeg))))
    else
      D_X8_keeps_52 am_fu 0 (am_wr f 91 8 ((f 91 8) - 1))
def D_X8_keeps (f : am_M) : Option am_M :=
  if (f 91 8) = 6 then
    D_X8_keeps_11 am_fu 0 f
  else
    D_X8_keeps_52 am_fu 0 f
def D_X8_undo_22 : Nat → Int32 → am_M → Option (Int32 × am_M)
  | 0, _, _ => none
  | n + 1, x1, f =>
    if x1 < (am_int 1026) then
      am_chk ((((am_int 1026) : Int32) * (f 91 8)) + x1) 6156 (
      am_chk x1 1026 (
      D_X8_undo_22 n (x1 + 1) (am_wr f 95 x1.toNatClampNeg (f 96 ((((am_int 1026) : Int32) * (f 91 8)) + x1).toNatClampNeg))))
    else
      some ((f 91 8), f)
def D_X8_undo (f : am_M) : Option (Int32 × am_M) :=
  if (f 91 8) = 0 then
    some ((-2), f)
  else
    D_X8_undo_22 am_fu 0 (am_wr f 91 8 ((f 91 8) - 1))
def D_X8_tellEvent (a1 : Int32) (a2 : Int32) (f : am_M) : Option (Int32 × am_M) :=
  am_chk ((26 : Int32) + a1) 1026 (
  if a2 = 0 then
    some (((f 95 ((26 : Int32) + a1).toNatClampNeg) &&& 3), f)
  else
    if a2 = 1 then
      some ((((f 95 ((26 : Int32) + a1).toNatClampNeg) >>> ((2 : Int32) &&& 31)) &&& 3), f)
    else
      if ((f 95 ((26 : Int32) + a1).toNatClampNeg) &&& 3) = 1 then
        some (((f 95 ((26 : Int32) + a1).toNatClampNeg) / 16), f)
      else
        some ((-9), f))
def D_X8_openOf_4 : Nat → Int32 → Int32 → Int32 → am_M → Option (Int32 × am_M)
  | 0, _, _, _, _ => none
  | n + 1, x1, x2, x3, f =>
    if x3 < (f 95 0) then
      am_chk ((26 : Int32) + x3) 1026 (
      if (f 95 ((26 : Int32) + x3).toNatClampNeg) = ((0 : Int32) + ((4 : Int32) * x1)) then
        D_X8_openOf_4 n x1 (x2 + 1) (x3 + 1) f
      else
        D_X8_openOf_4 n x1 (x2 + 0) (x3 + 1) f)
    else
      some (x2, f)
def D_X8_openOf (a1 : Int32) (f : am_M) : Option (Int32 × am_M) :=
  D_X8_openOf_4 am_fu a1 0 0 f
def D_X8_leastOver_7 : Nat → Int32 → Int32 → am_M → Option (Int32 × am_M)
  | 0, _, _, _ => none
  | n + 1, x1, x2, f =>
    if x2 < (f 91 3) then
      am_chk x2 6 (
      if (f 111 x2.toNatClampNeg) < x1 then
        am_chk x2 6 (
        D_X8_leastOver_7 n (f 111 x2.toNatClampNeg) (x2 + 1) f)
      else
        D_X8_leastOver_7 n x1 (x2 + 1) f)
    else
      some (x1, f)
def D_X8_leastOver (f : am_M) : Option (Int32 × am_M) :=
  D_X8_leastOver_7 am_fu (f 91 29) 0 f
def D_X8_doesWait_4 : Nat → Int32 → Int32 → Int32 → am_M → Option (Int32 × am_M)
  | 0, _, _, _, _ => none
  | n + 1, x1, x2, x3, f =>
    if x3 < (f 91 30) then
      if x2 = 0 then
        am_chk x3 3 (
        if (f 109 x3.toNatClampNeg) = x1 then
          D_X8_doesWait_4 n x1 1 (x3 + 1) f
        else
          D_X8_doesWait_4 n x1 0 (x3 + 1) f)
      else
        D_X8_doesWait_4 n x1 1 (x3 + 1) f
    else
      if x2 = 0 ∨ x2 = 1 then some (x2, f) else none
def D_X8_doesWait (a1 : Int32) (f : am_M) : Option (Int32 × am_M) :=
  D_X8_doesWait_4 am_fu a1 0 0 f
def D_X8_slowAt_5 : Nat → Int32 → Int32 → Int32 → am_M → Option (Int32 × am_M)
  | 0, _, _, _, _ => none
  | n + 1, x1, x2, x3, f =>
    if x3 < (f 91 3) then
      if x2 = (-9) then
        D_X8_slowAt_5 n x1 x3 (x3 + 1) f
      else
        am_chk (((6 : Int32) * x1) + x3) 366 (
        am_chk (((6 : Int32) * x1) + x2) 366 (
        if (f 107 (((6 : Int32) * x1) + x3).toNatClampNeg) < (f 107 (((6 : Int32) * x1) + x2).toNatClampNeg) then
          D_X8_slowAt_5 n x1 x3 (x3 + 1) f
        else
          D_X8_slowAt_5 n x1 x2 (x3 + 1) f))
    else
      some (x2, f)
def D_X8_slowAt (a1 : Int32) (f : am_M) : Option (Int32 × am_M) :=
  D_X8_slowAt_5 am_fu a1 (-9) 0 f
def D_X8_forget (f : am_M) : Option (Int32 × am_M) :=
  some ((f 91 11), (am_wr f 91 11 0))
def D_J6_bitCount_0f7a4 (a0 : Int32) (f : am_M) : Option (Int32 × am_M) :=
  some (((((((((a0 - ((a0.toUInt32 >>> ((1 : Int32).toUInt32 &&& Int32.toUInt32 31)).toInt32 &&& (am_int 1431655765))) &&& (am_int 858993459)) + (((a0 - ((a0.toUInt32 >>> ((1 : Int32).toUInt32 &&& Int32.toUInt32 31)).toInt32 &&& (am_int 1431655765))).toUInt32 >>> ((2 : Int32).toUInt32 &&& Int32.toUInt32 31)).toInt32 &&& (am_int 858993459))) + ((((a0 - ((a0.toUInt32 >>> ((1 : Int32).toUInt32 &&& Int32.toUInt32 31)).toInt32 &&& (am_int 1431655765))) &&& (am_int 858993459)) + (((a0 - ((a0.toUInt32 >>> ((1 : Int32).toUInt32 &&& Int32.toUInt32 31)).toInt32 &&& (am_int 1431655765))).toUInt32 >>> ((2 : Int32).toUInt32 &&& Int32.toUInt32 31)).toInt32 &&& (am_int 858993459))).toUInt32 >>> ((4 : Int32).toUInt32 &&& Int32.toUInt32 31)).toInt32) &&& (am_int 252645135)) + ((((((a0 - ((a0.toUInt32 >>> ((1 : Int32).toUInt32 &&& Int32.toUInt32 31)).toInt32 &&& (am_int 1431655765))) &&& (am_int 858993459)) + (((a0 - ((a0.toUInt32 >>> ((1 : Int32).toUInt32 &&& Int32.toUInt32 31)).toInt32 &&& (am_int 1431655765))).toUInt32 >>> ((2 : Int32).toUInt32 &&& Int32.toUInt32 31)).toInt32 &&& (am_int 858993459))) + ((((a0 - ((a0.toUInt32 >>> ((1 : Int32).toUInt32 &&& Int32.toUInt32 31)).toInt32 &&& (am_int 1431655765))) &&& (am_int 858993459)) + (((a0 - ((a0.toUInt32 >>> ((1 : Int32).toUInt32 &&& Int32.toUInt32 31)).toInt32 &&& (am_int 1431655765))).toUInt32 >>> ((2 : Int32).toUInt32 &&& Int32.toUInt32 31)).toInt32 &&& (am_int 858993459))).toUInt32 >>> ((4 : Int32).toUInt32 &&& Int32.toUInt32 31)).toInt32) &&& (am_int 252645135)).toUInt32 >>> ((8 : Int32).toUInt32 &&& Int32.toUInt32 31)).toInt32) + (((((((a0 - ((a0.toUInt32 >>> ((1 : Int32).toUInt32 &&& Int32.toUInt32 31)).toInt32 &&& (am_int 1431655765))) &&& (am_int 858993459)) + (((a0 - ((a0.toUInt32 >>> ((1 : Int32).toUInt32 &&& Int32.toUInt32 31)).toInt32 &&& (am_int 1431655765))).toUInt32 >>> ((2 : Int32).toUInt32 &&& Int32.toUInt32 31)).toInt32 &&& (am_int 858993459))) + ((((a0 - ((a0.toUInt32 >>> ((1 : Int32).toUInt32 &&& Int32.toUInt32 31)).toInt32 &&& (am_int 1431655765))) &&& (am_int 858993459)) + (((a0 - ((a0.toUInt32 >>> ((1 : Int32).toUInt32 &&& Int32.toUInt32 31)).toInt32 &&& (am_int 1431655765))).toUInt32 >>> ((2 : Int32).toUInt32 &&& Int32.toUInt32 31)).toInt32 &&& (am_int 858993459))).toUInt32 >>> ((4 : Int32).toUInt32 &&& Int32.toUInt32 31)).toInt32) &&& (am_int 252645135)) + ((((((a0 - ((a0.toUInt32 >>> ((1 : Int32).toUInt32 &&& Int32.toUInt32 31)).toInt32 &&& (am_int 1431655765))) &&& (am_int 858993459)) + (((a0 - ((a0.toUInt32 >>> ((1 : Int32).toUInt32 &&& Int32.toUInt32 31)).toInt32 &&& (am_int 1431655765))).toUInt32 >>> ((2 : Int32).toUInt32 &&& Int32.toUInt32 31)).toInt32 &&& (am_int 858993459))) + ((((a0 - ((a0.toUInt32 >>> ((1 : Int32).toUInt32 &&& Int32.toUInt32 31)).toInt32 &&& (am_int 1431655765))) &&& (am_int 858993459)) + (((a0 - ((a0.toUInt32 >>> ((1 : Int32).toUInt32 &&& Int32.toUInt32 31)).toInt32 &&& (am_int 1431655765))).toUInt32 >>> ((2 : Int32).toUInt32 &&& Int32.toUInt32 31)).toInt32 &&& (am_int 858993459))).toUInt32 >>> ((4 : Int32).toUInt32 &&& Int32.toUInt32 31)).toInt32) &&& (am_int 252645135)).toUInt32 >>> ((8 : Int32).toUInt32 &&& Int32.toUInt32 31)).toInt32).toUInt32 >>> ((16 : Int32).toUInt32 &&& Int32.toUInt32 31)).toInt32) &&& 63), f)
def D_J9_max_7cf53 (a0 : Int32) (a1 : Int32) (f : am_M) : Option (Int32 × am_M) :=
  if a0 < a1 then
    some (a1, f)
  else
    some (a0, f)
def D_J9_min_7cf53 (a0 : Int32) (a1 : Int32) (f : am_M) : Option (Int32 × am_M) :=
  if a1 < a0 then
    some (a1, f)
  else
    some (a0, f)
def D_X0_greatestGroup_21 (K : Int32 → Int32 → Int32 → am_M → Option (Int32 × am_M)) : Nat → Int32 → Int32 → Int32 → Int32 → Int32 → am_M → Option (Int32 × am_M)
  | 0, _, _, _, _, _, _ => none
  | n + 1, x1, x2, x3, x4, x5, f =>
    if x5 < (f 3 2) then
      if (((x1 >>> (x3 &&& 31)) &&& (x1 >>> (x5 &&& 31))) &&& 1) = 1 then
        am_chk x3 6 (
        am_chk x5 6 (
        if (f 82 x3.toNatClampNeg) = (f 82 x5.toNatClampNeg) then
          D_X0_greatestGroup_21 K n x1 x2 x3 (x4 + 1) (x5 + 1) f
        else
          D_X0_greatestGroup_21 K n x1 x2 x3 x4 (x5 + 1) f))
      else
        D_X0_greatestGroup_21 K n x1 x2 x3 x4 (x5 + 1) f
    else
      am_bI (D_J9_max_7cf53 x2 x4 f) fun v1 f1 =>
      K x1 v1 (x3 + 1) f1
def D_X0_greatestGroup_4 : Nat → Int32 → Int32 → Int32 → am_M → Option (Int32 × am_M)
  | 0, _, _, _, _ => none
  | n + 1, x1, x2, x3, f =>
    if x3 < (f 3 2) then
      D_X0_greatestGroup_21 (fun y1 y2 y3 f9 => D_X0_greatestGroup_4 n y1 y2 y3 f9) am_fu x1 x2 x3 0 0 f
    else
      some (x2, f)
def D_X0_greatestGroup (a1 : Int32) (f : am_M) : Option (Int32 × am_M) :=
  D_X0_greatestGroup_4 am_fu a1 0 0 f
def D_X3_lastTick_4 : Nat → Int32 → Int32 → am_M → Option (Int32 × am_M)
  | 0, _, _, _ => none
  | n + 1, x1, x2, f =>
    if x2 < (f 88 2) then
      am_chk x2 6 (
      am_bI (D_J9_max_7cf53 x1 (f 89 x2.toNatClampNeg) f) fun v1 f1 =>
      D_X3_lastTick_4 n v1 (x2 + 1) f1)
    else
      some (x1, f)
def D_X3_lastTick (f : am_M) : Option (Int32 × am_M) :=
  D_X3_lastTick_4 am_fu 0 0 f
def D_X4_copyFrom (p e : Nat) (q d : Nat) (f : am_M) : Option am_M :=
  am_bI (D_J9_min_7cf53 (Int32.ofNat e) (Int32.ofNat d) (am_cp (am_cp (am_cp (am_cp (am_cp (am_wr (am_wr (am_wr f p 2 (f q 2)) p 3 (f q 3)) p 9 (f q 9)) (q + 1) (p + 1) 0 0 6) (q + 2) (p + 2) 0 0 6) (q + 3) (p + 3) 0 0 6) (q + 4) (p + 4) 0 0 3) (q + 5) (p + 5) 0 0 3)) fun v1 f1 =>
  am_bI (D_J9_min_7cf53 v1 (f1 p 2) f1) fun v2 f2 =>
  if v2 < 0 then
    none
  else
    if 0 + v2.toNatClampNeg ≤ d then
      if 0 + v2.toNatClampNeg ≤ e then
        some (am_cp f2 (q + 6) (p + 6) 0 0 v2.toNatClampNeg)
      else
        none
    else
      none
def D_X4_room (p e : Nat) (f : am_M) : Option (Int32 × am_M) :=
  am_bI (D_X4_least p e f) fun v1 f1 =>
  some ((((f 3 0) + v1) - (f1 p 2)), f1)
def D_X4_atMost (p e : Nat) (a1 : Int32) (f : am_M) : Option (Int32 × am_M) :=
  am_chk a1 6 (
  am_bI (D_X4_slowestOf p e (f 6 a1.toNatClampNeg) f) fun v1 f1 =>
  if v1 = (-9) then
    some ((f1 p 3), f1)
  else
    am_chk v1 6 (
    some ((f1 (p + 1) v1.toNatClampNeg), f1)))
def D_X4_slowest (p e : Nat) (f : am_M) : Option (Int32 × am_M) :=
  am_bI (D_X4_slowestOf p e (((1 : Int32) <<< ((f 3 2) &&& 31)) - 1) f) fun v1 f1 =>
  some (v1, f1)
def D_X4_openOf_7 (p e : Nat) : Nat → Int32 → Int32 → Int32 → am_M → Option (Int32 × am_M)
  | 0, _, _, _, _ => none
  | n + 1, x1, x2, x3, f =>
    if x3 < (f p 2) then
      if x3 < (Int32.ofNat e) then
        am_bI (D_X4_kindOf p e x3 f) fun v1 f1 =>
        if v1 = 0 then
          am_bI (D_X4_makerOf p e x3 f1) fun v2 f2 =>
          if v2 = x1 then
            D_X4_openOf_7 p e n x1 (x2 + 1) (x3 + 1) f2
          else
            D_X4_openOf_7 p e n x1 x2 (x3 + 1) f2
        else
          D_X4_openOf_7 p e n x1 x2 (x3 + 1) f1
      else
        some (x2, f)
    else
      some (x2, f)
def D_X4_openOf (p e : Nat) (a1 : Int32) (f : am_M) : Option (Int32 × am_M) :=
  D_X4_openOf_7 p e am_fu a1 0 (f p 3) f
def D_X4_leaveRow_17 (p e : Nat) : Nat → Int32 → Int32 → am_M → Option am_M
  | 0, _, _, _ => none
  | n + 1, x1, x3, f =>
    if x3 < (f p 9) then
      am_chk x3 3 (
      am_chk (x3 - 1) 3 (
      D_X4_leaveRow_17 p e n x1 (x3 + 1) (am_wr f (p + 4) (x3 - 1).toNatClampNeg (f (p + 4) x3.toNatClampNeg))))
    else
      am_chk x1 3 (
      some (am_wr (am_wr f (p + 5) x1.toNatClampNeg 0) p 9 ((f p 9) - 1)))
def D_X4_leaveRow (p e : Nat) (a1 : Int32) (f : am_M) : Option am_M :=
  am_bI (D_X4_placeInRow p e a1 f) fun v1 f1 =>
  if v1 = (-9) then
    some f1
  else
    D_X4_leaveRow_17 p e am_fu a1 (v1 + 1) f1
def D_X4_close_19 (p e : Nat) : Nat → am_M → Option am_M
  | 0, _ => none
  | n + 1, f =>
    if (f p 3) < (f p 2) then
      if (f p 3) < (Int32.ofNat e) then
        am_bI (D_X4_kindOf p e (f p 3) f) fun v2 f2 =>
        if v2 = 0 then
          some f2
        else
          D_X4_close_19 p e n (am_wr f2 p 3 ((f2 p 3) + 1))
      else
        some f
    else
      some f
def D_X4_close (p e : Nat) (a1 : Int32) (a2 : Int32) (a3 : Int32) (f : am_M) : Option am_M :=
  am_bI (D_X4_makerOf p e a1 f) fun v1 f1 =>
  am_chk a1 e (
  D_X4_close_19 p e am_fu (am_wr f1 (p + 6) a1.toNatClampNeg ((v1 ||| (a2 <<< ((2 : Int32) &&& 31))) ||| (a3 <<< ((4 : Int32) &&& 31)))))
def D_X4_reopen (p e : Nat) (a1 : Int32) (f : am_M) : Option am_M :=
  am_bI (D_X4_hasEvent p e a1 f) fun v1 f1 =>
  if v1 = 0 then
    some f1
  else
    am_bI (D_X4_makerOf p e a1 f1) fun v2 f2 =>
    am_chk a1 e (
    some (am_wr f2 (p + 6) a1.toNatClampNeg v2))
def D_X5_readNumber_13 : Nat → am_M → Option am_M
  | 0, _ => none
  | n + 1, f =>
    if (f 1 4) < (f 1 1) then
      am_chk (f 1 4) 120 (
      am_bI (D_X5_isFigure (f 2 (f 1 4).toNatClampNeg) f) fun v1 f1 =>
      if v1 = 0 then
        am_chk (f1 1 3) 120 (
        if (f1 2 (f1 1 3).toNatClampNeg) = 48 then
          if ((f1 1 3) + 1) < (f1 1 4) then
            some (am_wr f1 1 2 6)
          else
            if 99 < (f1 1 5) then
              some (am_wr f1 1 2 6)
            else
              some (am_wr f1 1 2 4)
        else
          if 99 < (f1 1 5) then
            some (am_wr f1 1 2 6)
          else
            some (am_wr f1 1 2 4))
      else
        am_chk (f1 1 4) 120 (
        am_bI (D_J9_min_7cf53 ((((10 : Int32) * (f1 1 5)) + (f1 2 (f1 1 4).toNatClampNeg)) - 48) 100 f1) fun v2 f2 =>
        D_X5_readNumber_13 n (am_wr (am_wr f2 1 5 v2) 1 4 ((f2 1 4) + 1))))
    else
      am_chk (f 1 3) 120 (
      if (f 2 (f 1 3).toNatClampNeg) = 48 then
        if ((f 1 3) + 1) < (f 1 4) then
          some (am_wr f 1 2 6)
        else
          if 99 < (f 1 5) then
            some (am_wr f 1 2 6)
          else
            some (am_wr f 1 2 4)
      else
        if 99 < (f 1 5) then
          some (am_wr f 1 2 6)
        else
          some (am_wr f 1 2 4))
def D_X5_readNumber (f : am_M) : Option am_M :=
  D_X5_readNumber_13 am_fu (am_wr (am_wr f 1 5 0) 1 4 (f 1 3))
def D_X6_copyFrom (f : am_M) : Option am_M :=
  some (am_cp (am_cp (am_cp (am_wr (am_wr (am_wr f 3 0 (f 7 0)) 3 1 (f 7 1)) 3 2 (f 7 2)) 8 4 0 0 3) 9 5 0 0 6) 10 6 0 0 6)
def D_X7_type (a1 : Int32) (f : am_M) : Option (Int32 × am_M) :=
  if a1 < 0 then
    some ((-1), f)
  else
    if (am_int 255) < a1 then
      some ((-1), f)
    else
      am_bI (D_X5_append a1 f) fun v1 f1 =>
      if v1 = 0 then
        some ((-3), f1)
      else
        some ((f1 1 1), f1)
def D_X7_event (a1 : Int32) (a2 : Int32) (f : am_M) : Option (Int32 × am_M) :=
  am_bI (D_X4_hasEvent 11 999 a1 f) fun v1 f1 =>
  if v1 = 0 then
    some ((-1), f1)
  else
    if a2 = 0 then
      am_bI (D_X4_kindOf 11 999 a1 f1) fun v2 f2 =>
      some (v2, f2)
    else
      if a2 = 1 then
        am_bI (D_X4_makerOf 11 999 a1 f1) fun v3 f3 =>
        some (v3, f3)
      else
        if a2 = 2 then
          am_bI (D_X4_kindOf 11 999 a1 f1) fun v4 f4 =>
          if v4 = 1 then
            am_bI (D_X4_valueOf 11 999 a1 f4) fun v5 f5 =>
            some (v5, f5)
          else
            some ((-9), f4)
        else
          some ((-1), f1)
def D_X7_steps (f : am_M) : Option (Int32 × am_M) :=
  am_bI (D_X4_takesToAdmitFirst 11 999 f) fun v1 f1 =>
  some (v1, f1)
def D_X7_sees (a1 : Int32) (a2 : Int32) (f : am_M) : Option (Int32 × am_M) :=
  am_bI (D_X7_isTicks a1 f) fun v1 f1 =>
  if v1 = 0 then
    some ((-1), f1)
  else
    if a2 < 0 then
      some ((-1), f1)
    else
      if (am_int 9999) < a2 then
        some ((-1), f1)
      else
        am_bI (D_X3_add a1 a2 f1) fun v2 f2 =>
        if v2 = 0 then
          some ((-3), f2)
        else
          some ((f2 88 2), f2)
def D_X8_isAt (a1 : Int32) (a2 : Int32) (f : am_M) : Option (Int32 × am_M) :=
  if (f 91 16) < (f 91 15) then
    am_chk (f 91 16) 120 (
    am_bI (D_X8_within (f 101 (f 91 16).toNatClampNeg) a1 a2 f) fun v1 f1 =>
    if v1 = 0 then
      some (0, f1)
    else
      some (1, f1))
  else
    some (0, f)
def D_X8_type (a1 : Int32) (f : am_M) : Option (Int32 × am_M) :=
  am_bI (D_X8_within a1 0 (am_int 255) f) fun v1 f1 =>
  if v1 = 0 then
    some ((-1), f1)
  else
    if (f1 91 15) = 120 then
      some ((-3), f1)
    else
      am_chk (f1 91 15) 120 (
      some (((f1 91 15) + 1), (am_wr (am_wr f1 101 (f1 91 15).toNatClampNeg a1) 91 15 ((f1 91 15) + 1))))
def D_X8_isMaker (a1 : Int32) (f : am_M) : Option (Int32 × am_M) :=
  am_bI (D_X8_within a1 0 ((f 91 1) - 1) f) fun v1 f1 =>
  if v1 = 0 ∨ v1 = 1 then some (v1, f1) else none
def D_X8_isTaker (a1 : Int32) (f : am_M) : Option (Int32 × am_M) :=
  am_bI (D_X8_within a1 0 ((f 91 3) - 1) f) fun v1 f1 =>
  if v1 = 0 ∨ v1 = 1 then some (v1, f1) else none
def D_X8_isEvent (a1 : Int32) (f : am_M) : Option (Int32 × am_M) :=
  am_bI (D_X8_within a1 0 ((f 95 0) - 1) f) fun v1 f1 =>
  if v1 = 0 ∨ v1 = 1 then some (v1, f1) else none
def D_X8_cursor_2 : Nat → Int32 → am_M → Option (Int32 × am_M)
  | 0, _, _ => none
  | n + 1, x1, f =>
    if x1 < (f 95 0) then
      am_bI (D_X8_kindOf x1 f) fun v1 f1 =>
      if v1 = 0 then
        some (x1, f1)
      else
        D_X8_cursor_2 n (x1 + 1) f1
    else
      some (x1, f)
def D_X8_cursor (f : am_M) : Option (Int32 × am_M) :=
  D_X8_cursor_2 am_fu 0 f
def D_X8_room (f : am_M) : Option (Int32 × am_M) :=
  am_bI (D_X8_least f) fun v1 f1 =>
  some ((((f 91 0) + v1) - (f1 95 0)), f1)
def D_X8_goesOver (a1 : Int32) (a2 : Int32) (f : am_M) : Option am_M :=
  am_bI (D_X8_kindOf a2 f) fun v1 f1 =>
  if v1 = 1 then
    am_chk ((7 : Int32) + a1) 1026 (
    am_chk ((7 : Int32) + a1) 1026 (
    am_chk ((13 : Int32) + a1) 1026 (
    am_chk ((26 : Int32) + a2) 1026 (
    am_chk ((13 : Int32) + a1) 1026 (
    some (am_wr (am_wr f1 95 ((7 : Int32) + a1).toNatClampNeg ((f1 95 ((7 : Int32) + a1).toNatClampNeg) + 1)) 95 ((13 : Int32) + a1).toNatClampNeg (((((31 : Int32) * ((am_wr f1 95 ((7 : Int32) + a1).toNatClampNeg ((f1 95 ((7 : Int32) + a1).toNatClampNeg) + 1)) 95 ((13 : Int32) + a1).toNatClampNeg)) + (((am_wr f1 95 ((7 : Int32) + a1).toNatClampNeg ((f1 95 ((7 : Int32) + a1).toNatClampNeg) + 1)) 95 ((26 : Int32) + a2).toNatClampNeg) / 16)) + a1) - ((((31 : Int32) * ((am_wr f1 95 ((7 : Int32) + a1).toNatClampNeg ((f1 95 ((7 : Int32) + a1).toNatClampNeg) + 1)) 95 ((13 : Int32) + a1).toNatClampNeg)) + (((am_wr f1 95 ((7 : Int32) + a1).toNatClampNeg ((f1 95 ((7 : Int32) + a1).toNatClampNeg) + 1)) 95 ((26 : Int32) + a2).toNatClampNeg) / 16)) + a1) / (am_int 9973) * (am_int 9973))))))))
  else
    some f1
def D_X8_tellMaker (a1 : Int32) (a2 : Int32) (f : am_M) : Option (Int32 × am_M) :=
  am_bI (D_X8_placeOf a1 f) fun v1 f1 =>
  if a2 = 0 then
    am_chk a1 3 (
    some ((f1 92 a1.toNatClampNeg), f1))
  else
    if a2 = 1 then
      if v1 = (-9) then
        some (0, f1)
      else
        am_chk ((23 : Int32) + v1) 1026 (
        some ((f1 95 ((23 : Int32) + v1).toNatClampNeg), f1))
    else
      if a2 = 2 then
        some (v1, f1)
      else
        am_bI (D_X8_openOf a1 f1) fun v2 f2 =>
        some (v2, f2)
def D_X8_slowest_5 : Nat → Int32 → Int32 → Int32 → am_M → Option (Int32 × am_M)
  | 0, _, _, _, _ => none
  | n + 1, x1, x2, x3, f =>
    if x3 < (f 91 3) then
      am_bI (D_X8_has x1 x3 f) fun v1 f1 =>
      if v1 = 0 then
        D_X8_slowest_5 n x1 x2 (x3 + 1) f1
      else
        if x2 = (-9) then
          D_X8_slowest_5 n x1 x3 (x3 + 1) f1
        else
          am_chk ((1 : Int32) + x3) 1026 (
          am_chk ((1 : Int32) + x2) 1026 (
          if (f1 95 ((1 : Int32) + x3).toNatClampNeg) < (f1 95 ((1 : Int32) + x2).toNatClampNeg) then
            D_X8_slowest_5 n x1 x3 (x3 + 1) f1
          else
            D_X8_slowest_5 n x1 x2 (x3 + 1) f1))
    else
      some (x2, f)
def D_X8_slowest (a1 : Int32) (f : am_M) : Option (Int32 × am_M) :=
  D_X8_slowest_5 am_fu a1 (-9) 0 f
def D_X8_letsByRule_57 (K : am_M → Option am_M) : Nat → Int32 → am_M → Option am_M
  | 0, _, _ => none
  | n + 1, x1, f =>
    if x1 < (f 91 30) then
      am_chk (x1 + 1) 3 (
      am_chk x1 3 (
      am_chk (x1 + 1) 3 (
      am_chk x1 3 (
      D_X8_letsByRule_57 K n (x1 + 1) (am_wr (am_wr f 109 x1.toNatClampNeg (f 109 (x1 + 1).toNatClampNeg)) 110 x1.toNatClampNeg (f 110 (x1 + 1).toNatClampNeg))))))
    else
      K f
def D_X8_letsByRule_0 : Nat → am_M → Option am_M
  | 0, _ => none
  | n + 1, f =>
    if 0 < (f 91 30) then
      am_bI (D_X8_leastOver f) fun v1 f1 =>
      if (((f 91 0) + v1) - (f1 91 29)) < (f 110 0) then
        some f1
      else
        D_X8_letsByRule_57 (fun  f9 => D_X8_letsByRule_0 n  f9) am_fu 0 (am_wr (am_wr f1 91 29 ((f1 91 29) + (f1 110 0))) 91 30 ((f1 91 30) - 1))
    else
      some f
def D_X8_letsByRule (f : am_M) : Option am_M :=
  D_X8_letsByRule_0 am_fu f
def D_X8_claimsByRule (a1 : Int32) (f : am_M) : Option am_M :=
  am_chk a1 3 (
  if (f 92 a1.toNatClampNeg) = 0 then
    some f
  else
    am_bI (D_X8_doesWait a1 f) fun v1 f1 =>
    if v1 = 0 then
      if (f1 91 30) = 0 then
        am_chk a1 3 (
        am_bI (D_X8_leastOver f1) fun v2 f2 =>
        if (((f1 91 0) + v2) - (f2 91 29)) < (f1 92 a1.toNatClampNeg) then
          am_chk (f2 91 30) 3 (
          am_chk a1 3 (
          am_chk (f2 91 30) 3 (
          some (am_wr (am_wr (am_wr f2 109 (f2 91 30).toNatClampNeg a1) 110 (f2 91 30).toNatClampNeg (f2 92 a1.toNatClampNeg)) 91 30 ((f2 91 30) + 1)))))
        else
          am_chk a1 3 (
          some (am_wr f2 91 29 ((f2 91 29) + (f2 92 a1.toNatClampNeg)))))
      else
        am_chk (f1 91 30) 3 (
        am_chk a1 3 (
        am_chk (f1 91 30) 3 (
        some (am_wr (am_wr (am_wr f1 109 (f1 91 30).toNatClampNeg a1) 110 (f1 91 30).toNatClampNeg (f1 92 a1.toNatClampNeg)) 91 30 ((f1 91 30) + 1)))))
    else
      some f1)
def D_X8_mostByRule_26 : Nat → Int32 → Int32 → Int32 → am_M → Option (Int32 × am_M)
  | 0, _, _, _, _ => none
  | n + 1, x1, x3, x4, f =>
    if x4 < x1 then
      am_chk x1 6 (
      am_bI (D_X8_has (f 94 x1.toNatClampNeg) x4 f) fun v1 f1 =>
      if v1 = 0 then
        D_X8_mostByRule_26 n x1 x3 (x4 + 1) f1
      else
        am_chk x4 6 (
        if (f1 111 x4.toNatClampNeg) < x3 then
          am_chk x4 6 (
          D_X8_mostByRule_26 n x1 (f1 111 x4.toNatClampNeg) (x4 + 1) f1)
        else
          D_X8_mostByRule_26 n x1 x3 (x4 + 1) f1))
    else
      some (x3, f)
def D_X8_mostByRule (a1 : Int32) (a2 : Int32) (f : am_M) : Option (Int32 × am_M) :=
  am_chk a1 6 (
  if (f 94 a1.toNatClampNeg) = 0 then
    D_X8_mostByRule_26 am_fu a1 a2 0 f
  else
    am_chk a1 6 (
    D_X8_mostByRule_26 am_fu a1 ((f 111 a1.toNatClampNeg) + 16) 0 f))
def D_X8_saves_55 : Nat → Int32 → Int32 → am_M → Option am_M
  | 0, _, _, _ => none
  | n + 1, x1, x2, f =>
    if x2 < (f 91 1) then
      if x1 = 0 then
        am_chk (((3 : Int32) * x1) + x2) 183 (
        D_X8_saves_55 n x1 (x2 + 1) (am_wr f 108 (((3 : Int32) * x1) + x2).toNatClampNeg 0))
      else
        am_chk (((3 : Int32) * (x1 - 1)) + x2) 183 (
        am_bI (D_X8_doesWait x2 f) fun v1 f1 =>
        if v1 = 0 then
          am_chk (((3 : Int32) * x1) + x2) 183 (
          D_X8_saves_55 n x1 (x2 + 1) (am_wr f1 108 (((3 : Int32) * x1) + x2).toNatClampNeg ((f 108 (((3 : Int32) * (x1 - 1)) + x2).toNatClampNeg) + 0)))
        else
          am_chk (((3 : Int32) * x1) + x2) 183 (
          D_X8_saves_55 n x1 (x2 + 1) (am_wr f1 108 (((3 : Int32) * x1) + x2).toNatClampNeg ((f 108 (((3 : Int32) * (x1 - 1)) + x2).toNatClampNeg) + 1))))
    else
      some f
def D_X8_saves_22 : Nat → Int32 → Int32 → am_M → Option am_M
  | 0, _, _, _ => none
  | n + 1, x1, x2, f =>
    if x2 < (f 91 3) then
      am_chk x2 6 (
      am_chk (((6 : Int32) * x1) + x2) 366 (
      D_X8_saves_22 n x1 (x2 + 1) (am_wr f 107 (((6 : Int32) * x1) + x2).toNatClampNeg (f 111 x2.toNatClampNeg))))
    else
      D_X8_saves_55 am_fu x1 0 f
def D_X8_saves (a1 : Int32) (f : am_M) : Option am_M :=
  am_chk a1 61 (
  am_chk a1 61 (
  D_X8_saves_22 am_fu a1 0 (am_wr (am_wr f 105 a1.toNatClampNeg (f 91 29)) 106 a1.toNatClampNeg (f 91 30))))
def D_X8_leastAt (a1 : Int32) (f : am_M) : Option (Int32 × am_M) :=
  if (f 91 3) = 0 then
    am_chk a1 61 (
    some ((f 105 a1.toNatClampNeg), f))
  else
    am_bI (D_X8_slowAt a1 f) fun v1 f1 =>
    am_chk (((6 : Int32) * a1) + v1) 366 (
    some ((f1 107 (((6 : Int32) * a1) + v1).toNatClampNeg), f1))
def D_X8_isTicks (a0 : Int32) (f : am_M) : Option (Int32 × am_M) :=
  am_bI (D_X8_within a0 0 60 f) fun v1 f1 =>
  if v1 = 0 ∨ v1 = 1 then some (v1, f1) else none
def D_X8_mostAlike_20 (K : Int32 → Int32 → Int32 → Int32 → am_M → Option (Int32 × am_M)) : Nat → Int32 → Int32 → Int32 → Int32 → Int32 → Int32 → am_M → Option (Int32 × am_M)
  | 0, _, _, _, _, _, _, _ => none
  | n + 1, x1, x2, x3, x4, x5, x6, f =>
    if x6 < (f 91 3) then
      am_bI (D_X8_has x1 x4 f) fun v1 f1 =>
      if v1 = 0 then
        D_X8_mostAlike_20 K n x1 x2 x3 x4 (x5 + 0) (x6 + 1) f1
      else
        am_bI (D_X8_has x1 x6 f1) fun v2 f2 =>
        if v2 = 0 then
          D_X8_mostAlike_20 K n x1 x2 x3 x4 (x5 + 0) (x6 + 1) f2
        else
          am_chk (((6 : Int32) * x2) + x4) 366 (
          am_chk (((6 : Int32) * x2) + x6) 366 (
          if (f2 107 (((6 : Int32) * x2) + x4).toNatClampNeg) = (f2 107 (((6 : Int32) * x2) + x6).toNatClampNeg) then
            D_X8_mostAlike_20 K n x1 x2 x3 x4 (x5 + 1) (x6 + 1) f2
          else
            D_X8_mostAlike_20 K n x1 x2 x3 x4 (x5 + 0) (x6 + 1) f2))
    else
      if x3 < x5 then
        K x1 x2 x5 (x4 + 1) f
      else
        K x1 x2 x3 (x4 + 1) f
def D_X8_mostAlike_5 : Nat → Int32 → Int32 → Int32 → Int32 → am_M → Option (Int32 × am_M)
  | 0, _, _, _, _, _ => none
  | n + 1, x1, x2, x3, x4, f =>
    if x4 < (f 91 3) then
      D_X8_mostAlike_20 (fun y1 y2 y3 y4 f9 => D_X8_mostAlike_5 n y1 y2 y3 y4 f9) am_fu x1 x2 x3 x4 0 0 f
    else
      some (x3, f)
def D_X8_mostAlike (a1 : Int32) (a2 : Int32) (f : am_M) : Option (Int32 × am_M) :=
  D_X8_mostAlike_5 am_fu a1 a2 0 0 f
def D_X8_keep_13 : Nat → Int32 → Int32 → am_M → Option (Int32 × am_M)
  | 0, _, _, _ => none
  | n + 1, x1, x2, f =>
    if x2 < (am_int 1026) then
      am_chk x2 1026 (
      am_chk ((((am_int 1026) : Int32) * x1) + x2) 2052 (
      D_X8_keep_13 n x1 (x2 + 1) (am_wr f 97 ((((am_int 1026) : Int32) * x1) + x2).toNatClampNeg (f 95 x2.toNatClampNeg))))
    else
      am_chk x1 2 (
      some ((f 95 0), (am_wr f 98 x1.toNatClampNeg 1)))
def D_X8_keep (a1 : Int32) (f : am_M) : Option (Int32 × am_M) :=
  am_bI (D_X8_within a1 0 1 f) fun v1 f1 =>
  if v1 = 0 then
    some ((-1), f1)
  else
    D_X8_keep_13 am_fu a1 0 f1
def D_X8_back_25 : Nat → Int32 → Int32 → am_M → Option (Int32 × am_M)
  | 0, _, _, _ => none
  | n + 1, x1, x2, f =>
    if x2 < (am_int 1026) then
      am_chk ((((am_int 1026) : Int32) * x1) + x2) 2052 (
      am_chk x2 1026 (
      D_X8_back_25 n x1 (x2 + 1) (am_wr f 95 x2.toNatClampNeg (f 97 ((((am_int 1026) : Int32) * x1) + x2).toNatClampNeg))))
    else
      some ((f 95 0), (am_wr f 91 8 0))
def D_X8_back (a1 : Int32) (f : am_M) : Option (Int32 × am_M) :=
  am_bI (D_X8_within a1 0 1 f) fun v1 f1 =>
  if v1 = 0 then
    some ((-1), f1)
  else
    am_chk a1 2 (
    if (f1 98 a1.toNatClampNeg) = 0 then
      some ((-2), f1)
    else
      D_X8_back_25 am_fu a1 0 f1)
def D_X0_start_10 : Nat → Int32 → am_M → Option am_M
  | 0, _, _ => none
  | n + 1, x2, f =>
    if x2 < 3 then
      am_chk x2 3 (
      D_X0_start_10 n (x2 + 1) (am_wr f 80 x2.toNatClampNeg 0))
    else
      some f
def D_X0_start (f : am_M) : Option am_M :=
  am_bV (D_X4_copyFrom 81 0 11 999 f) fun f1 =>
  D_X0_start_10 am_fu 0 f1
def D_X2_remember (a2 : Int32) (f : am_M) : Option am_M :=
  am_chk (((f 18 2) + 1) - ((f 18 2) + 1) / 6 * 6) 6 (am_six (((f 18 2) + 1) - ((f 18 2) + 1) / 6 * 6)
    (am_bV (D_X4_copyFrom 21 0 11 999 (am_wr f 18 2 (((f 18 2) + 1) - ((f 18 2) + 1) / 6 * 6))) fun f1 =>
      am_chk (f1 18 2) 6 (
      am_bI (D_J9_min_7cf53 ((f1 18 3) + 1) 6 (am_wr f1 20 (f1 18 2).toNatClampNeg a2)) fun v2 f2 =>
      some (am_wr f2 18 3 v2)))
    (am_bV (D_X4_copyFrom 28 0 11 999 (am_wr f 18 2 (((f 18 2) + 1) - ((f 18 2) + 1) / 6 * 6))) fun f3 =>
      am_chk (f3 18 2) 6 (
      am_bI (D_J9_min_7cf53 ((f3 18 3) + 1) 6 (am_wr f3 20 (f3 18 2).toNatClampNeg a2)) fun v4 f4 =>
      some (am_wr f4 18 3 v4)))
    (am_bV (D_X4_copyFrom 35 0 11 999 (am_wr f 18 2 (((f 18 2) + 1) - ((f 18 2) + 1) / 6 * 6))) fun f5 =>
      am_chk (f5 18 2) 6 (
      am_bI (D_J9_min_7cf53 ((f5 18 3) + 1) 6 (am_wr f5 20 (f5 18 2).toNatClampNeg a2)) fun v6 f6 =>
      some (am_wr f6 18 3 v6)))
    (am_bV (D_X4_copyFrom 42 0 11 999 (am_wr f 18 2 (((f 18 2) + 1) - ((f 18 2) + 1) / 6 * 6))) fun f7 =>
      am_chk (f7 18 2) 6 (
      am_bI (D_J9_min_7cf53 ((f7 18 3) + 1) 6 (am_wr f7 20 (f7 18 2).toNatClampNeg a2)) fun v8 f8 =>
      some (am_wr f8 18 3 v8)))
    (am_bV (D_X4_copyFrom 49 0 11 999 (am_wr f 18 2 (((f 18 2) + 1) - ((f 18 2) + 1) / 6 * 6))) fun f9 =>
      am_chk (f9 18 2) 6 (
      am_bI (D_J9_min_7cf53 ((f9 18 3) + 1) 6 (am_wr f9 20 (f9 18 2).toNatClampNeg a2)) fun v10 f10 =>
      some (am_wr f10 18 3 v10)))
    (am_bV (D_X4_copyFrom 56 0 11 999 (am_wr f 18 2 (((f 18 2) + 1) - ((f 18 2) + 1) / 6 * 6))) fun f11 =>
      am_chk (f11 18 2) 6 (
      am_bI (D_J9_min_7cf53 ((f11 18 3) + 1) 6 (am_wr f11 20 (f11 18 2).toNatClampNeg a2)) fun v12 f12 =>
      some (am_wr f12 18 3 v12))))
def D_X2_restore (f : am_M) : Option (Int32 × am_M) :=
  if (f 18 3) = 0 then
    some (0, f)
  else
    am_chk (f 18 2) 6 (am_six (f 18 2)
      (am_bV (D_X4_copyFrom 11 999 21 0 f) fun f1 =>
        am_chk (f1 18 2) 6 (
        am_bV (D_X4_reopen 11 999 (f1 20 (f1 18 2).toNatClampNeg) f1) fun f2 =>
        some (1, (am_wr (am_wr f2 18 2 ((((f2 18 2) + 6) - 1) - (((f2 18 2) + 6) - 1) / 6 * 6)) 18 3 ((f2 18 3) - 1)))))
      (am_bV (D_X4_copyFrom 11 999 28 0 f) fun f3 =>
        am_chk (f3 18 2) 6 (
        am_bV (D_X4_reopen 11 999 (f3 20 (f3 18 2).toNatClampNeg) f3) fun f4 =>
        some (1, (am_wr (am_wr f4 18 2 ((((f4 18 2) + 6) - 1) - (((f4 18 2) + 6) - 1) / 6 * 6)) 18 3 ((f4 18 3) - 1)))))
      (am_bV (D_X4_copyFrom 11 999 35 0 f) fun f5 =>
        am_chk (f5 18 2) 6 (
        am_bV (D_X4_reopen 11 999 (f5 20 (f5 18 2).toNatClampNeg) f5) fun f6 =>
        some (1, (am_wr (am_wr f6 18 2 ((((f6 18 2) + 6) - 1) - (((f6 18 2) + 6) - 1) / 6 * 6)) 18 3 ((f6 18 3) - 1)))))
      (am_bV (D_X4_copyFrom 11 999 42 0 f) fun f7 =>
        am_chk (f7 18 2) 6 (
        am_bV (D_X4_reopen 11 999 (f7 20 (f7 18 2).toNatClampNeg) f7) fun f8 =>
        some (1, (am_wr (am_wr f8 18 2 ((((f8 18 2) + 6) - 1) - (((f8 18 2) + 6) - 1) / 6 * 6)) 18 3 ((f8 18 3) - 1)))))
      (am_bV (D_X4_copyFrom 11 999 49 0 f) fun f9 =>
        am_chk (f9 18 2) 6 (
        am_bV (D_X4_reopen 11 999 (f9 20 (f9 18 2).toNatClampNeg) f9) fun f10 =>
        some (1, (am_wr (am_wr f10 18 2 ((((f10 18 2) + 6) - 1) - (((f10 18 2) + 6) - 1) / 6 * 6)) 18 3 ((f10 18 3) - 1)))))
      (am_bV (D_X4_copyFrom 11 999 56 0 f) fun f11 =>
        am_chk (f11 18 2) 6 (
        am_bV (D_X4_reopen 11 999 (f11 20 (f11 18 2).toNatClampNeg) f11) fun f12 =>
        some (1, (am_wr (am_wr f12 18 2 ((((f12 18 2) + 6) - 1) - (((f12 18 2) + 6) - 1) / 6 * 6)) 18 3 ((f12 18 3) - 1))))))
def D_X4_hasAhead (p e : Nat) (a1 : Int32) (f : am_M) : Option (Int32 × am_M) :=
  am_chk a1 6 (
  am_bI (D_X4_atMost p e a1 f) fun v1 f1 =>
  if (f (p + 1) a1.toNatClampNeg) < v1 then
    some (1, f1)
  else
    some (0, f1))
def D_X4_claimOrWait (p e : Nat) (a1 : Int32) (a2 : Int32) (f : am_M) : Option (Int32 × am_M) :=
  if (f p 9) = 0 then
    am_bI (D_X4_room p e f) fun v1 f1 =>
    if v1 < a2 then
      if (f1 p 9) < 3 then
        am_chk (f1 p 9) 3 (
        am_chk a1 3 (
        some ((-9), (am_wr (am_wr (am_wr f1 (p + 4) (f1 p 9).toNatClampNeg a1) (p + 5) a1.toNatClampNeg a2) p 9 ((f1 p 9) + 1)))))
      else
        some ((-9), f1)
    else
      am_bI (D_X4_claim p e a1 a2 f1) fun v2 f2 =>
      some (v2, f2)
  else
    if (f p 9) < 3 then
      am_chk (f p 9) 3 (
      am_chk a1 3 (
      some ((-9), (am_wr (am_wr (am_wr f (p + 4) (f p 9).toNatClampNeg a1) (p + 5) a1.toNatClampNeg a2) p 9 ((f p 9) + 1)))))
    else
      some ((-9), f)
def D_X4_admit_2 (p e : Nat) : Nat → Int32 → am_M → Option am_M
  | 0, _, _ => none
  | n + 1, x1, f =>
    if x1 < 3 then
      if 0 < (f p 9) then
        am_chk (f (p + 4) 0) 3 (
        am_bI (D_X4_room p e f) fun v1 f1 =>
        if v1 < (f (p + 5) (f (p + 4) 0).toNatClampNeg) then
          some f1
        else
          am_bV (D_X4_leaveRow p e (f (p + 4) 0) f1) fun f2 =>
          am_bI (D_X4_claim p e (f (p + 4) 0) (f (p + 5) (f (p + 4) 0).toNatClampNeg) f2) fun v3 f3 =>
          D_X4_admit_2 p e n (x1 + 1) f3)
      else
        some f
    else
      some f
def D_X4_admit (p e : Nat) (f : am_M) : Option am_M :=
  D_X4_admit_2 p e am_fu 0 f
def D_X7_taker (a1 : Int32) (a2 : Int32) (f : am_M) : Option (Int32 × am_M) :=
  am_bI (D_X6_hasTaker a1 f) fun v1 f1 =>
  if v1 = 0 then
    some ((-1), f1)
  else
    if a2 = 0 then
      am_chk a1 6 (
      some ((f1 5 a1.toNatClampNeg), f1))
    else
      if a2 = 1 then
        am_chk a1 6 (
        some ((f1 6 a1.toNatClampNeg), f1))
      else
        if a2 = 2 then
          am_chk a1 6 (
          some ((f1 12 a1.toNatClampNeg), f1))
        else
          if a2 = 3 then
            am_bI (D_X4_atMost 11 999 a1 f1) fun v2 f2 =>
            some (v2, f2)
          else
            if a2 = 4 then
              am_chk a1 6 (
              some (((f1 11 3) - (f1 12 a1.toNatClampNeg)), f1))
            else
              if a2 = 5 then
                am_chk a1 6 (
                some ((f1 13 a1.toNatClampNeg), f1))
              else
                if a2 = 6 then
                  am_chk a1 6 (
                  some ((f1 14 a1.toNatClampNeg), f1))
                else
                  some ((-1), f1)
def D_X7_maker (a1 : Int32) (a2 : Int32) (f : am_M) : Option (Int32 × am_M) :=
  am_bI (D_X6_hasMaker a1 f) fun v1 f1 =>
  if v1 = 0 then
    some ((-1), f1)
  else
    if a2 = 0 then
      am_chk a1 3 (
      some ((f1 4 a1.toNatClampNeg), f1))
    else
      if a2 = 1 then
        am_chk a1 3 (
        some ((f1 16 a1.toNatClampNeg), f1))
      else
        if a2 = 2 then
          am_bI (D_X4_placeInRow 11 999 a1 f1) fun v2 f2 =>
          some (v2, f2)
        else
          if a2 = 3 then
            am_bI (D_X4_openOf 11 999 a1 f1) fun v3 f3 =>
            some (v3, f3)
          else
            some ((-1), f1)
def D_X7_keep (a1 : Int32) (f : am_M) : Option (Int32 × am_M) :=
  if a1 = 0 then
    if a1 = 0 then
      am_bV (D_X4_copyFrom 64 999 11 999 f) fun f2 =>
      some ((f2 11 2), (am_wr f2 63 1 1))
    else
      am_bV (D_X4_copyFrom 72 999 11 999 f) fun f3 =>
      some ((f3 11 2), (am_wr f3 71 1 1))
  else
    if a1 = 1 then
      if a1 = 0 then
        am_bV (D_X4_copyFrom 64 999 11 999 f) fun f5 =>
        some ((f5 11 2), (am_wr f5 63 1 1))
      else
        am_bV (D_X4_copyFrom 72 999 11 999 f) fun f6 =>
        some ((f6 11 2), (am_wr f6 71 1 1))
    else
      some ((-1), f)
def D_X7_back (a1 : Int32) (f : am_M) : Option (Int32 × am_M) :=
  if a1 = 0 then
    if a1 = 0 then
      if (f 63 1) = 0 then
        some ((-2), f)
      else
        am_bV (D_X4_copyFrom 11 999 64 999 f) fun f2 =>
        some ((f2 11 2), (am_wr f2 18 3 0))
    else
      if (f 71 1) = 0 then
        some ((-2), f)
      else
        am_bV (D_X4_copyFrom 11 999 72 999 f) fun f3 =>
        some ((f3 11 2), (am_wr f3 18 3 0))
  else
    if a1 = 1 then
      if a1 = 0 then
        if (f 63 1) = 0 then
          some ((-2), f)
        else
          am_bV (D_X4_copyFrom 11 999 64 999 f) fun f5 =>
          some ((f5 11 2), (am_wr f5 18 3 0))
      else
        if (f 71 1) = 0 then
          some ((-2), f)
        else
          am_bV (D_X4_copyFrom 11 999 72 999 f) fun f6 =>
          some ((f6 11 2), (am_wr f6 18 3 0))
    else
      some ((-1), f)
def D_X7_count (a1 : Int32) (f : am_M) : Option (Int32 × am_M) :=
  if a1 = 0 then
    some ((f 3 0), f)
  else
    if a1 = 1 then
      some ((f 3 1), f)
    else
      if a1 = 2 then
        some ((f 3 2), f)
      else
        if a1 = 3 then
          some ((f 11 2), f)
        else
          if a1 = 4 then
            some ((f 11 3), f)
          else
            if a1 = 5 then
              am_bI (D_X4_least 11 999 f) fun v1 f1 =>
              some (v1, f1)
            else
              if a1 = 6 then
                am_bI (D_X4_room 11 999 f) fun v2 f2 =>
                some (v2, f2)
              else
                if a1 = 7 then
                  some ((f 11 9), f)
                else
                  if a1 = 8 then
                    some ((f 88 2), f)
                  else
                    if a1 = 9 then
                      some ((f 1 1), f)
                    else
                      if a1 = 10 then
                        some ((f 18 3), f)
                      else
                        some ((-1), f)
def D_X8_passesEnd (f : am_M) : Option (Int32 × am_M) :=
  am_bV (D_X8_skips f) fun f1 =>
  am_bI (D_X8_isAt 59 59 f1) fun v2 f2 =>
  if v2 = 0 then
    if v2 = 0 ∨ v2 = 1 then some (v2, (am_wr f2 91 16 ((f2 91 16) + 0))) else none
  else
    if v2 = 0 ∨ v2 = 1 then some (v2, (am_wr f2 91 16 ((f2 91 16) + 1))) else none
def D_X8_number_9 : Nat → Int32 → Int32 → Int32 → Int32 → am_M → Option (Int32 × am_M)
  | 0, _, _, _, _, _ => none
  | n + 1, x1, x2, x3, x4, f =>
    am_bI (D_X8_isAt 48 57 f) fun v2 f2 =>
    if v2 = 0 then
      if 0 < x4 then
        if 99 < x3 then
          some ((-1), f2)
        else
          if x4 = 1 then
            am_bI (D_X8_within x3 x1 x2 f2) fun v3 f3 =>
            if v3 = 0 then
              some ((-1), f3)
            else
              some (x3, f3)
          else
            am_chk (f2 91 17) 120 (
            if (f2 101 (f2 91 17).toNatClampNeg) = 48 then
              some ((-1), f2)
            else
              am_bI (D_X8_within x3 x1 x2 f2) fun v4 f4 =>
              if v4 = 0 then
                some ((-1), f4)
              else
                some (x3, f4))
      else
        some ((-1), f2)
    else
      if 99 < x3 then
        D_X8_number_9 n x1 x2 100 (x4 + 1) (am_wr f2 91 16 ((f2 91 16) + 1))
      else
        am_chk (f2 91 16) 120 (
        D_X8_number_9 n x1 x2 ((((10 : Int32) * x3) + (f2 101 (f2 91 16).toNatClampNeg)) - 48) (x4 + 1) (am_wr f2 91 16 ((f2 91 16) + 1)))
def D_X8_number (a1 : Int32) (a2 : Int32) (f : am_M) : Option (Int32 × am_M) :=
  am_bV (D_X8_skips f) fun f1 =>
  D_X8_number_9 am_fu a1 a2 0 0 f1
def D_X8_wordPassed_4 : Nat → am_M → Option (Int32 × am_M)
  | 0, _ => none
  | n + 1, f =>
    am_bI (D_X8_isAt 97 122 f) fun v2 f2 =>
    if v2 = 0 then
      am_bI (D_X8_spells 115 108 111 116 115 f2) fun v3 f3 =>
      if v3 = 0 then
        am_bI (D_X8_spells 109 97 107 101 114 f3) fun v4 f4 =>
        if v4 = 0 then
          am_bI (D_X8_spells 116 97 107 101 114 f4) fun v5 f5 =>
          if v5 = 0 then
            some ((-9), f5)
          else
            if (f5 91 21) < 6 then
              some (2, f5)
            else
              some ((-9), f5)
        else
          if (f4 91 20) < 3 then
            some (1, f4)
          else
            some ((-9), f4)
      else
        if (f3 91 18) = 0 then
          some (0, f3)
        else
          some ((-9), f3)
    else
      D_X8_wordPassed_4 n (am_wr f2 91 16 ((f2 91 16) + 1))
def D_X8_wordPassed (f : am_M) : Option (Int32 × am_M) :=
  am_bV (D_X8_skips f) fun f1 =>
  D_X8_wordPassed_4 am_fu f1
def D_X8_atMost_20 : Nat → Int32 → Int32 → Int32 → am_M → Option (Int32 × am_M)
  | 0, _, _, _, _ => none
  | n + 1, x1, x2, x3, f =>
    if x3 < (f 91 3) then
      am_chk x1 6 (
      am_bI (D_X8_has (f 94 x1.toNatClampNeg) x3 f) fun v2 f2 =>
      if v2 = 0 then
        D_X8_atMost_20 n x1 x2 (x3 + 1) f2
      else
        am_chk ((1 : Int32) + x3) 1026 (
        if (f2 95 ((1 : Int32) + x3).toNatClampNeg) < x2 then
          am_chk ((1 : Int32) + x3) 1026 (
          D_X8_atMost_20 n x1 (f2 95 ((1 : Int32) + x3).toNatClampNeg) (x3 + 1) f2)
        else
          D_X8_atMost_20 n x1 x2 (x3 + 1) f2))
    else
      some (x2, f)
def D_X8_atMost (a1 : Int32) (f : am_M) : Option (Int32 × am_M) :=
  am_chk a1 6 (
  if (f 94 a1.toNatClampNeg) = 0 then
    am_bI (D_X8_cursor f) fun v1 f1 =>
    some (v1, f1)
  else
    D_X8_atMost_20 am_fu a1 (am_int 1000) 0 f)
def D_X8_lets_0 : Nat → am_M → Option am_M
  | 0, _ => none
  | n + 1, f =>
    if 0 < (f 95 19) then
      am_bI (D_X8_room f) fun v1 f1 =>
      if v1 < (f 95 23) then
        some f1
      else
        am_bV (D_X8_claimsNow (f1 95 20) (f1 95 23) f1) fun f2 =>
        am_bV (D_X8_leavesRow 0 f2) fun f3 =>
        D_X8_lets_0 n f3
    else
      some f
def D_X8_lets (f : am_M) : Option am_M :=
  D_X8_lets_0 am_fu f
def D_X8_claims (a1 : Int32) (a2 : Int32) (f : am_M) : Option (Int32 × am_M) :=
  am_bI (D_X8_isMaker a1 f) fun v1 f1 =>
  if v1 = 0 then
    some ((-1), f1)
  else
    am_bI (D_X8_within a2 1 9 f1) fun v2 f2 =>
    if v2 = 0 then
      some ((-1), f2)
    else
      am_bI (D_X8_placeOf a1 f2) fun v3 f3 =>
      if v3 = (-9) then
        am_bI (D_X8_wanted f3) fun v4 f4 =>
        if (am_int 999) < (((f3 95 0) + v4) + a2) then
          some ((-3), f4)
        else
          am_bV (D_X8_keeps f4) fun f5 =>
          if (f5 95 19) = 0 then
            am_bI (D_X8_room f5) fun v6 f6 =>
            if v6 < a2 then
              am_chk ((20 : Int32) + (f6 95 19)) 1026 (
              am_chk ((23 : Int32) + ((am_wr f6 95 ((20 : Int32) + (f6 95 19)).toNatClampNeg a1) 95 19)) 1026 (
              some ((-9), (am_wr (am_wr (am_wr f6 95 ((20 : Int32) + (f6 95 19)).toNatClampNeg a1) 95 ((23 : Int32) + ((am_wr f6 95 ((20 : Int32) + (f6 95 19)).toNatClampNeg a1) 95 19)).toNatClampNeg a2) 95 19 (((am_wr (am_wr f6 95 ((20 : Int32) + (f6 95 19)).toNatClampNeg a1) 95 ((23 : Int32) + ((am_wr f6 95 ((20 : Int32) + (f6 95 19)).toNatClampNeg a1) 95 19)).toNatClampNeg a2) 95 19) + 1)))))
            else
              am_bV (D_X8_claimsNow a1 a2 f6) fun f7 =>
              some ((f6 95 0), f7)
          else
            am_chk ((20 : Int32) + (f5 95 19)) 1026 (
            am_chk ((23 : Int32) + ((am_wr f5 95 ((20 : Int32) + (f5 95 19)).toNatClampNeg a1) 95 19)) 1026 (
            some ((-9), (am_wr (am_wr (am_wr f5 95 ((20 : Int32) + (f5 95 19)).toNatClampNeg a1) 95 ((23 : Int32) + ((am_wr f5 95 ((20 : Int32) + (f5 95 19)).toNatClampNeg a1) 95 19)).toNatClampNeg a2) 95 19 (((am_wr (am_wr f5 95 ((20 : Int32) + (f5 95 19)).toNatClampNeg a1) 95 ((23 : Int32) + ((am_wr f5 95 ((20 : Int32) + (f5 95 19)).toNatClampNeg a1) 95 19)).toNatClampNeg a2) 95 19) + 1)))))
      else
        some ((-2), f3)
def D_X8_becomes (a1 : Int32) (a2 : Int32) (a3 : Int32) (f : am_M) : Option (Int32 × am_M) :=
  am_bI (D_X8_kindOf a1 f) fun v1 f1 =>
  if v1 = 0 then
    am_bV (D_X8_keeps f1) fun f2 =>
    am_chk ((26 : Int32) + a1) 1026 (
    am_chk ((26 : Int32) + a1) 1026 (
    am_bI (D_X8_cursor (am_wr f2 95 ((26 : Int32) + a1).toNatClampNeg ((f2 95 ((26 : Int32) + a1).toNatClampNeg) + (a2 + ((16 : Int32) * a3))))) fun v3 f3 =>
    some (v3, f3)))
  else
    some ((-2), f1)
def D_X8_event (a1 : Int32) (a2 : Int32) (f : am_M) : Option (Int32 × am_M) :=
  am_bI (D_X8_isEvent a1 f) fun v1 f1 =>
  if v1 = 0 then
    some ((-1), f1)
  else
    am_bI (D_X8_within a2 0 2 f1) fun v2 f2 =>
    if v2 = 0 then
      some ((-1), f2)
    else
      am_bI (D_X8_tellEvent a1 a2 f2) fun v3 f3 =>
      some (v3, f3)
def D_X8_maker (a1 : Int32) (a2 : Int32) (f : am_M) : Option (Int32 × am_M) :=
  am_bI (D_X8_isMaker a1 f) fun v1 f1 =>
  if v1 = 0 then
    some ((-1), f1)
  else
    am_bI (D_X8_within a2 0 3 f1) fun v2 f2 =>
    if v2 = 0 then
      some ((-1), f2)
    else
      am_bI (D_X8_tellMaker a1 a2 f2) fun v3 f3 =>
      some (v3, f3)
def D_X8_steps_51 : Nat → Int32 → Int32 → Int32 → am_M → Option (Int32 × am_M)
  | 0, _, _, _, _ => none
  | n + 1, x1, x2, x3, f =>
    if x3 < (f 91 3) then
      am_chk ((1 : Int32) + x3) 1026 (
      if (f 95 ((1 : Int32) + x3).toNatClampNeg) < x1 then
        D_X8_steps_51 n x1 (x2 + 1) (x3 + 1) f
      else
        D_X8_steps_51 n x1 (x2 + 0) (x3 + 1) f)
    else
      some (x2, f)
def D_X8_steps (f : am_M) : Option (Int32 × am_M) :=
  if (f 95 19) = 0 then
    am_bI (D_X8_cursor f) fun v1 f1 =>
    if v1 < ((am_int 1000) : Int32) then
      some ((-9), f1)
    else
      D_X8_steps_51 am_fu (am_int 1000) 0 0 f1
  else
    am_bI (D_X8_cursor f) fun v2 f2 =>
    if v2 < (((f 95 0) + (f 95 23)) - (f 91 0)) then
      some ((-9), f2)
    else
      D_X8_steps_51 am_fu (((f 95 0) + (f 95 23)) - (f 91 0)) 0 0 f2
def D_X8_ticks_28 : Nat → Int32 → Int32 → am_M → Option am_M
  | 0, _, _, _ => none
  | n + 1, x1, x2, f =>
    if x2 < (f 91 3) then
      am_bI (D_X8_mostByRule x2 x1 f) fun v2 f2 =>
      am_chk x2 6 (
      am_chk x2 6 (
      if ((f2 111 x2.toNatClampNeg) + (f2 93 x2.toNatClampNeg)) < v2 then
        am_chk x2 6 (
        am_bV (D_X8_letsByRule (am_wr f2 111 x2.toNatClampNeg ((f2 111 x2.toNatClampNeg) + (f2 93 x2.toNatClampNeg)))) fun f3 =>
        D_X8_ticks_28 n x1 (x2 + 1) f3)
      else
        am_chk x2 6 (
        am_bV (D_X8_letsByRule (am_wr f2 111 x2.toNatClampNeg v2)) fun f4 =>
        D_X8_ticks_28 n x1 (x2 + 1) f4)))
    else
      some f
def D_X8_ticks_7 : Nat → Int32 → Int32 → am_M → Option am_M
  | 0, _, _, _ => none
  | n + 1, x1, x2, f =>
    if x2 < (f 91 1) then
      am_bV (D_X8_claimsByRule x2 f) fun f1 =>
      D_X8_ticks_7 n x1 (x2 + 1) f1
    else
      D_X8_ticks_28 am_fu x1 0 f
def D_X8_ticks (f : am_M) : Option am_M :=
  D_X8_ticks_7 am_fu (f 91 29) 0 f
def D_X8_sees (a1 : Int32) (a2 : Int32) (f : am_M) : Option (Int32 × am_M) :=
  am_bI (D_X8_isTicks a1 f) fun v1 f1 =>
  if v1 = 0 then
    some ((-1), f1)
  else
    am_bI (D_X8_within a2 0 (am_int 9999) f1) fun v2 f2 =>
    if v2 = 0 then
      some ((-1), f2)
    else
      if (f2 91 11) = 6 then
        some ((-3), f2)
      else
        am_chk (f2 91 11) 6 (
        am_chk (f2 91 11) 6 (
        some (((f2 91 11) + 1), (am_wr (am_wr (am_wr f2 99 (f2 91 11).toNatClampNeg a1) 100 (f2 91 11).toNatClampNeg a2) 91 11 ((f2 91 11) + 1)))))
def D_X8_count (a1 : Int32) (f : am_M) : Option (Int32 × am_M) :=
  if a1 = 0 then
    some ((f 91 0), f)
  else
    if a1 = 1 then
      some ((f 91 1), f)
    else
      if a1 = 2 then
        some ((f 91 3), f)
      else
        if a1 = 3 then
          some ((f 95 0), f)
        else
          if a1 = 4 then
            am_bI (D_X8_cursor f) fun v1 f1 =>
            some (v1, f1)
          else
            if a1 = 5 then
              am_bI (D_X8_least f) fun v2 f2 =>
              some (v2, f2)
            else
              if a1 = 6 then
                am_bI (D_X8_room f) fun v3 f3 =>
                some (v3, f3)
              else
                if a1 = 7 then
                  some ((f 95 19), f)
                else
                  if a1 = 8 then
                    some ((f 91 11), f)
                  else
                    if a1 = 9 then
                      some ((f 91 15), f)
                    else
                      if a1 = 10 then
                        some ((f 91 8), f)
                      else
                        some ((-1), f)
def D_X4_goOver_31 (p e : Nat) : Nat → Int32 → Int32 → Int32 → Int32 → am_M → Option (Int32 × am_M)
  | 0, _, _, _, _, _ => none
  | n + 1, x1, x3, x4, x5, f =>
    if x5 < x4 then
      if x5 < (Int32.ofNat e) then
        am_bI (D_X4_kindOf p e x5 f) fun v3 f3 =>
        if v3 = 1 then
          am_chk x1 6 (
          am_chk x1 6 (
          am_chk x1 6 (
          am_bI (D_X4_valueOf p e x5 (am_wr f3 (p + 2) x1.toNatClampNeg ((f3 (p + 2) x1.toNatClampNeg) + 1))) fun v4 f4 =>
          am_chk x1 6 (
          D_X4_goOver_31 p e n x1 x3 x4 (x5 + 1) (am_wr f4 (p + 3) x1.toNatClampNeg (((((31 : Int32) * (f3 (p + 3) x1.toNatClampNeg)) + v4) + x1) - ((((31 : Int32) * (f3 (p + 3) x1.toNatClampNeg)) + v4) + x1) / (am_int 9973) * (am_int 9973)))))))
        else
          D_X4_goOver_31 p e n x1 x3 x4 (x5 + 1) f3
      else
        am_chk x1 6 (
        am_bV (D_X4_admit p e (am_wr f (p + 1) x1.toNatClampNeg x4)) fun f5 =>
        some ((x4 - x3), f5))
    else
      am_chk x1 6 (
      am_bV (D_X4_admit p e (am_wr f (p + 1) x1.toNatClampNeg x4)) fun f6 =>
      some ((x4 - x3), f6))
def D_X4_goOver (p e : Nat) (a1 : Int32) (a2 : Int32) (f : am_M) : Option (Int32 × am_M) :=
  am_chk a1 6 (
  am_bI (D_X4_atMost p e a1 f) fun v1 f1 =>
  am_bI (D_J9_min_7cf53 ((f (p + 1) a1.toNatClampNeg) + a2) v1 f1) fun v2 f2 =>
  if (f (p + 1) a1.toNatClampNeg) < v2 then
    D_X4_goOver_31 p e am_fu a1 (f (p + 1) a1.toNatClampNeg) v2 (f (p + 1) a1.toNatClampNeg) f2
  else
    some (0, f2))
def D_X4_toBlame_27 (p e : Nat) : Nat → Int32 → Int32 → am_M → Option (Int32 × am_M)
  | 0, _, _, _ => none
  | n + 1, x1, x2, f =>
    if x2 < 6 then
      am_bI (D_X4_hasAhead p e x1 f) fun v2 f2 =>
      if v2 = 0 then
        am_chk x1 6 (
        am_bI (D_X4_slowestOf p e (f2 6 x1.toNatClampNeg) f2) fun v3 f3 =>
        if v3 = (-9) then
          am_bI (D_X4_hasEvent p e (f3 p 3) f3) fun v4 f4 =>
          if v4 = 0 then
            some ((-9), f4)
          else
            am_bI (D_X4_makerOf p e (f4 p 3) f4) fun v5 f5 =>
            some (((10 : Int32) + v5), f5)
        else
          D_X4_toBlame_27 p e n v3 (x2 + 1) f3)
      else
        some (x1, f2)
    else
      some (x1, f)
def D_X4_toBlame (p e : Nat) (f : am_M) : Option (Int32 × am_M) :=
  if (f p 9) = 0 then
    some ((-9), f)
  else
    if (f 3 2) = 0 then
      some ((-9), f)
    else
      am_bI (D_X4_slowest p e f) fun v1 f1 =>
      D_X4_toBlame_27 p e am_fu v1 0 f1
def D_X7_claims (a1 : Int32) (a2 : Int32) (f : am_M) : Option (Int32 × am_M) :=
  am_bI (D_X6_hasMaker a1 f) fun v1 f1 =>
  if v1 = 0 then
    some ((-1), f1)
  else
    if a2 < 1 then
      some ((-1), f1)
    else
      if 9 < a2 then
        some ((-1), f1)
      else
        am_chk a1 3 (
        if 0 < (f1 16 a1.toNatClampNeg) then
          some ((-2), f1)
        else
          am_bI (D_X4_wantedByAll 11 999 f1) fun v2 f2 =>
          if (am_int 999) < (((f1 11 2) + v2) + a2) then
            some ((-3), f2)
          else
            am_bV (D_X2_remember (-9) f2) fun f3 =>
            am_bI (D_X4_claimOrWait 11 999 a1 a2 f3) fun v4 f4 =>
            some (v4, f4))
def D_X7_closeOpen (a1 : Int32) (a2 : Int32) (a3 : Int32) (f : am_M) : Option (Int32 × am_M) :=
  am_bI (D_X4_kindOf 11 999 a1 f) fun v1 f1 =>
  if v1 = 0 then
    am_bV (D_X2_remember a1 f1) fun f2 =>
    am_bV (D_X4_close 11 999 a1 a2 a3 f2) fun f3 =>
    some ((f3 11 3), f3)
  else
    some ((-2), f1)
def D_X7_calls (a1 : Int32) (f : am_M) : Option (Int32 × am_M) :=
  am_bI (D_X6_hasMaker a1 f) fun v1 f1 =>
  if v1 = 0 then
    some ((-1), f1)
  else
    am_chk a1 3 (
    if (f1 16 a1.toNatClampNeg) = 0 then
      some ((-2), f1)
    else
      am_bV (D_X2_remember (-9) f1) fun f2 =>
      am_bV (D_X4_leaveRow 11 999 a1 f2) fun f3 =>
      am_bV (D_X4_admit 11 999 f3) fun f4 =>
      some ((f1 16 a1.toNatClampNeg), f4))
def D_X7_undo (f : am_M) : Option (Int32 × am_M) :=
  am_bI (D_X2_restore f) fun v1 f1 =>
  if v1 = 0 then
    some ((-2), f1)
  else
    some ((f1 18 3), f1)
def D_X8_readsSlots (f : am_M) : Option (Int32 × am_M) :=
  am_bI (D_X8_number 2 16 f) fun v1 f1 =>
  if 0 < v1 then
    am_bI (D_X8_passesEnd (am_wr (am_wr f1 91 19 v1) 91 18 1)) fun v2 f2 =>
    if v2 = 0 then
      some (0, f2)
    else
      some (1, f2)
  else
    some (0, (am_wr (am_wr f1 91 19 v1) 91 18 1))
def D_X8_readsMaker (f : am_M) : Option (Int32 × am_M) :=
  am_bI (D_X8_number 0 9 f) fun v1 f1 =>
  am_chk (f 91 20) 3 (
  am_chk (f1 91 20) 3 (
  if ((am_wr f1 102 (f 91 20).toNatClampNeg v1) 102 (f1 91 20).toNatClampNeg) < 0 then
    some (0, (am_wr f1 102 (f 91 20).toNatClampNeg v1))
  else
    am_bI (D_X8_passesEnd (am_wr f1 102 (f 91 20).toNatClampNeg v1)) fun v2 f2 =>
    if v2 = 0 then
      some (0, f2)
    else
      some (1, (am_wr f2 91 20 ((f2 91 20) + 1)))))
def D_X8_readsTaker (f : am_M) : Option (Int32 × am_M) :=
  am_bI (D_X8_number 1 9 f) fun v1 f1 =>
  am_chk (f 91 21) 6 (
  am_chk (f1 91 21) 6 (
  if ((am_wr f1 103 (f 91 21).toNatClampNeg v1) 103 (f1 91 21).toNatClampNeg) < 0 then
    am_chk (f1 91 21) 6 (
    am_chk (f1 91 21) 6 (
    if ((am_wr (am_wr f1 103 (f 91 21).toNatClampNeg v1) 104 (f1 91 21).toNatClampNeg (-1)) 104 (f1 91 21).toNatClampNeg) < 0 then
      some (0, (am_wr (am_wr f1 103 (f 91 21).toNatClampNeg v1) 104 (f1 91 21).toNatClampNeg (-1)))
    else
      am_bI (D_X8_passesEnd (am_wr (am_wr f1 103 (f 91 21).toNatClampNeg v1) 104 (f1 91 21).toNatClampNeg (-1))) fun v2 f2 =>
      if v2 = 0 then
        some (0, f2)
      else
        some (1, (am_wr f2 91 21 ((f2 91 21) + 1)))))
  else
    am_bI (D_X8_number 0 (((1 : Int32) <<< ((f1 91 21) &&& 31)) - 1) (am_wr f1 103 (f 91 21).toNatClampNeg v1)) fun v3 f3 =>
    am_chk (f1 91 21) 6 (
    am_chk (f3 91 21) 6 (
    if ((am_wr f3 104 (f1 91 21).toNatClampNeg v3) 104 (f3 91 21).toNatClampNeg) < 0 then
      some (0, (am_wr f3 104 (f1 91 21).toNatClampNeg v3))
    else
      am_bI (D_X8_passesEnd (am_wr f3 104 (f1 91 21).toNatClampNeg v3)) fun v4 f4 =>
      if v4 = 0 then
        some (0, f4)
      else
        some (1, (am_wr f4 91 21 ((f4 91 21) + 1)))))))
def D_X8_fills (a1 : Int32) (a2 : Int32) (f : am_M) : Option (Int32 × am_M) :=
  am_bI (D_X8_isEvent a1 f) fun v1 f1 =>
  if v1 = 0 then
    some ((-1), f1)
  else
    am_bI (D_X8_within a2 0 99 f1) fun v2 f2 =>
    if v2 = 0 then
      some ((-1), f2)
    else
      am_bI (D_X8_becomes a1 1 a2 f2) fun v3 f3 =>
      some (v3, f3)
def D_X8_gaps (a1 : Int32) (f : am_M) : Option (Int32 × am_M) :=
  am_bI (D_X8_isEvent a1 f) fun v1 f1 =>
  if v1 = 0 then
    some ((-1), f1)
  else
    am_bI (D_X8_becomes a1 2 0 f1) fun v2 f2 =>
    some (v2, f2)
def D_X8_takes_70 : Nat → Int32 → Int32 → Int32 → Int32 → am_M → Option (Int32 × am_M)
  | 0, _, _, _, _, _ => none
  | n + 1, x1, x3, x4, x5, f =>
    if x5 < x4 then
      am_bV (D_X8_goesOver x1 x5 f) fun f5 =>
      D_X8_takes_70 n x1 x3 x4 (x5 + 1) f5
    else
      am_chk ((1 : Int32) + x1) 1026 (
      am_bV (D_X8_lets (am_wr f 95 ((1 : Int32) + x1).toNatClampNeg x4)) fun f6 =>
      some ((x4 - x3), f6))
def D_X8_takes (a1 : Int32) (a2 : Int32) (f : am_M) : Option (Int32 × am_M) :=
  am_bI (D_X8_isTaker a1 f) fun v1 f1 =>
  if v1 = 0 then
    some ((-1), f1)
  else
    am_bI (D_X8_within a2 1 16 f1) fun v2 f2 =>
    if v2 = 0 then
      some ((-1), f2)
    else
      am_chk ((1 : Int32) + a1) 1026 (
      am_bI (D_X8_atMost a1 f2) fun v3 f3 =>
      if (f2 95 ((1 : Int32) + a1).toNatClampNeg) < v3 then
        am_bV (D_X8_keeps f3) fun f4 =>
        if ((f2 95 ((1 : Int32) + a1).toNatClampNeg) + a2) < v3 then
          D_X8_takes_70 am_fu a1 (f2 95 ((1 : Int32) + a1).toNatClampNeg) ((f2 95 ((1 : Int32) + a1).toNatClampNeg) + a2) (f2 95 ((1 : Int32) + a1).toNatClampNeg) f4
        else
          D_X8_takes_70 am_fu a1 (f2 95 ((1 : Int32) + a1).toNatClampNeg) v3 (f2 95 ((1 : Int32) + a1).toNatClampNeg) f4
      else
        some ((-2), f3))
def D_X8_calls (a1 : Int32) (f : am_M) : Option (Int32 × am_M) :=
  am_bI (D_X8_isMaker a1 f) fun v1 f1 =>
  if v1 = 0 then
    some ((-1), f1)
  else
    am_bI (D_X8_placeOf a1 f1) fun v2 f2 =>
    if v2 = (-9) then
      some ((-2), f2)
    else
      am_bV (D_X8_keeps f2) fun f3 =>
      am_chk ((23 : Int32) + v2) 1026 (
      am_bV (D_X8_leavesRow v2 f3) fun f4 =>
      am_bV (D_X8_lets f4) fun f5 =>
      some ((f3 95 ((23 : Int32) + v2).toNatClampNeg), f5))
def D_X8_tellTaker (a1 : Int32) (a2 : Int32) (f : am_M) : Option (Int32 × am_M) :=
  if a2 = 0 then
    am_chk a1 6 (
    some ((f 93 a1.toNatClampNeg), f))
  else
    if a2 = 1 then
      am_chk a1 6 (
      some ((f 94 a1.toNatClampNeg), f))
    else
      if a2 = 2 then
        am_chk ((1 : Int32) + a1) 1026 (
        some ((f 95 ((1 : Int32) + a1).toNatClampNeg), f))
      else
        if a2 = 3 then
          am_bI (D_X8_atMost a1 f) fun v1 f1 =>
          some (v1, f1)
        else
          if a2 = 4 then
            am_bI (D_X8_cursor f) fun v2 f2 =>
            am_chk ((1 : Int32) + a1) 1026 (
            some ((v2 - (f2 95 ((1 : Int32) + a1).toNatClampNeg)), f2))
          else
            if a2 = 5 then
              am_chk ((7 : Int32) + a1) 1026 (
              some ((f 95 ((7 : Int32) + a1).toNatClampNeg), f))
            else
              am_chk ((13 : Int32) + a1) 1026 (
              some ((f 95 ((13 : Int32) + a1).toNatClampNeg), f))
def D_X8_blamed_33 : Nat → Int32 → am_M → Option (Int32 × am_M)
  | 0, _, _ => none
  | n + 1, x1, f =>
    am_chk ((1 : Int32) + x1) 1026 (
    am_bI (D_X8_atMost x1 f) fun v2 f2 =>
    if (f 95 ((1 : Int32) + x1).toNatClampNeg) = v2 then
      am_chk x1 6 (
      if (f2 94 x1.toNatClampNeg) = 0 then
        am_bI (D_X8_cursor f2) fun v3 f3 =>
        if v3 < (f3 95 0) then
          am_chk ((26 : Int32) + v3) 1026 (
          some (((10 : Int32) + (((f3 95 ((26 : Int32) + v3).toNatClampNeg) >>> ((2 : Int32) &&& 31)) &&& 3)), f3))
        else
          some ((-9), f3)
      else
        am_chk x1 6 (
        am_bI (D_X8_slowest (f2 94 x1.toNatClampNeg) f2) fun v4 f4 =>
        D_X8_blamed_33 n v4 f4))
    else
      some (x1, f2))
def D_X8_blamed (f : am_M) : Option (Int32 × am_M) :=
  if (f 95 19) = 0 then
    some ((-9), f)
  else
    if (f 91 3) = 0 then
      some ((-9), f)
    else
      am_bI (D_X8_slowest (((1 : Int32) <<< ((f 91 3) &&& 31)) - 1) f) fun v1 f1 =>
      D_X8_blamed_33 am_fu v1 f1
def D_X8_laysRule_99 : Nat → Int32 → Int32 → am_M → Option am_M
  | 0, _, _, _ => none
  | n + 1, x1, x2, f =>
    if x1 < x2 then
      some f
    else
      am_bV (D_X8_ticks f) fun f2 =>
      am_bV (D_X8_saves x2 f2) fun f3 =>
      D_X8_laysRule_99 n x1 (x2 + 1) f3
def D_X8_laysRule_66 : Nat → Int32 → Int32 → am_M → Option am_M
  | 0, _, _, _ => none
  | n + 1, x1, x2, f =>
    if x2 < 6 then
      am_chk ((1 : Int32) + x2) 1026 (
      am_chk x2 6 (
      D_X8_laysRule_66 n x1 (x2 + 1) (am_wr f 111 x2.toNatClampNeg (f 95 ((1 : Int32) + x2).toNatClampNeg))))
    else
      am_bV (D_X8_saves 0 f) fun f1 =>
      D_X8_laysRule_99 am_fu x1 1 f1
def D_X8_laysRule_23 : Nat → Int32 → Int32 → am_M → Option am_M
  | 0, _, _, _ => none
  | n + 1, x1, x2, f =>
    if x2 < 3 then
      am_chk ((20 : Int32) + x2) 1026 (
      am_chk x2 3 (
      am_chk ((23 : Int32) + x2) 1026 (
      am_chk x2 3 (
      D_X8_laysRule_23 n x1 (x2 + 1) (am_wr (am_wr f 109 x2.toNatClampNeg (f 95 ((20 : Int32) + x2).toNatClampNeg)) 110 x2.toNatClampNeg (f 95 ((23 : Int32) + x2).toNatClampNeg))))))
    else
      D_X8_laysRule_66 am_fu x1 0 f
def D_X8_laysRule (a1 : Int32) (f : am_M) : Option am_M :=
  D_X8_laysRule_23 am_fu a1 0 (am_wr (am_wr f 91 29 (f 95 0)) 91 30 (f 95 19))
def D_X0_tick_107 : Nat → Int32 → am_M → Option am_M
  | 0, _, _ => none
  | n + 1, x1, f =>
    if x1 < (f 3 1) then
      am_chk x1 3 (
      if 0 < (f 86 x1.toNatClampNeg) then
        am_chk x1 3 (
        am_chk x1 3 (
        D_X0_tick_107 n (x1 + 1) (am_wr f 80 x1.toNatClampNeg ((f 80 x1.toNatClampNeg) + 1))))
      else
        D_X0_tick_107 n (x1 + 1) f)
    else
      some f
def D_X0_tick_70 : Nat → Int32 → am_M → Option am_M
  | 0, _, _ => none
  | n + 1, x1, f =>
    if x1 < (f 3 2) then
      am_chk x1 6 (
      am_bI (D_X4_goOver 81 0 x1 (f 5 x1.toNatClampNeg) f) fun v3 f3 =>
      D_X0_tick_70 n (x1 + 1) f3)
    else
      D_X0_tick_107 am_fu 0 f
def D_X0_tick_9 : Nat → Int32 → am_M → Option am_M
  | 0, _, _ => none
  | n + 1, x1, f =>
    if x1 < (f 3 1) then
      am_chk x1 3 (
      if 0 < (f 4 x1.toNatClampNeg) then
        am_chk x1 3 (
        if (f 86 x1.toNatClampNeg) = 0 then
          am_chk x1 3 (
          am_bI (D_X4_claimOrWait 81 0 x1 (f 4 x1.toNatClampNeg) f) fun v2 f2 =>
          D_X0_tick_9 n (x1 + 1) f2)
        else
          D_X0_tick_9 n (x1 + 1) f)
      else
        D_X0_tick_9 n (x1 + 1) f)
    else
      D_X0_tick_70 am_fu 0 f
def D_X0_tick (f : am_M) : Option am_M :=
  am_bV (D_X4_closeAllByRule 81 0 f) fun f1 =>
  D_X0_tick_9 am_fu 0 f1
def D_X5_isWord_0 (f : am_M) : Option (Int32 × am_M) :=
  if ((f 1 4) - (f 1 3)) = 5 then
    am_chk ((f 1 3) + 0) 120 (
    if (f 2 ((f 1 3) + 0).toNatClampNeg) = 115 then
      am_chk ((f 1 3) + 1) 120 (
      if (f 2 ((f 1 3) + 1).toNatClampNeg) = 108 then
        am_chk ((f 1 3) + 2) 120 (
        if (f 2 ((f 1 3) + 2).toNatClampNeg) = 111 then
          am_chk ((f 1 3) + 3) 120 (
          if (f 2 ((f 1 3) + 3).toNatClampNeg) = 116 then
            am_chk ((f 1 3) + 4) 120 (
            if (f 2 ((f 1 3) + 4).toNatClampNeg) = 115 then
              some (1, f)
            else
              some (0, f))
          else
            some (0, f))
        else
          some (0, f))
      else
        some (0, f))
    else
      some (0, f))
  else
    some (0, f)
def D_X5_isWord_1 (f : am_M) : Option (Int32 × am_M) :=
  if ((f 1 4) - (f 1 3)) = 5 then
    am_chk ((f 1 3) + 0) 120 (
    if (f 2 ((f 1 3) + 0).toNatClampNeg) = 109 then
      am_chk ((f 1 3) + 1) 120 (
      if (f 2 ((f 1 3) + 1).toNatClampNeg) = 97 then
        am_chk ((f 1 3) + 2) 120 (
        if (f 2 ((f 1 3) + 2).toNatClampNeg) = 107 then
          am_chk ((f 1 3) + 3) 120 (
          if (f 2 ((f 1 3) + 3).toNatClampNeg) = 101 then
            am_chk ((f 1 3) + 4) 120 (
            if (f 2 ((f 1 3) + 4).toNatClampNeg) = 114 then
              some (1, f)
            else
              some (0, f))
          else
            some (0, f))
        else
          some (0, f))
      else
        some (0, f))
    else
      some (0, f))
  else
    some (0, f)
def D_X5_isWord_2 (f : am_M) : Option (Int32 × am_M) :=
  if ((f 1 4) - (f 1 3)) = 5 then
    am_chk ((f 1 3) + 0) 120 (
    if (f 2 ((f 1 3) + 0).toNatClampNeg) = 116 then
      am_chk ((f 1 3) + 1) 120 (
      if (f 2 ((f 1 3) + 1).toNatClampNeg) = 97 then
        am_chk ((f 1 3) + 2) 120 (
        if (f 2 ((f 1 3) + 2).toNatClampNeg) = 107 then
          am_chk ((f 1 3) + 3) 120 (
          if (f 2 ((f 1 3) + 3).toNatClampNeg) = 101 then
            am_chk ((f 1 3) + 4) 120 (
            if (f 2 ((f 1 3) + 4).toNatClampNeg) = 114 then
              some (1, f)
            else
              some (0, f))
          else
            some (0, f))
        else
          some (0, f))
      else
        some (0, f))
    else
      some (0, f))
  else
    some (0, f)
def D_X7_fills (a1 : Int32) (a2 : Int32) (f : am_M) : Option (Int32 × am_M) :=
  am_bI (D_X4_hasEvent 11 999 a1 f) fun v1 f1 =>
  if v1 = 0 then
    some ((-1), f1)
  else
    if a2 < 0 then
      some ((-1), f1)
    else
      if 99 < a2 then
        some ((-1), f1)
      else
        am_bI (D_X7_closeOpen a1 1 a2 f1) fun v2 f2 =>
        some (v2, f2)
def D_X7_gaps (a1 : Int32) (f : am_M) : Option (Int32 × am_M) :=
  am_bI (D_X4_hasEvent 11 999 a1 f) fun v1 f1 =>
  if v1 = 0 then
    some ((-1), f1)
  else
    am_bI (D_X7_closeOpen a1 2 0 f1) fun v2 f2 =>
    some (v2, f2)
def D_X7_takes (a1 : Int32) (a2 : Int32) (f : am_M) : Option (Int32 × am_M) :=
  am_bI (D_X6_hasTaker a1 f) fun v1 f1 =>
  if v1 = 0 then
    some ((-1), f1)
  else
    if a2 < 1 then
      some ((-1), f1)
    else
      if 16 < a2 then
        some ((-1), f1)
      else
        am_bI (D_X4_hasAhead 11 999 a1 f1) fun v2 f2 =>
        if v2 = 0 then
          some ((-2), f2)
        else
          am_bV (D_X2_remember (-9) f2) fun f3 =>
          am_bI (D_X4_goOver 11 999 a1 a2 f3) fun v4 f4 =>
          some (v4, f4)
def D_X7_blamed (f : am_M) : Option (Int32 × am_M) :=
  am_bI (D_X4_toBlame 11 999 f) fun v1 f1 =>
  some (v1, f1)
def D_X8_reads_32 : Nat → Int32 → am_M → Option (Int32 × am_M)
  | 0, _, _ => none
  | n + 1, x1, f =>
    if (f 91 16) < (f 91 15) then
      am_bI (D_X8_wordPassed f) fun v2 f2 =>
      if v2 = 0 then
        am_bI (D_X8_readsSlots f2) fun v3 f3 =>
        if v3 = 0 then
          some ((-1), f3)
        else
          am_bV (D_X8_skips f3) fun f4 =>
          D_X8_reads_32 n (x1 + 1) f4
      else
        if v2 = 1 then
          am_bI (D_X8_readsMaker f2) fun v5 f5 =>
          if v5 = 0 then
            some ((-1), f5)
          else
            am_bV (D_X8_skips f5) fun f6 =>
            D_X8_reads_32 n (x1 + 1) f6
        else
          if v2 = 2 then
            am_bI (D_X8_readsTaker f2) fun v7 f7 =>
            if v7 = 0 then
              some ((-1), f7)
            else
              am_bV (D_X8_skips f7) fun f8 =>
              D_X8_reads_32 n (x1 + 1) f8
          else
            some ((-1), f2)
    else
      some (x1, f)
def D_X8_reads (f : am_M) : Option (Int32 × am_M) :=
  am_bV (D_X8_skips (am_wr (am_wr (am_wr (am_wr (am_wr f 91 16 0) 91 18 0) 91 19 8) 91 20 0) 91 21 0)) fun f1 =>
  D_X8_reads_32 am_fu 0 f1
def D_X8_taker (a1 : Int32) (a2 : Int32) (f : am_M) : Option (Int32 × am_M) :=
  am_bI (D_X8_isTaker a1 f) fun v1 f1 =>
  if v1 = 0 then
    some ((-1), f1)
  else
    am_bI (D_X8_within a2 0 6 f1) fun v2 f2 =>
    if v2 = 0 then
      some ((-1), f2)
    else
      am_bI (D_X8_tellTaker a1 a2 f2) fun v3 f3 =>
      some (v3, f3)
def D_X8_tellRule (a1 : Int32) (a2 : Int32) (f : am_M) : Option (Int32 × am_M) :=
  am_bV (D_X8_laysRule a1 f) fun f1 =>
  if a2 = 0 then
    am_chk a1 61 (
    some ((f1 105 a1.toNatClampNeg), f1))
  else
    if a2 = 1 then
      am_bI (D_X8_leastAt a1 f1) fun v2 f2 =>
      some (v2, f2)
    else
      if a2 = 2 then
        am_bI (D_X8_slowAt a1 f1) fun v3 f3 =>
        some (v3, f3)
      else
        am_chk a1 61 (
        some ((f1 106 a1.toNatClampNeg), f1))
def D_X8_waited (a1 : Int32) (a2 : Int32) (f : am_M) : Option (Int32 × am_M) :=
  am_bI (D_X8_isTicks a1 f) fun v1 f1 =>
  if v1 = 0 then
    some ((-1), f1)
  else
    am_bI (D_X8_isMaker a2 f1) fun v2 f2 =>
    if v2 = 0 then
      some ((-1), f2)
    else
      am_bV (D_X8_laysRule a1 f2) fun f3 =>
      am_chk (((3 : Int32) * a1) + a2) 183 (
      some ((f3 108 (((3 : Int32) * a1) + a2).toNatClampNeg), f3))
def D_X8_done (a1 : Int32) (a2 : Int32) (f : am_M) : Option (Int32 × am_M) :=
  am_bI (D_X8_isTicks a1 f) fun v1 f1 =>
  if v1 = 0 then
    some ((-1), f1)
  else
    am_bI (D_X8_isTaker a2 f1) fun v2 f2 =>
    if v2 = 0 then
      some ((-1), f2)
    else
      am_bV (D_X8_laysRule a1 f2) fun f3 =>
      am_chk (((6 : Int32) * a1) + a2) 366 (
      some ((f3 107 (((6 : Int32) * a1) + a2).toNatClampNeg), f3))
def D_X8_candidates_23 (K : Int32 → Int32 → am_M → Option (Int32 × am_M)) : Nat → Int32 → Int32 → Int32 → Int32 → am_M → Option (Int32 × am_M)
  | 0, _, _, _, _, _ => none
  | n + 1, x1, x2, x3, x4, f =>
    if x4 < (f 91 11) then
      if x3 = 0 then
        D_X8_candidates_23 K n x1 x2 0 (x4 + 1) f
      else
        am_chk x4 6 (
        am_chk (((6 : Int32) * (f 99 x4.toNatClampNeg)) + x2) 366 (
        am_chk x4 6 (
        if (f 107 (((6 : Int32) * (f 99 x4.toNatClampNeg)) + x2).toNatClampNeg) = (f 100 x4.toNatClampNeg) then
          D_X8_candidates_23 K n x1 x2 1 (x4 + 1) f
        else
          D_X8_candidates_23 K n x1 x2 0 (x4 + 1) f)))
    else
      if x3 = 0 then
        K (x1 ||| 0) (x2 + 1) f
      else
        K (x1 ||| ((1 : Int32) <<< (x2 &&& 31))) (x2 + 1) f
def D_X8_candidates_10 : Nat → Int32 → Int32 → am_M → Option (Int32 × am_M)
  | 0, _, _, _ => none
  | n + 1, x1, x2, f =>
    if x2 < (f 91 3) then
      D_X8_candidates_23 (fun y1 y2 f9 => D_X8_candidates_10 n y1 y2 f9) am_fu x1 x2 1 0 f
    else
      some (x1, f)
def D_X8_candidates (f : am_M) : Option (Int32 × am_M) :=
  am_bV (D_X8_laysRule 60 f) fun f1 =>
  D_X8_candidates_10 am_fu 0 0 f1
def D_X0_after_7 : Nat → Int32 → Int32 → am_M → Option am_M
  | 0, _, _, _ => none
  | n + 1, x2, x3, f =>
    if x3 < x2 then
      am_bV (D_X0_tick f) fun f2 =>
      D_X0_after_7 n x2 (x3 + 1) f2
    else
      some f
def D_X0_after (a2 : Int32) (f : am_M) : Option am_M :=
  am_bV (D_X0_start f) fun f1 =>
  D_X0_after_7 am_fu a2 0 f1
def D_X0_takersSeen_45 (K : Int32 → Int32 → Int32 → am_M → Option (Int32 × am_M)) : Nat → Int32 → Int32 → Int32 → Int32 → am_M → Option (Int32 × am_M)
  | 0, _, _, _, _, _ => none
  | n + 1, x3, x4, x5, x6, f =>
    if x6 < (f 3 2) then
      am_chk x6 6 (
      am_bI (D_X3_allows x5 (f 82 x6.toNatClampNeg) f) fun v4 f4 =>
      if v4 = 0 then
        D_X0_takersSeen_45 K n (x3 &&& (((1 : Int32) <<< (x6 &&& 31)) ^^^ (-1))) x4 x5 (x6 + 1) f4
      else
        D_X0_takersSeen_45 K n x3 x4 x5 (x6 + 1) f4)
    else
      K x3 x4 (x5 + 1) f
def D_X0_takersSeen_26 : Nat → Int32 → Int32 → Int32 → am_M → Option (Int32 × am_M)
  | 0, _, _, _, _ => none
  | n + 1, x3, x4, x5, f =>
    if x4 < x5 then
      some (x3, f)
    else
      if 0 < x5 then
        am_bV (D_X0_tick f) fun f3 =>
        D_X0_takersSeen_45 (fun y3 y4 y5 f9 => D_X0_takersSeen_26 n y3 y4 y5 f9) am_fu x3 x4 x5 0 f3
      else
        D_X0_takersSeen_45 (fun y3 y4 y5 f9 => D_X0_takersSeen_26 n y3 y4 y5 f9) am_fu x3 x4 x5 0 f
def D_X0_takersSeen (f : am_M) : Option (Int32 × am_M) :=
  am_bI (D_X3_lastTick f) fun v1 f1 =>
  am_bV (D_X0_start f1) fun f2 =>
  D_X0_takersSeen_26 am_fu (((1 : Int32) <<< ((f 3 2) &&& 31)) - 1) v1 0 f2
def D_X0_ticksThatPart_14 : Nat → Int32 → Int32 → Int32 → Int32 → am_M → Option (Int32 × am_M)
  | 0, _, _, _, _, _ => none
  | n + 1, x2, x3, x4, x5, f =>
    if 60 < x5 then
      some (x3, f)
    else
      if 1 < x4 then
        if 0 < x5 then
          am_bV (D_X0_tick f) fun f2 =>
          am_bI (D_X0_greatestGroup x2 f2) fun v3 f3 =>
          if v3 < x4 then
            D_X0_ticksThatPart_14 n x2 x5 v3 (x5 + 1) f3
          else
            D_X0_ticksThatPart_14 n x2 x3 x4 (x5 + 1) f3
        else
          am_bI (D_X0_greatestGroup x2 f) fun v4 f4 =>
          if v4 < x4 then
            D_X0_ticksThatPart_14 n x2 x5 v4 (x5 + 1) f4
          else
            D_X0_ticksThatPart_14 n x2 x3 x4 (x5 + 1) f4
      else
        some (x3, f)
def D_X0_ticksThatPart (a2 : Int32) (f : am_M) : Option (Int32 × am_M) :=
  am_bV (D_X0_start f) fun f1 =>
  D_X0_ticksThatPart_14 am_fu a2 0 7 0 f1
def D_X5_readWord_8 : Nat → am_M → Option am_M
  | 0, _ => none
  | n + 1, f =>
    if (f 1 4) < (f 1 1) then
      am_chk (f 1 4) 120 (
      am_bI (D_X5_isWordLetter (f 2 (f 1 4).toNatClampNeg) f) fun v1 f1 =>
      if v1 = 0 then
        am_bI (D_X5_isWord_0 f1) fun v2 f2 =>
        if v2 = 0 then
          am_bI (D_X5_isWord_1 f2) fun v3 f3 =>
          if v3 = 0 then
            am_bI (D_X5_isWord_2 f3) fun v4 f4 =>
            if v4 = 0 then
              some (am_wr f4 1 2 6)
            else
              some (am_wr f4 1 2 3)
          else
            some (am_wr f3 1 2 2)
        else
          some (am_wr f2 1 2 1)
      else
        D_X5_readWord_8 n (am_wr f1 1 4 ((f1 1 4) + 1)))
    else
      am_bI (D_X5_isWord_0 f) fun v5 f5 =>
      if v5 = 0 then
        am_bI (D_X5_isWord_1 f5) fun v6 f6 =>
        if v6 = 0 then
          am_bI (D_X5_isWord_2 f6) fun v7 f7 =>
          if v7 = 0 then
            some (am_wr f7 1 2 6)
          else
            some (am_wr f7 1 2 3)
        else
          some (am_wr f6 1 2 2)
      else
        some (am_wr f5 1 2 1)
def D_X5_readWord (f : am_M) : Option am_M :=
  D_X5_readWord_8 am_fu (am_wr f 1 4 (f 1 3))
def D_X8_tells_106 : Nat → Int32 → Int32 → am_M → Option (Int32 × am_M)
  | 0, _, _, _ => none
  | n + 1, x1, x2, f =>
    if x2 < (am_int 1026) then
      am_chk x2 1026 (
      D_X8_tells_106 n x1 (x2 + 1) (am_wr f 95 x2.toNatClampNeg 0))
    else
      some (x1, (am_wr (am_wr (am_wr (am_wr (am_wr f 91 11 0) 91 8 0) 98 0 0) 98 1 0) 91 15 0))
def D_X8_tells_68 : Nat → Int32 → Int32 → am_M → Option (Int32 × am_M)
  | 0, _, _, _ => none
  | n + 1, x1, x2, f =>
    if x2 < 6 then
      am_chk x2 6 (
      am_chk x2 6 (
      am_chk x2 6 (
      am_chk x2 6 (
      D_X8_tells_68 n x1 (x2 + 1) (am_wr (am_wr f 93 x2.toNatClampNeg (f 103 x2.toNatClampNeg)) 94 x2.toNatClampNeg (f 104 x2.toNatClampNeg))))))
    else
      D_X8_tells_106 am_fu x1 0 f
def D_X8_tells_43 : Nat → Int32 → Int32 → am_M → Option (Int32 × am_M)
  | 0, _, _, _ => none
  | n + 1, x1, x2, f =>
    if x2 < 3 then
      am_chk x2 3 (
      am_chk x2 3 (
      D_X8_tells_43 n x1 (x2 + 1) (am_wr f 92 x2.toNatClampNeg (f 102 x2.toNatClampNeg))))
    else
      D_X8_tells_68 am_fu x1 0 f
def D_X8_tells (f : am_M) : Option (Int32 × am_M) :=
  am_bI (D_X8_reads f) fun v1 f1 =>
  if v1 < 0 then
    some ((((-10) : Int32) - (f1 91 17)), f1)
  else
    D_X8_tells_43 am_fu v1 0 (am_wr (am_wr (am_wr f1 91 0 (f1 91 19)) 91 1 (f1 91 20)) 91 3 (f1 91 21))
def D_X8_rule (a1 : Int32) (a2 : Int32) (f : am_M) : Option (Int32 × am_M) :=
  am_bI (D_X8_isTicks a1 f) fun v1 f1 =>
  if v1 = 0 then
    some ((-1), f1)
  else
    am_bI (D_X8_within a2 0 3 f1) fun v2 f2 =>
    if v2 = 0 then
      some ((-1), f2)
    else
      am_bI (D_X8_tellRule a1 a2 f2) fun v3 f3 =>
      some (v3, f3)
def D_X8_which (f : am_M) : Option (Int32 × am_M) :=
  am_bI (D_X8_candidates f) fun v1 f1 =>
  some (v1, f1)
def D_X8_look_20 : Nat → Int32 → Int32 → Int32 → am_M → Option (Int32 × am_M)
  | 0, _, _, _, _ => none
  | n + 1, x1, x2, x3, f =>
    if 60 < x3 then
      some (x2, f)
    else
      am_bI (D_X8_mostAlike x1 x3 f) fun v2 f2 =>
      am_bI (D_X8_mostAlike x1 x2 f2) fun v3 f3 =>
      if v2 < v3 then
        D_X8_look_20 n x1 x3 (x3 + 1) f3
      else
        D_X8_look_20 n x1 x2 (x3 + 1) f3
def D_X8_look (f : am_M) : Option (Int32 × am_M) :=
  am_bI (D_X8_candidates f) fun v1 f1 =>
  if (v1 &&& (v1 - 1)) = 0 then
    some ((-9), f1)
  else
    D_X8_look_20 am_fu v1 0 1 f1
def D_X5_next_8 : Nat → am_M → Option am_M
  | 0, _ => none
  | n + 1, f =>
    if (f 1 3) < (f 1 1) then
      am_chk (f 1 3) 120 (
      if (f 2 (f 1 3).toNatClampNeg) = 32 then
        D_X5_next_8 n (am_wr f 1 3 ((f 1 3) + 1))
      else
        if (f 1 3) < (f 1 1) then
          am_chk (f 1 3) 120 (
          am_bI (D_X5_isWordLetter (f 2 (f 1 3).toNatClampNeg) f) fun v1 f1 =>
          if v1 = 0 then
            am_chk (f1 1 3) 120 (
            am_bI (D_X5_isFigure (f1 2 (f1 1 3).toNatClampNeg) f1) fun v2 f2 =>
            if v2 = 0 then
              am_chk (f2 1 3) 120 (
              if (f2 2 (f2 1 3).toNatClampNeg) = 59 then
                some (am_wr (am_wr f2 1 4 ((f2 1 3) + 1)) 1 2 5)
              else
                some (am_wr (am_wr f2 1 4 ((f2 1 3) + 1)) 1 2 6))
            else
              am_bV (D_X5_readNumber f2) fun f3 =>
              some f3)
          else
            am_bV (D_X5_readWord f1) fun f4 =>
            some f4)
        else
          some (am_wr (am_wr f 1 4 (f 1 3)) 1 2 0))
    else
      if (f 1 3) < (f 1 1) then
        am_chk (f 1 3) 120 (
        am_bI (D_X5_isWordLetter (f 2 (f 1 3).toNatClampNeg) f) fun v5 f5 =>
        if v5 = 0 then
          am_chk (f5 1 3) 120 (
          am_bI (D_X5_isFigure (f5 2 (f5 1 3).toNatClampNeg) f5) fun v6 f6 =>
          if v6 = 0 then
            am_chk (f6 1 3) 120 (
            if (f6 2 (f6 1 3).toNatClampNeg) = 59 then
              some (am_wr (am_wr f6 1 4 ((f6 1 3) + 1)) 1 2 5)
            else
              some (am_wr (am_wr f6 1 4 ((f6 1 3) + 1)) 1 2 6))
          else
            am_bV (D_X5_readNumber f6) fun f7 =>
            some f7)
        else
          am_bV (D_X5_readWord f5) fun f8 =>
          some f8)
      else
        some (am_wr (am_wr f 1 4 (f 1 3)) 1 2 0)
def D_X5_next (f : am_M) : Option am_M :=
  D_X5_next_8 am_fu (am_wr f 1 3 (f 1 4))
def D_X7_rule (a1 : Int32) (a2 : Int32) (f : am_M) : Option (Int32 × am_M) :=
  am_bI (D_X7_isTicks a1 f) fun v1 f1 =>
  if v1 = 0 then
    some ((-1), f1)
  else
    if a2 < 0 then
      some ((-1), f1)
    else
      if 3 < a2 then
        some ((-1), f1)
      else
        am_bV (D_X0_after a1 f1) fun f2 =>
        if a2 = 0 then
          some ((f2 81 2), f2)
        else
          if a2 = 1 then
            am_bI (D_X4_least 81 0 f2) fun v3 f3 =>
            some (v3, f3)
          else
            if a2 = 2 then
              am_bI (D_X4_slowest 81 0 f2) fun v4 f4 =>
              some (v4, f4)
            else
              some ((f2 81 9), f2)
def D_X7_waited (a1 : Int32) (a2 : Int32) (f : am_M) : Option (Int32 × am_M) :=
  am_bI (D_X7_isTicks a1 f) fun v1 f1 =>
  if v1 = 0 then
    some ((-1), f1)
  else
    am_bI (D_X6_hasMaker a2 f1) fun v2 f2 =>
    if v2 = 0 then
      some ((-1), f2)
    else
      am_bV (D_X0_after a1 f2) fun f3 =>
      am_chk a2 3 (
      some ((f3 80 a2.toNatClampNeg), f3))
def D_X7_done (a1 : Int32) (a2 : Int32) (f : am_M) : Option (Int32 × am_M) :=
  am_bI (D_X7_isTicks a1 f) fun v1 f1 =>
  if v1 = 0 then
    some ((-1), f1)
  else
    am_bI (D_X6_hasTaker a2 f1) fun v2 f2 =>
    if v2 = 0 then
      some ((-1), f2)
    else
      am_bV (D_X0_after a1 f2) fun f3 =>
      am_chk a2 6 (
      some ((f3 82 a2.toNatClampNeg), f3))
def D_X7_which (f : am_M) : Option (Int32 × am_M) :=
  am_bI (D_X0_takersSeen f) fun v1 f1 =>
  some (v1, f1)
def D_X7_look (f : am_M) : Option (Int32 × am_M) :=
  am_bI (D_X0_takersSeen f) fun v1 f1 =>
  am_bI (D_J6_bitCount_0f7a4 v1 f1) fun v2 f2 =>
  if v2 < 2 then
    some ((-9), f2)
  else
    am_bI (D_X0_ticksThatPart v1 f2) fun v3 f3 =>
    some (v3, f3)
def D_X5_accept (a1 : Int32) (a2 : Int32) (f : am_M) : Option (Int32 × am_M) :=
  if (f 1 2) = 4 then
    if (f 1 5) < a1 then
      some (0, f)
    else
      if a2 < (f 1 5) then
        some (0, f)
      else
        am_bV (D_X5_next (am_wr f 1 6 (f 1 5))) fun f1 =>
        some (1, f1)
  else
    some (0, f)
def D_X5_acceptSemicolon (f : am_M) : Option (Int32 × am_M) :=
  if (f 1 2) = 5 then
    am_bV (D_X5_next f) fun f1 =>
    some (1, f1)
  else
    some (0, f)
def D_X5_readSlots (f : am_M) : Option (Int32 × am_M) :=
  if (f 1 7) = 0 then
    am_bV (D_X5_next f) fun f1 =>
    am_bI (D_X5_accept 2 16 f1) fun v2 f2 =>
    if v2 = 0 then
      some (0, f2)
    else
      am_bI (D_X5_acceptSemicolon (am_wr (am_wr f2 7 0 (f2 1 6)) 1 7 1)) fun v3 f3 =>
      if v3 = 0 ∨ v3 = 1 then some (v3, f3) else none
  else
    some (0, f)
def D_X5_readMaker (f : am_M) : Option (Int32 × am_M) :=
  if (f 7 1) < 3 then
    am_bV (D_X5_next f) fun f1 =>
    am_bI (D_X5_accept 0 9 f1) fun v2 f2 =>
    if v2 = 0 then
      some (0, f2)
    else
      am_bI (D_X6_addMaker (f2 1 6) f2) fun v3 f3 =>
      if v3 = 0 then
        some (0, f3)
      else
        am_bI (D_X5_acceptSemicolon f3) fun v4 f4 =>
        if v4 = 0 then
          some (0, f4)
        else
          some (1, f4)
  else
    some (0, f)
def D_X5_readTaker (f : am_M) : Option (Int32 × am_M) :=
  if (f 7 2) < 6 then
    am_bV (D_X5_next f) fun f1 =>
    am_bI (D_X5_accept 1 9 f1) fun v2 f2 =>
    if v2 = 0 then
      some (0, f2)
    else
      am_bI (D_X5_accept 0 (((1 : Int32) <<< ((f2 7 2) &&& 31)) - 1) f2) fun v3 f3 =>
      if v3 = 0 then
        some (0, f3)
      else
        am_bI (D_X6_addTaker (f2 1 6) (f3 1 6) f3) fun v4 f4 =>
        if v4 = 0 then
          some (0, f4)
        else
          am_bI (D_X5_acceptSemicolon f4) fun v5 f5 =>
          if v5 = 0 then
            some (0, f5)
          else
            some (1, f5)
  else
    some (0, f)
def D_X5_readInto_20 : Nat → Int32 → am_M → Option (Int32 × am_M)
  | 0, _, _ => none
  | n + 1, x2, f =>
    if (f 1 2) = 0 then
      some (x2, f)
    else
      if x2 < 120 then
        if (f 1 2) = 1 then
          am_bI (D_X5_readSlots f) fun v3 f3 =>
          if v3 = 0 then
            some ((((-10) : Int32) - (f3 1 3)), f3)
          else
            D_X5_readInto_20 n (x2 + 1) f3
        else
          if (f 1 2) = 2 then
            am_bI (D_X5_readMaker f) fun v4 f4 =>
            if v4 = 0 then
              some ((((-10) : Int32) - (f4 1 3)), f4)
            else
              D_X5_readInto_20 n (x2 + 1) f4
          else
            if (f 1 2) = 3 then
              am_bI (D_X5_readTaker f) fun v5 f5 =>
              if v5 = 0 then
                some ((((-10) : Int32) - (f5 1 3)), f5)
              else
                D_X5_readInto_20 n (x2 + 1) f5
            else
              some ((((-10) : Int32) - (f 1 3)), f)
      else
        some (x2, f)
def D_X5_readInto (f : am_M) : Option (Int32 × am_M) :=
  am_bV (D_X6_reset f) fun f1 =>
  am_bV (D_X5_next (am_wr (am_wr f1 1 7 0) 1 4 0)) fun f2 =>
  D_X5_readInto_20 am_fu 0 f2
def D_X7_tells (f : am_M) : Option (Int32 × am_M) :=
  am_bI (D_X5_readInto f) fun v1 f1 =>
  if v1 < 0 then
    some (v1, f1)
  else
    am_bV (D_X6_copyFrom f1) fun f2 =>
    am_bV (D_X4_reset 11 999 f2) fun f3 =>
    some (v1, (am_wr (am_wr (am_wr (am_wr (am_wr f3 18 3 0) 63 1 0) 71 1 0) 88 2 0) 1 1 0))
def D_L_law_18 (X : am_X) : Nat → Int32 → am_M → Option (Int32 × am_M)
  | 0, _, _ => none
  | n + 1, x3, f =>
    if ((Int32.ofNat X.1) - 3) < x3 then
      some (1, f)
    else
      am_chk x3 X.1 (
      if ((X.2 x3.toNatClampNeg) &&& 31) = 0 then
        am_chk (x3 + 1) X.1 (
        am_bI (D_X7_type (X.2 (x3 + 1).toNatClampNeg) f) fun v1 f1 =>
        am_chk (x3 + 1) X.1 (
        am_bI (D_X8_type (X.2 (x3 + 1).toNatClampNeg) f1) fun v2 f2 =>
        if v1 = v2 then
          D_L_law_18 X n (x3 + 3) f2
        else
          some (0, f2)))
      else
        if ((X.2 x3.toNatClampNeg) &&& 31) = 1 then
          am_bI (D_X7_clear f) fun v3 f3 =>
          am_bI (D_X8_clear f3) fun v4 f4 =>
          if v3 = v4 then
            D_L_law_18 X n (x3 + 3) f4
          else
            some (0, f4)
        else
          if ((X.2 x3.toNatClampNeg) &&& 31) = 2 then
            am_bI (D_X7_tells f) fun v5 f5 =>
            am_bI (D_X8_tells f5) fun v6 f6 =>
            if v5 = v6 then
              D_L_law_18 X n (x3 + 3) f6
            else
              some (0, f6)
          else
            if ((X.2 x3.toNatClampNeg) &&& 31) = 3 then
              am_chk (x3 + 1) X.1 (
              am_chk (x3 + 2) X.1 (
              am_bI (D_X7_claims (X.2 (x3 + 1).toNatClampNeg) (X.2 (x3 + 2).toNatClampNeg) f) fun v7 f7 =>
              am_chk (x3 + 1) X.1 (
              am_chk (x3 + 2) X.1 (
              am_bI (D_X8_claims (X.2 (x3 + 1).toNatClampNeg) (X.2 (x3 + 2).toNatClampNeg) f7) fun v8 f8 =>
              if v7 = v8 then
                D_L_law_18 X n (x3 + 3) f8
              else
                some (0, f8)))))
            else
              if ((X.2 x3.toNatClampNeg) &&& 31) = 4 then
                am_chk (x3 + 1) X.1 (
                am_chk (x3 + 2) X.1 (
                am_bI (D_X7_fills (X.2 (x3 + 1).toNatClampNeg) (X.2 (x3 + 2).toNatClampNeg) f) fun v9 f9 =>
                am_chk (x3 + 1) X.1 (
                am_chk (x3 + 2) X.1 (
                am_bI (D_X8_fills (X.2 (x3 + 1).toNatClampNeg) (X.2 (x3 + 2).toNatClampNeg) f9) fun v10 f10 =>
                if v9 = v10 then
                  D_L_law_18 X n (x3 + 3) f10
                else
                  some (0, f10)))))
              else
                if ((X.2 x3.toNatClampNeg) &&& 31) = 5 then
                  am_chk (x3 + 1) X.1 (
                  am_bI (D_X7_gaps (X.2 (x3 + 1).toNatClampNeg) f) fun v11 f11 =>
                  am_chk (x3 + 1) X.1 (
                  am_bI (D_X8_gaps (X.2 (x3 + 1).toNatClampNeg) f11) fun v12 f12 =>
                  if v11 = v12 then
                    D_L_law_18 X n (x3 + 3) f12
                  else
                    some (0, f12)))
                else
                  if ((X.2 x3.toNatClampNeg) &&& 31) = 6 then
                    am_chk (x3 + 1) X.1 (
                    am_chk (x3 + 2) X.1 (
                    am_bI (D_X7_takes (X.2 (x3 + 1).toNatClampNeg) (X.2 (x3 + 2).toNatClampNeg) f) fun v13 f13 =>
                    am_chk (x3 + 1) X.1 (
                    am_chk (x3 + 2) X.1 (
                    am_bI (D_X8_takes (X.2 (x3 + 1).toNatClampNeg) (X.2 (x3 + 2).toNatClampNeg) f13) fun v14 f14 =>
                    if v13 = v14 then
                      D_L_law_18 X n (x3 + 3) f14
                    else
                      some (0, f14)))))
                  else
                    if ((X.2 x3.toNatClampNeg) &&& 31) = 7 then
                      am_chk (x3 + 1) X.1 (
                      am_bI (D_X7_calls (X.2 (x3 + 1).toNatClampNeg) f) fun v15 f15 =>
                      am_chk (x3 + 1) X.1 (
                      am_bI (D_X8_calls (X.2 (x3 + 1).toNatClampNeg) f15) fun v16 f16 =>
                      if v15 = v16 then
                        D_L_law_18 X n (x3 + 3) f16
                      else
                        some (0, f16)))
                    else
                      if ((X.2 x3.toNatClampNeg) &&& 31) = 8 then
                        am_bI (D_X7_undo f) fun v17 f17 =>
                        am_bI (D_X8_undo f17) fun v18 f18 =>
                        if v17 = v18 then
                          D_L_law_18 X n (x3 + 3) f18
                        else
                          some (0, f18)
                      else
                        if ((X.2 x3.toNatClampNeg) &&& 31) = 9 then
                          am_chk (x3 + 1) X.1 (
                          am_chk (x3 + 2) X.1 (
                          am_bI (D_X7_event (X.2 (x3 + 1).toNatClampNeg) (X.2 (x3 + 2).toNatClampNeg) f) fun v19 f19 =>
                          am_chk (x3 + 1) X.1 (
                          am_chk (x3 + 2) X.1 (
                          am_bI (D_X8_event (X.2 (x3 + 1).toNatClampNeg) (X.2 (x3 + 2).toNatClampNeg) f19) fun v20 f20 =>
                          if v19 = v20 then
                            D_L_law_18 X n (x3 + 3) f20
                          else
                            some (0, f20)))))
                        else
                          if ((X.2 x3.toNatClampNeg) &&& 31) = 10 then
                            am_chk (x3 + 1) X.1 (
                            am_chk (x3 + 2) X.1 (
                            am_bI (D_X7_taker (X.2 (x3 + 1).toNatClampNeg) (X.2 (x3 + 2).toNatClampNeg) f) fun v21 f21 =>
                            am_chk (x3 + 1) X.1 (
                            am_chk (x3 + 2) X.1 (
                            am_bI (D_X8_taker (X.2 (x3 + 1).toNatClampNeg) (X.2 (x3 + 2).toNatClampNeg) f21) fun v22 f22 =>
                            if v21 = v22 then
                              D_L_law_18 X n (x3 + 3) f22
                            else
                              some (0, f22)))))
                          else
                            if ((X.2 x3.toNatClampNeg) &&& 31) = 11 then
                              am_chk (x3 + 1) X.1 (
                              am_chk (x3 + 2) X.1 (
                              am_bI (D_X7_maker (X.2 (x3 + 1).toNatClampNeg) (X.2 (x3 + 2).toNatClampNeg) f) fun v23 f23 =>
                              am_chk (x3 + 1) X.1 (
                              am_chk (x3 + 2) X.1 (
                              am_bI (D_X8_maker (X.2 (x3 + 1).toNatClampNeg) (X.2 (x3 + 2).toNatClampNeg) f23) fun v24 f24 =>
                              if v23 = v24 then
                                D_L_law_18 X n (x3 + 3) f24
                              else
                                some (0, f24)))))
                            else
                              if ((X.2 x3.toNatClampNeg) &&& 31) = 12 then
                                am_bI (D_X7_blamed f) fun v25 f25 =>
                                am_bI (D_X8_blamed f25) fun v26 f26 =>
                                if v25 = v26 then
                                  D_L_law_18 X n (x3 + 3) f26
                                else
                                  some (0, f26)
                              else
                                if ((X.2 x3.toNatClampNeg) &&& 31) = 13 then
                                  am_bI (D_X7_steps f) fun v27 f27 =>
                                  am_bI (D_X8_steps f27) fun v28 f28 =>
                                  if v27 = v28 then
                                    D_L_law_18 X n (x3 + 3) f28
                                  else
                                    some (0, f28)
                                else
                                  if ((X.2 x3.toNatClampNeg) &&& 31) = 14 then
                                    am_chk (x3 + 1) X.1 (
                                    am_chk (x3 + 2) X.1 (
                                    am_bI (D_X7_rule (X.2 (x3 + 1).toNatClampNeg) (X.2 (x3 + 2).toNatClampNeg) f) fun v29 f29 =>
                                    am_chk (x3 + 1) X.1 (
                                    am_chk (x3 + 2) X.1 (
                                    am_bI (D_X8_rule (X.2 (x3 + 1).toNatClampNeg) (X.2 (x3 + 2).toNatClampNeg) f29) fun v30 f30 =>
                                    if v29 = v30 then
                                      D_L_law_18 X n (x3 + 3) f30
                                    else
                                      some (0, f30)))))
                                  else
                                    if ((X.2 x3.toNatClampNeg) &&& 31) = 15 then
                                      am_chk (x3 + 1) X.1 (
                                      am_chk (x3 + 2) X.1 (
                                      am_bI (D_X7_waited (X.2 (x3 + 1).toNatClampNeg) (X.2 (x3 + 2).toNatClampNeg) f) fun v31 f31 =>
                                      am_chk (x3 + 1) X.1 (
                                      am_chk (x3 + 2) X.1 (
                                      am_bI (D_X8_waited (X.2 (x3 + 1).toNatClampNeg) (X.2 (x3 + 2).toNatClampNeg) f31) fun v32 f32 =>
                                      if v31 = v32 then
                                        D_L_law_18 X n (x3 + 3) f32
                                      else
                                        some (0, f32)))))
                                    else
                                      if ((X.2 x3.toNatClampNeg) &&& 31) = 16 then
                                        am_chk (x3 + 1) X.1 (
                                        am_chk (x3 + 2) X.1 (
                                        am_bI (D_X7_done (X.2 (x3 + 1).toNatClampNeg) (X.2 (x3 + 2).toNatClampNeg) f) fun v33 f33 =>
                                        am_chk (x3 + 1) X.1 (
                                        am_chk (x3 + 2) X.1 (
                                        am_bI (D_X8_done (X.2 (x3 + 1).toNatClampNeg) (X.2 (x3 + 2).toNatClampNeg) f33) fun v34 f34 =>
                                        if v33 = v34 then
                                          D_L_law_18 X n (x3 + 3) f34
                                        else
                                          some (0, f34)))))
                                      else
                                        if ((X.2 x3.toNatClampNeg) &&& 31) = 17 then
                                          am_chk (x3 + 1) X.1 (
                                          am_chk (x3 + 2) X.1 (
                                          am_bI (D_X7_sees (X.2 (x3 + 1).toNatClampNeg) (X.2 (x3 + 2).toNatClampNeg) f) fun v35 f35 =>
                                          am_chk (x3 + 1) X.1 (
                                          am_chk (x3 + 2) X.1 (
                                          am_bI (D_X8_sees (X.2 (x3 + 1).toNatClampNeg) (X.2 (x3 + 2).toNatClampNeg) f35) fun v36 f36 =>
                                          if v35 = v36 then
                                            D_L_law_18 X n (x3 + 3) f36
                                          else
                                            some (0, f36)))))
                                        else
                                          if ((X.2 x3.toNatClampNeg) &&& 31) = 18 then
                                            am_bI (D_X7_forget f) fun v37 f37 =>
                                            am_bI (D_X8_forget f37) fun v38 f38 =>
                                            if v37 = v38 then
                                              D_L_law_18 X n (x3 + 3) f38
                                            else
                                              some (0, f38)
                                          else
                                            if ((X.2 x3.toNatClampNeg) &&& 31) = 19 then
                                              am_bI (D_X7_which f) fun v39 f39 =>
                                              am_bI (D_X8_which f39) fun v40 f40 =>
                                              if v39 = v40 then
                                                D_L_law_18 X n (x3 + 3) f40
                                              else
                                                some (0, f40)
                                            else
                                              if ((X.2 x3.toNatClampNeg) &&& 31) = 20 then
                                                am_bI (D_X7_look f) fun v41 f41 =>
                                                am_bI (D_X8_look f41) fun v42 f42 =>
                                                if v41 = v42 then
                                                  D_L_law_18 X n (x3 + 3) f42
                                                else
                                                  some (0, f42)
                                              else
                                                if ((X.2 x3.toNatClampNeg) &&& 31) = 21 then
                                                  am_chk (x3 + 1) X.1 (
                                                  am_bI (D_X7_keep (X.2 (x3 + 1).toNatClampNeg) f) fun v43 f43 =>
                                                  am_chk (x3 + 1) X.1 (
                                                  am_bI (D_X8_keep (X.2 (x3 + 1).toNatClampNeg) f43) fun v44 f44 =>
                                                  if v43 = v44 then
                                                    D_L_law_18 X n (x3 + 3) f44
                                                  else
                                                    some (0, f44)))
                                                else
                                                  if ((X.2 x3.toNatClampNeg) &&& 31) = 22 then
                                                    am_chk (x3 + 1) X.1 (
                                                    am_bI (D_X7_back (X.2 (x3 + 1).toNatClampNeg) f) fun v45 f45 =>
                                                    am_chk (x3 + 1) X.1 (
                                                    am_bI (D_X8_back (X.2 (x3 + 1).toNatClampNeg) f45) fun v46 f46 =>
                                                    if v45 = v46 then
                                                      D_L_law_18 X n (x3 + 3) f46
                                                    else
                                                      some (0, f46)))
                                                  else
                                                    if ((X.2 x3.toNatClampNeg) &&& 31) = 23 then
                                                      am_chk (x3 + 1) X.1 (
                                                      am_bI (D_X7_count (X.2 (x3 + 1).toNatClampNeg) f) fun v47 f47 =>
                                                      am_chk (x3 + 1) X.1 (
                                                      am_bI (D_X8_count (X.2 (x3 + 1).toNatClampNeg) f47) fun v48 f48 =>
                                                      if v47 = v48 then
                                                        D_L_law_18 X n (x3 + 3) f48
                                                      else
                                                        some (0, f48)))
                                                    else
                                                      D_L_law_18 X n (x3 + 3) f)
def D_L_law (X : am_X) (f : am_M) : Option (Int32 × am_M) :=
  D_L_law_18 X am_fu 0 f
end
section
theorem lk_len_0 (X : am_X) (f : am_M) : am_Ev X 165 0 [some (.ref 1010)] [] f (some (.int 5)) f := ⟨60, rfl⟩
theorem lk_chr_0_0 (X : am_X) (f : am_M) : am_Ev X 166 0 [some (.ref 1010), some (.int 0)] [] f (some (.int 115)) f := ⟨60, rfl⟩
theorem lk_chr_0_1 (X : am_X) (f : am_M) : am_Ev X 166 0 [some (.ref 1010), some (.int 1)] [] f (some (.int 108)) f := ⟨60, rfl⟩
theorem lk_chr_0_2 (X : am_X) (f : am_M) : am_Ev X 166 0 [some (.ref 1010), some (.int 2)] [] f (some (.int 111)) f := ⟨60, rfl⟩
theorem lk_chr_0_3 (X : am_X) (f : am_M) : am_Ev X 166 0 [some (.ref 1010), some (.int 3)] [] f (some (.int 116)) f := ⟨60, rfl⟩
theorem lk_chr_0_4 (X : am_X) (f : am_M) : am_Ev X 166 0 [some (.ref 1010), some (.int 4)] [] f (some (.int 115)) f := ⟨60, rfl⟩
theorem lk_len_1 (X : am_X) (f : am_M) : am_Ev X 165 0 [some (.ref 1011)] [] f (some (.int 5)) f := ⟨60, rfl⟩
theorem lk_chr_1_0 (X : am_X) (f : am_M) : am_Ev X 166 0 [some (.ref 1011), some (.int 0)] [] f (some (.int 109)) f := ⟨60, rfl⟩
theorem lk_chr_1_1 (X : am_X) (f : am_M) : am_Ev X 166 0 [some (.ref 1011), some (.int 1)] [] f (some (.int 97)) f := ⟨60, rfl⟩
theorem lk_chr_1_2 (X : am_X) (f : am_M) : am_Ev X 166 0 [some (.ref 1011), some (.int 2)] [] f (some (.int 107)) f := ⟨60, rfl⟩
theorem lk_chr_1_3 (X : am_X) (f : am_M) : am_Ev X 166 0 [some (.ref 1011), some (.int 3)] [] f (some (.int 101)) f := ⟨60, rfl⟩
theorem lk_chr_1_4 (X : am_X) (f : am_M) : am_Ev X 166 0 [some (.ref 1011), some (.int 4)] [] f (some (.int 114)) f := ⟨60, rfl⟩
theorem lk_len_2 (X : am_X) (f : am_M) : am_Ev X 165 0 [some (.ref 1012)] [] f (some (.int 5)) f := ⟨60, rfl⟩
theorem lk_chr_2_0 (X : am_X) (f : am_M) : am_Ev X 166 0 [some (.ref 1012), some (.int 0)] [] f (some (.int 116)) f := ⟨60, rfl⟩
theorem lk_chr_2_1 (X : am_X) (f : am_M) : am_Ev X 166 0 [some (.ref 1012), some (.int 1)] [] f (some (.int 97)) f := ⟨60, rfl⟩
theorem lk_chr_2_2 (X : am_X) (f : am_M) : am_Ev X 166 0 [some (.ref 1012), some (.int 2)] [] f (some (.int 107)) f := ⟨60, rfl⟩
theorem lk_chr_2_3 (X : am_X) (f : am_M) : am_Ev X 166 0 [some (.ref 1012), some (.int 3)] [] f (some (.int 101)) f := ⟨60, rfl⟩
theorem lk_chr_2_4 (X : am_X) (f : am_M) : am_Ev X 166 0 [some (.ref 1012), some (.int 4)] [] f (some (.int 114)) f := ⟨60, rfl⟩
theorem lk_img_0 {X : am_X} {a : Int32} {f : am_M} (h : a = 0) : am_Ev X 88 0 [some (.ref 0), some (.int a)] [] f (some (.ref 63)) f := by
  subst h
  exact ⟨60, rfl⟩
theorem lk_img_1 {X : am_X} {a : Int32} {f : am_M} (h : ¬ a = 0) : am_Ev X 88 0 [some (.ref 0), some (.int a)] [] f (some (.ref 71)) f := by
  refine am_Ew.start [] 20 (am_Ew.conv (fun k => if a = 0 then some (some (.ref 63), am_G0, f) else some (some (.ref 71), am_G0, f)) (fun k => rfl) ⟨0, if_neg h⟩)
set_option maxHeartbeats 400000 in
set_option maxRecDepth 100000 in
theorem lk_X3_add {X : am_X} {a1 a2 : Int32} {f f' : am_M} {v' : Int32} (h : D_X3_add a1 a2 f = some (v', f')) : am_Ev X 12 0 [some (.ref 88), some (.int a1), some (.int a2)] [] f (some (.int v')) f' := by
  rw [D_X3_add] at h
  refine am_Ew.start [] 24 (am_Ew.conv (fun k => (if (f 88 2) < 6 then (am_chk (f 88 2) 6 (am_chk (f 88 2) 6 (some (some (.int 1), am_G0, (am_wr (am_wr (am_wr f 89 (f 88 2).toNatClampNeg a1) 90 (f 88 2).toNatClampNeg a2) 88 2 ((f 88 2) + 1)))))) else (some (some (.int 0), am_G0, f)))) (fun k => rfl) ?_)
  refine am_Ew.ite h (fun _ h => ?_) (fun _ h => ?_)
  · refine am_Ew.chk h (fun h => ?_)
    refine am_Ew.chk h (fun h => ?_)
    exact am_Ew.retI h
  · exact am_Ew.retI h
set_option maxHeartbeats 400000 in
set_option maxRecDepth 100000 in
theorem lk_X3_allows_2 {X : am_X} : ∀ (n : Nat) (x1 x2 x3 : Int32) (f : am_M) (v' : Int32) (f' : am_M), D_X3_allows_2 n x1 x2 x3 f = some (v', f') → am_Ev X 14 2 [some (.ref 88), some (.int x1), some (.int x2), some (.int x3)] [] f (some (.int v')) f'
  | 0, _, _, _, _, _, _, h => by cases h
  | n + 1, x1, x2, x3, f, v', f', h => by
    rw [D_X3_allows_2] at h
    refine am_Ew.start [2] 18 (am_Ew.conv (fun k => (if x3 < (f 88 2) then (am_chk x3 6 (if (f 89 x3.toNatClampNeg) = x1 then (am_chk x3 6 (if (f 90 x3.toNatClampNeg) = x2 then (k 2 [some (.ref 88), some (.int x1), some (.int x2), some (.int (x3 + 1))] [] am_G0 f) else (some (some (.int 0), am_G0, f)))) else (k 2 [some (.ref 88), some (.int x1), some (.int x2), some (.int (x3 + 1))] [] am_G0 f))) else (some (some (.int 1), am_G0, f)))) (fun k => rfl) ?_)
    refine am_Ew.ite h (fun _ h => ?_) (fun _ h => ?_)
    · refine am_Ew.chk h (fun h => ?_)
      refine am_Ew.ite h (fun _ h => ?_) (fun _ h => ?_)
      · refine am_Ew.chk h (fun h => ?_)
        refine am_Ew.ite h (fun _ h => ?_) (fun _ h => ?_)
        · exact am_Ew.run (lk_X3_allows_2  n _ _ _ _ _ _ h )
        · exact am_Ew.retI h
      · exact am_Ew.run (lk_X3_allows_2  n _ _ _ _ _ _ h )
    · exact am_Ew.retI h
set_option maxHeartbeats 400000 in
set_option maxRecDepth 100000 in
theorem lk_X3_allows {X : am_X} {a1 a2 : Int32} {f f' : am_M} {v' : Int32} (h : D_X3_allows a1 a2 f = some (v', f')) : am_Ev X 14 0 [some (.ref 88), some (.int a1), some (.int a2), none] [] f (some (.int v')) f' := by
  rw [D_X3_allows] at h
  refine am_Ew.start [2] 2 (am_Ew.conv (fun k => (k 2 [some (.ref 88), some (.int a1), some (.int a2), some (.int 0)] [] am_G0 f)) (fun k => rfl) ?_)
  exact am_Ew.run (lk_X3_allows_2 _ _ _ _ _ _ _ h )
set_option maxHeartbeats 400000 in
set_option maxRecDepth 100000 in
theorem lk_X5_append {X : am_X} {a1 : Int32} {f f' : am_M} {v' : Int32} (h : D_X5_append a1 f = some (v', f')) : am_Ev X 42 0 [some (.ref 1), some (.int a1)] [] f (some (.int v')) f' := by
  rw [D_X5_append] at h
  refine am_Ew.start [] 18 (am_Ew.conv (fun k => (if (f 1 1) < 120 then (am_chk (f 1 1) 120 (some (some (.int 1), am_G0, (am_wr (am_wr f 2 (f 1 1).toNatClampNeg a1) 1 1 ((f 1 1) + 1))))) else (some (some (.int 0), am_G0, f)))) (fun k => rfl) ?_)
  refine am_Ew.ite h (fun _ h => ?_) (fun _ h => ?_)
  · refine am_Ew.chk h (fun h => ?_)
    exact am_Ew.retI h
  · exact am_Ew.retI h
set_option maxHeartbeats 400000 in
set_option maxRecDepth 100000 in
theorem lk_X5_isWordLetter {X : am_X} {a0 : Int32} {f f' : am_M} {v' : Int32} (h : D_X5_isWordLetter a0 f = some (v', f')) : am_Ev X 53 0 [some (.int a0)] [] f (some (.int v')) f' := by
  rw [D_X5_isWordLetter] at h
  refine am_Ew.start [] 9 (am_Ew.conv (fun k => (if a0 < 97 then (some (some (.int 0), am_G0, f)) else (if 122 < a0 then (some (some (.int 0), am_G0, f)) else (some (some (.int 1), am_G0, f))))) (fun k => rfl) ?_)
  refine am_Ew.ite h (fun _ h => ?_) (fun _ h => ?_)
  · exact am_Ew.retI h
  · refine am_Ew.ite h (fun _ h => ?_) (fun _ h => ?_)
    · exact am_Ew.retI h
    · exact am_Ew.retI h
set_option maxHeartbeats 400000 in
set_option maxRecDepth 100000 in
theorem lk_X5_isFigure {X : am_X} {a0 : Int32} {f f' : am_M} {v' : Int32} (h : D_X5_isFigure a0 f = some (v', f')) : am_Ev X 54 0 [some (.int a0)] [] f (some (.int v')) f' := by
  rw [D_X5_isFigure] at h
  refine am_Ew.start [] 9 (am_Ew.conv (fun k => (if a0 < 48 then (some (some (.int 0), am_G0, f)) else (if 57 < a0 then (some (some (.int 0), am_G0, f)) else (some (some (.int 1), am_G0, f))))) (fun k => rfl) ?_)
  refine am_Ew.ite h (fun _ h => ?_) (fun _ h => ?_)
  · exact am_Ew.retI h
  · refine am_Ew.ite h (fun _ h => ?_) (fun _ h => ?_)
    · exact am_Ew.retI h
    · exact am_Ew.retI h
set_option maxHeartbeats 400000 in
set_option maxRecDepth 100000 in
theorem lk_X6_reset {X : am_X} {f f' : am_M} (h : D_X6_reset f = some f') : am_Ev X 56 0 [some (.ref 7)] [] f none f' := by
  rw [D_X6_reset] at h
  refine am_Ew.start [] 10 (am_Ew.conv (fun k => (some (none, am_G0, (am_wr (am_wr (am_wr f 7 0 8) 7 1 0) 7 2 0)))) (fun k => rfl) ?_)
  exact am_Ew.retV h
set_option maxHeartbeats 400000 in
set_option maxRecDepth 100000 in
theorem lk_X6_hasMaker {X : am_X} {a1 : Int32} {f f' : am_M} {v' : Int32} (h : D_X6_hasMaker a1 f = some (v', f')) : am_Ev X 58 0 [some (.ref 3), some (.int a1)] [] f (some (.int v')) f' := by
  rw [D_X6_hasMaker] at h
  refine am_Ew.start [] 9 (am_Ew.conv (fun k => (if a1 < 0 then (some (some (.int 0), am_G0, f)) else (if a1 < (f 3 1) then (some (some (.int 1), am_G0, f)) else (some (some (.int 0), am_G0, f))))) (fun k => rfl) ?_)
  refine am_Ew.ite h (fun _ h => ?_) (fun _ h => ?_)
  · exact am_Ew.retI h
  · refine am_Ew.ite h (fun _ h => ?_) (fun _ h => ?_)
    · exact am_Ew.retI h
    · exact am_Ew.retI h
set_option maxHeartbeats 400000 in
set_option maxRecDepth 100000 in
theorem lk_X6_hasTaker {X : am_X} {a1 : Int32} {f f' : am_M} {v' : Int32} (h : D_X6_hasTaker a1 f = some (v', f')) : am_Ev X 59 0 [some (.ref 3), some (.int a1)] [] f (some (.int v')) f' := by
  rw [D_X6_hasTaker] at h
  refine am_Ew.start [] 9 (am_Ew.conv (fun k => (if a1 < 0 then (some (some (.int 0), am_G0, f)) else (if a1 < (f 3 2) then (some (some (.int 1), am_G0, f)) else (some (some (.int 0), am_G0, f))))) (fun k => rfl) ?_)
  refine am_Ew.ite h (fun _ h => ?_) (fun _ h => ?_)
  · exact am_Ew.retI h
  · refine am_Ew.ite h (fun _ h => ?_) (fun _ h => ?_)
    · exact am_Ew.retI h
    · exact am_Ew.retI h
set_option maxHeartbeats 400000 in
set_option maxRecDepth 100000 in
theorem lk_X6_addMaker {X : am_X} {a1 : Int32} {f f' : am_M} {v' : Int32} (h : D_X6_addMaker a1 f = some (v', f')) : am_Ev X 60 0 [some (.ref 7), some (.int a1)] [] f (some (.int v')) f' := by
  rw [D_X6_addMaker] at h
  refine am_Ew.start [] 18 (am_Ew.conv (fun k => (if (f 7 1) < 3 then (am_chk (f 7 1) 3 (some (some (.int 1), am_G0, (am_wr (am_wr f 8 (f 7 1).toNatClampNeg a1) 7 1 ((f 7 1) + 1))))) else (some (some (.int 0), am_G0, f)))) (fun k => rfl) ?_)
  refine am_Ew.ite h (fun _ h => ?_) (fun _ h => ?_)
  · refine am_Ew.chk h (fun h => ?_)
    exact am_Ew.retI h
  · exact am_Ew.retI h
set_option maxHeartbeats 400000 in
set_option maxRecDepth 100000 in
theorem lk_X6_addTaker {X : am_X} {a1 a2 : Int32} {f f' : am_M} {v' : Int32} (h : D_X6_addTaker a1 a2 f = some (v', f')) : am_Ev X 61 0 [some (.ref 7), some (.int a1), some (.int a2)] [] f (some (.int v')) f' := by
  rw [D_X6_addTaker] at h
  refine am_Ew.start [] 24 (am_Ew.conv (fun k => (if (f 7 2) < 6 then (am_chk (f 7 2) 6 (am_chk (f 7 2) 6 (some (some (.int 1), am_G0, (am_wr (am_wr (am_wr f 9 (f 7 2).toNatClampNeg a1) 10 (f 7 2).toNatClampNeg a2) 7 2 ((f 7 2) + 1)))))) else (some (some (.int 0), am_G0, f)))) (fun k => rfl) ?_)
  refine am_Ew.ite h (fun _ h => ?_) (fun _ h => ?_)
  · refine am_Ew.chk h (fun h => ?_)
    refine am_Ew.chk h (fun h => ?_)
    exact am_Ew.retI h
  · exact am_Ew.retI h
set_option maxHeartbeats 400000 in
set_option maxRecDepth 100000 in
theorem lk_J6_bitCount_0f7a4 {X : am_X} {a0 : Int32} {f f' : am_M} {v' : Int32} (h : D_J6_bitCount_0f7a4 a0 f = some (v', f')) : am_Ev X 162 0 [some (.int a0)] [] f (some (.int v')) f' := by
  rw [D_J6_bitCount_0f7a4] at h
  refine am_Ew.start [] 42 (am_Ew.conv (fun k => (some (some (.int ((((((((a0 - ((a0.toUInt32 >>> ((1 : Int32).toUInt32 &&& Int32.toUInt32 31)).toInt32 &&& (am_int 1431655765))) &&& (am_int 858993459)) + (((a0 - ((a0.toUInt32 >>> ((1 : Int32).toUInt32 &&& Int32.toUInt32 31)).toInt32 &&& (am_int 1431655765))).toUInt32 >>> ((2 : Int32).toUInt32 &&& Int32.toUInt32 31)).toInt32 &&& (am_int 858993459))) + ((((a0 - ((a0.toUInt32 >>> ((1 : Int32).toUInt32 &&& Int32.toUInt32 31)).toInt32 &&& (am_int 1431655765))) &&& (am_int 858993459)) + (((a0 - ((a0.toUInt32 >>> ((1 : Int32).toUInt32 &&& Int32.toUInt32 31)).toInt32 &&& (am_int 1431655765))).toUInt32 >>> ((2 : Int32).toUInt32 &&& Int32.toUInt32 31)).toInt32 &&& (am_int 858993459))).toUInt32 >>> ((4 : Int32).toUInt32 &&& Int32.toUInt32 31)).toInt32) &&& (am_int 252645135)) + ((((((a0 - ((a0.toUInt32 >>> ((1 : Int32).toUInt32 &&& Int32.toUInt32 31)).toInt32 &&& (am_int 1431655765))) &&& (am_int 858993459)) + (((a0 - ((a0.toUInt32 >>> ((1 : Int32).toUInt32 &&& Int32.toUInt32 31)).toInt32 &&& (am_int 1431655765))).toUInt32 >>> ((2 : Int32).toUInt32 &&& Int32.toUInt32 31)).toInt32 &&& (am_int 858993459))) + ((((a0 - ((a0.toUInt32 >>> ((1 : Int32).toUInt32 &&& Int32.toUInt32 31)).toInt32 &&& (am_int 1431655765))) &&& (am_int 858993459)) + (((a0 - ((a0.toUInt32 >>> ((1 : Int32).toUInt32 &&& Int32.toUInt32 31)).toInt32 &&& (am_int 1431655765))).toUInt32 >>> ((2 : Int32).toUInt32 &&& Int32.toUInt32 31)).toInt32 &&& (am_int 858993459))).toUInt32 >>> ((4 : Int32).toUInt32 &&& Int32.toUInt32 31)).toInt32) &&& (am_int 252645135)).toUInt32 >>> ((8 : Int32).toUInt32 &&& Int32.toUInt32 31)).toInt32) + (((((((a0 - ((a0.toUInt32 >>> ((1 : Int32).toUInt32 &&& Int32.toUInt32 31)).toInt32 &&& (am_int 1431655765))) &&& (am_int 858993459)) + (((a0 - ((a0.toUInt32 >>> ((1 : Int32).toUInt32 &&& Int32.toUInt32 31)).toInt32 &&& (am_int 1431655765))).toUInt32 >>> ((2 : Int32).toUInt32 &&& Int32.toUInt32 31)).toInt32 &&& (am_int 858993459))) + ((((a0 - ((a0.toUInt32 >>> ((1 : Int32).toUInt32 &&& Int32.toUInt32 31)).toInt32 &&& (am_int 1431655765))) &&& (am_int 858993459)) + (((a0 - ((a0.toUInt32 >>> ((1 : Int32).toUInt32 &&& Int32.toUInt32 31)).toInt32 &&& (am_int 1431655765))).toUInt32 >>> ((2 : Int32).toUInt32 &&& Int32.toUInt32 31)).toInt32 &&& (am_int 858993459))).toUInt32 >>> ((4 : Int32).toUInt32 &&& Int32.toUInt32 31)).toInt32) &&& (am_int 252645135)) + ((((((a0 - ((a0.toUInt32 >>> ((1 : Int32).toUInt32 &&& Int32.toUInt32 31)).toInt32 &&& (am_int 1431655765))) &&& (am_int 858993459)) + (((a0 - ((a0.toUInt32 >>> ((1 : Int32).toUInt32 &&& Int32.toUInt32 31)).toInt32 &&& (am_int 1431655765))).toUInt32 >>> ((2 : Int32).toUInt32 &&& Int32.toUInt32 31)).toInt32 &&& (am_int 858993459))) + ((((a0 - ((a0.toUInt32 >>> ((1 : Int32).toUInt32 &&& Int32.toUInt32 31)).toInt32 &&& (am_int 1431655765))) &&& (am_int 858993459)) + (((a0 - ((a0.toUInt32 >>> ((1 : Int32).toUInt32 &&& Int32.toUInt32 31)).toInt32 &&& (am_int 1431655765))).toUInt32 >>> ((2 : Int32).toUInt32 &&& Int32.toUInt32 31)).toInt32 &&& (am_int 858993459))).toUInt32 >>> ((4 : Int32).toUInt32 &&& Int32.toUInt32 31)).toInt32) &&& (am_int 252645135)).toUInt32 >>> ((8 : Int32).toUInt32 &&& Int32.toUInt32 31)).toInt32).toUInt32 >>> ((16 : Int32).toUInt32 &&& Int32.toUInt32 31)).toInt32) &&& 63)), am_G0, f))) (fun k => rfl) ?_)
  exact am_Ew.retI h
set_option maxHeartbeats 400000 in
set_option maxRecDepth 100000 in
theorem lk_J9_max_7cf53 {X : am_X} {a0 a1 : Int32} {f f' : am_M} {v' : Int32} (h : D_J9_max_7cf53 a0 a1 f = some (v', f')) : am_Ev X 163 0 [some (.int a0), some (.int a1)] [] f (some (.int v')) f' := by
  rw [D_J9_max_7cf53] at h
  refine am_Ew.start [] 6 (am_Ew.conv (fun k => (if a0 < a1 then (some (some (.int a1), am_G0, f)) else (some (some (.int a0), am_G0, f)))) (fun k => rfl) ?_)
  refine am_Ew.ite h (fun _ h => ?_) (fun _ h => ?_)
  · exact am_Ew.retI h
  · exact am_Ew.retI h
set_option maxHeartbeats 400000 in
set_option maxRecDepth 100000 in
theorem lk_J9_min_7cf53 {X : am_X} {a0 a1 : Int32} {f f' : am_M} {v' : Int32} (h : D_J9_min_7cf53 a0 a1 f = some (v', f')) : am_Ev X 164 0 [some (.int a0), some (.int a1)] [] f (some (.int v')) f' := by
  rw [D_J9_min_7cf53] at h
  refine am_Ew.start [] 6 (am_Ew.conv (fun k => (if a1 < a0 then (some (some (.int a1), am_G0, f)) else (some (some (.int a0), am_G0, f)))) (fun k => rfl) ?_)
  refine am_Ew.ite h (fun _ h => ?_) (fun _ h => ?_)
  · exact am_Ew.retI h
  · exact am_Ew.retI h
set_option maxHeartbeats 400000 in
set_option maxRecDepth 100000 in
theorem lk_X3_lastTick_4 {X : am_X} : ∀ (n : Nat) (x1 x2 : Int32) (f : am_M) (v' : Int32) (f' : am_M), D_X3_lastTick_4 n x1 x2 f = some (v', f') → am_Ev X 13 4 [some (.ref 88), some (.int x1), some (.int x2)] [] f (some (.int v')) f'
  | 0, _, _, _, _, _, h => by cases h
  | n + 1, x1, x2, f, v', f', h => by
    rw [D_X3_lastTick_4] at h
    refine am_Ew.start [19] 9 (am_Ew.conv (fun k => (if x2 < (f 88 2) then (am_chk x2 6 (k 19 [some (.ref 88), some (.int x1), some (.int x2)] [.int (f 89 x2.toNatClampNeg), .int x1] am_G0 f)) else (some (some (.int x1), am_G0, f)))) (fun k => rfl) ?_)
    refine am_Ew.ite h (fun _ h => ?_) (fun _ h => ?_)
    · refine am_Ew.chk h (fun h => ?_)
      obtain ⟨v1, f1, h1, h⟩ := am_bI_some h
      refine am_Ew.run (am_Ev.call (fun n => rfl) (lk_J9_max_7cf53 h1) ?_)
      refine am_Ew.start [4] 3 (am_Ew.conv (fun k => (k 4 [some (.ref 88), some (.int v1), some (.int (x2 + 1))] [] am_G0 f1)) (fun k => rfl) ?_)
      exact am_Ew.run (lk_X3_lastTick_4  n _ _ _ _ _ h )
    · exact am_Ew.retI h
set_option maxHeartbeats 400000 in
set_option maxRecDepth 100000 in
theorem lk_X3_lastTick {X : am_X} {f f' : am_M} {v' : Int32} (h : D_X3_lastTick f = some (v', f')) : am_Ev X 13 0 [some (.ref 88), none, none] [] f (some (.int v')) f' := by
  rw [D_X3_lastTick] at h
  refine am_Ew.start [4] 4 (am_Ew.conv (fun k => (k 4 [some (.ref 88), some (.int 0), some (.int 0)] [] am_G0 f)) (fun k => rfl) ?_)
  exact am_Ew.run (lk_X3_lastTick_4 _ _ _ _ _ _ h )
set_option maxHeartbeats 400000 in
set_option maxRecDepth 100000 in
theorem lk_X5_readNumber_13 {X : am_X} : ∀ (n : Nat) (f : am_M) (f' : am_M), D_X5_readNumber_13 n  f = some f' → ∀ d1 : Option Value, am_Ev X 51 13 [some (.ref 1), d1] [] f none f'
  | 0, _, _, h, _ => by cases h
  | n + 1, f, f', h, d1 => by
    rw [D_X5_readNumber_13] at h
    refine am_Ew.start [33] 32 (am_Ew.conv (fun k => (if (f 1 4) < (f 1 1) then (am_chk (f 1 4) 120 (k 33 [some (.ref 1), d1] [.int (f 2 (f 1 4).toNatClampNeg)] am_G0 f)) else (am_chk (f 1 3) 120 (if (f 2 (f 1 3).toNatClampNeg) = 48 then (if ((f 1 3) + 1) < (f 1 4) then (some (none, am_G0, (am_wr f 1 2 6))) else (if 99 < (f 1 5) then (some (none, am_G0, (am_wr f 1 2 6))) else (some (none, am_G0, (am_wr f 1 2 4))))) else (if 99 < (f 1 5) then (some (none, am_G0, (am_wr f 1 2 6))) else (some (none, am_G0, (am_wr f 1 2 4)))))))) (fun k => rfl) ?_)
    refine am_Ew.ite h (fun _ h => ?_) (fun _ h => ?_)
    · refine am_Ew.chk h (fun h => ?_)
      obtain ⟨v1, f1, h1, h⟩ := am_bI_some h
      refine am_Ew.run (am_Ev.call (fun n => rfl) (lk_X5_isFigure h1) ?_)
      refine am_Ew.start [62] 28 (am_Ew.conv (fun k => (if v1 = 0 then (am_chk (f1 1 3) 120 (if (f1 2 (f1 1 3).toNatClampNeg) = 48 then (if ((f1 1 3) + 1) < (f1 1 4) then (some (none, am_G0, (am_wr f1 1 2 6))) else (if 99 < (f1 1 5) then (some (none, am_G0, (am_wr f1 1 2 6))) else (some (none, am_G0, (am_wr f1 1 2 4))))) else (if 99 < (f1 1 5) then (some (none, am_G0, (am_wr f1 1 2 6))) else (some (none, am_G0, (am_wr f1 1 2 4)))))) else (am_chk (f1 1 4) 120 (k 62 [some (.ref 1), d1] [.int 100, .int ((((10 : Int32) * (f1 1 5)) + (f1 2 (f1 1 4).toNatClampNeg)) - 48), .ref 1] am_G0 f1)))) (fun k => rfl) ?_)
      refine am_Ew.ite h (fun _ h => ?_) (fun _ h => ?_)
      · refine am_Ew.chk h (fun h => ?_)
        refine am_Ew.ite h (fun _ h => ?_) (fun _ h => ?_)
        · refine am_Ew.ite h (fun _ h => ?_) (fun _ h => ?_)
          · exact am_Ew.retV h
          · refine am_Ew.ite h (fun _ h => ?_) (fun _ h => ?_)
            · exact am_Ew.retV h
            · exact am_Ew.retV h
        · refine am_Ew.ite h (fun _ h => ?_) (fun _ h => ?_)
          · exact am_Ew.retV h
          · exact am_Ew.retV h
      · refine am_Ew.chk h (fun h => ?_)
        obtain ⟨v2, f2, h1, h⟩ := am_bI_some h
        refine am_Ew.run (am_Ev.call (fun n => rfl) (lk_J9_min_7cf53 h1) ?_)
        refine am_Ew.start [13] 8 (am_Ew.conv (fun k => (k 13 [some (.ref 1), d1] [] am_G0 (am_wr (am_wr f2 1 5 v2) 1 4 ((f2 1 4) + 1)))) (fun k => rfl) ?_)
        exact am_Ew.run (lk_X5_readNumber_13  n _ _ h _ )
    · refine am_Ew.chk h (fun h => ?_)
      refine am_Ew.ite h (fun _ h => ?_) (fun _ h => ?_)
      · refine am_Ew.ite h (fun _ h => ?_) (fun _ h => ?_)
        · exact am_Ew.retV h
        · refine am_Ew.ite h (fun _ h => ?_) (fun _ h => ?_)
          · exact am_Ew.retV h
          · exact am_Ew.retV h
      · refine am_Ew.ite h (fun _ h => ?_) (fun _ h => ?_)
        · exact am_Ew.retV h
        · exact am_Ew.retV h
set_option maxHeartbeats 400000 in
set_option maxRecDepth 100000 in
theorem lk_X5_readNumber {X : am_X} {f f' : am_M} (h : D_X5_readNumber f = some f') : am_Ev X 51 0 [some (.ref 1), none] [] f none f' := by
  rw [D_X5_readNumber] at h
  refine am_Ew.start [13] 7 (am_Ew.conv (fun k => (k 13 [some (.ref 1), none] [] am_G0 (am_wr (am_wr f 1 5 0) 1 4 (f 1 3)))) (fun k => rfl) ?_)
  exact am_Ew.run (lk_X5_readNumber_13 _ _ _ h _ )
set_option maxHeartbeats 400000 in
set_option maxRecDepth 100000 in
theorem lk_X6_copyFrom {X : am_X} {f f' : am_M} (h : D_X6_copyFrom f = some f') : am_Ev X 57 0 [some (.ref 3), some (.ref 7)] [] f none f' := by
  rw [D_X6_copyFrom] at h
  refine am_Ew.start [] 37 (am_Ew.conv (fun k => (some (none, am_G0, (am_cp (am_cp (am_cp (am_wr (am_wr (am_wr f 3 0 (f 7 0)) 3 1 (f 7 1)) 3 2 (f 7 2)) 8 4 0 0 3) 9 5 0 0 6) 10 6 0 0 6)))) (fun k => rfl) ?_)
  exact am_Ew.retV h
set_option maxHeartbeats 400000 in
set_option maxRecDepth 100000 in
theorem lk_X5_isWord_0 {X : am_X} {f f' : am_M} {v' : Int32} (h : D_X5_isWord_0 f = some (v', f')) : am_Ev X 52 0 [some (.ref 1), some (.ref 1010), none] [] f (some (.int v')) f' := by
  rw [D_X5_isWord_0] at h
  refine am_Ew.start [10] 6 (am_Ew.conv (fun k => (k 10 [some (.ref 1), some (.ref 1010), none] [.ref 1010, .int ((f 1 4) - (f 1 3))] am_G0 f)) (fun k => rfl) ?_)
  refine am_Ew.run (am_Ev.call (fun n => rfl) (lk_len_0 X f) ?_)
  refine am_Ew.start [22] 5 (am_Ew.conv (fun k => (if ((f 1 4) - (f 1 3)) = 5 then (k 22 [some (.ref 1), some (.ref 1010), some (.int 0)] [.ref 1010, .int 0] am_G0 f) else (some (some (.int 0), am_G0, f)))) (fun k => rfl) ?_)
  refine am_Ew.ite h (fun _ h => ?_) (fun _ h => ?_)
  · refine am_Ew.run (am_Ev.call (fun n => rfl) (lk_len_0 X f) ?_)
    refine am_Ew.start [41] 10 (am_Ew.conv (fun k => (am_chk ((f 1 3) + 0) 120 (k 41 [some (.ref 1), some (.ref 1010), some (.int 0)] [.int 0, .ref 1010, .int (f 2 ((f 1 3) + 0).toNatClampNeg)] am_G0 f))) (fun k => rfl) ?_)
    refine am_Ew.chk h (fun h => ?_)
    refine am_Ew.run (am_Ev.call (fun n => rfl) (lk_chr_0_0 X f) ?_)
    refine am_Ew.start [22] 5 (am_Ew.conv (fun k => (if (f 2 ((f 1 3) + 0).toNatClampNeg) = 115 then (k 22 [some (.ref 1), some (.ref 1010), some (.int 1)] [.ref 1010, .int 1] am_G0 f) else (some (some (.int 0), am_G0, f)))) (fun k => rfl) ?_)
    refine am_Ew.ite h (fun _ h => ?_) (fun _ h => ?_)
    · refine am_Ew.run (am_Ev.call (fun n => rfl) (lk_len_0 X f) ?_)
      refine am_Ew.start [41] 10 (am_Ew.conv (fun k => (am_chk ((f 1 3) + 1) 120 (k 41 [some (.ref 1), some (.ref 1010), some (.int 1)] [.int 1, .ref 1010, .int (f 2 ((f 1 3) + 1).toNatClampNeg)] am_G0 f))) (fun k => rfl) ?_)
      refine am_Ew.chk h (fun h => ?_)
      refine am_Ew.run (am_Ev.call (fun n => rfl) (lk_chr_0_1 X f) ?_)
      refine am_Ew.start [22] 5 (am_Ew.conv (fun k => (if (f 2 ((f 1 3) + 1).toNatClampNeg) = 108 then (k 22 [some (.ref 1), some (.ref 1010), some (.int 2)] [.ref 1010, .int 2] am_G0 f) else (some (some (.int 0), am_G0, f)))) (fun k => rfl) ?_)
      refine am_Ew.ite h (fun _ h => ?_) (fun _ h => ?_)
      · refine am_Ew.run (am_Ev.call (fun n => rfl) (lk_len_0 X f) ?_)
        refine am_Ew.start [41] 10 (am_Ew.conv (fun k => (am_chk ((f 1 3) + 2) 120 (k 41 [some (.ref 1), some (.ref 1010), some (.int 2)] [.int 2, .ref 1010, .int (f 2 ((f 1 3) + 2).toNatClampNeg)] am_G0 f))) (fun k => rfl) ?_)
        refine am_Ew.chk h (fun h => ?_)
        refine am_Ew.run (am_Ev.call (fun n => rfl) (lk_chr_0_2 X f) ?_)
        refine am_Ew.start [22] 5 (am_Ew.conv (fun k => (if (f 2 ((f 1 3) + 2).toNatClampNeg) = 111 then (k 22 [some (.ref 1), some (.ref 1010), some (.int 3)] [.ref 1010, .int 3] am_G0 f) else (some (some (.int 0), am_G0, f)))) (fun k => rfl) ?_)
        refine am_Ew.ite h (fun _ h => ?_) (fun _ h => ?_)
        · refine am_Ew.run (am_Ev.call (fun n => rfl) (lk_len_0 X f) ?_)
          refine am_Ew.start [41] 10 (am_Ew.conv (fun k => (am_chk ((f 1 3) + 3) 120 (k 41 [some (.ref 1), some (.ref 1010), some (.int 3)] [.int 3, .ref 1010, .int (f 2 ((f 1 3) + 3).toNatClampNeg)] am_G0 f))) (fun k => rfl) ?_)
          refine am_Ew.chk h (fun h => ?_)
          refine am_Ew.run (am_Ev.call (fun n => rfl) (lk_chr_0_3 X f) ?_)
          refine am_Ew.start [22] 5 (am_Ew.conv (fun k => (if (f 2 ((f 1 3) + 3).toNatClampNeg) = 116 then (k 22 [some (.ref 1), some (.ref 1010), some (.int 4)] [.ref 1010, .int 4] am_G0 f) else (some (some (.int 0), am_G0, f)))) (fun k => rfl) ?_)
          refine am_Ew.ite h (fun _ h => ?_) (fun _ h => ?_)
          · refine am_Ew.run (am_Ev.call (fun n => rfl) (lk_len_0 X f) ?_)
            refine am_Ew.start [41] 10 (am_Ew.conv (fun k => (am_chk ((f 1 3) + 4) 120 (k 41 [some (.ref 1), some (.ref 1010), some (.int 4)] [.int 4, .ref 1010, .int (f 2 ((f 1 3) + 4).toNatClampNeg)] am_G0 f))) (fun k => rfl) ?_)
            refine am_Ew.chk h (fun h => ?_)
            refine am_Ew.run (am_Ev.call (fun n => rfl) (lk_chr_0_4 X f) ?_)
            refine am_Ew.start [22] 5 (am_Ew.conv (fun k => (if (f 2 ((f 1 3) + 4).toNatClampNeg) = 115 then (k 22 [some (.ref 1), some (.ref 1010), some (.int 5)] [.ref 1010, .int 5] am_G0 f) else (some (some (.int 0), am_G0, f)))) (fun k => rfl) ?_)
            refine am_Ew.ite h (fun _ h => ?_) (fun _ h => ?_)
            · refine am_Ew.run (am_Ev.call (fun n => rfl) (lk_len_0 X f) ?_)
              refine am_Ew.start [] 3 (am_Ew.conv (fun k => (some (some (.int 1), am_G0, f))) (fun k => rfl) ?_)
              exact am_Ew.retI h
            · exact am_Ew.retI h
          · exact am_Ew.retI h
        · exact am_Ew.retI h
      · exact am_Ew.retI h
    · exact am_Ew.retI h
  · exact am_Ew.retI h
set_option maxHeartbeats 400000 in
set_option maxRecDepth 100000 in
theorem lk_X5_isWord_1 {X : am_X} {f f' : am_M} {v' : Int32} (h : D_X5_isWord_1 f = some (v', f')) : am_Ev X 52 0 [some (.ref 1), some (.ref 1011), none] [] f (some (.int v')) f' := by
  rw [D_X5_isWord_1] at h
  refine am_Ew.start [10] 6 (am_Ew.conv (fun k => (k 10 [some (.ref 1), some (.ref 1011), none] [.ref 1011, .int ((f 1 4) - (f 1 3))] am_G0 f)) (fun k => rfl) ?_)
  refine am_Ew.run (am_Ev.call (fun n => rfl) (lk_len_1 X f) ?_)
  refine am_Ew.start [22] 5 (am_Ew.conv (fun k => (if ((f 1 4) - (f 1 3)) = 5 then (k 22 [some (.ref 1), some (.ref 1011), some (.int 0)] [.ref 1011, .int 0] am_G0 f) else (some (some (.int 0), am_G0, f)))) (fun k => rfl) ?_)
  refine am_Ew.ite h (fun _ h => ?_) (fun _ h => ?_)
  · refine am_Ew.run (am_Ev.call (fun n => rfl) (lk_len_1 X f) ?_)
    refine am_Ew.start [41] 10 (am_Ew.conv (fun k => (am_chk ((f 1 3) + 0) 120 (k 41 [some (.ref 1), some (.ref 1011), some (.int 0)] [.int 0, .ref 1011, .int (f 2 ((f 1 3) + 0).toNatClampNeg)] am_G0 f))) (fun k => rfl) ?_)
    refine am_Ew.chk h (fun h => ?_)
    refine am_Ew.run (am_Ev.call (fun n => rfl) (lk_chr_1_0 X f) ?_)
    refine am_Ew.start [22] 5 (am_Ew.conv (fun k => (if (f 2 ((f 1 3) + 0).toNatClampNeg) = 109 then (k 22 [some (.ref 1), some (.ref 1011), some (.int 1)] [.ref 1011, .int 1] am_G0 f) else (some (some (.int 0), am_G0, f)))) (fun k => rfl) ?_)
    refine am_Ew.ite h (fun _ h => ?_) (fun _ h => ?_)
    · refine am_Ew.run (am_Ev.call (fun n => rfl) (lk_len_1 X f) ?_)
      refine am_Ew.start [41] 10 (am_Ew.conv (fun k => (am_chk ((f 1 3) + 1) 120 (k 41 [some (.ref 1), some (.ref 1011), some (.int 1)] [.int 1, .ref 1011, .int (f 2 ((f 1 3) + 1).toNatClampNeg)] am_G0 f))) (fun k => rfl) ?_)
      refine am_Ew.chk h (fun h => ?_)
      refine am_Ew.run (am_Ev.call (fun n => rfl) (lk_chr_1_1 X f) ?_)
      refine am_Ew.start [22] 5 (am_Ew.conv (fun k => (if (f 2 ((f 1 3) + 1).toNatClampNeg) = 97 then (k 22 [some (.ref 1), some (.ref 1011), some (.int 2)] [.ref 1011, .int 2] am_G0 f) else (some (some (.int 0), am_G0, f)))) (fun k => rfl) ?_)
      refine am_Ew.ite h (fun _ h => ?_) (fun _ h => ?_)
      · refine am_Ew.run (am_Ev.call (fun n => rfl) (lk_len_1 X f) ?_)
        refine am_Ew.start [41] 10 (am_Ew.conv (fun k => (am_chk ((f 1 3) + 2) 120 (k 41 [some (.ref 1), some (.ref 1011), some (.int 2)] [.int 2, .ref 1011, .int (f 2 ((f 1 3) + 2).toNatClampNeg)] am_G0 f))) (fun k => rfl) ?_)
        refine am_Ew.chk h (fun h => ?_)
        refine am_Ew.run (am_Ev.call (fun n => rfl) (lk_chr_1_2 X f) ?_)
        refine am_Ew.start [22] 5 (am_Ew.conv (fun k => (if (f 2 ((f 1 3) + 2).toNatClampNeg) = 107 then (k 22 [some (.ref 1), some (.ref 1011), some (.int 3)] [.ref 1011, .int 3] am_G0 f) else (some (some (.int 0), am_G0, f)))) (fun k => rfl) ?_)
        refine am_Ew.ite h (fun _ h => ?_) (fun _ h => ?_)
        · refine am_Ew.run (am_Ev.call (fun n => rfl) (lk_len_1 X f) ?_)
          refine am_Ew.start [41] 10 (am_Ew.conv (fun k => (am_chk ((f 1 3) + 3) 120 (k 41 [some (.ref 1), some (.ref 1011), some (.int 3)] [.int 3, .ref 1011, .int (f 2 ((f 1 3) + 3).toNatClampNeg)] am_G0 f))) (fun k => rfl) ?_)
          refine am_Ew.chk h (fun h => ?_)
          refine am_Ew.run (am_Ev.call (fun n => rfl) (lk_chr_1_3 X f) ?_)
          refine am_Ew.start [22] 5 (am_Ew.conv (fun k => (if (f 2 ((f 1 3) + 3).toNatClampNeg) = 101 then (k 22 [some (.ref 1), some (.ref 1011), some (.int 4)] [.ref 1011, .int 4] am_G0 f) else (some (some (.int 0), am_G0, f)))) (fun k => rfl) ?_)
          refine am_Ew.ite h (fun _ h => ?_) (fun _ h => ?_)
          · refine am_Ew.run (am_Ev.call (fun n => rfl) (lk_len_1 X f) ?_)
            refine am_Ew.start [41] 10 (am_Ew.conv (fun k => (am_chk ((f 1 3) + 4) 120 (k 41 [some (.ref 1), some (.ref 1011), some (.int 4)] [.int 4, .ref 1011, .int (f 2 ((f 1 3) + 4).toNatClampNeg)] am_G0 f))) (fun k => rfl) ?_)
            refine am_Ew.chk h (fun h => ?_)
            refine am_Ew.run (am_Ev.call (fun n => rfl) (lk_chr_1_4 X f) ?_)
            refine am_Ew.start [22] 5 (am_Ew.conv (fun k => (if (f 2 ((f 1 3) + 4).toNatClampNeg) = 114 then (k 22 [some (.ref 1), some (.ref 1011), some (.int 5)] [.ref 1011, .int 5] am_G0 f) else (some (some (.int 0), am_G0, f)))) (fun k => rfl) ?_)
            refine am_Ew.ite h (fun _ h => ?_) (fun _ h => ?_)
            · refine am_Ew.run (am_Ev.call (fun n => rfl) (lk_len_1 X f) ?_)
              refine am_Ew.start [] 3 (am_Ew.conv (fun k => (some (some (.int 1), am_G0, f))) (fun k => rfl) ?_)
              exact am_Ew.retI h
            · exact am_Ew.retI h
          · exact am_Ew.retI h
        · exact am_Ew.retI h
      · exact am_Ew.retI h
    · exact am_Ew.retI h
  · exact am_Ew.retI h
set_option maxHeartbeats 400000 in
set_option maxRecDepth 100000 in
theorem lk_X5_isWord_2 {X : am_X} {f f' : am_M} {v' : Int32} (h : D_X5_isWord_2 f = some (v', f')) : am_Ev X 52 0 [some (.ref 1), some (.ref 1012), none] [] f (some (.int v')) f' := by
  rw [D_X5_isWord_2] at h
  refine am_Ew.start [10] 6 (am_Ew.conv (fun k => (k 10 [some (.ref 1), some (.ref 1012), none] [.ref 1012, .int ((f 1 4) - (f 1 3))] am_G0 f)) (fun k => rfl) ?_)
  refine am_Ew.run (am_Ev.call (fun n => rfl) (lk_len_2 X f) ?_)
  refine am_Ew.start [22] 5 (am_Ew.conv (fun k => (if ((f 1 4) - (f 1 3)) = 5 then (k 22 [some (.ref 1), some (.ref 1012), some (.int 0)] [.ref 1012, .int 0] am_G0 f) else (some (some (.int 0), am_G0, f)))) (fun k => rfl) ?_)
  refine am_Ew.ite h (fun _ h => ?_) (fun _ h => ?_)
  · refine am_Ew.run (am_Ev.call (fun n => rfl) (lk_len_2 X f) ?_)
    refine am_Ew.start [41] 10 (am_Ew.conv (fun k => (am_chk ((f 1 3) + 0) 120 (k 41 [some (.ref 1), some (.ref 1012), some (.int 0)] [.int 0, .ref 1012, .int (f 2 ((f 1 3) + 0).toNatClampNeg)] am_G0 f))) (fun k => rfl) ?_)
    refine am_Ew.chk h (fun h => ?_)
    refine am_Ew.run (am_Ev.call (fun n => rfl) (lk_chr_2_0 X f) ?_)
    refine am_Ew.start [22] 5 (am_Ew.conv (fun k => (if (f 2 ((f 1 3) + 0).toNatClampNeg) = 116 then (k 22 [some (.ref 1), some (.ref 1012), some (.int 1)] [.ref 1012, .int 1] am_G0 f) else (some (some (.int 0), am_G0, f)))) (fun k => rfl) ?_)
    refine am_Ew.ite h (fun _ h => ?_) (fun _ h => ?_)
    · refine am_Ew.run (am_Ev.call (fun n => rfl) (lk_len_2 X f) ?_)
      refine am_Ew.start [41] 10 (am_Ew.conv (fun k => (am_chk ((f 1 3) + 1) 120 (k 41 [some (.ref 1), some (.ref 1012), some (.int 1)] [.int 1, .ref 1012, .int (f 2 ((f 1 3) + 1).toNatClampNeg)] am_G0 f))) (fun k => rfl) ?_)
      refine am_Ew.chk h (fun h => ?_)
      refine am_Ew.run (am_Ev.call (fun n => rfl) (lk_chr_2_1 X f) ?_)
      refine am_Ew.start [22] 5 (am_Ew.conv (fun k => (if (f 2 ((f 1 3) + 1).toNatClampNeg) = 97 then (k 22 [some (.ref 1), some (.ref 1012), some (.int 2)] [.ref 1012, .int 2] am_G0 f) else (some (some (.int 0), am_G0, f)))) (fun k => rfl) ?_)
      refine am_Ew.ite h (fun _ h => ?_) (fun _ h => ?_)
      · refine am_Ew.run (am_Ev.call (fun n => rfl) (lk_len_2 X f) ?_)
        refine am_Ew.start [41] 10 (am_Ew.conv (fun k => (am_chk ((f 1 3) + 2) 120 (k 41 [some (.ref 1), some (.ref 1012), some (.int 2)] [.int 2, .ref 1012, .int (f 2 ((f 1 3) + 2).toNatClampNeg)] am_G0 f))) (fun k => rfl) ?_)
        refine am_Ew.chk h (fun h => ?_)
        refine am_Ew.run (am_Ev.call (fun n => rfl) (lk_chr_2_2 X f) ?_)
        refine am_Ew.start [22] 5 (am_Ew.conv (fun k => (if (f 2 ((f 1 3) + 2).toNatClampNeg) = 107 then (k 22 [some (.ref 1), some (.ref 1012), some (.int 3)] [.ref 1012, .int 3] am_G0 f) else (some (some (.int 0), am_G0, f)))) (fun k => rfl) ?_)
        refine am_Ew.ite h (fun _ h => ?_) (fun _ h => ?_)
        · refine am_Ew.run (am_Ev.call (fun n => rfl) (lk_len_2 X f) ?_)
          refine am_Ew.start [41] 10 (am_Ew.conv (fun k => (am_chk ((f 1 3) + 3) 120 (k 41 [some (.ref 1), some (.ref 1012), some (.int 3)] [.int 3, .ref 1012, .int (f 2 ((f 1 3) + 3).toNatClampNeg)] am_G0 f))) (fun k => rfl) ?_)
          refine am_Ew.chk h (fun h => ?_)
          refine am_Ew.run (am_Ev.call (fun n => rfl) (lk_chr_2_3 X f) ?_)
          refine am_Ew.start [22] 5 (am_Ew.conv (fun k => (if (f 2 ((f 1 3) + 3).toNatClampNeg) = 101 then (k 22 [some (.ref 1), some (.ref 1012), some (.int 4)] [.ref 1012, .int 4] am_G0 f) else (some (some (.int 0), am_G0, f)))) (fun k => rfl) ?_)
          refine am_Ew.ite h (fun _ h => ?_) (fun _ h => ?_)
          · refine am_Ew.run (am_Ev.call (fun n => rfl) (lk_len_2 X f) ?_)
            refine am_Ew.start [41] 10 (am_Ew.conv (fun k => (am_chk ((f 1 3) + 4) 120 (k 41 [some (.ref 1), some (.ref 1012), some (.int 4)] [.int 4, .ref 1012, .int (f 2 ((f 1 3) + 4).toNatClampNeg)] am_G0 f))) (fun k => rfl) ?_)
            refine am_Ew.chk h (fun h => ?_)
            refine am_Ew.run (am_Ev.call (fun n => rfl) (lk_chr_2_4 X f) ?_)
            refine am_Ew.start [22] 5 (am_Ew.conv (fun k => (if (f 2 ((f 1 3) + 4).toNatClampNeg) = 114 then (k 22 [some (.ref 1), some (.ref 1012), some (.int 5)] [.ref 1012, .int 5] am_G0 f) else (some (some (.int 0), am_G0, f)))) (fun k => rfl) ?_)
            refine am_Ew.ite h (fun _ h => ?_) (fun _ h => ?_)
            · refine am_Ew.run (am_Ev.call (fun n => rfl) (lk_len_2 X f) ?_)
              refine am_Ew.start [] 3 (am_Ew.conv (fun k => (some (some (.int 1), am_G0, f))) (fun k => rfl) ?_)
              exact am_Ew.retI h
            · exact am_Ew.retI h
          · exact am_Ew.retI h
        · exact am_Ew.retI h
      · exact am_Ew.retI h
    · exact am_Ew.retI h
  · exact am_Ew.retI h
set_option maxHeartbeats 400000 in
set_option maxRecDepth 100000 in
theorem lk_X5_readWord_8 {X : am_X} : ∀ (n : Nat) (f : am_M) (f' : am_M), D_X5_readWord_8 n  f = some f' → am_Ev X 50 8 [some (.ref 1)] [] f none f'
  | 0, _, _, h => by cases h
  | n + 1, f, f', h => by
    rw [D_X5_readWord_8] at h
    refine am_Ew.start [28, 50] 10 (am_Ew.conv (fun k => (if (f 1 4) < (f 1 1) then (am_chk (f 1 4) 120 (k 28 [some (.ref 1)] [.int (f 2 (f 1 4).toNatClampNeg)] am_G0 f)) else (k 50 [some (.ref 1)] [.ref 1010, .ref 1] am_G0 f))) (fun k => rfl) ?_)
    refine am_Ew.ite h (fun _ h => ?_) (fun _ h => ?_)
    · refine am_Ew.chk h (fun h => ?_)
      obtain ⟨v1, f1, h1, h⟩ := am_bI_some h
      refine am_Ew.run (am_Ev.call (fun n => rfl) (lk_X5_isWordLetter h1) ?_)
      refine am_Ew.start [8, 50] 8 (am_Ew.conv (fun k => (if v1 = 0 then (k 50 [some (.ref 1)] [.ref 1010, .ref 1] am_G0 f1) else (k 8 [some (.ref 1)] [] am_G0 (am_wr f1 1 4 ((f1 1 4) + 1))))) (fun k => rfl) ?_)
      refine am_Ew.ite h (fun _ h => ?_) (fun _ h => ?_)
      · obtain ⟨v2, f2, h1, h⟩ := am_bI_some h
        refine am_Ew.run (am_Ev.call (fun n => rfl) (lk_X5_isWord_0 h1) ?_)
        refine am_Ew.start [67] 6 (am_Ew.conv (fun k => (if v2 = 0 then (k 67 [some (.ref 1)] [.ref 1011, .ref 1] am_G0 f2) else (some (none, am_G0, (am_wr f2 1 2 1))))) (fun k => rfl) ?_)
        refine am_Ew.ite h (fun _ h => ?_) (fun _ h => ?_)
        · obtain ⟨v3, f3, h1, h⟩ := am_bI_some h
          refine am_Ew.run (am_Ev.call (fun n => rfl) (lk_X5_isWord_1 h1) ?_)
          refine am_Ew.start [84] 6 (am_Ew.conv (fun k => (if v3 = 0 then (k 84 [some (.ref 1)] [.ref 1012, .ref 1] am_G0 f3) else (some (none, am_G0, (am_wr f3 1 2 2))))) (fun k => rfl) ?_)
          refine am_Ew.ite h (fun _ h => ?_) (fun _ h => ?_)
          · obtain ⟨v4, f4, h1, h⟩ := am_bI_some h
            refine am_Ew.run (am_Ev.call (fun n => rfl) (lk_X5_isWord_2 h1) ?_)
            refine am_Ew.start [] 6 (am_Ew.conv (fun k => (if v4 = 0 then (some (none, am_G0, (am_wr f4 1 2 6))) else (some (none, am_G0, (am_wr f4 1 2 3))))) (fun k => rfl) ?_)
            refine am_Ew.ite h (fun _ h => ?_) (fun _ h => ?_)
            · exact am_Ew.retV h
            · exact am_Ew.retV h
          · exact am_Ew.retV h
        · exact am_Ew.retV h
      · exact am_Ew.run (lk_X5_readWord_8  n _ _ h )
    · obtain ⟨v5, f5, h1, h⟩ := am_bI_some h
      refine am_Ew.run (am_Ev.call (fun n => rfl) (lk_X5_isWord_0 h1) ?_)
      refine am_Ew.start [67] 6 (am_Ew.conv (fun k => (if v5 = 0 then (k 67 [some (.ref 1)] [.ref 1011, .ref 1] am_G0 f5) else (some (none, am_G0, (am_wr f5 1 2 1))))) (fun k => rfl) ?_)
      refine am_Ew.ite h (fun _ h => ?_) (fun _ h => ?_)
      · obtain ⟨v6, f6, h1, h⟩ := am_bI_some h
        refine am_Ew.run (am_Ev.call (fun n => rfl) (lk_X5_isWord_1 h1) ?_)
        refine am_Ew.start [84] 6 (am_Ew.conv (fun k => (if v6 = 0 then (k 84 [some (.ref 1)] [.ref 1012, .ref 1] am_G0 f6) else (some (none, am_G0, (am_wr f6 1 2 2))))) (fun k => rfl) ?_)
        refine am_Ew.ite h (fun _ h => ?_) (fun _ h => ?_)
        · obtain ⟨v7, f7, h1, h⟩ := am_bI_some h
          refine am_Ew.run (am_Ev.call (fun n => rfl) (lk_X5_isWord_2 h1) ?_)
          refine am_Ew.start [] 6 (am_Ew.conv (fun k => (if v7 = 0 then (some (none, am_G0, (am_wr f7 1 2 6))) else (some (none, am_G0, (am_wr f7 1 2 3))))) (fun k => rfl) ?_)
          refine am_Ew.ite h (fun _ h => ?_) (fun _ h => ?_)
          · exact am_Ew.retV h
          · exact am_Ew.retV h
        · exact am_Ew.retV h
      · exact am_Ew.retV h
set_option maxHeartbeats 400000 in
set_option maxRecDepth 100000 in
theorem lk_X5_readWord {X : am_X} {f f' : am_M} (h : D_X5_readWord f = some f') : am_Ev X 50 0 [some (.ref 1)] [] f none f' := by
  rw [D_X5_readWord] at h
  refine am_Ew.start [8] 4 (am_Ew.conv (fun k => (k 8 [some (.ref 1)] [] am_G0 (am_wr f 1 4 (f 1 3)))) (fun k => rfl) ?_)
  exact am_Ew.run (lk_X5_readWord_8 _ _ _ h )
set_option maxHeartbeats 400000 in
set_option maxRecDepth 100000 in
theorem lk_X5_next_8 {X : am_X} : ∀ (n : Nat) (f : am_M) (f' : am_M), D_X5_next_8 n  f = some f' → am_Ev X 49 8 [some (.ref 1)] [] f none f'
  | 0, _, _, h => by cases h
  | n + 1, f, f', h => by
    rw [D_X5_next_8] at h
    refine am_Ew.start [8, 82] 26 (am_Ew.conv (fun k => (if (f 1 3) < (f 1 1) then (am_chk (f 1 3) 120 (if (f 2 (f 1 3).toNatClampNeg) = 32 then (k 8 [some (.ref 1)] [] am_G0 (am_wr f 1 3 ((f 1 3) + 1))) else (if (f 1 3) < (f 1 1) then (am_chk (f 1 3) 120 (k 82 [some (.ref 1)] [.int (f 2 (f 1 3).toNatClampNeg)] am_G0 f)) else (some (none, am_G0, (am_wr (am_wr f 1 4 (f 1 3)) 1 2 0)))))) else (if (f 1 3) < (f 1 1) then (am_chk (f 1 3) 120 (k 82 [some (.ref 1)] [.int (f 2 (f 1 3).toNatClampNeg)] am_G0 f)) else (some (none, am_G0, (am_wr (am_wr f 1 4 (f 1 3)) 1 2 0)))))) (fun k => rfl) ?_)
    refine am_Ew.ite h (fun _ h => ?_) (fun _ h => ?_)
    · refine am_Ew.chk h (fun h => ?_)
      refine am_Ew.ite h (fun _ h => ?_) (fun _ h => ?_)
      · exact am_Ew.run (lk_X5_next_8  n _ _ h )
      · refine am_Ew.ite h (fun _ h => ?_) (fun _ h => ?_)
        · refine am_Ew.chk h (fun h => ?_)
          obtain ⟨v1, f1, h1, h⟩ := am_bI_some h
          refine am_Ew.run (am_Ev.call (fun n => rfl) (lk_X5_isWordLetter h1) ?_)
          refine am_Ew.start [89, 104] 6 (am_Ew.conv (fun k => (if v1 = 0 then (am_chk (f1 1 3) 120 (k 104 [some (.ref 1)] [.int (f1 2 (f1 1 3).toNatClampNeg)] am_G0 f1)) else (k 89 [some (.ref 1)] [.ref 1] am_G0 f1))) (fun k => rfl) ?_)
          refine am_Ew.ite h (fun _ h => ?_) (fun _ h => ?_)
          · refine am_Ew.chk h (fun h => ?_)
            obtain ⟨v2, f2, h1, h⟩ := am_bI_some h
            refine am_Ew.run (am_Ev.call (fun n => rfl) (lk_X5_isFigure h1) ?_)
            refine am_Ew.start [111] 19 (am_Ew.conv (fun k => (if v2 = 0 then (am_chk (f2 1 3) 120 (if (f2 2 (f2 1 3).toNatClampNeg) = 59 then (some (none, am_G0, (am_wr (am_wr f2 1 4 ((f2 1 3) + 1)) 1 2 5))) else (some (none, am_G0, (am_wr (am_wr f2 1 4 ((f2 1 3) + 1)) 1 2 6))))) else (k 111 [some (.ref 1)] [.ref 1] am_G0 f2))) (fun k => rfl) ?_)
            refine am_Ew.ite h (fun _ h => ?_) (fun _ h => ?_)
            · refine am_Ew.chk h (fun h => ?_)
              refine am_Ew.ite h (fun _ h => ?_) (fun _ h => ?_)
              · exact am_Ew.retV h
              · exact am_Ew.retV h
            · obtain ⟨f3, h1, h⟩ := am_bV_some h
              refine am_Ew.run (am_Ev.call (fun n => rfl) (lk_X5_readNumber h1) ?_)
              refine am_Ew.start [] 2 (am_Ew.conv (fun k => (some (none, am_G0, f3))) (fun k => rfl) ?_)
              exact am_Ew.retV h
          · obtain ⟨f4, h1, h⟩ := am_bV_some h
            refine am_Ew.run (am_Ev.call (fun n => rfl) (lk_X5_readWord h1) ?_)
            refine am_Ew.start [] 2 (am_Ew.conv (fun k => (some (none, am_G0, f4))) (fun k => rfl) ?_)
            exact am_Ew.retV h
        · exact am_Ew.retV h
    · refine am_Ew.ite h (fun _ h => ?_) (fun _ h => ?_)
      · refine am_Ew.chk h (fun h => ?_)
        obtain ⟨v5, f5, h1, h⟩ := am_bI_some h
        refine am_Ew.run (am_Ev.call (fun n => rfl) (lk_X5_isWordLetter h1) ?_)
        refine am_Ew.start [89, 104] 6 (am_Ew.conv (fun k => (if v5 = 0 then (am_chk (f5 1 3) 120 (k 104 [some (.ref 1)] [.int (f5 2 (f5 1 3).toNatClampNeg)] am_G0 f5)) else (k 89 [some (.ref 1)] [.ref 1] am_G0 f5))) (fun k => rfl) ?_)
        refine am_Ew.ite h (fun _ h => ?_) (fun _ h => ?_)
        · refine am_Ew.chk h (fun h => ?_)
          obtain ⟨v6, f6, h1, h⟩ := am_bI_some h
          refine am_Ew.run (am_Ev.call (fun n => rfl) (lk_X5_isFigure h1) ?_)
          refine am_Ew.start [111] 19 (am_Ew.conv (fun k => (if v6 = 0 then (am_chk (f6 1 3) 120 (if (f6 2 (f6 1 3).toNatClampNeg) = 59 then (some (none, am_G0, (am_wr (am_wr f6 1 4 ((f6 1 3) + 1)) 1 2 5))) else (some (none, am_G0, (am_wr (am_wr f6 1 4 ((f6 1 3) + 1)) 1 2 6))))) else (k 111 [some (.ref 1)] [.ref 1] am_G0 f6))) (fun k => rfl) ?_)
          refine am_Ew.ite h (fun _ h => ?_) (fun _ h => ?_)
          · refine am_Ew.chk h (fun h => ?_)
            refine am_Ew.ite h (fun _ h => ?_) (fun _ h => ?_)
            · exact am_Ew.retV h
            · exact am_Ew.retV h
          · obtain ⟨f7, h1, h⟩ := am_bV_some h
            refine am_Ew.run (am_Ev.call (fun n => rfl) (lk_X5_readNumber h1) ?_)
            refine am_Ew.start [] 2 (am_Ew.conv (fun k => (some (none, am_G0, f7))) (fun k => rfl) ?_)
            exact am_Ew.retV h
        · obtain ⟨f8, h1, h⟩ := am_bV_some h
          refine am_Ew.run (am_Ev.call (fun n => rfl) (lk_X5_readWord h1) ?_)
          refine am_Ew.start [] 2 (am_Ew.conv (fun k => (some (none, am_G0, f8))) (fun k => rfl) ?_)
          exact am_Ew.retV h
      · exact am_Ew.retV h
set_option maxHeartbeats 400000 in
set_option maxRecDepth 100000 in
theorem lk_X5_next {X : am_X} {f f' : am_M} (h : D_X5_next f = some f') : am_Ev X 49 0 [some (.ref 1)] [] f none f' := by
  rw [D_X5_next] at h
  refine am_Ew.start [8] 4 (am_Ew.conv (fun k => (k 8 [some (.ref 1)] [] am_G0 (am_wr f 1 3 (f 1 4)))) (fun k => rfl) ?_)
  exact am_Ew.run (lk_X5_next_8 _ _ _ h )
set_option maxHeartbeats 400000 in
set_option maxRecDepth 100000 in
theorem lk_X5_accept {X : am_X} {a1 a2 : Int32} {f f' : am_M} {v' : Int32} (h : D_X5_accept a1 a2 f = some (v', f')) : am_Ev X 47 0 [some (.ref 1), some (.int a1), some (.int a2)] [] f (some (.int v')) f' := by
  rw [D_X5_accept] at h
  refine am_Ew.start [35] 17 (am_Ew.conv (fun k => (if (f 1 2) = 4 then (if (f 1 5) < a1 then (some (some (.int 0), am_G0, f)) else (if a2 < (f 1 5) then (some (some (.int 0), am_G0, f)) else (k 35 [some (.ref 1), some (.int a1), some (.int a2)] [.ref 1] am_G0 (am_wr f 1 6 (f 1 5))))) else (some (some (.int 0), am_G0, f)))) (fun k => rfl) ?_)
  refine am_Ew.ite h (fun _ h => ?_) (fun _ h => ?_)
  · refine am_Ew.ite h (fun _ h => ?_) (fun _ h => ?_)
    · exact am_Ew.retI h
    · refine am_Ew.ite h (fun _ h => ?_) (fun _ h => ?_)
      · exact am_Ew.retI h
      · obtain ⟨f1, h1, h⟩ := am_bV_some h
        refine am_Ew.run (am_Ev.call (fun n => rfl) (lk_X5_next h1) ?_)
        refine am_Ew.start [] 2 (am_Ew.conv (fun k => (some (some (.int 1), am_G0, f1))) (fun k => rfl) ?_)
        exact am_Ew.retI h
  · exact am_Ew.retI h
set_option maxHeartbeats 400000 in
set_option maxRecDepth 100000 in
theorem lk_X5_acceptSemicolon {X : am_X} {f f' : am_M} {v' : Int32} (h : D_X5_acceptSemicolon f = some (v', f')) : am_Ev X 48 0 [some (.ref 1)] [] f (some (.int v')) f' := by
  rw [D_X5_acceptSemicolon] at h
  refine am_Ew.start [11] 6 (am_Ew.conv (fun k => (if (f 1 2) = 5 then (k 11 [some (.ref 1)] [.ref 1] am_G0 f) else (some (some (.int 0), am_G0, f)))) (fun k => rfl) ?_)
  refine am_Ew.ite h (fun _ h => ?_) (fun _ h => ?_)
  · obtain ⟨f1, h1, h⟩ := am_bV_some h
    refine am_Ew.run (am_Ev.call (fun n => rfl) (lk_X5_next h1) ?_)
    refine am_Ew.start [] 2 (am_Ew.conv (fun k => (some (some (.int 1), am_G0, f1))) (fun k => rfl) ?_)
    exact am_Ew.retI h
  · exact am_Ew.retI h
set_option maxHeartbeats 400000 in
set_option maxRecDepth 100000 in
theorem lk_X5_readSlots {X : am_X} {f f' : am_M} {v' : Int32} (h : D_X5_readSlots f = some (v', f')) : am_Ev X 44 0 [some (.ref 1), some (.ref 7)] [] f (some (.int v')) f' := by
  rw [D_X5_readSlots] at h
  refine am_Ew.start [10] 5 (am_Ew.conv (fun k => (if (f 1 7) = 0 then (k 10 [some (.ref 1), some (.ref 7)] [.ref 1] am_G0 f) else (some (some (.int 0), am_G0, f)))) (fun k => rfl) ?_)
  refine am_Ew.ite h (fun _ h => ?_) (fun _ h => ?_)
  · obtain ⟨f1, h1, h⟩ := am_bV_some h
    refine am_Ew.run (am_Ev.call (fun n => rfl) (lk_X5_next h1) ?_)
    refine am_Ew.start [17] 3 (am_Ew.conv (fun k => (k 17 [some (.ref 1), some (.ref 7)] [.int 16, .int 2, .ref 1] am_G0 f1)) (fun k => rfl) ?_)
    obtain ⟨v2, f2, h1, h⟩ := am_bI_some h
    refine am_Ew.run (am_Ev.call (fun n => rfl) (lk_X5_accept h1) ?_)
    refine am_Ew.start [39] 9 (am_Ew.conv (fun k => (if v2 = 0 then (some (some (.int 0), am_G0, f2)) else (k 39 [some (.ref 1), some (.ref 7)] [.ref 1] am_G0 (am_wr (am_wr f2 7 0 (f2 1 6)) 1 7 1)))) (fun k => rfl) ?_)
    refine am_Ew.ite h (fun _ h => ?_) (fun _ h => ?_)
    · exact am_Ew.retI h
    · obtain ⟨v3, f3, h1, h⟩ := am_bI_some h
      refine am_Ew.run (am_Ev.call (fun n => rfl) (lk_X5_acceptSemicolon h1) ?_)
      refine am_Ew.start [] 1 (am_Ew.conv (fun k => (if v3 = 0 ∨ v3 = 1 then some (some (.int v3), am_G0, f3) else none)) (fun k => rfl) ?_)
      exact am_Ew.ite h (fun _ h => am_Ew.retI h) (fun _ h => am_Ew.none h)
  · exact am_Ew.retI h
set_option maxHeartbeats 400000 in
set_option maxRecDepth 100000 in
theorem lk_X5_readMaker {X : am_X} {f f' : am_M} {v' : Int32} (h : D_X5_readMaker f = some (v', f')) : am_Ev X 45 0 [some (.ref 1), some (.ref 7)] [] f (some (.int v')) f' := by
  rw [D_X5_readMaker] at h
  refine am_Ew.start [11] 6 (am_Ew.conv (fun k => (if (f 7 1) < 3 then (k 11 [some (.ref 1), some (.ref 7)] [.ref 1] am_G0 f) else (some (some (.int 0), am_G0, f)))) (fun k => rfl) ?_)
  refine am_Ew.ite h (fun _ h => ?_) (fun _ h => ?_)
  · obtain ⟨f1, h1, h⟩ := am_bV_some h
    refine am_Ew.run (am_Ev.call (fun n => rfl) (lk_X5_next h1) ?_)
    refine am_Ew.start [18] 3 (am_Ew.conv (fun k => (k 18 [some (.ref 1), some (.ref 7)] [.int 9, .int 0, .ref 1] am_G0 f1)) (fun k => rfl) ?_)
    obtain ⟨v2, f2, h1, h⟩ := am_bI_some h
    refine am_Ew.run (am_Ev.call (fun n => rfl) (lk_X5_accept h1) ?_)
    refine am_Ew.start [29] 4 (am_Ew.conv (fun k => (if v2 = 0 then (some (some (.int 0), am_G0, f2)) else (k 29 [some (.ref 1), some (.ref 7)] [.int (f2 1 6), .ref 7] am_G0 f2))) (fun k => rfl) ?_)
    refine am_Ew.ite h (fun _ h => ?_) (fun _ h => ?_)
    · exact am_Ew.retI h
    · obtain ⟨v3, f3, h1, h⟩ := am_bI_some h
      refine am_Ew.run (am_Ev.call (fun n => rfl) (lk_X6_addMaker h1) ?_)
      refine am_Ew.start [36] 3 (am_Ew.conv (fun k => (if v3 = 0 then (some (some (.int 0), am_G0, f3)) else (k 36 [some (.ref 1), some (.ref 7)] [.ref 1] am_G0 f3))) (fun k => rfl) ?_)
      refine am_Ew.ite h (fun _ h => ?_) (fun _ h => ?_)
      · exact am_Ew.retI h
      · obtain ⟨v4, f4, h1, h⟩ := am_bI_some h
        refine am_Ew.run (am_Ev.call (fun n => rfl) (lk_X5_acceptSemicolon h1) ?_)
        refine am_Ew.start [] 4 (am_Ew.conv (fun k => (if v4 = 0 then (some (some (.int 0), am_G0, f4)) else (some (some (.int 1), am_G0, f4)))) (fun k => rfl) ?_)
        refine am_Ew.ite h (fun _ h => ?_) (fun _ h => ?_)
        · exact am_Ew.retI h
        · exact am_Ew.retI h
  · exact am_Ew.retI h
set_option maxHeartbeats 400000 in
set_option maxRecDepth 100000 in
theorem lk_X5_readTaker {X : am_X} {f f' : am_M} {v' : Int32} (h : D_X5_readTaker f = some (v', f')) : am_Ev X 46 0 [some (.ref 1), some (.ref 7), none, none] [] f (some (.int v')) f' := by
  rw [D_X5_readTaker] at h
  refine am_Ew.start [12] 6 (am_Ew.conv (fun k => (if (f 7 2) < 6 then (k 12 [some (.ref 1), some (.ref 7), none, none] [.ref 1] am_G0 f) else (some (some (.int 0), am_G0, f)))) (fun k => rfl) ?_)
  refine am_Ew.ite h (fun _ h => ?_) (fun _ h => ?_)
  · obtain ⟨f1, h1, h⟩ := am_bV_some h
    refine am_Ew.run (am_Ev.call (fun n => rfl) (lk_X5_next h1) ?_)
    refine am_Ew.start [19] 3 (am_Ew.conv (fun k => (k 19 [some (.ref 1), some (.ref 7), none, none] [.int 9, .int 1, .ref 1] am_G0 f1)) (fun k => rfl) ?_)
    obtain ⟨v2, f2, h1, h⟩ := am_bI_some h
    refine am_Ew.run (am_Ev.call (fun n => rfl) (lk_X5_accept h1) ?_)
    refine am_Ew.start [44] 14 (am_Ew.conv (fun k => (if v2 = 0 then (some (some (.int 0), am_G0, f2)) else (k 44 [some (.ref 1), some (.ref 7), some (.int (f2 1 6)), some (.int (((1 : Int32) <<< ((f2 7 2) &&& 31)) - 1))] [.int (((1 : Int32) <<< ((f2 7 2) &&& 31)) - 1), .int 0, .ref 1] am_G0 f2))) (fun k => rfl) ?_)
    refine am_Ew.ite h (fun _ h => ?_) (fun _ h => ?_)
    · exact am_Ew.retI h
    · obtain ⟨v3, f3, h1, h⟩ := am_bI_some h
      refine am_Ew.run (am_Ev.call (fun n => rfl) (lk_X5_accept h1) ?_)
      refine am_Ew.start [56] 5 (am_Ew.conv (fun k => (if v3 = 0 then (some (some (.int 0), am_G0, f3)) else (k 56 [some (.ref 1), some (.ref 7), some (.int (f2 1 6)), some (.int (((1 : Int32) <<< ((f2 7 2) &&& 31)) - 1))] [.int (f3 1 6), .int (f2 1 6), .ref 7] am_G0 f3))) (fun k => rfl) ?_)
      refine am_Ew.ite h (fun _ h => ?_) (fun _ h => ?_)
      · exact am_Ew.retI h
      · obtain ⟨v4, f4, h1, h⟩ := am_bI_some h
        refine am_Ew.run (am_Ev.call (fun n => rfl) (lk_X6_addTaker h1) ?_)
        refine am_Ew.start [63] 3 (am_Ew.conv (fun k => (if v4 = 0 then (some (some (.int 0), am_G0, f4)) else (k 63 [some (.ref 1), some (.ref 7), some (.int (f2 1 6)), some (.int (((1 : Int32) <<< ((f2 7 2) &&& 31)) - 1))] [.ref 1] am_G0 f4))) (fun k => rfl) ?_)
        refine am_Ew.ite h (fun _ h => ?_) (fun _ h => ?_)
        · exact am_Ew.retI h
        · obtain ⟨v5, f5, h1, h⟩ := am_bI_some h
          refine am_Ew.run (am_Ev.call (fun n => rfl) (lk_X5_acceptSemicolon h1) ?_)
          refine am_Ew.start [] 4 (am_Ew.conv (fun k => (if v5 = 0 then (some (some (.int 0), am_G0, f5)) else (some (some (.int 1), am_G0, f5)))) (fun k => rfl) ?_)
          refine am_Ew.ite h (fun _ h => ?_) (fun _ h => ?_)
          · exact am_Ew.retI h
          · exact am_Ew.retI h
  · exact am_Ew.retI h
set_option maxHeartbeats 400000 in
set_option maxRecDepth 100000 in
theorem lk_X5_readInto_20 {X : am_X} : ∀ (n : Nat) (x2 : Int32) (f : am_M) (v' : Int32) (f' : am_M), D_X5_readInto_20 n x2 f = some (v', f') → ∀ d3 : Option Value, am_Ev X 43 20 [some (.ref 1), some (.ref 7), some (.int x2), d3] [] f (some (.int v')) f'
  | 0, _, _, _, _, h, _ => by cases h
  | n + 1, x2, f, v', f', h, d3 => by
    rw [D_X5_readInto_20] at h
    refine am_Ew.start [66, 75, 84] 18 (am_Ew.conv (fun k => (if (f 1 2) = 0 then (some (some (.int x2), am_G0, f)) else (if x2 < 120 then (if (f 1 2) = 1 then (k 66 [some (.ref 1), some (.ref 7), some (.int x2), d3] [.ref 7, .ref 1] am_G0 f) else (if (f 1 2) = 2 then (k 75 [some (.ref 1), some (.ref 7), some (.int x2), d3] [.ref 7, .ref 1] am_G0 f) else (if (f 1 2) = 3 then (k 84 [some (.ref 1), some (.ref 7), some (.int x2), d3] [.ref 7, .ref 1] am_G0 f) else (some (some (.int (((-10) : Int32) - (f 1 3))), am_G0, f))))) else (some (some (.int x2), am_G0, f))))) (fun k => rfl) ?_)
    refine am_Ew.ite h (fun _ h => ?_) (fun _ h => ?_)
    · exact am_Ew.retI h
    · refine am_Ew.ite h (fun _ h => ?_) (fun _ h => ?_)
      · refine am_Ew.ite h (fun _ h => ?_) (fun _ h => ?_)
        · obtain ⟨v3, f3, h1, h⟩ := am_bI_some h
          refine am_Ew.run (am_Ev.call (fun n => rfl) (lk_X5_readSlots h1) ?_)
          refine am_Ew.start [20] 9 (am_Ew.conv (fun k => (if v3 = 0 then (some (some (.int (((-10) : Int32) - (f3 1 3))), am_G0, f3)) else (k 20 [some (.ref 1), some (.ref 7), some (.int (x2 + 1)), some (.int v3)] [] am_G0 f3))) (fun k => rfl) ?_)
          refine am_Ew.ite h (fun _ h => ?_) (fun _ h => ?_)
          · exact am_Ew.retI h
          · exact am_Ew.run (lk_X5_readInto_20  n _ _ _ _ h _ )
        · refine am_Ew.ite h (fun _ h => ?_) (fun _ h => ?_)
          · obtain ⟨v4, f4, h1, h⟩ := am_bI_some h
            refine am_Ew.run (am_Ev.call (fun n => rfl) (lk_X5_readMaker h1) ?_)
            refine am_Ew.start [20] 9 (am_Ew.conv (fun k => (if v4 = 0 then (some (some (.int (((-10) : Int32) - (f4 1 3))), am_G0, f4)) else (k 20 [some (.ref 1), some (.ref 7), some (.int (x2 + 1)), some (.int v4)] [] am_G0 f4))) (fun k => rfl) ?_)
            refine am_Ew.ite h (fun _ h => ?_) (fun _ h => ?_)
            · exact am_Ew.retI h
            · exact am_Ew.run (lk_X5_readInto_20  n _ _ _ _ h _ )
          · refine am_Ew.ite h (fun _ h => ?_) (fun _ h => ?_)
            · obtain ⟨v5, f5, h1, h⟩ := am_bI_some h
              refine am_Ew.run (am_Ev.call (fun n => rfl) (lk_X5_readTaker h1) ?_)
              refine am_Ew.start [20] 9 (am_Ew.conv (fun k => (if v5 = 0 then (some (some (.int (((-10) : Int32) - (f5 1 3))), am_G0, f5)) else (k 20 [some (.ref 1), some (.ref 7), some (.int (x2 + 1)), some (.int v5)] [] am_G0 f5))) (fun k => rfl) ?_)
              refine am_Ew.ite h (fun _ h => ?_) (fun _ h => ?_)
              · exact am_Ew.retI h
              · exact am_Ew.run (lk_X5_readInto_20  n _ _ _ _ h _ )
            · exact am_Ew.retI h
      · exact am_Ew.retI h
set_option maxHeartbeats 400000 in
set_option maxRecDepth 100000 in
theorem lk_X5_readInto {X : am_X} {f f' : am_M} {v' : Int32} (h : D_X5_readInto f = some (v', f')) : am_Ev X 43 0 [some (.ref 1), some (.ref 7), none, none] [] f (some (.int v')) f' := by
  rw [D_X5_readInto] at h
  refine am_Ew.start [1] 1 (am_Ew.conv (fun k => (k 1 [some (.ref 1), some (.ref 7), none, none] [.ref 7] am_G0 f)) (fun k => rfl) ?_)
  obtain ⟨f1, h1, h⟩ := am_bV_some h
  refine am_Ew.run (am_Ev.call (fun n => rfl) (lk_X6_reset h1) ?_)
  refine am_Ew.start [15] 7 (am_Ew.conv (fun k => (k 15 [some (.ref 1), some (.ref 7), none, none] [.ref 1] am_G0 (am_wr (am_wr f1 1 7 0) 1 4 0))) (fun k => rfl) ?_)
  obtain ⟨f2, h1, h⟩ := am_bV_some h
  refine am_Ew.run (am_Ev.call (fun n => rfl) (lk_X5_next h1) ?_)
  refine am_Ew.start [20] 2 (am_Ew.conv (fun k => (k 20 [some (.ref 1), some (.ref 7), some (.int 0), none] [] am_G0 f2)) (fun k => rfl) ?_)
  exact am_Ew.run (lk_X5_readInto_20 _ _ _ _ _ h _ )
end
section
set_option maxHeartbeats 400000 in
set_option maxRecDepth 100000 in
theorem lk_X4_reset_11_52 {X : am_X} : ∀ (n : Nat) (x1 : Int32) (f : am_M) (f' : am_M), D_X4_reset_52 11 999 n x1 f = some f' → am_Ev X 16 52 [some (.ref 11), some (.int x1)] [] f none f'
  | 0, _, _, _, h => by cases h
  | n + 1, x1, f, f', h => by
    rw [D_X4_reset_52] at h
    refine am_Ew.start [52] 10 (am_Ew.conv (fun k => (if x1 < 3 then (am_chk x1 3 (k 52 [some (.ref 11), some (.int (x1 + 1))] [] am_G0 (am_wr f (11 + 5) x1.toNatClampNeg 0))) else (some (none, am_G0, f)))) (fun k => rfl) ?_)
    refine am_Ew.ite h (fun _ h => ?_) (fun _ h => ?_)
    · refine am_Ew.chk h (fun h => ?_)
      exact am_Ew.run (lk_X4_reset_11_52  n _ _ _ h )
    · exact am_Ew.retV h
set_option maxHeartbeats 400000 in
set_option maxRecDepth 100000 in
theorem lk_X4_reset_11_17 {X : am_X} : ∀ (n : Nat) (x1 : Int32) (f : am_M) (f' : am_M), D_X4_reset_17 11 999 n x1 f = some f' → am_Ev X 16 17 [some (.ref 11), some (.int x1)] [] f none f'
  | 0, _, _, _, h => by cases h
  | n + 1, x1, f, f', h => by
    rw [D_X4_reset_17] at h
    refine am_Ew.start [17, 52] 20 (am_Ew.conv (fun k => (if x1 < 6 then (am_chk x1 6 (am_chk x1 6 (am_chk x1 6 (k 17 [some (.ref 11), some (.int (x1 + 1))] [] am_G0 (am_wr (am_wr (am_wr f (11 + 1) x1.toNatClampNeg 0) (11 + 2) x1.toNatClampNeg 0) (11 + 3) x1.toNatClampNeg 0))))) else (k 52 [some (.ref 11), some (.int 0)] [] am_G0 f))) (fun k => rfl) ?_)
    refine am_Ew.ite h (fun _ h => ?_) (fun _ h => ?_)
    · refine am_Ew.chk h (fun h => ?_)
      refine am_Ew.chk h (fun h => ?_)
      refine am_Ew.chk h (fun h => ?_)
      exact am_Ew.run (lk_X4_reset_11_17  n _ _ _ h )
    · exact am_Ew.run (lk_X4_reset_11_52 _ _ _ _ h )
set_option maxHeartbeats 400000 in
set_option maxRecDepth 100000 in
theorem lk_X4_reset_11 {X : am_X} {f f' : am_M} (h : D_X4_reset 11 999 f = some f') : am_Ev X 16 0 [some (.ref 11), none] [] f none f' := by
  rw [D_X4_reset] at h
  refine am_Ew.start [17] 11 (am_Ew.conv (fun k => (k 17 [some (.ref 11), some (.int 0)] [] am_G0 (am_wr (am_wr (am_wr f 11 2 0) 11 3 0) 11 9 0))) (fun k => rfl) ?_)
  exact am_Ew.run (lk_X4_reset_11_17 _ _ _ _ h )
set_option maxHeartbeats 400000 in
set_option maxRecDepth 100000 in
theorem lk_X4_hasEvent_11 {X : am_X} {a1 : Int32} {f f' : am_M} {v' : Int32} (h : D_X4_hasEvent 11 999 a1 f = some (v', f')) : am_Ev X 18 0 [some (.ref 11), some (.int a1)] [] f (some (.int v')) f' := by
  rw [D_X4_hasEvent] at h
  refine am_Ew.start [] 14 (am_Ew.conv (fun k => (if a1 < 0 then (some (some (.int 0), am_G0, f)) else (if a1 < (f 11 2) then (if a1 < (Int32.ofNat 999) then (some (some (.int 1), am_G0, f)) else (some (some (.int 0), am_G0, f))) else (some (some (.int 0), am_G0, f))))) (fun k => rfl) ?_)
  refine am_Ew.ite h (fun _ h => ?_) (fun _ h => ?_)
  · exact am_Ew.retI h
  · refine am_Ew.ite h (fun _ h => ?_) (fun _ h => ?_)
    · refine am_Ew.ite h (fun _ h => ?_) (fun _ h => ?_)
      · exact am_Ew.retI h
      · exact am_Ew.retI h
    · exact am_Ew.retI h
set_option maxHeartbeats 400000 in
set_option maxRecDepth 100000 in
theorem lk_X4_makerOf_11 {X : am_X} {a1 : Int32} {f f' : am_M} {v' : Int32} (h : D_X4_makerOf 11 999 a1 f = some (v', f')) : am_Ev X 19 0 [some (.ref 11), some (.int a1)] [] f (some (.int v')) f' := by
  rw [D_X4_makerOf] at h
  refine am_Ew.start [] 7 (am_Ew.conv (fun k => (am_chk a1 999 (some (some (.int ((f (11 + 6) a1.toNatClampNeg) &&& 3)), am_G0, f)))) (fun k => rfl) ?_)
  refine am_Ew.chk h (fun h => ?_)
  exact am_Ew.retI h
set_option maxHeartbeats 400000 in
set_option maxRecDepth 100000 in
theorem lk_X4_kindOf_11 {X : am_X} {a1 : Int32} {f f' : am_M} {v' : Int32} (h : D_X4_kindOf 11 999 a1 f = some (v', f')) : am_Ev X 20 0 [some (.ref 11), some (.int a1)] [] f (some (.int v')) f' := by
  rw [D_X4_kindOf] at h
  refine am_Ew.start [] 9 (am_Ew.conv (fun k => (am_chk a1 999 (some (some (.int (((f (11 + 6) a1.toNatClampNeg) >>> ((2 : Int32) &&& 31)) &&& 3)), am_G0, f)))) (fun k => rfl) ?_)
  refine am_Ew.chk h (fun h => ?_)
  exact am_Ew.retI h
set_option maxHeartbeats 400000 in
set_option maxRecDepth 100000 in
theorem lk_X4_kindOf_81 {X : am_X} {a1 : Int32} {f f' : am_M} {v' : Int32} (h : D_X4_kindOf 81 0 a1 f = some (v', f')) : am_Ev X 20 0 [some (.ref 81), some (.int a1)] [] f (some (.int v')) f' := by
  rw [D_X4_kindOf] at h
  refine am_Ew.start [] 9 (am_Ew.conv (fun k => (am_chk a1 0 (some (some (.int (((f (81 + 6) a1.toNatClampNeg) >>> ((2 : Int32) &&& 31)) &&& 3)), am_G0, f)))) (fun k => rfl) ?_)
  refine am_Ew.chk h (fun h => ?_)
  exact am_Ew.retI h
set_option maxHeartbeats 400000 in
set_option maxRecDepth 100000 in
theorem lk_X4_valueOf_11 {X : am_X} {a1 : Int32} {f f' : am_M} {v' : Int32} (h : D_X4_valueOf 11 999 a1 f = some (v', f')) : am_Ev X 21 0 [some (.ref 11), some (.int a1)] [] f (some (.int v')) f' := by
  rw [D_X4_valueOf] at h
  refine am_Ew.start [] 7 (am_Ew.conv (fun k => (am_chk a1 999 (some (some (.int ((f (11 + 6) a1.toNatClampNeg) >>> ((4 : Int32) &&& 31))), am_G0, f)))) (fun k => rfl) ?_)
  refine am_Ew.chk h (fun h => ?_)
  exact am_Ew.retI h
set_option maxHeartbeats 400000 in
set_option maxRecDepth 100000 in
theorem lk_X4_valueOf_81 {X : am_X} {a1 : Int32} {f f' : am_M} {v' : Int32} (h : D_X4_valueOf 81 0 a1 f = some (v', f')) : am_Ev X 21 0 [some (.ref 81), some (.int a1)] [] f (some (.int v')) f' := by
  rw [D_X4_valueOf] at h
  refine am_Ew.start [] 7 (am_Ew.conv (fun k => (am_chk a1 0 (some (some (.int ((f (81 + 6) a1.toNatClampNeg) >>> ((4 : Int32) &&& 31))), am_G0, f)))) (fun k => rfl) ?_)
  refine am_Ew.chk h (fun h => ?_)
  exact am_Ew.retI h
set_option maxHeartbeats 400000 in
set_option maxRecDepth 100000 in
theorem lk_X4_least_11_7 {X : am_X} : ∀ (n : Nat) (x1 x2 : Int32) (f : am_M) (v' : Int32) (f' : am_M), D_X4_least_7 11 999 n x1 x2 f = some (v', f') → am_Ev X 22 7 [some (.ref 11), some (.int x1), some (.int x2)] [] f (some (.int v')) f'
  | 0, _, _, _, _, _, h => by cases h
  | n + 1, x1, x2, f, v', f', h => by
    rw [D_X4_least_7] at h
    refine am_Ew.start [7] 18 (am_Ew.conv (fun k => (if x2 < (f 3 2) then (am_chk x2 6 (if (f (11 + 1) x2.toNatClampNeg) < x1 then (am_chk x2 6 (k 7 [some (.ref 11), some (.int (f (11 + 1) x2.toNatClampNeg)), some (.int (x2 + 1))] [] am_G0 f)) else (k 7 [some (.ref 11), some (.int x1), some (.int (x2 + 1))] [] am_G0 f))) else (some (some (.int x1), am_G0, f)))) (fun k => rfl) ?_)
    refine am_Ew.ite h (fun _ h => ?_) (fun _ h => ?_)
    · refine am_Ew.chk h (fun h => ?_)
      refine am_Ew.ite h (fun _ h => ?_) (fun _ h => ?_)
      · refine am_Ew.chk h (fun h => ?_)
        exact am_Ew.run (lk_X4_least_11_7  n _ _ _ _ _ h )
      · exact am_Ew.run (lk_X4_least_11_7  n _ _ _ _ _ h )
    · exact am_Ew.retI h
set_option maxHeartbeats 400000 in
set_option maxRecDepth 100000 in
theorem lk_X4_least_11 {X : am_X} {f f' : am_M} {v' : Int32} (h : D_X4_least 11 999 f = some (v', f')) : am_Ev X 22 0 [some (.ref 11), none, none] [] f (some (.int v')) f' := by
  rw [D_X4_least] at h
  refine am_Ew.start [7] 5 (am_Ew.conv (fun k => (k 7 [some (.ref 11), some (.int (f 11 2)), some (.int 0)] [] am_G0 f)) (fun k => rfl) ?_)
  exact am_Ew.run (lk_X4_least_11_7 _ _ _ _ _ _ h )
set_option maxHeartbeats 400000 in
set_option maxRecDepth 100000 in
theorem lk_X4_least_81_7 {X : am_X} : ∀ (n : Nat) (x1 x2 : Int32) (f : am_M) (v' : Int32) (f' : am_M), D_X4_least_7 81 0 n x1 x2 f = some (v', f') → am_Ev X 22 7 [some (.ref 81), some (.int x1), some (.int x2)] [] f (some (.int v')) f'
  | 0, _, _, _, _, _, h => by cases h
  | n + 1, x1, x2, f, v', f', h => by
    rw [D_X4_least_7] at h
    refine am_Ew.start [7] 18 (am_Ew.conv (fun k => (if x2 < (f 3 2) then (am_chk x2 6 (if (f (81 + 1) x2.toNatClampNeg) < x1 then (am_chk x2 6 (k 7 [some (.ref 81), some (.int (f (81 + 1) x2.toNatClampNeg)), some (.int (x2 + 1))] [] am_G0 f)) else (k 7 [some (.ref 81), some (.int x1), some (.int (x2 + 1))] [] am_G0 f))) else (some (some (.int x1), am_G0, f)))) (fun k => rfl) ?_)
    refine am_Ew.ite h (fun _ h => ?_) (fun _ h => ?_)
    · refine am_Ew.chk h (fun h => ?_)
      refine am_Ew.ite h (fun _ h => ?_) (fun _ h => ?_)
      · refine am_Ew.chk h (fun h => ?_)
        exact am_Ew.run (lk_X4_least_81_7  n _ _ _ _ _ h )
      · exact am_Ew.run (lk_X4_least_81_7  n _ _ _ _ _ h )
    · exact am_Ew.retI h
set_option maxHeartbeats 400000 in
set_option maxRecDepth 100000 in
theorem lk_X4_least_81 {X : am_X} {f f' : am_M} {v' : Int32} (h : D_X4_least 81 0 f = some (v', f')) : am_Ev X 22 0 [some (.ref 81), none, none] [] f (some (.int v')) f' := by
  rw [D_X4_least] at h
  refine am_Ew.start [7] 5 (am_Ew.conv (fun k => (k 7 [some (.ref 81), some (.int (f 81 2)), some (.int 0)] [] am_G0 f)) (fun k => rfl) ?_)
  exact am_Ew.run (lk_X4_least_81_7 _ _ _ _ _ _ h )
set_option maxHeartbeats 400000 in
set_option maxRecDepth 100000 in
theorem lk_X4_slowestOf_11_5 {X : am_X} : ∀ (n : Nat) (x1 x2 x3 : Int32) (f : am_M) (v' : Int32) (f' : am_M), D_X4_slowestOf_5 11 999 n x1 x2 x3 f = some (v', f') → am_Ev X 27 5 [some (.ref 11), some (.int x1), some (.int x2), some (.int x3)] [] f (some (.int v')) f'
  | 0, _, _, _, _, _, _, h => by cases h
  | n + 1, x1, x2, x3, f, v', f', h => by
    rw [D_X4_slowestOf_5] at h
    refine am_Ew.start [5] 28 (am_Ew.conv (fun k => (if x3 < (f 3 2) then (if ((x1 >>> (x3 &&& 31)) &&& 1) = 1 then (if x2 = (-9) then (k 5 [some (.ref 11), some (.int x1), some (.int x3), some (.int (x3 + 1))] [] am_G0 f) else (am_chk x3 6 (am_chk x2 6 (if (f (11 + 1) x3.toNatClampNeg) < (f (11 + 1) x2.toNatClampNeg) then (k 5 [some (.ref 11), some (.int x1), some (.int x3), some (.int (x3 + 1))] [] am_G0 f) else (k 5 [some (.ref 11), some (.int x1), some (.int x2), some (.int (x3 + 1))] [] am_G0 f))))) else (k 5 [some (.ref 11), some (.int x1), some (.int x2), some (.int (x3 + 1))] [] am_G0 f)) else (some (some (.int x2), am_G0, f)))) (fun k => rfl) ?_)
    refine am_Ew.ite h (fun _ h => ?_) (fun _ h => ?_)
    · refine am_Ew.ite h (fun _ h => ?_) (fun _ h => ?_)
      · refine am_Ew.ite h (fun _ h => ?_) (fun _ h => ?_)
        · exact am_Ew.run (lk_X4_slowestOf_11_5  n _ _ _ _ _ _ h )
        · refine am_Ew.chk h (fun h => ?_)
          refine am_Ew.chk h (fun h => ?_)
          refine am_Ew.ite h (fun _ h => ?_) (fun _ h => ?_)
          · exact am_Ew.run (lk_X4_slowestOf_11_5  n _ _ _ _ _ _ h )
          · exact am_Ew.run (lk_X4_slowestOf_11_5  n _ _ _ _ _ _ h )
      · exact am_Ew.run (lk_X4_slowestOf_11_5  n _ _ _ _ _ _ h )
    · exact am_Ew.retI h
set_option maxHeartbeats 400000 in
set_option maxRecDepth 100000 in
theorem lk_X4_slowestOf_11 {X : am_X} {a1 : Int32} {f f' : am_M} {v' : Int32} (h : D_X4_slowestOf 11 999 a1 f = some (v', f')) : am_Ev X 27 0 [some (.ref 11), some (.int a1), none, none] [] f (some (.int v')) f' := by
  rw [D_X4_slowestOf] at h
  refine am_Ew.start [5] 4 (am_Ew.conv (fun k => (k 5 [some (.ref 11), some (.int a1), some (.int (-9)), some (.int 0)] [] am_G0 f)) (fun k => rfl) ?_)
  exact am_Ew.run (lk_X4_slowestOf_11_5 _ _ _ _ _ _ _ h )
set_option maxHeartbeats 400000 in
set_option maxRecDepth 100000 in
theorem lk_X4_slowestOf_81_5 {X : am_X} : ∀ (n : Nat) (x1 x2 x3 : Int32) (f : am_M) (v' : Int32) (f' : am_M), D_X4_slowestOf_5 81 0 n x1 x2 x3 f = some (v', f') → am_Ev X 27 5 [some (.ref 81), some (.int x1), some (.int x2), some (.int x3)] [] f (some (.int v')) f'
  | 0, _, _, _, _, _, _, h => by cases h
  | n + 1, x1, x2, x3, f, v', f', h => by
    rw [D_X4_slowestOf_5] at h
    refine am_Ew.start [5] 28 (am_Ew.conv (fun k => (if x3 < (f 3 2) then (if ((x1 >>> (x3 &&& 31)) &&& 1) = 1 then (if x2 = (-9) then (k 5 [some (.ref 81), some (.int x1), some (.int x3), some (.int (x3 + 1))] [] am_G0 f) else (am_chk x3 6 (am_chk x2 6 (if (f (81 + 1) x3.toNatClampNeg) < (f (81 + 1) x2.toNatClampNeg) then (k 5 [some (.ref 81), some (.int x1), some (.int x3), some (.int (x3 + 1))] [] am_G0 f) else (k 5 [some (.ref 81), some (.int x1), some (.int x2), some (.int (x3 + 1))] [] am_G0 f))))) else (k 5 [some (.ref 81), some (.int x1), some (.int x2), some (.int (x3 + 1))] [] am_G0 f)) else (some (some (.int x2), am_G0, f)))) (fun k => rfl) ?_)
    refine am_Ew.ite h (fun _ h => ?_) (fun _ h => ?_)
    · refine am_Ew.ite h (fun _ h => ?_) (fun _ h => ?_)
      · refine am_Ew.ite h (fun _ h => ?_) (fun _ h => ?_)
        · exact am_Ew.run (lk_X4_slowestOf_81_5  n _ _ _ _ _ _ h )
        · refine am_Ew.chk h (fun h => ?_)
          refine am_Ew.chk h (fun h => ?_)
          refine am_Ew.ite h (fun _ h => ?_) (fun _ h => ?_)
          · exact am_Ew.run (lk_X4_slowestOf_81_5  n _ _ _ _ _ _ h )
          · exact am_Ew.run (lk_X4_slowestOf_81_5  n _ _ _ _ _ _ h )
      · exact am_Ew.run (lk_X4_slowestOf_81_5  n _ _ _ _ _ _ h )
    · exact am_Ew.retI h
set_option maxHeartbeats 400000 in
set_option maxRecDepth 100000 in
theorem lk_X4_slowestOf_81 {X : am_X} {a1 : Int32} {f f' : am_M} {v' : Int32} (h : D_X4_slowestOf 81 0 a1 f = some (v', f')) : am_Ev X 27 0 [some (.ref 81), some (.int a1), none, none] [] f (some (.int v')) f' := by
  rw [D_X4_slowestOf] at h
  refine am_Ew.start [5] 4 (am_Ew.conv (fun k => (k 5 [some (.ref 81), some (.int a1), some (.int (-9)), some (.int 0)] [] am_G0 f)) (fun k => rfl) ?_)
  exact am_Ew.run (lk_X4_slowestOf_81_5 _ _ _ _ _ _ _ h )
set_option maxHeartbeats 400000 in
set_option maxRecDepth 100000 in
theorem lk_X4_wantedByAll_11_4 {X : am_X} : ∀ (n : Nat) (x1 x2 : Int32) (f : am_M) (v' : Int32) (f' : am_M), D_X4_wantedByAll_4 11 999 n x1 x2 f = some (v', f') → am_Ev X 28 4 [some (.ref 11), some (.int x1), some (.int x2)] [] f (some (.int v')) f'
  | 0, _, _, _, _, _, h => by cases h
  | n + 1, x1, x2, f, v', f', h => by
    rw [D_X4_wantedByAll_4] at h
    refine am_Ew.start [4] 14 (am_Ew.conv (fun k => (if x2 < (f 3 1) then (am_chk x2 3 (k 4 [some (.ref 11), some (.int (x1 + (f (11 + 5) x2.toNatClampNeg))), some (.int (x2 + 1))] [] am_G0 f)) else (some (some (.int x1), am_G0, f)))) (fun k => rfl) ?_)
    refine am_Ew.ite h (fun _ h => ?_) (fun _ h => ?_)
    · refine am_Ew.chk h (fun h => ?_)
      exact am_Ew.run (lk_X4_wantedByAll_11_4  n _ _ _ _ _ h )
    · exact am_Ew.retI h
set_option maxHeartbeats 400000 in
set_option maxRecDepth 100000 in
theorem lk_X4_wantedByAll_11 {X : am_X} {f f' : am_M} {v' : Int32} (h : D_X4_wantedByAll 11 999 f = some (v', f')) : am_Ev X 28 0 [some (.ref 11), none, none] [] f (some (.int v')) f' := by
  rw [D_X4_wantedByAll] at h
  refine am_Ew.start [4] 4 (am_Ew.conv (fun k => (k 4 [some (.ref 11), some (.int 0), some (.int 0)] [] am_G0 f)) (fun k => rfl) ?_)
  exact am_Ew.run (lk_X4_wantedByAll_11_4 _ _ _ _ _ _ h )
set_option maxHeartbeats 400000 in
set_option maxRecDepth 100000 in
theorem lk_X4_placeInRow_11_2 {X : am_X} : ∀ (n : Nat) (x1 x2 : Int32) (f : am_M) (v' : Int32) (f' : am_M), D_X4_placeInRow_2 11 999 n x1 x2 f = some (v', f') → am_Ev X 29 2 [some (.ref 11), some (.int x1), some (.int x2)] [] f (some (.int v')) f'
  | 0, _, _, _, _, _, h => by cases h
  | n + 1, x1, x2, f, v', f', h => by
    rw [D_X4_placeInRow_2] at h
    refine am_Ew.start [2] 12 (am_Ew.conv (fun k => (if x2 < (f 11 9) then (am_chk x2 3 (if (f (11 + 4) x2.toNatClampNeg) = x1 then (some (some (.int x2), am_G0, f)) else (k 2 [some (.ref 11), some (.int x1), some (.int (x2 + 1))] [] am_G0 f))) else (some (some (.int (-9)), am_G0, f)))) (fun k => rfl) ?_)
    refine am_Ew.ite h (fun _ h => ?_) (fun _ h => ?_)
    · refine am_Ew.chk h (fun h => ?_)
      refine am_Ew.ite h (fun _ h => ?_) (fun _ h => ?_)
      · exact am_Ew.retI h
      · exact am_Ew.run (lk_X4_placeInRow_11_2  n _ _ _ _ _ h )
    · exact am_Ew.retI h
set_option maxHeartbeats 400000 in
set_option maxRecDepth 100000 in
theorem lk_X4_placeInRow_11 {X : am_X} {a1 : Int32} {f f' : am_M} {v' : Int32} (h : D_X4_placeInRow 11 999 a1 f = some (v', f')) : am_Ev X 29 0 [some (.ref 11), some (.int a1), none] [] f (some (.int v')) f' := by
  rw [D_X4_placeInRow] at h
  refine am_Ew.start [2] 2 (am_Ew.conv (fun k => (k 2 [some (.ref 11), some (.int a1), some (.int 0)] [] am_G0 f)) (fun k => rfl) ?_)
  exact am_Ew.run (lk_X4_placeInRow_11_2 _ _ _ _ _ _ h )
set_option maxHeartbeats 400000 in
set_option maxRecDepth 100000 in
theorem lk_X4_placeInRow_81_2 {X : am_X} : ∀ (n : Nat) (x1 x2 : Int32) (f : am_M) (v' : Int32) (f' : am_M), D_X4_placeInRow_2 81 0 n x1 x2 f = some (v', f') → am_Ev X 29 2 [some (.ref 81), some (.int x1), some (.int x2)] [] f (some (.int v')) f'
  | 0, _, _, _, _, _, h => by cases h
  | n + 1, x1, x2, f, v', f', h => by
    rw [D_X4_placeInRow_2] at h
    refine am_Ew.start [2] 12 (am_Ew.conv (fun k => (if x2 < (f 81 9) then (am_chk x2 3 (if (f (81 + 4) x2.toNatClampNeg) = x1 then (some (some (.int x2), am_G0, f)) else (k 2 [some (.ref 81), some (.int x1), some (.int (x2 + 1))] [] am_G0 f))) else (some (some (.int (-9)), am_G0, f)))) (fun k => rfl) ?_)
    refine am_Ew.ite h (fun _ h => ?_) (fun _ h => ?_)
    · refine am_Ew.chk h (fun h => ?_)
      refine am_Ew.ite h (fun _ h => ?_) (fun _ h => ?_)
      · exact am_Ew.retI h
      · exact am_Ew.run (lk_X4_placeInRow_81_2  n _ _ _ _ _ h )
    · exact am_Ew.retI h
set_option maxHeartbeats 400000 in
set_option maxRecDepth 100000 in
theorem lk_X4_placeInRow_81 {X : am_X} {a1 : Int32} {f f' : am_M} {v' : Int32} (h : D_X4_placeInRow 81 0 a1 f = some (v', f')) : am_Ev X 29 0 [some (.ref 81), some (.int a1), none] [] f (some (.int v')) f' := by
  rw [D_X4_placeInRow] at h
  refine am_Ew.start [2] 2 (am_Ew.conv (fun k => (k 2 [some (.ref 81), some (.int a1), some (.int 0)] [] am_G0 f)) (fun k => rfl) ?_)
  exact am_Ew.run (lk_X4_placeInRow_81_2 _ _ _ _ _ _ h )
set_option maxHeartbeats 400000 in
set_option maxRecDepth 100000 in
theorem lk_X4_claim_11_18 {X : am_X} : ∀ (n : Nat) (x1 x3 x4 : Int32) (f : am_M) (v' : Int32) (f' : am_M), D_X4_claim_18 11 999 n x1 x3 x4 f = some (v', f') → ∀ d2 : Option Value, am_Ev X 32 18 [some (.ref 11), some (.int x1), d2, some (.int x3), some (.int x4)] [] f (some (.int v')) f'
  | 0, _, _, _, _, _, _, h, _ => by cases h
  | n + 1, x1, x3, x4, f, v', f', h, d2 => by
    rw [D_X4_claim_18] at h
    refine am_Ew.start [18] 16 (am_Ew.conv (fun k => (if x4 < (f 11 2) then (if x4 < (Int32.ofNat 999) then (am_chk x4 999 (k 18 [some (.ref 11), some (.int x1), d2, some (.int x3), some (.int (x4 + 1))] [] am_G0 (am_wr f (11 + 6) x4.toNatClampNeg x1))) else (some (some (.int x3), am_G0, f))) else (some (some (.int x3), am_G0, f)))) (fun k => rfl) ?_)
    refine am_Ew.ite h (fun _ h => ?_) (fun _ h => ?_)
    · refine am_Ew.ite h (fun _ h => ?_) (fun _ h => ?_)
      · refine am_Ew.chk h (fun h => ?_)
        exact am_Ew.run (lk_X4_claim_11_18  n _ _ _ _ _ _ h _ )
      · exact am_Ew.retI h
    · exact am_Ew.retI h
set_option maxHeartbeats 400000 in
set_option maxRecDepth 100000 in
theorem lk_X4_claim_11 {X : am_X} {a1 a2 : Int32} {f f' : am_M} {v' : Int32} (h : D_X4_claim 11 999 a1 a2 f = some (v', f')) : am_Ev X 32 0 [some (.ref 11), some (.int a1), some (.int a2), none, none] [] f (some (.int v')) f' := by
  rw [D_X4_claim] at h
  refine am_Ew.start [18] 11 (am_Ew.conv (fun k => (k 18 [some (.ref 11), some (.int a1), some (.int a2), some (.int (f 11 2)), some (.int (f 11 2))] [] am_G0 (am_wr f 11 2 ((f 11 2) + a2)))) (fun k => rfl) ?_)
  exact am_Ew.run (lk_X4_claim_11_18 _ _ _ _ _ _ _ h _ )
set_option maxHeartbeats 400000 in
set_option maxRecDepth 100000 in
theorem lk_X4_claim_81_18 {X : am_X} : ∀ (n : Nat) (x1 x3 x4 : Int32) (f : am_M) (v' : Int32) (f' : am_M), D_X4_claim_18 81 0 n x1 x3 x4 f = some (v', f') → ∀ d2 : Option Value, am_Ev X 32 18 [some (.ref 81), some (.int x1), d2, some (.int x3), some (.int x4)] [] f (some (.int v')) f'
  | 0, _, _, _, _, _, _, h, _ => by cases h
  | n + 1, x1, x3, x4, f, v', f', h, d2 => by
    rw [D_X4_claim_18] at h
    refine am_Ew.start [18] 16 (am_Ew.conv (fun k => (if x4 < (f 81 2) then (if x4 < (Int32.ofNat 0) then (am_chk x4 0 (k 18 [some (.ref 81), some (.int x1), d2, some (.int x3), some (.int (x4 + 1))] [] am_G0 (am_wr f (81 + 6) x4.toNatClampNeg x1))) else (some (some (.int x3), am_G0, f))) else (some (some (.int x3), am_G0, f)))) (fun k => rfl) ?_)
    refine am_Ew.ite h (fun _ h => ?_) (fun _ h => ?_)
    · refine am_Ew.ite h (fun _ h => ?_) (fun _ h => ?_)
      · refine am_Ew.chk h (fun h => ?_)
        exact am_Ew.run (lk_X4_claim_81_18  n _ _ _ _ _ _ h _ )
      · exact am_Ew.retI h
    · exact am_Ew.retI h
set_option maxHeartbeats 400000 in
set_option maxRecDepth 100000 in
theorem lk_X4_claim_81 {X : am_X} {a1 a2 : Int32} {f f' : am_M} {v' : Int32} (h : D_X4_claim 81 0 a1 a2 f = some (v', f')) : am_Ev X 32 0 [some (.ref 81), some (.int a1), some (.int a2), none, none] [] f (some (.int v')) f' := by
  rw [D_X4_claim] at h
  refine am_Ew.start [18] 11 (am_Ew.conv (fun k => (k 18 [some (.ref 81), some (.int a1), some (.int a2), some (.int (f 81 2)), some (.int (f 81 2))] [] am_G0 (am_wr f 81 2 ((f 81 2) + a2)))) (fun k => rfl) ?_)
  exact am_Ew.run (lk_X4_claim_81_18 _ _ _ _ _ _ _ h _ )
set_option maxHeartbeats 400000 in
set_option maxRecDepth 100000 in
theorem lk_X4_closeAllByRule_81 {X : am_X} {f f' : am_M} (h : D_X4_closeAllByRule 81 0 f = some f') : am_Ev X 37 0 [some (.ref 81)] [] f none f' := by
  rw [D_X4_closeAllByRule] at h
  refine am_Ew.start [] 5 (am_Ew.conv (fun k => (some (none, am_G0, (am_wr f 81 3 (f 81 2))))) (fun k => rfl) ?_)
  exact am_Ew.retV h
set_option maxHeartbeats 400000 in
set_option maxRecDepth 100000 in
theorem lk_X4_takesToAdmitFirst_11_60 {X : am_X} : ∀ (n : Nat) (x1 x2 x3 : Int32) (f : am_M) (v' : Int32) (f' : am_M), D_X4_takesToAdmitFirst_60 11 999 n x1 x2 x3 f = some (v', f') → am_Ev X 40 60 [some (.ref 11), some (.int x1), some (.int x2), some (.int x3)] [] f (some (.int v')) f'
  | 0, _, _, _, _, _, _, h => by cases h
  | n + 1, x1, x2, x3, f, v', f', h => by
    rw [D_X4_takesToAdmitFirst_60] at h
    refine am_Ew.start [60] 14 (am_Ew.conv (fun k => (if x3 < (f 3 2) then (am_chk x3 6 (if (f (11 + 1) x3.toNatClampNeg) < x1 then (k 60 [some (.ref 11), some (.int x1), some (.int (x2 + 1)), some (.int (x3 + 1))] [] am_G0 f) else (k 60 [some (.ref 11), some (.int x1), some (.int x2), some (.int (x3 + 1))] [] am_G0 f))) else (some (some (.int x2), am_G0, f)))) (fun k => rfl) ?_)
    refine am_Ew.ite h (fun _ h => ?_) (fun _ h => ?_)
    · refine am_Ew.chk h (fun h => ?_)
      refine am_Ew.ite h (fun _ h => ?_) (fun _ h => ?_)
      · exact am_Ew.run (lk_X4_takesToAdmitFirst_11_60  n _ _ _ _ _ _ h )
      · exact am_Ew.run (lk_X4_takesToAdmitFirst_11_60  n _ _ _ _ _ _ h )
    · exact am_Ew.retI h
set_option maxHeartbeats 400000 in
set_option maxRecDepth 100000 in
theorem lk_X4_takesToAdmitFirst_11 {X : am_X} {f f' : am_M} {v' : Int32} (h : D_X4_takesToAdmitFirst 11 999 f = some (v', f')) : am_Ev X 40 0 [some (.ref 11), none, none, none] [] f (some (.int v')) f' := by
  rw [D_X4_takesToAdmitFirst] at h
  refine am_Ew.start [60] 30 (am_Ew.conv (fun k => (if (f 11 9) = 0 then (some (some (.int (-9)), am_G0, f)) else (if (f 3 2) = 0 then (some (some (.int (-9)), am_G0, f)) else (am_chk (f (11 + 4) 0) 3 (if (f 11 3) < (((f 11 2) + (f (11 + 5) (f (11 + 4) 0).toNatClampNeg)) - (f 3 0)) then (some (some (.int (-9)), am_G0, f)) else (k 60 [some (.ref 11), some (.int (((f 11 2) + (f (11 + 5) (f (11 + 4) 0).toNatClampNeg)) - (f 3 0))), some (.int 0), some (.int 0)] [] am_G0 f)))))) (fun k => rfl) ?_)
  refine am_Ew.ite h (fun _ h => ?_) (fun _ h => ?_)
  · exact am_Ew.retI h
  · refine am_Ew.ite h (fun _ h => ?_) (fun _ h => ?_)
    · exact am_Ew.retI h
    · refine am_Ew.chk h (fun h => ?_)
      refine am_Ew.ite h (fun _ h => ?_) (fun _ h => ?_)
      · exact am_Ew.retI h
      · exact am_Ew.run (lk_X4_takesToAdmitFirst_11_60 _ _ _ _ _ _ _ h )
set_option maxHeartbeats 400000 in
set_option maxRecDepth 100000 in
theorem lk_X4_copyFrom_11_21 {X : am_X} {f f' : am_M} (h : D_X4_copyFrom 11 999 21 0 f = some f') : am_Ev X 17 0 [some (.ref 11), some (.ref 21), none] [] f none f' := by
  rw [D_X4_copyFrom] at h
  refine am_Ew.start [107] 58 (am_Ew.conv (fun k => (k 107 [some (.ref 11), some (.ref 21), none] [.int (Int32.ofNat 0), .int (Int32.ofNat 999)] am_G0 (am_cp (am_cp (am_cp (am_cp (am_cp (am_wr (am_wr (am_wr f 11 2 (f 21 2)) 11 3 (f 21 3)) 11 9 (f 21 9)) (21 + 1) (11 + 1) 0 0 6) (21 + 2) (11 + 2) 0 0 6) (21 + 3) (11 + 3) 0 0 6) (21 + 4) (11 + 4) 0 0 3) (21 + 5) (11 + 5) 0 0 3))) (fun k => rfl) ?_)
  obtain ⟨v1, f1, h1, h⟩ := am_bI_some h
  refine am_Ew.run (am_Ev.call (fun n => rfl) (lk_J9_min_7cf53 h1) ?_)
  refine am_Ew.start [126] 10 (am_Ew.conv (fun k => (k 126 [some (.ref 11), some (.ref 21), some (.int v1)] [.int (f1 11 2), .int v1, .int 0, .ref (11 + 6), .int 0, .ref (21 + 6)] am_G0 f1)) (fun k => rfl) ?_)
  obtain ⟨v2, f2, h1, h⟩ := am_bI_some h
  refine am_Ew.run (am_Ev.call (fun n => rfl) (lk_J9_min_7cf53 h1) ?_)
  refine am_Ew.start [] 2 (am_Ew.conv (fun k => (if v2 < 0 then none else (if 0 + v2.toNatClampNeg ≤ 0 then (if 0 + v2.toNatClampNeg ≤ 999 then (some (none, am_G0, (am_cp f2 (21 + 6) (11 + 6) 0 0 v2.toNatClampNeg))) else none) else none))) (fun k => rfl) ?_)
  refine am_Ew.ite h (fun _ h => ?_) (fun _ h => ?_)
  · exact am_Ew.none h
  · refine am_Ew.ite h (fun _ h => ?_) (fun _ h => ?_)
    · refine am_Ew.ite h (fun _ h => ?_) (fun _ h => ?_)
      · exact am_Ew.retV h
      · exact am_Ew.none h
    · exact am_Ew.none h
set_option maxHeartbeats 400000 in
set_option maxRecDepth 100000 in
theorem lk_X4_copyFrom_11_28 {X : am_X} {f f' : am_M} (h : D_X4_copyFrom 11 999 28 0 f = some f') : am_Ev X 17 0 [some (.ref 11), some (.ref 28), none] [] f none f' := by
  rw [D_X4_copyFrom] at h
  refine am_Ew.start [107] 58 (am_Ew.conv (fun k => (k 107 [some (.ref 11), some (.ref 28), none] [.int (Int32.ofNat 0), .int (Int32.ofNat 999)] am_G0 (am_cp (am_cp (am_cp (am_cp (am_cp (am_wr (am_wr (am_wr f 11 2 (f 28 2)) 11 3 (f 28 3)) 11 9 (f 28 9)) (28 + 1) (11 + 1) 0 0 6) (28 + 2) (11 + 2) 0 0 6) (28 + 3) (11 + 3) 0 0 6) (28 + 4) (11 + 4) 0 0 3) (28 + 5) (11 + 5) 0 0 3))) (fun k => rfl) ?_)
  obtain ⟨v1, f1, h1, h⟩ := am_bI_some h
  refine am_Ew.run (am_Ev.call (fun n => rfl) (lk_J9_min_7cf53 h1) ?_)
  refine am_Ew.start [126] 10 (am_Ew.conv (fun k => (k 126 [some (.ref 11), some (.ref 28), some (.int v1)] [.int (f1 11 2), .int v1, .int 0, .ref (11 + 6), .int 0, .ref (28 + 6)] am_G0 f1)) (fun k => rfl) ?_)
  obtain ⟨v2, f2, h1, h⟩ := am_bI_some h
  refine am_Ew.run (am_Ev.call (fun n => rfl) (lk_J9_min_7cf53 h1) ?_)
  refine am_Ew.start [] 2 (am_Ew.conv (fun k => (if v2 < 0 then none else (if 0 + v2.toNatClampNeg ≤ 0 then (if 0 + v2.toNatClampNeg ≤ 999 then (some (none, am_G0, (am_cp f2 (28 + 6) (11 + 6) 0 0 v2.toNatClampNeg))) else none) else none))) (fun k => rfl) ?_)
  refine am_Ew.ite h (fun _ h => ?_) (fun _ h => ?_)
  · exact am_Ew.none h
  · refine am_Ew.ite h (fun _ h => ?_) (fun _ h => ?_)
    · refine am_Ew.ite h (fun _ h => ?_) (fun _ h => ?_)
      · exact am_Ew.retV h
      · exact am_Ew.none h
    · exact am_Ew.none h
set_option maxHeartbeats 400000 in
set_option maxRecDepth 100000 in
theorem lk_X4_copyFrom_11_35 {X : am_X} {f f' : am_M} (h : D_X4_copyFrom 11 999 35 0 f = some f') : am_Ev X 17 0 [some (.ref 11), some (.ref 35), none] [] f none f' := by
  rw [D_X4_copyFrom] at h
  refine am_Ew.start [107] 58 (am_Ew.conv (fun k => (k 107 [some (.ref 11), some (.ref 35), none] [.int (Int32.ofNat 0), .int (Int32.ofNat 999)] am_G0 (am_cp (am_cp (am_cp (am_cp (am_cp (am_wr (am_wr (am_wr f 11 2 (f 35 2)) 11 3 (f 35 3)) 11 9 (f 35 9)) (35 + 1) (11 + 1) 0 0 6) (35 + 2) (11 + 2) 0 0 6) (35 + 3) (11 + 3) 0 0 6) (35 + 4) (11 + 4) 0 0 3) (35 + 5) (11 + 5) 0 0 3))) (fun k => rfl) ?_)
  obtain ⟨v1, f1, h1, h⟩ := am_bI_some h
  refine am_Ew.run (am_Ev.call (fun n => rfl) (lk_J9_min_7cf53 h1) ?_)
  refine am_Ew.start [126] 10 (am_Ew.conv (fun k => (k 126 [some (.ref 11), some (.ref 35), some (.int v1)] [.int (f1 11 2), .int v1, .int 0, .ref (11 + 6), .int 0, .ref (35 + 6)] am_G0 f1)) (fun k => rfl) ?_)
  obtain ⟨v2, f2, h1, h⟩ := am_bI_some h
  refine am_Ew.run (am_Ev.call (fun n => rfl) (lk_J9_min_7cf53 h1) ?_)
  refine am_Ew.start [] 2 (am_Ew.conv (fun k => (if v2 < 0 then none else (if 0 + v2.toNatClampNeg ≤ 0 then (if 0 + v2.toNatClampNeg ≤ 999 then (some (none, am_G0, (am_cp f2 (35 + 6) (11 + 6) 0 0 v2.toNatClampNeg))) else none) else none))) (fun k => rfl) ?_)
  refine am_Ew.ite h (fun _ h => ?_) (fun _ h => ?_)
  · exact am_Ew.none h
  · refine am_Ew.ite h (fun _ h => ?_) (fun _ h => ?_)
    · refine am_Ew.ite h (fun _ h => ?_) (fun _ h => ?_)
      · exact am_Ew.retV h
      · exact am_Ew.none h
    · exact am_Ew.none h
set_option maxHeartbeats 400000 in
set_option maxRecDepth 100000 in
theorem lk_X4_copyFrom_11_42 {X : am_X} {f f' : am_M} (h : D_X4_copyFrom 11 999 42 0 f = some f') : am_Ev X 17 0 [some (.ref 11), some (.ref 42), none] [] f none f' := by
  rw [D_X4_copyFrom] at h
  refine am_Ew.start [107] 58 (am_Ew.conv (fun k => (k 107 [some (.ref 11), some (.ref 42), none] [.int (Int32.ofNat 0), .int (Int32.ofNat 999)] am_G0 (am_cp (am_cp (am_cp (am_cp (am_cp (am_wr (am_wr (am_wr f 11 2 (f 42 2)) 11 3 (f 42 3)) 11 9 (f 42 9)) (42 + 1) (11 + 1) 0 0 6) (42 + 2) (11 + 2) 0 0 6) (42 + 3) (11 + 3) 0 0 6) (42 + 4) (11 + 4) 0 0 3) (42 + 5) (11 + 5) 0 0 3))) (fun k => rfl) ?_)
  obtain ⟨v1, f1, h1, h⟩ := am_bI_some h
  refine am_Ew.run (am_Ev.call (fun n => rfl) (lk_J9_min_7cf53 h1) ?_)
  refine am_Ew.start [126] 10 (am_Ew.conv (fun k => (k 126 [some (.ref 11), some (.ref 42), some (.int v1)] [.int (f1 11 2), .int v1, .int 0, .ref (11 + 6), .int 0, .ref (42 + 6)] am_G0 f1)) (fun k => rfl) ?_)
  obtain ⟨v2, f2, h1, h⟩ := am_bI_some h
  refine am_Ew.run (am_Ev.call (fun n => rfl) (lk_J9_min_7cf53 h1) ?_)
  refine am_Ew.start [] 2 (am_Ew.conv (fun k => (if v2 < 0 then none else (if 0 + v2.toNatClampNeg ≤ 0 then (if 0 + v2.toNatClampNeg ≤ 999 then (some (none, am_G0, (am_cp f2 (42 + 6) (11 + 6) 0 0 v2.toNatClampNeg))) else none) else none))) (fun k => rfl) ?_)
  refine am_Ew.ite h (fun _ h => ?_) (fun _ h => ?_)
  · exact am_Ew.none h
  · refine am_Ew.ite h (fun _ h => ?_) (fun _ h => ?_)
    · refine am_Ew.ite h (fun _ h => ?_) (fun _ h => ?_)
      · exact am_Ew.retV h
      · exact am_Ew.none h
    · exact am_Ew.none h
set_option maxHeartbeats 400000 in
set_option maxRecDepth 100000 in
theorem lk_X4_copyFrom_11_49 {X : am_X} {f f' : am_M} (h : D_X4_copyFrom 11 999 49 0 f = some f') : am_Ev X 17 0 [some (.ref 11), some (.ref 49), none] [] f none f' := by
  rw [D_X4_copyFrom] at h
  refine am_Ew.start [107] 58 (am_Ew.conv (fun k => (k 107 [some (.ref 11), some (.ref 49), none] [.int (Int32.ofNat 0), .int (Int32.ofNat 999)] am_G0 (am_cp (am_cp (am_cp (am_cp (am_cp (am_wr (am_wr (am_wr f 11 2 (f 49 2)) 11 3 (f 49 3)) 11 9 (f 49 9)) (49 + 1) (11 + 1) 0 0 6) (49 + 2) (11 + 2) 0 0 6) (49 + 3) (11 + 3) 0 0 6) (49 + 4) (11 + 4) 0 0 3) (49 + 5) (11 + 5) 0 0 3))) (fun k => rfl) ?_)
  obtain ⟨v1, f1, h1, h⟩ := am_bI_some h
  refine am_Ew.run (am_Ev.call (fun n => rfl) (lk_J9_min_7cf53 h1) ?_)
  refine am_Ew.start [126] 10 (am_Ew.conv (fun k => (k 126 [some (.ref 11), some (.ref 49), some (.int v1)] [.int (f1 11 2), .int v1, .int 0, .ref (11 + 6), .int 0, .ref (49 + 6)] am_G0 f1)) (fun k => rfl) ?_)
  obtain ⟨v2, f2, h1, h⟩ := am_bI_some h
  refine am_Ew.run (am_Ev.call (fun n => rfl) (lk_J9_min_7cf53 h1) ?_)
  refine am_Ew.start [] 2 (am_Ew.conv (fun k => (if v2 < 0 then none else (if 0 + v2.toNatClampNeg ≤ 0 then (if 0 + v2.toNatClampNeg ≤ 999 then (some (none, am_G0, (am_cp f2 (49 + 6) (11 + 6) 0 0 v2.toNatClampNeg))) else none) else none))) (fun k => rfl) ?_)
  refine am_Ew.ite h (fun _ h => ?_) (fun _ h => ?_)
  · exact am_Ew.none h
  · refine am_Ew.ite h (fun _ h => ?_) (fun _ h => ?_)
    · refine am_Ew.ite h (fun _ h => ?_) (fun _ h => ?_)
      · exact am_Ew.retV h
      · exact am_Ew.none h
    · exact am_Ew.none h
set_option maxHeartbeats 400000 in
set_option maxRecDepth 100000 in
theorem lk_X4_copyFrom_11_56 {X : am_X} {f f' : am_M} (h : D_X4_copyFrom 11 999 56 0 f = some f') : am_Ev X 17 0 [some (.ref 11), some (.ref 56), none] [] f none f' := by
  rw [D_X4_copyFrom] at h
  refine am_Ew.start [107] 58 (am_Ew.conv (fun k => (k 107 [some (.ref 11), some (.ref 56), none] [.int (Int32.ofNat 0), .int (Int32.ofNat 999)] am_G0 (am_cp (am_cp (am_cp (am_cp (am_cp (am_wr (am_wr (am_wr f 11 2 (f 56 2)) 11 3 (f 56 3)) 11 9 (f 56 9)) (56 + 1) (11 + 1) 0 0 6) (56 + 2) (11 + 2) 0 0 6) (56 + 3) (11 + 3) 0 0 6) (56 + 4) (11 + 4) 0 0 3) (56 + 5) (11 + 5) 0 0 3))) (fun k => rfl) ?_)
  obtain ⟨v1, f1, h1, h⟩ := am_bI_some h
  refine am_Ew.run (am_Ev.call (fun n => rfl) (lk_J9_min_7cf53 h1) ?_)
  refine am_Ew.start [126] 10 (am_Ew.conv (fun k => (k 126 [some (.ref 11), some (.ref 56), some (.int v1)] [.int (f1 11 2), .int v1, .int 0, .ref (11 + 6), .int 0, .ref (56 + 6)] am_G0 f1)) (fun k => rfl) ?_)
  obtain ⟨v2, f2, h1, h⟩ := am_bI_some h
  refine am_Ew.run (am_Ev.call (fun n => rfl) (lk_J9_min_7cf53 h1) ?_)
  refine am_Ew.start [] 2 (am_Ew.conv (fun k => (if v2 < 0 then none else (if 0 + v2.toNatClampNeg ≤ 0 then (if 0 + v2.toNatClampNeg ≤ 999 then (some (none, am_G0, (am_cp f2 (56 + 6) (11 + 6) 0 0 v2.toNatClampNeg))) else none) else none))) (fun k => rfl) ?_)
  refine am_Ew.ite h (fun _ h => ?_) (fun _ h => ?_)
  · exact am_Ew.none h
  · refine am_Ew.ite h (fun _ h => ?_) (fun _ h => ?_)
    · refine am_Ew.ite h (fun _ h => ?_) (fun _ h => ?_)
      · exact am_Ew.retV h
      · exact am_Ew.none h
    · exact am_Ew.none h
set_option maxHeartbeats 400000 in
set_option maxRecDepth 100000 in
theorem lk_X4_copyFrom_11_64 {X : am_X} {f f' : am_M} (h : D_X4_copyFrom 11 999 64 999 f = some f') : am_Ev X 17 0 [some (.ref 11), some (.ref 64), none] [] f none f' := by
  rw [D_X4_copyFrom] at h
  refine am_Ew.start [107] 58 (am_Ew.conv (fun k => (k 107 [some (.ref 11), some (.ref 64), none] [.int (Int32.ofNat 999), .int (Int32.ofNat 999)] am_G0 (am_cp (am_cp (am_cp (am_cp (am_cp (am_wr (am_wr (am_wr f 11 2 (f 64 2)) 11 3 (f 64 3)) 11 9 (f 64 9)) (64 + 1) (11 + 1) 0 0 6) (64 + 2) (11 + 2) 0 0 6) (64 + 3) (11 + 3) 0 0 6) (64 + 4) (11 + 4) 0 0 3) (64 + 5) (11 + 5) 0 0 3))) (fun k => rfl) ?_)
  obtain ⟨v1, f1, h1, h⟩ := am_bI_some h
  refine am_Ew.run (am_Ev.call (fun n => rfl) (lk_J9_min_7cf53 h1) ?_)
  refine am_Ew.start [126] 10 (am_Ew.conv (fun k => (k 126 [some (.ref 11), some (.ref 64), some (.int v1)] [.int (f1 11 2), .int v1, .int 0, .ref (11 + 6), .int 0, .ref (64 + 6)] am_G0 f1)) (fun k => rfl) ?_)
  obtain ⟨v2, f2, h1, h⟩ := am_bI_some h
  refine am_Ew.run (am_Ev.call (fun n => rfl) (lk_J9_min_7cf53 h1) ?_)
  refine am_Ew.start [] 2 (am_Ew.conv (fun k => (if v2 < 0 then none else (if 0 + v2.toNatClampNeg ≤ 999 then (if 0 + v2.toNatClampNeg ≤ 999 then (some (none, am_G0, (am_cp f2 (64 + 6) (11 + 6) 0 0 v2.toNatClampNeg))) else none) else none))) (fun k => rfl) ?_)
  refine am_Ew.ite h (fun _ h => ?_) (fun _ h => ?_)
  · exact am_Ew.none h
  · refine am_Ew.ite h (fun _ h => ?_) (fun _ h => ?_)
    · refine am_Ew.ite h (fun _ h => ?_) (fun _ h => ?_)
      · exact am_Ew.retV h
      · exact am_Ew.none h
    · exact am_Ew.none h
set_option maxHeartbeats 400000 in
set_option maxRecDepth 100000 in
theorem lk_X4_copyFrom_11_72 {X : am_X} {f f' : am_M} (h : D_X4_copyFrom 11 999 72 999 f = some f') : am_Ev X 17 0 [some (.ref 11), some (.ref 72), none] [] f none f' := by
  rw [D_X4_copyFrom] at h
  refine am_Ew.start [107] 58 (am_Ew.conv (fun k => (k 107 [some (.ref 11), some (.ref 72), none] [.int (Int32.ofNat 999), .int (Int32.ofNat 999)] am_G0 (am_cp (am_cp (am_cp (am_cp (am_cp (am_wr (am_wr (am_wr f 11 2 (f 72 2)) 11 3 (f 72 3)) 11 9 (f 72 9)) (72 + 1) (11 + 1) 0 0 6) (72 + 2) (11 + 2) 0 0 6) (72 + 3) (11 + 3) 0 0 6) (72 + 4) (11 + 4) 0 0 3) (72 + 5) (11 + 5) 0 0 3))) (fun k => rfl) ?_)
  obtain ⟨v1, f1, h1, h⟩ := am_bI_some h
  refine am_Ew.run (am_Ev.call (fun n => rfl) (lk_J9_min_7cf53 h1) ?_)
  refine am_Ew.start [126] 10 (am_Ew.conv (fun k => (k 126 [some (.ref 11), some (.ref 72), some (.int v1)] [.int (f1 11 2), .int v1, .int 0, .ref (11 + 6), .int 0, .ref (72 + 6)] am_G0 f1)) (fun k => rfl) ?_)
  obtain ⟨v2, f2, h1, h⟩ := am_bI_some h
  refine am_Ew.run (am_Ev.call (fun n => rfl) (lk_J9_min_7cf53 h1) ?_)
  refine am_Ew.start [] 2 (am_Ew.conv (fun k => (if v2 < 0 then none else (if 0 + v2.toNatClampNeg ≤ 999 then (if 0 + v2.toNatClampNeg ≤ 999 then (some (none, am_G0, (am_cp f2 (72 + 6) (11 + 6) 0 0 v2.toNatClampNeg))) else none) else none))) (fun k => rfl) ?_)
  refine am_Ew.ite h (fun _ h => ?_) (fun _ h => ?_)
  · exact am_Ew.none h
  · refine am_Ew.ite h (fun _ h => ?_) (fun _ h => ?_)
    · refine am_Ew.ite h (fun _ h => ?_) (fun _ h => ?_)
      · exact am_Ew.retV h
      · exact am_Ew.none h
    · exact am_Ew.none h
set_option maxHeartbeats 400000 in
set_option maxRecDepth 100000 in
theorem lk_X4_copyFrom_21_11 {X : am_X} {f f' : am_M} (h : D_X4_copyFrom 21 0 11 999 f = some f') : am_Ev X 17 0 [some (.ref 21), some (.ref 11), none] [] f none f' := by
  rw [D_X4_copyFrom] at h
  refine am_Ew.start [107] 58 (am_Ew.conv (fun k => (k 107 [some (.ref 21), some (.ref 11), none] [.int (Int32.ofNat 999), .int (Int32.ofNat 0)] am_G0 (am_cp (am_cp (am_cp (am_cp (am_cp (am_wr (am_wr (am_wr f 21 2 (f 11 2)) 21 3 (f 11 3)) 21 9 (f 11 9)) (11 + 1) (21 + 1) 0 0 6) (11 + 2) (21 + 2) 0 0 6) (11 + 3) (21 + 3) 0 0 6) (11 + 4) (21 + 4) 0 0 3) (11 + 5) (21 + 5) 0 0 3))) (fun k => rfl) ?_)
  obtain ⟨v1, f1, h1, h⟩ := am_bI_some h
  refine am_Ew.run (am_Ev.call (fun n => rfl) (lk_J9_min_7cf53 h1) ?_)
  refine am_Ew.start [126] 10 (am_Ew.conv (fun k => (k 126 [some (.ref 21), some (.ref 11), some (.int v1)] [.int (f1 21 2), .int v1, .int 0, .ref (21 + 6), .int 0, .ref (11 + 6)] am_G0 f1)) (fun k => rfl) ?_)
  obtain ⟨v2, f2, h1, h⟩ := am_bI_some h
  refine am_Ew.run (am_Ev.call (fun n => rfl) (lk_J9_min_7cf53 h1) ?_)
  refine am_Ew.start [] 2 (am_Ew.conv (fun k => (if v2 < 0 then none else (if 0 + v2.toNatClampNeg ≤ 999 then (if 0 + v2.toNatClampNeg ≤ 0 then (some (none, am_G0, (am_cp f2 (11 + 6) (21 + 6) 0 0 v2.toNatClampNeg))) else none) else none))) (fun k => rfl) ?_)
  refine am_Ew.ite h (fun _ h => ?_) (fun _ h => ?_)
  · exact am_Ew.none h
  · refine am_Ew.ite h (fun _ h => ?_) (fun _ h => ?_)
    · refine am_Ew.ite h (fun _ h => ?_) (fun _ h => ?_)
      · exact am_Ew.retV h
      · exact am_Ew.none h
    · exact am_Ew.none h
set_option maxHeartbeats 400000 in
set_option maxRecDepth 100000 in
theorem lk_X4_copyFrom_28_11 {X : am_X} {f f' : am_M} (h : D_X4_copyFrom 28 0 11 999 f = some f') : am_Ev X 17 0 [some (.ref 28), some (.ref 11), none] [] f none f' := by
  rw [D_X4_copyFrom] at h
  refine am_Ew.start [107] 58 (am_Ew.conv (fun k => (k 107 [some (.ref 28), some (.ref 11), none] [.int (Int32.ofNat 999), .int (Int32.ofNat 0)] am_G0 (am_cp (am_cp (am_cp (am_cp (am_cp (am_wr (am_wr (am_wr f 28 2 (f 11 2)) 28 3 (f 11 3)) 28 9 (f 11 9)) (11 + 1) (28 + 1) 0 0 6) (11 + 2) (28 + 2) 0 0 6) (11 + 3) (28 + 3) 0 0 6) (11 + 4) (28 + 4) 0 0 3) (11 + 5) (28 + 5) 0 0 3))) (fun k => rfl) ?_)
  obtain ⟨v1, f1, h1, h⟩ := am_bI_some h
  refine am_Ew.run (am_Ev.call (fun n => rfl) (lk_J9_min_7cf53 h1) ?_)
  refine am_Ew.start [126] 10 (am_Ew.conv (fun k => (k 126 [some (.ref 28), some (.ref 11), some (.int v1)] [.int (f1 28 2), .int v1, .int 0, .ref (28 + 6), .int 0, .ref (11 + 6)] am_G0 f1)) (fun k => rfl) ?_)
  obtain ⟨v2, f2, h1, h⟩ := am_bI_some h
  refine am_Ew.run (am_Ev.call (fun n => rfl) (lk_J9_min_7cf53 h1) ?_)
  refine am_Ew.start [] 2 (am_Ew.conv (fun k => (if v2 < 0 then none else (if 0 + v2.toNatClampNeg ≤ 999 then (if 0 + v2.toNatClampNeg ≤ 0 then (some (none, am_G0, (am_cp f2 (11 + 6) (28 + 6) 0 0 v2.toNatClampNeg))) else none) else none))) (fun k => rfl) ?_)
  refine am_Ew.ite h (fun _ h => ?_) (fun _ h => ?_)
  · exact am_Ew.none h
  · refine am_Ew.ite h (fun _ h => ?_) (fun _ h => ?_)
    · refine am_Ew.ite h (fun _ h => ?_) (fun _ h => ?_)
      · exact am_Ew.retV h
      · exact am_Ew.none h
    · exact am_Ew.none h
set_option maxHeartbeats 400000 in
set_option maxRecDepth 100000 in
theorem lk_X4_copyFrom_35_11 {X : am_X} {f f' : am_M} (h : D_X4_copyFrom 35 0 11 999 f = some f') : am_Ev X 17 0 [some (.ref 35), some (.ref 11), none] [] f none f' := by
  rw [D_X4_copyFrom] at h
  refine am_Ew.start [107] 58 (am_Ew.conv (fun k => (k 107 [some (.ref 35), some (.ref 11), none] [.int (Int32.ofNat 999), .int (Int32.ofNat 0)] am_G0 (am_cp (am_cp (am_cp (am_cp (am_cp (am_wr (am_wr (am_wr f 35 2 (f 11 2)) 35 3 (f 11 3)) 35 9 (f 11 9)) (11 + 1) (35 + 1) 0 0 6) (11 + 2) (35 + 2) 0 0 6) (11 + 3) (35 + 3) 0 0 6) (11 + 4) (35 + 4) 0 0 3) (11 + 5) (35 + 5) 0 0 3))) (fun k => rfl) ?_)
  obtain ⟨v1, f1, h1, h⟩ := am_bI_some h
  refine am_Ew.run (am_Ev.call (fun n => rfl) (lk_J9_min_7cf53 h1) ?_)
  refine am_Ew.start [126] 10 (am_Ew.conv (fun k => (k 126 [some (.ref 35), some (.ref 11), some (.int v1)] [.int (f1 35 2), .int v1, .int 0, .ref (35 + 6), .int 0, .ref (11 + 6)] am_G0 f1)) (fun k => rfl) ?_)
  obtain ⟨v2, f2, h1, h⟩ := am_bI_some h
  refine am_Ew.run (am_Ev.call (fun n => rfl) (lk_J9_min_7cf53 h1) ?_)
  refine am_Ew.start [] 2 (am_Ew.conv (fun k => (if v2 < 0 then none else (if 0 + v2.toNatClampNeg ≤ 999 then (if 0 + v2.toNatClampNeg ≤ 0 then (some (none, am_G0, (am_cp f2 (11 + 6) (35 + 6) 0 0 v2.toNatClampNeg))) else none) else none))) (fun k => rfl) ?_)
  refine am_Ew.ite h (fun _ h => ?_) (fun _ h => ?_)
  · exact am_Ew.none h
  · refine am_Ew.ite h (fun _ h => ?_) (fun _ h => ?_)
    · refine am_Ew.ite h (fun _ h => ?_) (fun _ h => ?_)
      · exact am_Ew.retV h
      · exact am_Ew.none h
    · exact am_Ew.none h
set_option maxHeartbeats 400000 in
set_option maxRecDepth 100000 in
theorem lk_X4_copyFrom_42_11 {X : am_X} {f f' : am_M} (h : D_X4_copyFrom 42 0 11 999 f = some f') : am_Ev X 17 0 [some (.ref 42), some (.ref 11), none] [] f none f' := by
  rw [D_X4_copyFrom] at h
  refine am_Ew.start [107] 58 (am_Ew.conv (fun k => (k 107 [some (.ref 42), some (.ref 11), none] [.int (Int32.ofNat 999), .int (Int32.ofNat 0)] am_G0 (am_cp (am_cp (am_cp (am_cp (am_cp (am_wr (am_wr (am_wr f 42 2 (f 11 2)) 42 3 (f 11 3)) 42 9 (f 11 9)) (11 + 1) (42 + 1) 0 0 6) (11 + 2) (42 + 2) 0 0 6) (11 + 3) (42 + 3) 0 0 6) (11 + 4) (42 + 4) 0 0 3) (11 + 5) (42 + 5) 0 0 3))) (fun k => rfl) ?_)
  obtain ⟨v1, f1, h1, h⟩ := am_bI_some h
  refine am_Ew.run (am_Ev.call (fun n => rfl) (lk_J9_min_7cf53 h1) ?_)
  refine am_Ew.start [126] 10 (am_Ew.conv (fun k => (k 126 [some (.ref 42), some (.ref 11), some (.int v1)] [.int (f1 42 2), .int v1, .int 0, .ref (42 + 6), .int 0, .ref (11 + 6)] am_G0 f1)) (fun k => rfl) ?_)
  obtain ⟨v2, f2, h1, h⟩ := am_bI_some h
  refine am_Ew.run (am_Ev.call (fun n => rfl) (lk_J9_min_7cf53 h1) ?_)
  refine am_Ew.start [] 2 (am_Ew.conv (fun k => (if v2 < 0 then none else (if 0 + v2.toNatClampNeg ≤ 999 then (if 0 + v2.toNatClampNeg ≤ 0 then (some (none, am_G0, (am_cp f2 (11 + 6) (42 + 6) 0 0 v2.toNatClampNeg))) else none) else none))) (fun k => rfl) ?_)
  refine am_Ew.ite h (fun _ h => ?_) (fun _ h => ?_)
  · exact am_Ew.none h
  · refine am_Ew.ite h (fun _ h => ?_) (fun _ h => ?_)
    · refine am_Ew.ite h (fun _ h => ?_) (fun _ h => ?_)
      · exact am_Ew.retV h
      · exact am_Ew.none h
    · exact am_Ew.none h
set_option maxHeartbeats 400000 in
set_option maxRecDepth 100000 in
theorem lk_X4_copyFrom_49_11 {X : am_X} {f f' : am_M} (h : D_X4_copyFrom 49 0 11 999 f = some f') : am_Ev X 17 0 [some (.ref 49), some (.ref 11), none] [] f none f' := by
  rw [D_X4_copyFrom] at h
  refine am_Ew.start [107] 58 (am_Ew.conv (fun k => (k 107 [some (.ref 49), some (.ref 11), none] [.int (Int32.ofNat 999), .int (Int32.ofNat 0)] am_G0 (am_cp (am_cp (am_cp (am_cp (am_cp (am_wr (am_wr (am_wr f 49 2 (f 11 2)) 49 3 (f 11 3)) 49 9 (f 11 9)) (11 + 1) (49 + 1) 0 0 6) (11 + 2) (49 + 2) 0 0 6) (11 + 3) (49 + 3) 0 0 6) (11 + 4) (49 + 4) 0 0 3) (11 + 5) (49 + 5) 0 0 3))) (fun k => rfl) ?_)
  obtain ⟨v1, f1, h1, h⟩ := am_bI_some h
  refine am_Ew.run (am_Ev.call (fun n => rfl) (lk_J9_min_7cf53 h1) ?_)
  refine am_Ew.start [126] 10 (am_Ew.conv (fun k => (k 126 [some (.ref 49), some (.ref 11), some (.int v1)] [.int (f1 49 2), .int v1, .int 0, .ref (49 + 6), .int 0, .ref (11 + 6)] am_G0 f1)) (fun k => rfl) ?_)
  obtain ⟨v2, f2, h1, h⟩ := am_bI_some h
  refine am_Ew.run (am_Ev.call (fun n => rfl) (lk_J9_min_7cf53 h1) ?_)
  refine am_Ew.start [] 2 (am_Ew.conv (fun k => (if v2 < 0 then none else (if 0 + v2.toNatClampNeg ≤ 999 then (if 0 + v2.toNatClampNeg ≤ 0 then (some (none, am_G0, (am_cp f2 (11 + 6) (49 + 6) 0 0 v2.toNatClampNeg))) else none) else none))) (fun k => rfl) ?_)
  refine am_Ew.ite h (fun _ h => ?_) (fun _ h => ?_)
  · exact am_Ew.none h
  · refine am_Ew.ite h (fun _ h => ?_) (fun _ h => ?_)
    · refine am_Ew.ite h (fun _ h => ?_) (fun _ h => ?_)
      · exact am_Ew.retV h
      · exact am_Ew.none h
    · exact am_Ew.none h
set_option maxHeartbeats 400000 in
set_option maxRecDepth 100000 in
theorem lk_X4_copyFrom_56_11 {X : am_X} {f f' : am_M} (h : D_X4_copyFrom 56 0 11 999 f = some f') : am_Ev X 17 0 [some (.ref 56), some (.ref 11), none] [] f none f' := by
  rw [D_X4_copyFrom] at h
  refine am_Ew.start [107] 58 (am_Ew.conv (fun k => (k 107 [some (.ref 56), some (.ref 11), none] [.int (Int32.ofNat 999), .int (Int32.ofNat 0)] am_G0 (am_cp (am_cp (am_cp (am_cp (am_cp (am_wr (am_wr (am_wr f 56 2 (f 11 2)) 56 3 (f 11 3)) 56 9 (f 11 9)) (11 + 1) (56 + 1) 0 0 6) (11 + 2) (56 + 2) 0 0 6) (11 + 3) (56 + 3) 0 0 6) (11 + 4) (56 + 4) 0 0 3) (11 + 5) (56 + 5) 0 0 3))) (fun k => rfl) ?_)
  obtain ⟨v1, f1, h1, h⟩ := am_bI_some h
  refine am_Ew.run (am_Ev.call (fun n => rfl) (lk_J9_min_7cf53 h1) ?_)
  refine am_Ew.start [126] 10 (am_Ew.conv (fun k => (k 126 [some (.ref 56), some (.ref 11), some (.int v1)] [.int (f1 56 2), .int v1, .int 0, .ref (56 + 6), .int 0, .ref (11 + 6)] am_G0 f1)) (fun k => rfl) ?_)
  obtain ⟨v2, f2, h1, h⟩ := am_bI_some h
  refine am_Ew.run (am_Ev.call (fun n => rfl) (lk_J9_min_7cf53 h1) ?_)
  refine am_Ew.start [] 2 (am_Ew.conv (fun k => (if v2 < 0 then none else (if 0 + v2.toNatClampNeg ≤ 999 then (if 0 + v2.toNatClampNeg ≤ 0 then (some (none, am_G0, (am_cp f2 (11 + 6) (56 + 6) 0 0 v2.toNatClampNeg))) else none) else none))) (fun k => rfl) ?_)
  refine am_Ew.ite h (fun _ h => ?_) (fun _ h => ?_)
  · exact am_Ew.none h
  · refine am_Ew.ite h (fun _ h => ?_) (fun _ h => ?_)
    · refine am_Ew.ite h (fun _ h => ?_) (fun _ h => ?_)
      · exact am_Ew.retV h
      · exact am_Ew.none h
    · exact am_Ew.none h
set_option maxHeartbeats 400000 in
set_option maxRecDepth 100000 in
theorem lk_X4_copyFrom_64_11 {X : am_X} {f f' : am_M} (h : D_X4_copyFrom 64 999 11 999 f = some f') : am_Ev X 17 0 [some (.ref 64), some (.ref 11), none] [] f none f' := by
  rw [D_X4_copyFrom] at h
  refine am_Ew.start [107] 58 (am_Ew.conv (fun k => (k 107 [some (.ref 64), some (.ref 11), none] [.int (Int32.ofNat 999), .int (Int32.ofNat 999)] am_G0 (am_cp (am_cp (am_cp (am_cp (am_cp (am_wr (am_wr (am_wr f 64 2 (f 11 2)) 64 3 (f 11 3)) 64 9 (f 11 9)) (11 + 1) (64 + 1) 0 0 6) (11 + 2) (64 + 2) 0 0 6) (11 + 3) (64 + 3) 0 0 6) (11 + 4) (64 + 4) 0 0 3) (11 + 5) (64 + 5) 0 0 3))) (fun k => rfl) ?_)
  obtain ⟨v1, f1, h1, h⟩ := am_bI_some h
  refine am_Ew.run (am_Ev.call (fun n => rfl) (lk_J9_min_7cf53 h1) ?_)
  refine am_Ew.start [126] 10 (am_Ew.conv (fun k => (k 126 [some (.ref 64), some (.ref 11), some (.int v1)] [.int (f1 64 2), .int v1, .int 0, .ref (64 + 6), .int 0, .ref (11 + 6)] am_G0 f1)) (fun k => rfl) ?_)
  obtain ⟨v2, f2, h1, h⟩ := am_bI_some h
  refine am_Ew.run (am_Ev.call (fun n => rfl) (lk_J9_min_7cf53 h1) ?_)
  refine am_Ew.start [] 2 (am_Ew.conv (fun k => (if v2 < 0 then none else (if 0 + v2.toNatClampNeg ≤ 999 then (if 0 + v2.toNatClampNeg ≤ 999 then (some (none, am_G0, (am_cp f2 (11 + 6) (64 + 6) 0 0 v2.toNatClampNeg))) else none) else none))) (fun k => rfl) ?_)
  refine am_Ew.ite h (fun _ h => ?_) (fun _ h => ?_)
  · exact am_Ew.none h
  · refine am_Ew.ite h (fun _ h => ?_) (fun _ h => ?_)
    · refine am_Ew.ite h (fun _ h => ?_) (fun _ h => ?_)
      · exact am_Ew.retV h
      · exact am_Ew.none h
    · exact am_Ew.none h
set_option maxHeartbeats 400000 in
set_option maxRecDepth 100000 in
theorem lk_X4_copyFrom_72_11 {X : am_X} {f f' : am_M} (h : D_X4_copyFrom 72 999 11 999 f = some f') : am_Ev X 17 0 [some (.ref 72), some (.ref 11), none] [] f none f' := by
  rw [D_X4_copyFrom] at h
  refine am_Ew.start [107] 58 (am_Ew.conv (fun k => (k 107 [some (.ref 72), some (.ref 11), none] [.int (Int32.ofNat 999), .int (Int32.ofNat 999)] am_G0 (am_cp (am_cp (am_cp (am_cp (am_cp (am_wr (am_wr (am_wr f 72 2 (f 11 2)) 72 3 (f 11 3)) 72 9 (f 11 9)) (11 + 1) (72 + 1) 0 0 6) (11 + 2) (72 + 2) 0 0 6) (11 + 3) (72 + 3) 0 0 6) (11 + 4) (72 + 4) 0 0 3) (11 + 5) (72 + 5) 0 0 3))) (fun k => rfl) ?_)
  obtain ⟨v1, f1, h1, h⟩ := am_bI_some h
  refine am_Ew.run (am_Ev.call (fun n => rfl) (lk_J9_min_7cf53 h1) ?_)
  refine am_Ew.start [126] 10 (am_Ew.conv (fun k => (k 126 [some (.ref 72), some (.ref 11), some (.int v1)] [.int (f1 72 2), .int v1, .int 0, .ref (72 + 6), .int 0, .ref (11 + 6)] am_G0 f1)) (fun k => rfl) ?_)
  obtain ⟨v2, f2, h1, h⟩ := am_bI_some h
  refine am_Ew.run (am_Ev.call (fun n => rfl) (lk_J9_min_7cf53 h1) ?_)
  refine am_Ew.start [] 2 (am_Ew.conv (fun k => (if v2 < 0 then none else (if 0 + v2.toNatClampNeg ≤ 999 then (if 0 + v2.toNatClampNeg ≤ 999 then (some (none, am_G0, (am_cp f2 (11 + 6) (72 + 6) 0 0 v2.toNatClampNeg))) else none) else none))) (fun k => rfl) ?_)
  refine am_Ew.ite h (fun _ h => ?_) (fun _ h => ?_)
  · exact am_Ew.none h
  · refine am_Ew.ite h (fun _ h => ?_) (fun _ h => ?_)
    · refine am_Ew.ite h (fun _ h => ?_) (fun _ h => ?_)
      · exact am_Ew.retV h
      · exact am_Ew.none h
    · exact am_Ew.none h
set_option maxHeartbeats 400000 in
set_option maxRecDepth 100000 in
theorem lk_X4_copyFrom_81_11 {X : am_X} {f f' : am_M} (h : D_X4_copyFrom 81 0 11 999 f = some f') : am_Ev X 17 0 [some (.ref 81), some (.ref 11), none] [] f none f' := by
  rw [D_X4_copyFrom] at h
  refine am_Ew.start [107] 58 (am_Ew.conv (fun k => (k 107 [some (.ref 81), some (.ref 11), none] [.int (Int32.ofNat 999), .int (Int32.ofNat 0)] am_G0 (am_cp (am_cp (am_cp (am_cp (am_cp (am_wr (am_wr (am_wr f 81 2 (f 11 2)) 81 3 (f 11 3)) 81 9 (f 11 9)) (11 + 1) (81 + 1) 0 0 6) (11 + 2) (81 + 2) 0 0 6) (11 + 3) (81 + 3) 0 0 6) (11 + 4) (81 + 4) 0 0 3) (11 + 5) (81 + 5) 0 0 3))) (fun k => rfl) ?_)
  obtain ⟨v1, f1, h1, h⟩ := am_bI_some h
  refine am_Ew.run (am_Ev.call (fun n => rfl) (lk_J9_min_7cf53 h1) ?_)
  refine am_Ew.start [126] 10 (am_Ew.conv (fun k => (k 126 [some (.ref 81), some (.ref 11), some (.int v1)] [.int (f1 81 2), .int v1, .int 0, .ref (81 + 6), .int 0, .ref (11 + 6)] am_G0 f1)) (fun k => rfl) ?_)
  obtain ⟨v2, f2, h1, h⟩ := am_bI_some h
  refine am_Ew.run (am_Ev.call (fun n => rfl) (lk_J9_min_7cf53 h1) ?_)
  refine am_Ew.start [] 2 (am_Ew.conv (fun k => (if v2 < 0 then none else (if 0 + v2.toNatClampNeg ≤ 999 then (if 0 + v2.toNatClampNeg ≤ 0 then (some (none, am_G0, (am_cp f2 (11 + 6) (81 + 6) 0 0 v2.toNatClampNeg))) else none) else none))) (fun k => rfl) ?_)
  refine am_Ew.ite h (fun _ h => ?_) (fun _ h => ?_)
  · exact am_Ew.none h
  · refine am_Ew.ite h (fun _ h => ?_) (fun _ h => ?_)
    · refine am_Ew.ite h (fun _ h => ?_) (fun _ h => ?_)
      · exact am_Ew.retV h
      · exact am_Ew.none h
    · exact am_Ew.none h
set_option maxHeartbeats 400000 in
set_option maxRecDepth 100000 in
theorem lk_X4_room_11 {X : am_X} {f f' : am_M} {v' : Int32} (h : D_X4_room 11 999 f = some (v', f')) : am_Ev X 23 0 [some (.ref 11)] [] f (some (.int v')) f' := by
  rw [D_X4_room] at h
  refine am_Ew.start [8] 4 (am_Ew.conv (fun k => (k 8 [some (.ref 11)] [.ref 11, .int (f 3 0)] am_G0 f)) (fun k => rfl) ?_)
  obtain ⟨v1, f1, h1, h⟩ := am_bI_some h
  refine am_Ew.run (am_Ev.call (fun n => rfl) (lk_X4_least_11 h1) ?_)
  refine am_Ew.start [] 5 (am_Ew.conv (fun k => (some (some (.int (((f 3 0) + v1) - (f1 11 2))), am_G0, f1))) (fun k => rfl) ?_)
  exact am_Ew.retI h
set_option maxHeartbeats 400000 in
set_option maxRecDepth 100000 in
theorem lk_X4_room_81 {X : am_X} {f f' : am_M} {v' : Int32} (h : D_X4_room 81 0 f = some (v', f')) : am_Ev X 23 0 [some (.ref 81)] [] f (some (.int v')) f' := by
  rw [D_X4_room] at h
  refine am_Ew.start [8] 4 (am_Ew.conv (fun k => (k 8 [some (.ref 81)] [.ref 81, .int (f 3 0)] am_G0 f)) (fun k => rfl) ?_)
  obtain ⟨v1, f1, h1, h⟩ := am_bI_some h
  refine am_Ew.run (am_Ev.call (fun n => rfl) (lk_X4_least_81 h1) ?_)
  refine am_Ew.start [] 5 (am_Ew.conv (fun k => (some (some (.int (((f 3 0) + v1) - (f1 81 2))), am_G0, f1))) (fun k => rfl) ?_)
  exact am_Ew.retI h
set_option maxHeartbeats 400000 in
set_option maxRecDepth 100000 in
theorem lk_X4_atMost_11 {X : am_X} {a1 : Int32} {f f' : am_M} {v' : Int32} (h : D_X4_atMost 11 999 a1 f = some (v', f')) : am_Ev X 24 0 [some (.ref 11), some (.int a1), none] [] f (some (.int v')) f' := by
  rw [D_X4_atMost] at h
  refine am_Ew.start [10] 6 (am_Ew.conv (fun k => (am_chk a1 6 (k 10 [some (.ref 11), some (.int a1), none] [.int (f 6 a1.toNatClampNeg), .ref 11] am_G0 f))) (fun k => rfl) ?_)
  refine am_Ew.chk h (fun h => ?_)
  obtain ⟨v1, f1, h1, h⟩ := am_bI_some h
  refine am_Ew.run (am_Ev.call (fun n => rfl) (lk_X4_slowestOf_11 h1) ?_)
  refine am_Ew.start [] 9 (am_Ew.conv (fun k => (if v1 = (-9) then (some (some (.int (f1 11 3)), am_G0, f1)) else (am_chk v1 6 (some (some (.int (f1 (11 + 1) v1.toNatClampNeg)), am_G0, f1))))) (fun k => rfl) ?_)
  refine am_Ew.ite h (fun _ h => ?_) (fun _ h => ?_)
  · exact am_Ew.retI h
  · refine am_Ew.chk h (fun h => ?_)
    exact am_Ew.retI h
set_option maxHeartbeats 400000 in
set_option maxRecDepth 100000 in
theorem lk_X4_atMost_81 {X : am_X} {a1 : Int32} {f f' : am_M} {v' : Int32} (h : D_X4_atMost 81 0 a1 f = some (v', f')) : am_Ev X 24 0 [some (.ref 81), some (.int a1), none] [] f (some (.int v')) f' := by
  rw [D_X4_atMost] at h
  refine am_Ew.start [10] 6 (am_Ew.conv (fun k => (am_chk a1 6 (k 10 [some (.ref 81), some (.int a1), none] [.int (f 6 a1.toNatClampNeg), .ref 81] am_G0 f))) (fun k => rfl) ?_)
  refine am_Ew.chk h (fun h => ?_)
  obtain ⟨v1, f1, h1, h⟩ := am_bI_some h
  refine am_Ew.run (am_Ev.call (fun n => rfl) (lk_X4_slowestOf_81 h1) ?_)
  refine am_Ew.start [] 9 (am_Ew.conv (fun k => (if v1 = (-9) then (some (some (.int (f1 81 3)), am_G0, f1)) else (am_chk v1 6 (some (some (.int (f1 (81 + 1) v1.toNatClampNeg)), am_G0, f1))))) (fun k => rfl) ?_)
  refine am_Ew.ite h (fun _ h => ?_) (fun _ h => ?_)
  · exact am_Ew.retI h
  · refine am_Ew.chk h (fun h => ?_)
    exact am_Ew.retI h
set_option maxHeartbeats 400000 in
set_option maxRecDepth 100000 in
theorem lk_X4_slowest_11 {X : am_X} {f f' : am_M} {v' : Int32} (h : D_X4_slowest 11 999 f = some (v', f')) : am_Ev X 26 0 [some (.ref 11)] [] f (some (.int v')) f' := by
  rw [D_X4_slowest] at h
  refine am_Ew.start [12] 8 (am_Ew.conv (fun k => (k 12 [some (.ref 11)] [.int (((1 : Int32) <<< ((f 3 2) &&& 31)) - 1), .ref 11] am_G0 f)) (fun k => rfl) ?_)
  obtain ⟨v1, f1, h1, h⟩ := am_bI_some h
  refine am_Ew.run (am_Ev.call (fun n => rfl) (lk_X4_slowestOf_11 h1) ?_)
  refine am_Ew.start [] 1 (am_Ew.conv (fun k => (some (some (.int v1), am_G0, f1))) (fun k => rfl) ?_)
  exact am_Ew.retI h
set_option maxHeartbeats 400000 in
set_option maxRecDepth 100000 in
theorem lk_X4_slowest_81 {X : am_X} {f f' : am_M} {v' : Int32} (h : D_X4_slowest 81 0 f = some (v', f')) : am_Ev X 26 0 [some (.ref 81)] [] f (some (.int v')) f' := by
  rw [D_X4_slowest] at h
  refine am_Ew.start [12] 8 (am_Ew.conv (fun k => (k 12 [some (.ref 81)] [.int (((1 : Int32) <<< ((f 3 2) &&& 31)) - 1), .ref 81] am_G0 f)) (fun k => rfl) ?_)
  obtain ⟨v1, f1, h1, h⟩ := am_bI_some h
  refine am_Ew.run (am_Ev.call (fun n => rfl) (lk_X4_slowestOf_81 h1) ?_)
  refine am_Ew.start [] 1 (am_Ew.conv (fun k => (some (some (.int v1), am_G0, f1))) (fun k => rfl) ?_)
  exact am_Ew.retI h
set_option maxHeartbeats 400000 in
set_option maxRecDepth 100000 in
theorem lk_X4_openOf_11_7 {X : am_X} : ∀ (n : Nat) (x1 x2 x3 : Int32) (f : am_M) (v' : Int32) (f' : am_M), D_X4_openOf_7 11 999 n x1 x2 x3 f = some (v', f') → am_Ev X 30 7 [some (.ref 11), some (.int x1), some (.int x2), some (.int x3)] [] f (some (.int v')) f'
  | 0, _, _, _, _, _, _, h => by cases h
  | n + 1, x1, x2, x3, f, v', f', h => by
    rw [D_X4_openOf_7] at h
    refine am_Ew.start [26] 11 (am_Ew.conv (fun k => (if x3 < (f 11 2) then (if x3 < (Int32.ofNat 999) then (k 26 [some (.ref 11), some (.int x1), some (.int x2), some (.int x3)] [.int x3, .ref 11] am_G0 f) else (some (some (.int x2), am_G0, f))) else (some (some (.int x2), am_G0, f)))) (fun k => rfl) ?_)
    refine am_Ew.ite h (fun _ h => ?_) (fun _ h => ?_)
    · refine am_Ew.ite h (fun _ h => ?_) (fun _ h => ?_)
      · obtain ⟨v1, f1, h1, h⟩ := am_bI_some h
        refine am_Ew.run (am_Ev.call (fun n => rfl) (lk_X4_kindOf_11 h1) ?_)
        refine am_Ew.start [7, 34] 3 (am_Ew.conv (fun k => (if v1 = 0 then (k 34 [some (.ref 11), some (.int x1), some (.int x2), some (.int x3)] [.int x3, .ref 11] am_G0 f1) else (k 7 [some (.ref 11), some (.int x1), some (.int x2), some (.int (x3 + 1))] [] am_G0 f1))) (fun k => rfl) ?_)
        refine am_Ew.ite h (fun _ h => ?_) (fun _ h => ?_)
        · obtain ⟨v2, f2, h1, h⟩ := am_bI_some h
          refine am_Ew.run (am_Ev.call (fun n => rfl) (lk_X4_makerOf_11 h1) ?_)
          refine am_Ew.start [7] 5 (am_Ew.conv (fun k => (if v2 = x1 then (k 7 [some (.ref 11), some (.int x1), some (.int (x2 + 1)), some (.int (x3 + 1))] [] am_G0 f2) else (k 7 [some (.ref 11), some (.int x1), some (.int x2), some (.int (x3 + 1))] [] am_G0 f2))) (fun k => rfl) ?_)
          refine am_Ew.ite h (fun _ h => ?_) (fun _ h => ?_)
          · exact am_Ew.run (lk_X4_openOf_11_7  n _ _ _ _ _ _ h )
          · exact am_Ew.run (lk_X4_openOf_11_7  n _ _ _ _ _ _ h )
        · exact am_Ew.run (lk_X4_openOf_11_7  n _ _ _ _ _ _ h )
      · exact am_Ew.retI h
    · exact am_Ew.retI h
set_option maxHeartbeats 400000 in
set_option maxRecDepth 100000 in
theorem lk_X4_openOf_11 {X : am_X} {a1 : Int32} {f f' : am_M} {v' : Int32} (h : D_X4_openOf 11 999 a1 f = some (v', f')) : am_Ev X 30 0 [some (.ref 11), some (.int a1), none, none] [] f (some (.int v')) f' := by
  rw [D_X4_openOf] at h
  refine am_Ew.start [7] 5 (am_Ew.conv (fun k => (k 7 [some (.ref 11), some (.int a1), some (.int 0), some (.int (f 11 3))] [] am_G0 f)) (fun k => rfl) ?_)
  exact am_Ew.run (lk_X4_openOf_11_7 _ _ _ _ _ _ _ h )
set_option maxHeartbeats 400000 in
set_option maxRecDepth 100000 in
theorem lk_X4_leaveRow_11_17 {X : am_X} : ∀ (n : Nat) (x1 x3 : Int32) (f : am_M) (f' : am_M), D_X4_leaveRow_17 11 999 n x1 x3 f = some f' → ∀ d2 : Option Value, am_Ev X 34 17 [some (.ref 11), some (.int x1), d2, some (.int x3)] [] f none f'
  | 0, _, _, _, _, h, _ => by cases h
  | n + 1, x1, x3, f, f', h, d2 => by
    rw [D_X4_leaveRow_17] at h
    refine am_Ew.start [17] 16 (am_Ew.conv (fun k => (if x3 < (f 11 9) then (am_chk x3 3 (am_chk (x3 - 1) 3 (k 17 [some (.ref 11), some (.int x1), d2, some (.int (x3 + 1))] [] am_G0 (am_wr f (11 + 4) (x3 - 1).toNatClampNeg (f (11 + 4) x3.toNatClampNeg))))) else (am_chk x1 3 (some (none, am_G0, (am_wr (am_wr f (11 + 5) x1.toNatClampNeg 0) 11 9 ((f 11 9) - 1))))))) (fun k => rfl) ?_)
    refine am_Ew.ite h (fun _ h => ?_) (fun _ h => ?_)
    · refine am_Ew.chk h (fun h => ?_)
      refine am_Ew.chk h (fun h => ?_)
      exact am_Ew.run (lk_X4_leaveRow_11_17  n _ _ _ _ h _ )
    · refine am_Ew.chk h (fun h => ?_)
      exact am_Ew.retV h
set_option maxHeartbeats 400000 in
set_option maxRecDepth 100000 in
theorem lk_X4_leaveRow_11 {X : am_X} {a1 : Int32} {f f' : am_M} (h : D_X4_leaveRow 11 999 a1 f = some f') : am_Ev X 34 0 [some (.ref 11), some (.int a1), none, none] [] f none f' := by
  rw [D_X4_leaveRow] at h
  refine am_Ew.start [2] 2 (am_Ew.conv (fun k => (k 2 [some (.ref 11), some (.int a1), none, none] [.int a1, .ref 11] am_G0 f)) (fun k => rfl) ?_)
  obtain ⟨v1, f1, h1, h⟩ := am_bI_some h
  refine am_Ew.run (am_Ev.call (fun n => rfl) (lk_X4_placeInRow_11 h1) ?_)
  refine am_Ew.start [17] 8 (am_Ew.conv (fun k => (if v1 = (-9) then (some (none, am_G0, f1)) else (k 17 [some (.ref 11), some (.int a1), some (.int v1), some (.int (v1 + 1))] [] am_G0 f1))) (fun k => rfl) ?_)
  refine am_Ew.ite h (fun _ h => ?_) (fun _ h => ?_)
  · exact am_Ew.retV h
  · exact am_Ew.run (lk_X4_leaveRow_11_17 _ _ _ _ _ h _ )
set_option maxHeartbeats 400000 in
set_option maxRecDepth 100000 in
theorem lk_X4_leaveRow_81_17 {X : am_X} : ∀ (n : Nat) (x1 x3 : Int32) (f : am_M) (f' : am_M), D_X4_leaveRow_17 81 0 n x1 x3 f = some f' → ∀ d2 : Option Value, am_Ev X 34 17 [some (.ref 81), some (.int x1), d2, some (.int x3)] [] f none f'
  | 0, _, _, _, _, h, _ => by cases h
  | n + 1, x1, x3, f, f', h, d2 => by
    rw [D_X4_leaveRow_17] at h
    refine am_Ew.start [17] 16 (am_Ew.conv (fun k => (if x3 < (f 81 9) then (am_chk x3 3 (am_chk (x3 - 1) 3 (k 17 [some (.ref 81), some (.int x1), d2, some (.int (x3 + 1))] [] am_G0 (am_wr f (81 + 4) (x3 - 1).toNatClampNeg (f (81 + 4) x3.toNatClampNeg))))) else (am_chk x1 3 (some (none, am_G0, (am_wr (am_wr f (81 + 5) x1.toNatClampNeg 0) 81 9 ((f 81 9) - 1))))))) (fun k => rfl) ?_)
    refine am_Ew.ite h (fun _ h => ?_) (fun _ h => ?_)
    · refine am_Ew.chk h (fun h => ?_)
      refine am_Ew.chk h (fun h => ?_)
      exact am_Ew.run (lk_X4_leaveRow_81_17  n _ _ _ _ h _ )
    · refine am_Ew.chk h (fun h => ?_)
      exact am_Ew.retV h
set_option maxHeartbeats 400000 in
set_option maxRecDepth 100000 in
theorem lk_X4_leaveRow_81 {X : am_X} {a1 : Int32} {f f' : am_M} (h : D_X4_leaveRow 81 0 a1 f = some f') : am_Ev X 34 0 [some (.ref 81), some (.int a1), none, none] [] f none f' := by
  rw [D_X4_leaveRow] at h
  refine am_Ew.start [2] 2 (am_Ew.conv (fun k => (k 2 [some (.ref 81), some (.int a1), none, none] [.int a1, .ref 81] am_G0 f)) (fun k => rfl) ?_)
  obtain ⟨v1, f1, h1, h⟩ := am_bI_some h
  refine am_Ew.run (am_Ev.call (fun n => rfl) (lk_X4_placeInRow_81 h1) ?_)
  refine am_Ew.start [17] 8 (am_Ew.conv (fun k => (if v1 = (-9) then (some (none, am_G0, f1)) else (k 17 [some (.ref 81), some (.int a1), some (.int v1), some (.int (v1 + 1))] [] am_G0 f1))) (fun k => rfl) ?_)
  refine am_Ew.ite h (fun _ h => ?_) (fun _ h => ?_)
  · exact am_Ew.retV h
  · exact am_Ew.run (lk_X4_leaveRow_81_17 _ _ _ _ _ h _ )
set_option maxHeartbeats 400000 in
set_option maxRecDepth 100000 in
theorem lk_X4_close_11_19 {X : am_X} : ∀ (n : Nat) (f : am_M) (f' : am_M), D_X4_close_19 11 999 n  f = some f' → ∀ d1 d2 d3 : Option Value, am_Ev X 35 19 [some (.ref 11), d1, d2, d3] [] f none f'
  | 0, _, _, h, _, _, _ => by cases h
  | n + 1, f, f', h, d1, d2, d3 => by
    rw [D_X4_close_19] at h
    refine am_Ew.start [47] 14 (am_Ew.conv (fun k => (if (f 11 3) < (f 11 2) then (if (f 11 3) < (Int32.ofNat 999) then (k 47 [some (.ref 11), d1, d2, d3] [.int (f 11 3), .ref 11] am_G0 f) else (some (none, am_G0, f))) else (some (none, am_G0, f)))) (fun k => rfl) ?_)
    refine am_Ew.ite h (fun _ h => ?_) (fun _ h => ?_)
    · refine am_Ew.ite h (fun _ h => ?_) (fun _ h => ?_)
      · obtain ⟨v2, f2, h1, h⟩ := am_bI_some h
        refine am_Ew.run (am_Ev.call (fun n => rfl) (lk_X4_kindOf_11 h1) ?_)
        refine am_Ew.start [19] 8 (am_Ew.conv (fun k => (if v2 = 0 then (some (none, am_G0, f2)) else (k 19 [some (.ref 11), d1, d2, d3] [] am_G0 (am_wr f2 11 3 ((f2 11 3) + 1))))) (fun k => rfl) ?_)
        refine am_Ew.ite h (fun _ h => ?_) (fun _ h => ?_)
        · exact am_Ew.retV h
        · exact am_Ew.run (lk_X4_close_11_19  n _ _ h _ _ _ )
      · exact am_Ew.retV h
    · exact am_Ew.retV h
set_option maxHeartbeats 400000 in
set_option maxRecDepth 100000 in
theorem lk_X4_close_11 {X : am_X} {a1 a2 a3 : Int32} {f f' : am_M} (h : D_X4_close 11 999 a1 a2 a3 f = some f') : am_Ev X 35 0 [some (.ref 11), some (.int a1), some (.int a2), some (.int a3)] [] f none f' := by
  rw [D_X4_close] at h
  refine am_Ew.start [7] 5 (am_Ew.conv (fun k => (k 7 [some (.ref 11), some (.int a1), some (.int a2), some (.int a3)] [.int a1, .ref 11, .int a1, .ref (11 + 6)] am_G0 f)) (fun k => rfl) ?_)
  obtain ⟨v1, f1, h1, h⟩ := am_bI_some h
  refine am_Ew.run (am_Ev.call (fun n => rfl) (lk_X4_makerOf_11 h1) ?_)
  refine am_Ew.start [19] 9 (am_Ew.conv (fun k => (am_chk a1 999 (k 19 [some (.ref 11), some (.int a1), some (.int a2), some (.int a3)] [] am_G0 (am_wr f1 (11 + 6) a1.toNatClampNeg ((v1 ||| (a2 <<< ((2 : Int32) &&& 31))) ||| (a3 <<< ((4 : Int32) &&& 31))))))) (fun k => rfl) ?_)
  refine am_Ew.chk h (fun h => ?_)
  exact am_Ew.run (lk_X4_close_11_19 _ _ _ h _ _ _ )
set_option maxHeartbeats 400000 in
set_option maxRecDepth 100000 in
theorem lk_X4_reopen_11 {X : am_X} {a1 : Int32} {f f' : am_M} (h : D_X4_reopen 11 999 a1 f = some f') : am_Ev X 36 0 [some (.ref 11), some (.int a1)] [] f none f' := by
  rw [D_X4_reopen] at h
  refine am_Ew.start [2] 2 (am_Ew.conv (fun k => (k 2 [some (.ref 11), some (.int a1)] [.int a1, .ref 11] am_G0 f)) (fun k => rfl) ?_)
  obtain ⟨v1, f1, h1, h⟩ := am_bI_some h
  refine am_Ew.run (am_Ev.call (fun n => rfl) (lk_X4_hasEvent_11 h1) ?_)
  refine am_Ew.start [15] 6 (am_Ew.conv (fun k => (if v1 = 0 then (some (none, am_G0, f1)) else (k 15 [some (.ref 11), some (.int a1)] [.int a1, .ref 11, .int a1, .ref (11 + 6)] am_G0 f1))) (fun k => rfl) ?_)
  refine am_Ew.ite h (fun _ h => ?_) (fun _ h => ?_)
  · exact am_Ew.retV h
  · obtain ⟨v2, f2, h1, h⟩ := am_bI_some h
    refine am_Ew.run (am_Ev.call (fun n => rfl) (lk_X4_makerOf_11 h1) ?_)
    refine am_Ew.start [] 2 (am_Ew.conv (fun k => (am_chk a1 999 (some (none, am_G0, (am_wr f2 (11 + 6) a1.toNatClampNeg v2))))) (fun k => rfl) ?_)
    refine am_Ew.chk h (fun h => ?_)
    exact am_Ew.retV h
set_option maxHeartbeats 400000 in
set_option maxRecDepth 100000 in
theorem lk_X4_hasAhead_11 {X : am_X} {a1 : Int32} {f f' : am_M} {v' : Int32} (h : D_X4_hasAhead 11 999 a1 f = some (v', f')) : am_Ev X 25 0 [some (.ref 11), some (.int a1)] [] f (some (.int v')) f' := by
  rw [D_X4_hasAhead] at h
  refine am_Ew.start [8] 6 (am_Ew.conv (fun k => (am_chk a1 6 (k 8 [some (.ref 11), some (.int a1)] [.int a1, .ref 11, .int (f (11 + 1) a1.toNatClampNeg)] am_G0 f))) (fun k => rfl) ?_)
  refine am_Ew.chk h (fun h => ?_)
  obtain ⟨v1, f1, h1, h⟩ := am_bI_some h
  refine am_Ew.run (am_Ev.call (fun n => rfl) (lk_X4_atMost_11 h1) ?_)
  refine am_Ew.start [] 4 (am_Ew.conv (fun k => (if (f (11 + 1) a1.toNatClampNeg) < v1 then (some (some (.int 1), am_G0, f1)) else (some (some (.int 0), am_G0, f1)))) (fun k => rfl) ?_)
  refine am_Ew.ite h (fun _ h => ?_) (fun _ h => ?_)
  · exact am_Ew.retI h
  · exact am_Ew.retI h
set_option maxHeartbeats 400000 in
set_option maxRecDepth 100000 in
theorem lk_X4_claimOrWait_11 {X : am_X} {a1 a2 : Int32} {f f' : am_M} {v' : Int32} (h : D_X4_claimOrWait 11 999 a1 a2 f = some (v', f')) : am_Ev X 31 0 [some (.ref 11), some (.int a1), some (.int a2)] [] f (some (.int v')) f' := by
  rw [D_X4_claimOrWait] at h
  refine am_Ew.start [9] 26 (am_Ew.conv (fun k => (if (f 11 9) = 0 then (k 9 [some (.ref 11), some (.int a1), some (.int a2)] [.ref 11, .int a2] am_G0 f) else (if (f 11 9) < 3 then (am_chk (f 11 9) 3 (am_chk a1 3 (some (some (.int (-9)), am_G0, (am_wr (am_wr (am_wr f (11 + 4) (f 11 9).toNatClampNeg a1) (11 + 5) a1.toNatClampNeg a2) 11 9 ((f 11 9) + 1)))))) else (some (some (.int (-9)), am_G0, f))))) (fun k => rfl) ?_)
  refine am_Ew.ite h (fun _ h => ?_) (fun _ h => ?_)
  · obtain ⟨v1, f1, h1, h⟩ := am_bI_some h
    refine am_Ew.run (am_Ev.call (fun n => rfl) (lk_X4_room_11 h1) ?_)
    refine am_Ew.start [18] 24 (am_Ew.conv (fun k => (if v1 < a2 then (if (f1 11 9) < 3 then (am_chk (f1 11 9) 3 (am_chk a1 3 (some (some (.int (-9)), am_G0, (am_wr (am_wr (am_wr f1 (11 + 4) (f1 11 9).toNatClampNeg a1) (11 + 5) a1.toNatClampNeg a2) 11 9 ((f1 11 9) + 1)))))) else (some (some (.int (-9)), am_G0, f1))) else (k 18 [some (.ref 11), some (.int a1), some (.int a2)] [.int a2, .int a1, .ref 11] am_G0 f1))) (fun k => rfl) ?_)
    refine am_Ew.ite h (fun _ h => ?_) (fun _ h => ?_)
    · refine am_Ew.ite h (fun _ h => ?_) (fun _ h => ?_)
      · refine am_Ew.chk h (fun h => ?_)
        refine am_Ew.chk h (fun h => ?_)
        exact am_Ew.retI h
      · exact am_Ew.retI h
    · obtain ⟨v2, f2, h1, h⟩ := am_bI_some h
      refine am_Ew.run (am_Ev.call (fun n => rfl) (lk_X4_claim_11 h1) ?_)
      refine am_Ew.start [] 1 (am_Ew.conv (fun k => (some (some (.int v2), am_G0, f2))) (fun k => rfl) ?_)
      exact am_Ew.retI h
  · refine am_Ew.ite h (fun _ h => ?_) (fun _ h => ?_)
    · refine am_Ew.chk h (fun h => ?_)
      refine am_Ew.chk h (fun h => ?_)
      exact am_Ew.retI h
    · exact am_Ew.retI h
set_option maxHeartbeats 400000 in
set_option maxRecDepth 100000 in
theorem lk_X4_claimOrWait_81 {X : am_X} {a1 a2 : Int32} {f f' : am_M} {v' : Int32} (h : D_X4_claimOrWait 81 0 a1 a2 f = some (v', f')) : am_Ev X 31 0 [some (.ref 81), some (.int a1), some (.int a2)] [] f (some (.int v')) f' := by
  rw [D_X4_claimOrWait] at h
  refine am_Ew.start [9] 26 (am_Ew.conv (fun k => (if (f 81 9) = 0 then (k 9 [some (.ref 81), some (.int a1), some (.int a2)] [.ref 81, .int a2] am_G0 f) else (if (f 81 9) < 3 then (am_chk (f 81 9) 3 (am_chk a1 3 (some (some (.int (-9)), am_G0, (am_wr (am_wr (am_wr f (81 + 4) (f 81 9).toNatClampNeg a1) (81 + 5) a1.toNatClampNeg a2) 81 9 ((f 81 9) + 1)))))) else (some (some (.int (-9)), am_G0, f))))) (fun k => rfl) ?_)
  refine am_Ew.ite h (fun _ h => ?_) (fun _ h => ?_)
  · obtain ⟨v1, f1, h1, h⟩ := am_bI_some h
    refine am_Ew.run (am_Ev.call (fun n => rfl) (lk_X4_room_81 h1) ?_)
    refine am_Ew.start [18] 24 (am_Ew.conv (fun k => (if v1 < a2 then (if (f1 81 9) < 3 then (am_chk (f1 81 9) 3 (am_chk a1 3 (some (some (.int (-9)), am_G0, (am_wr (am_wr (am_wr f1 (81 + 4) (f1 81 9).toNatClampNeg a1) (81 + 5) a1.toNatClampNeg a2) 81 9 ((f1 81 9) + 1)))))) else (some (some (.int (-9)), am_G0, f1))) else (k 18 [some (.ref 81), some (.int a1), some (.int a2)] [.int a2, .int a1, .ref 81] am_G0 f1))) (fun k => rfl) ?_)
    refine am_Ew.ite h (fun _ h => ?_) (fun _ h => ?_)
    · refine am_Ew.ite h (fun _ h => ?_) (fun _ h => ?_)
      · refine am_Ew.chk h (fun h => ?_)
        refine am_Ew.chk h (fun h => ?_)
        exact am_Ew.retI h
      · exact am_Ew.retI h
    · obtain ⟨v2, f2, h1, h⟩ := am_bI_some h
      refine am_Ew.run (am_Ev.call (fun n => rfl) (lk_X4_claim_81 h1) ?_)
      refine am_Ew.start [] 1 (am_Ew.conv (fun k => (some (some (.int v2), am_G0, f2))) (fun k => rfl) ?_)
      exact am_Ew.retI h
  · refine am_Ew.ite h (fun _ h => ?_) (fun _ h => ?_)
    · refine am_Ew.chk h (fun h => ?_)
      refine am_Ew.chk h (fun h => ?_)
      exact am_Ew.retI h
    · exact am_Ew.retI h
set_option maxHeartbeats 400000 in
set_option maxRecDepth 100000 in
theorem lk_X4_admit_11_2 {X : am_X} : ∀ (n : Nat) (x1 : Int32) (f : am_M) (f' : am_M), D_X4_admit_2 11 999 n x1 f = some f' → ∀ d2 d3 : Option Value, am_Ev X 33 2 [some (.ref 11), some (.int x1), d2, d3] [] f none f'
  | 0, _, _, _, h, _, _ => by cases h
  | n + 1, x1, f, f', h, d2, d3 => by
    rw [D_X4_admit_2] at h
    refine am_Ew.start [30] 18 (am_Ew.conv (fun k => (if x1 < 3 then (if 0 < (f 11 9) then (am_chk (f (11 + 4) 0) 3 (k 30 [some (.ref 11), some (.int x1), some (.int (f (11 + 4) 0)), some (.int (f (11 + 5) (f (11 + 4) 0).toNatClampNeg))] [.ref 11, .int (f (11 + 5) (f (11 + 4) 0).toNatClampNeg)] am_G0 f)) else (some (none, am_G0, f))) else (some (none, am_G0, f)))) (fun k => rfl) ?_)
    refine am_Ew.ite h (fun _ h => ?_) (fun _ h => ?_)
    · refine am_Ew.ite h (fun _ h => ?_) (fun _ h => ?_)
      · refine am_Ew.chk h (fun h => ?_)
        obtain ⟨v1, f1, h1, h⟩ := am_bI_some h
        refine am_Ew.run (am_Ev.call (fun n => rfl) (lk_X4_room_11 h1) ?_)
        refine am_Ew.start [39] 3 (am_Ew.conv (fun k => (if v1 < (f (11 + 5) (f (11 + 4) 0).toNatClampNeg) then (some (none, am_G0, f1)) else (k 39 [some (.ref 11), some (.int x1), some (.int (f (11 + 4) 0)), some (.int (f (11 + 5) (f (11 + 4) 0).toNatClampNeg))] [.int (f (11 + 4) 0), .ref 11] am_G0 f1))) (fun k => rfl) ?_)
        refine am_Ew.ite h (fun _ h => ?_) (fun _ h => ?_)
        · exact am_Ew.retV h
        · obtain ⟨f2, h1, h⟩ := am_bV_some h
          refine am_Ew.run (am_Ev.call (fun n => rfl) (lk_X4_leaveRow_11 h1) ?_)
          refine am_Ew.start [45] 3 (am_Ew.conv (fun k => (k 45 [some (.ref 11), some (.int x1), some (.int (f (11 + 4) 0)), some (.int (f (11 + 5) (f (11 + 4) 0).toNatClampNeg))] [.int (f (11 + 5) (f (11 + 4) 0).toNatClampNeg), .int (f (11 + 4) 0), .ref 11] am_G0 f2)) (fun k => rfl) ?_)
          obtain ⟨v3, f3, h1, h⟩ := am_bI_some h
          refine am_Ew.run (am_Ev.call (fun n => rfl) (lk_X4_claim_11 h1) ?_)
          refine am_Ew.start [2] 3 (am_Ew.conv (fun k => (k 2 [some (.ref 11), some (.int (x1 + 1)), some (.int (f (11 + 4) 0)), some (.int (f (11 + 5) (f (11 + 4) 0).toNatClampNeg))] [] am_G0 f3)) (fun k => rfl) ?_)
          exact am_Ew.run (lk_X4_admit_11_2  n _ _ _ h _ _ )
      · exact am_Ew.retV h
    · exact am_Ew.retV h
set_option maxHeartbeats 400000 in
set_option maxRecDepth 100000 in
theorem lk_X4_admit_11 {X : am_X} {f f' : am_M} (h : D_X4_admit 11 999 f = some f') : am_Ev X 33 0 [some (.ref 11), none, none, none] [] f none f' := by
  rw [D_X4_admit] at h
  refine am_Ew.start [2] 2 (am_Ew.conv (fun k => (k 2 [some (.ref 11), some (.int 0), none, none] [] am_G0 f)) (fun k => rfl) ?_)
  exact am_Ew.run (lk_X4_admit_11_2 _ _ _ _ h _ _ )
set_option maxHeartbeats 400000 in
set_option maxRecDepth 100000 in
theorem lk_X4_admit_81_2 {X : am_X} : ∀ (n : Nat) (x1 : Int32) (f : am_M) (f' : am_M), D_X4_admit_2 81 0 n x1 f = some f' → ∀ d2 d3 : Option Value, am_Ev X 33 2 [some (.ref 81), some (.int x1), d2, d3] [] f none f'
  | 0, _, _, _, h, _, _ => by cases h
  | n + 1, x1, f, f', h, d2, d3 => by
    rw [D_X4_admit_2] at h
    refine am_Ew.start [30] 18 (am_Ew.conv (fun k => (if x1 < 3 then (if 0 < (f 81 9) then (am_chk (f (81 + 4) 0) 3 (k 30 [some (.ref 81), some (.int x1), some (.int (f (81 + 4) 0)), some (.int (f (81 + 5) (f (81 + 4) 0).toNatClampNeg))] [.ref 81, .int (f (81 + 5) (f (81 + 4) 0).toNatClampNeg)] am_G0 f)) else (some (none, am_G0, f))) else (some (none, am_G0, f)))) (fun k => rfl) ?_)
    refine am_Ew.ite h (fun _ h => ?_) (fun _ h => ?_)
    · refine am_Ew.ite h (fun _ h => ?_) (fun _ h => ?_)
      · refine am_Ew.chk h (fun h => ?_)
        obtain ⟨v1, f1, h1, h⟩ := am_bI_some h
        refine am_Ew.run (am_Ev.call (fun n => rfl) (lk_X4_room_81 h1) ?_)
        refine am_Ew.start [39] 3 (am_Ew.conv (fun k => (if v1 < (f (81 + 5) (f (81 + 4) 0).toNatClampNeg) then (some (none, am_G0, f1)) else (k 39 [some (.ref 81), some (.int x1), some (.int (f (81 + 4) 0)), some (.int (f (81 + 5) (f (81 + 4) 0).toNatClampNeg))] [.int (f (81 + 4) 0), .ref 81] am_G0 f1))) (fun k => rfl) ?_)
        refine am_Ew.ite h (fun _ h => ?_) (fun _ h => ?_)
        · exact am_Ew.retV h
        · obtain ⟨f2, h1, h⟩ := am_bV_some h
          refine am_Ew.run (am_Ev.call (fun n => rfl) (lk_X4_leaveRow_81 h1) ?_)
          refine am_Ew.start [45] 3 (am_Ew.conv (fun k => (k 45 [some (.ref 81), some (.int x1), some (.int (f (81 + 4) 0)), some (.int (f (81 + 5) (f (81 + 4) 0).toNatClampNeg))] [.int (f (81 + 5) (f (81 + 4) 0).toNatClampNeg), .int (f (81 + 4) 0), .ref 81] am_G0 f2)) (fun k => rfl) ?_)
          obtain ⟨v3, f3, h1, h⟩ := am_bI_some h
          refine am_Ew.run (am_Ev.call (fun n => rfl) (lk_X4_claim_81 h1) ?_)
          refine am_Ew.start [2] 3 (am_Ew.conv (fun k => (k 2 [some (.ref 81), some (.int (x1 + 1)), some (.int (f (81 + 4) 0)), some (.int (f (81 + 5) (f (81 + 4) 0).toNatClampNeg))] [] am_G0 f3)) (fun k => rfl) ?_)
          exact am_Ew.run (lk_X4_admit_81_2  n _ _ _ h _ _ )
      · exact am_Ew.retV h
    · exact am_Ew.retV h
set_option maxHeartbeats 400000 in
set_option maxRecDepth 100000 in
theorem lk_X4_admit_81 {X : am_X} {f f' : am_M} (h : D_X4_admit 81 0 f = some f') : am_Ev X 33 0 [some (.ref 81), none, none, none] [] f none f' := by
  rw [D_X4_admit] at h
  refine am_Ew.start [2] 2 (am_Ew.conv (fun k => (k 2 [some (.ref 81), some (.int 0), none, none] [] am_G0 f)) (fun k => rfl) ?_)
  exact am_Ew.run (lk_X4_admit_81_2 _ _ _ _ h _ _ )
set_option maxHeartbeats 400000 in
set_option maxRecDepth 100000 in
theorem lk_X4_goOver_11_31 {X : am_X} : ∀ (n : Nat) (x1 x3 x4 x5 : Int32) (f : am_M) (v' : Int32) (f' : am_M), D_X4_goOver_31 11 999 n x1 x3 x4 x5 f = some (v', f') → ∀ d2 : Option Value, am_Ev X 38 31 [some (.ref 11), some (.int x1), d2, some (.int x3), some (.int x4), some (.int x5)] [] f (some (.int v')) f'
  | 0, _, _, _, _, _, _, _, h, _ => by cases h
  | n + 1, x1, x3, x4, x5, f, v', f', h, d2 => by
    rw [D_X4_goOver_31] at h
    refine am_Ew.start [51, 111] 14 (am_Ew.conv (fun k => (if x5 < x4 then (if x5 < (Int32.ofNat 999) then (k 51 [some (.ref 11), some (.int x1), d2, some (.int x3), some (.int x4), some (.int x5)] [.int x5, .ref 11] am_G0 f) else (am_chk x1 6 (k 111 [some (.ref 11), some (.int x1), d2, some (.int x3), some (.int x4), some (.int x5)] [.ref 11] am_G0 (am_wr f (11 + 1) x1.toNatClampNeg x4)))) else (am_chk x1 6 (k 111 [some (.ref 11), some (.int x1), d2, some (.int x3), some (.int x4), some (.int x5)] [.ref 11] am_G0 (am_wr f (11 + 1) x1.toNatClampNeg x4))))) (fun k => rfl) ?_)
    refine am_Ew.ite h (fun _ h => ?_) (fun _ h => ?_)
    · refine am_Ew.ite h (fun _ h => ?_) (fun _ h => ?_)
      · obtain ⟨v3, f3, h1, h⟩ := am_bI_some h
        refine am_Ew.run (am_Ev.call (fun n => rfl) (lk_X4_kindOf_11 h1) ?_)
        refine am_Ew.start [31, 85] 21 (am_Ew.conv (fun k => (if v3 = 1 then (am_chk x1 6 (am_chk x1 6 (am_chk x1 6 (k 85 [some (.ref 11), some (.int x1), d2, some (.int x3), some (.int x4), some (.int x5)] [.int x5, .ref 11, .int ((31 : Int32) * (f3 (11 + 3) x1.toNatClampNeg)), .int x1, .ref (11 + 3)] am_G0 (am_wr f3 (11 + 2) x1.toNatClampNeg ((f3 (11 + 2) x1.toNatClampNeg) + 1)))))) else (k 31 [some (.ref 11), some (.int x1), d2, some (.int x3), some (.int x4), some (.int (x5 + 1))] [] am_G0 f3))) (fun k => rfl) ?_)
        refine am_Ew.ite h (fun _ h => ?_) (fun _ h => ?_)
        · refine am_Ew.chk h (fun h => ?_)
          refine am_Ew.chk h (fun h => ?_)
          refine am_Ew.chk h (fun h => ?_)
          obtain ⟨v4, f4, h1, h⟩ := am_bI_some h
          refine am_Ew.run (am_Ev.call (fun n => rfl) (lk_X4_valueOf_11 h1) ?_)
          refine am_Ew.start [31] 8 (am_Ew.conv (fun k => (am_chk x1 6 (k 31 [some (.ref 11), some (.int x1), d2, some (.int x3), some (.int x4), some (.int (x5 + 1))] [] am_G0 (am_wr f4 (11 + 3) x1.toNatClampNeg (((((31 : Int32) * (f3 (11 + 3) x1.toNatClampNeg)) + v4) + x1) - ((((31 : Int32) * (f3 (11 + 3) x1.toNatClampNeg)) + v4) + x1) / (am_int 9973) * (am_int 9973)))))) (fun k => rfl) ?_)
          refine am_Ew.chk h (fun h => ?_)
          exact am_Ew.run (lk_X4_goOver_11_31  n _ _ _ _ _ _ _ h _ )
        · exact am_Ew.run (lk_X4_goOver_11_31  n _ _ _ _ _ _ _ h _ )
      · refine am_Ew.chk h (fun h => ?_)
        obtain ⟨f5, h1, h⟩ := am_bV_some h
        refine am_Ew.run (am_Ev.call (fun n => rfl) (lk_X4_admit_11 h1) ?_)
        refine am_Ew.start [] 4 (am_Ew.conv (fun k => (some (some (.int (x4 - x3)), am_G0, f5))) (fun k => rfl) ?_)
        exact am_Ew.retI h
    · refine am_Ew.chk h (fun h => ?_)
      obtain ⟨f6, h1, h⟩ := am_bV_some h
      refine am_Ew.run (am_Ev.call (fun n => rfl) (lk_X4_admit_11 h1) ?_)
      refine am_Ew.start [] 4 (am_Ew.conv (fun k => (some (some (.int (x4 - x3)), am_G0, f6))) (fun k => rfl) ?_)
      exact am_Ew.retI h
set_option maxHeartbeats 400000 in
set_option maxRecDepth 100000 in
theorem lk_X4_goOver_11 {X : am_X} {a1 a2 : Int32} {f f' : am_M} {v' : Int32} (h : D_X4_goOver 11 999 a1 a2 f = some (v', f')) : am_Ev X 38 0 [some (.ref 11), some (.int a1), some (.int a2), none, none, none] [] f (some (.int v')) f' := by
  rw [D_X4_goOver] at h
  refine am_Ew.start [12] 10 (am_Ew.conv (fun k => (am_chk a1 6 (k 12 [some (.ref 11), some (.int a1), some (.int a2), some (.int (f (11 + 1) a1.toNatClampNeg)), none, none] [.int a1, .ref 11, .int ((f (11 + 1) a1.toNatClampNeg) + a2)] am_G0 f))) (fun k => rfl) ?_)
  refine am_Ew.chk h (fun h => ?_)
  obtain ⟨v1, f1, h1, h⟩ := am_bI_some h
  refine am_Ew.run (am_Ev.call (fun n => rfl) (lk_X4_atMost_11 h1) ?_)
  obtain ⟨v2, f2, h1, h⟩ := am_bI_some h
  refine (am_Ev.call (fun n => rfl) (lk_J9_min_7cf53 h1) ?_)
  refine am_Ew.start [31] 6 (am_Ew.conv (fun k => (if (f (11 + 1) a1.toNatClampNeg) < v2 then (k 31 [some (.ref 11), some (.int a1), some (.int a2), some (.int (f (11 + 1) a1.toNatClampNeg)), some (.int v2), some (.int (f (11 + 1) a1.toNatClampNeg))] [] am_G0 f2) else (some (some (.int 0), am_G0, f2)))) (fun k => rfl) ?_)
  refine am_Ew.ite h (fun _ h => ?_) (fun _ h => ?_)
  · exact am_Ew.run (lk_X4_goOver_11_31 _ _ _ _ _ _ _ _ h _ )
  · exact am_Ew.retI h
set_option maxHeartbeats 400000 in
set_option maxRecDepth 100000 in
theorem lk_X4_goOver_81_31 {X : am_X} : ∀ (n : Nat) (x1 x3 x4 x5 : Int32) (f : am_M) (v' : Int32) (f' : am_M), D_X4_goOver_31 81 0 n x1 x3 x4 x5 f = some (v', f') → ∀ d2 : Option Value, am_Ev X 38 31 [some (.ref 81), some (.int x1), d2, some (.int x3), some (.int x4), some (.int x5)] [] f (some (.int v')) f'
  | 0, _, _, _, _, _, _, _, h, _ => by cases h
  | n + 1, x1, x3, x4, x5, f, v', f', h, d2 => by
    rw [D_X4_goOver_31] at h
    refine am_Ew.start [51, 111] 14 (am_Ew.conv (fun k => (if x5 < x4 then (if x5 < (Int32.ofNat 0) then (k 51 [some (.ref 81), some (.int x1), d2, some (.int x3), some (.int x4), some (.int x5)] [.int x5, .ref 81] am_G0 f) else (am_chk x1 6 (k 111 [some (.ref 81), some (.int x1), d2, some (.int x3), some (.int x4), some (.int x5)] [.ref 81] am_G0 (am_wr f (81 + 1) x1.toNatClampNeg x4)))) else (am_chk x1 6 (k 111 [some (.ref 81), some (.int x1), d2, some (.int x3), some (.int x4), some (.int x5)] [.ref 81] am_G0 (am_wr f (81 + 1) x1.toNatClampNeg x4))))) (fun k => rfl) ?_)
    refine am_Ew.ite h (fun _ h => ?_) (fun _ h => ?_)
    · refine am_Ew.ite h (fun _ h => ?_) (fun _ h => ?_)
      · obtain ⟨v3, f3, h1, h⟩ := am_bI_some h
        refine am_Ew.run (am_Ev.call (fun n => rfl) (lk_X4_kindOf_81 h1) ?_)
        refine am_Ew.start [31, 85] 21 (am_Ew.conv (fun k => (if v3 = 1 then (am_chk x1 6 (am_chk x1 6 (am_chk x1 6 (k 85 [some (.ref 81), some (.int x1), d2, some (.int x3), some (.int x4), some (.int x5)] [.int x5, .ref 81, .int ((31 : Int32) * (f3 (81 + 3) x1.toNatClampNeg)), .int x1, .ref (81 + 3)] am_G0 (am_wr f3 (81 + 2) x1.toNatClampNeg ((f3 (81 + 2) x1.toNatClampNeg) + 1)))))) else (k 31 [some (.ref 81), some (.int x1), d2, some (.int x3), some (.int x4), some (.int (x5 + 1))] [] am_G0 f3))) (fun k => rfl) ?_)
        refine am_Ew.ite h (fun _ h => ?_) (fun _ h => ?_)
        · refine am_Ew.chk h (fun h => ?_)
          refine am_Ew.chk h (fun h => ?_)
          refine am_Ew.chk h (fun h => ?_)
          obtain ⟨v4, f4, h1, h⟩ := am_bI_some h
          refine am_Ew.run (am_Ev.call (fun n => rfl) (lk_X4_valueOf_81 h1) ?_)
          refine am_Ew.start [31] 8 (am_Ew.conv (fun k => (am_chk x1 6 (k 31 [some (.ref 81), some (.int x1), d2, some (.int x3), some (.int x4), some (.int (x5 + 1))] [] am_G0 (am_wr f4 (81 + 3) x1.toNatClampNeg (((((31 : Int32) * (f3 (81 + 3) x1.toNatClampNeg)) + v4) + x1) - ((((31 : Int32) * (f3 (81 + 3) x1.toNatClampNeg)) + v4) + x1) / (am_int 9973) * (am_int 9973)))))) (fun k => rfl) ?_)
          refine am_Ew.chk h (fun h => ?_)
          exact am_Ew.run (lk_X4_goOver_81_31  n _ _ _ _ _ _ _ h _ )
        · exact am_Ew.run (lk_X4_goOver_81_31  n _ _ _ _ _ _ _ h _ )
      · refine am_Ew.chk h (fun h => ?_)
        obtain ⟨f5, h1, h⟩ := am_bV_some h
        refine am_Ew.run (am_Ev.call (fun n => rfl) (lk_X4_admit_81 h1) ?_)
        refine am_Ew.start [] 4 (am_Ew.conv (fun k => (some (some (.int (x4 - x3)), am_G0, f5))) (fun k => rfl) ?_)
        exact am_Ew.retI h
    · refine am_Ew.chk h (fun h => ?_)
      obtain ⟨f6, h1, h⟩ := am_bV_some h
      refine am_Ew.run (am_Ev.call (fun n => rfl) (lk_X4_admit_81 h1) ?_)
      refine am_Ew.start [] 4 (am_Ew.conv (fun k => (some (some (.int (x4 - x3)), am_G0, f6))) (fun k => rfl) ?_)
      exact am_Ew.retI h
set_option maxHeartbeats 400000 in
set_option maxRecDepth 100000 in
theorem lk_X4_goOver_81 {X : am_X} {a1 a2 : Int32} {f f' : am_M} {v' : Int32} (h : D_X4_goOver 81 0 a1 a2 f = some (v', f')) : am_Ev X 38 0 [some (.ref 81), some (.int a1), some (.int a2), none, none, none] [] f (some (.int v')) f' := by
  rw [D_X4_goOver] at h
  refine am_Ew.start [12] 10 (am_Ew.conv (fun k => (am_chk a1 6 (k 12 [some (.ref 81), some (.int a1), some (.int a2), some (.int (f (81 + 1) a1.toNatClampNeg)), none, none] [.int a1, .ref 81, .int ((f (81 + 1) a1.toNatClampNeg) + a2)] am_G0 f))) (fun k => rfl) ?_)
  refine am_Ew.chk h (fun h => ?_)
  obtain ⟨v1, f1, h1, h⟩ := am_bI_some h
  refine am_Ew.run (am_Ev.call (fun n => rfl) (lk_X4_atMost_81 h1) ?_)
  obtain ⟨v2, f2, h1, h⟩ := am_bI_some h
  refine (am_Ev.call (fun n => rfl) (lk_J9_min_7cf53 h1) ?_)
  refine am_Ew.start [31] 6 (am_Ew.conv (fun k => (if (f (81 + 1) a1.toNatClampNeg) < v2 then (k 31 [some (.ref 81), some (.int a1), some (.int a2), some (.int (f (81 + 1) a1.toNatClampNeg)), some (.int v2), some (.int (f (81 + 1) a1.toNatClampNeg))] [] am_G0 f2) else (some (some (.int 0), am_G0, f2)))) (fun k => rfl) ?_)
  refine am_Ew.ite h (fun _ h => ?_) (fun _ h => ?_)
  · exact am_Ew.run (lk_X4_goOver_81_31 _ _ _ _ _ _ _ _ h _ )
  · exact am_Ew.retI h
set_option maxHeartbeats 400000 in
set_option maxRecDepth 100000 in
theorem lk_X4_toBlame_11_27 {X : am_X} : ∀ (n : Nat) (x1 x2 : Int32) (f : am_M) (v' : Int32) (f' : am_M), D_X4_toBlame_27 11 999 n x1 x2 f = some (v', f') → ∀ d3 : Option Value, am_Ev X 39 27 [some (.ref 11), some (.int x1), some (.int x2), d3] [] f (some (.int v')) f'
  | 0, _, _, _, _, _, h, _ => by cases h
  | n + 1, x1, x2, f, v', f', h, d3 => by
    rw [D_X4_toBlame_27] at h
    refine am_Ew.start [35] 5 (am_Ew.conv (fun k => (if x2 < 6 then (k 35 [some (.ref 11), some (.int x1), some (.int x2), d3] [.int x1, .ref 11] am_G0 f) else (some (some (.int x1), am_G0, f)))) (fun k => rfl) ?_)
    refine am_Ew.ite h (fun _ h => ?_) (fun _ h => ?_)
    · obtain ⟨v2, f2, h1, h⟩ := am_bI_some h
      refine am_Ew.run (am_Ev.call (fun n => rfl) (lk_X4_hasAhead_11 h1) ?_)
      refine am_Ew.start [51] 7 (am_Ew.conv (fun k => (if v2 = 0 then (am_chk x1 6 (k 51 [some (.ref 11), some (.int x1), some (.int x2), d3] [.int (f2 6 x1.toNatClampNeg), .ref 11] am_G0 f2)) else (some (some (.int x1), am_G0, f2)))) (fun k => rfl) ?_)
      refine am_Ew.ite h (fun _ h => ?_) (fun _ h => ?_)
      · refine am_Ew.chk h (fun h => ?_)
        obtain ⟨v3, f3, h1, h⟩ := am_bI_some h
        refine am_Ew.run (am_Ev.call (fun n => rfl) (lk_X4_slowestOf_11 h1) ?_)
        refine am_Ew.start [27, 66] 8 (am_Ew.conv (fun k => (if v3 = (-9) then (k 66 [some (.ref 11), some (.int x1), some (.int x2), some (.int v3)] [.int (f3 11 3), .ref 11] am_G0 f3) else (k 27 [some (.ref 11), some (.int v3), some (.int (x2 + 1)), some (.int v3)] [] am_G0 f3))) (fun k => rfl) ?_)
        refine am_Ew.ite h (fun _ h => ?_) (fun _ h => ?_)
        · obtain ⟨v4, f4, h1, h⟩ := am_bI_some h
          refine am_Ew.run (am_Ev.call (fun n => rfl) (lk_X4_hasEvent_11 h1) ?_)
          refine am_Ew.start [79] 5 (am_Ew.conv (fun k => (if v4 = 0 then (some (some (.int (-9)), am_G0, f4)) else (k 79 [some (.ref 11), some (.int x1), some (.int x2), some (.int v3)] [.int (f4 11 3), .ref 11, .int 10] am_G0 f4))) (fun k => rfl) ?_)
          refine am_Ew.ite h (fun _ h => ?_) (fun _ h => ?_)
          · exact am_Ew.retI h
          · obtain ⟨v5, f5, h1, h⟩ := am_bI_some h
            refine am_Ew.run (am_Ev.call (fun n => rfl) (lk_X4_makerOf_11 h1) ?_)
            refine am_Ew.start [] 3 (am_Ew.conv (fun k => (some (some (.int ((10 : Int32) + v5)), am_G0, f5))) (fun k => rfl) ?_)
            exact am_Ew.retI h
        · exact am_Ew.run (lk_X4_toBlame_11_27  n _ _ _ _ _ h _ )
      · exact am_Ew.retI h
    · exact am_Ew.retI h
set_option maxHeartbeats 400000 in
set_option maxRecDepth 100000 in
theorem lk_X4_toBlame_11 {X : am_X} {f f' : am_M} {v' : Int32} (h : D_X4_toBlame 11 999 f = some (v', f')) : am_Ev X 39 0 [some (.ref 11), none, none, none] [] f (some (.int v')) f' := by
  rw [D_X4_toBlame] at h
  refine am_Ew.start [21] 9 (am_Ew.conv (fun k => (if (f 11 9) = 0 then (some (some (.int (-9)), am_G0, f)) else (if (f 3 2) = 0 then (some (some (.int (-9)), am_G0, f)) else (k 21 [some (.ref 11), none, none, none] [.ref 11] am_G0 f)))) (fun k => rfl) ?_)
  refine am_Ew.ite h (fun _ h => ?_) (fun _ h => ?_)
  · exact am_Ew.retI h
  · refine am_Ew.ite h (fun _ h => ?_) (fun _ h => ?_)
    · exact am_Ew.retI h
    · obtain ⟨v1, f1, h1, h⟩ := am_bI_some h
      refine am_Ew.run (am_Ev.call (fun n => rfl) (lk_X4_slowest_11 h1) ?_)
      refine am_Ew.start [27] 3 (am_Ew.conv (fun k => (k 27 [some (.ref 11), some (.int v1), some (.int 0), none] [] am_G0 f1)) (fun k => rfl) ?_)
      exact am_Ew.run (lk_X4_toBlame_11_27 _ _ _ _ _ _ h _ )
end
section
set_option maxHeartbeats 400000 in
set_option maxRecDepth 100000 in
theorem lk_X0_greatestGroup_21 {X : am_X} {K : Int32 → Int32 → Int32 → am_M → Option (Int32 × am_M)} (hK : ∀ (x1 x2 x3 : Int32) (f : am_M) (v' : Int32) (f' : am_M), K x1 x2 x3 f = some (v', f') → ∀ d4 d5 : Option Value, am_Ev X 6 4 [some (.ref 79), some (.int x1), some (.int x2), some (.int x3), d4, d5] [] f (some (.int v')) f') : ∀ (n : Nat) (x1 x2 x3 x4 x5 : Int32) (f : am_M) (v' : Int32) (f' : am_M), D_X0_greatestGroup_21 K n x1 x2 x3 x4 x5 f = some (v', f') → am_Ev X 6 21 [some (.ref 79), some (.int x1), some (.int x2), some (.int x3), some (.int x4), some (.int x5)] [] f (some (.int v')) f'
  | 0, _, _, _, _, _, _, _, _, h => by cases h
  | n + 1, x1, x2, x3, x4, x5, f, v', f', h => by
    rw [D_X0_greatestGroup_21] at h
    refine am_Ew.start [21, 81] 30 (am_Ew.conv (fun k => (if x5 < (f 3 2) then (if (((x1 >>> (x3 &&& 31)) &&& (x1 >>> (x5 &&& 31))) &&& 1) = 1 then (am_chk x3 6 (am_chk x5 6 (if (f 82 x3.toNatClampNeg) = (f 82 x5.toNatClampNeg) then (k 21 [some (.ref 79), some (.int x1), some (.int x2), some (.int x3), some (.int (x4 + 1)), some (.int (x5 + 1))] [] am_G0 f) else (k 21 [some (.ref 79), some (.int x1), some (.int x2), some (.int x3), some (.int x4), some (.int (x5 + 1))] [] am_G0 f)))) else (k 21 [some (.ref 79), some (.int x1), some (.int x2), some (.int x3), some (.int x4), some (.int (x5 + 1))] [] am_G0 f)) else (k 81 [some (.ref 79), some (.int x1), some (.int x2), some (.int x3), some (.int x4), some (.int x5)] [.int x4, .int x2] am_G0 f))) (fun k => rfl) ?_)
    refine am_Ew.ite h (fun _ h => ?_) (fun _ h => ?_)
    · refine am_Ew.ite h (fun _ h => ?_) (fun _ h => ?_)
      · refine am_Ew.chk h (fun h => ?_)
        refine am_Ew.chk h (fun h => ?_)
        refine am_Ew.ite h (fun _ h => ?_) (fun _ h => ?_)
        · exact am_Ew.run (lk_X0_greatestGroup_21 hK n _ _ _ _ _ _ _ _ h )
        · exact am_Ew.run (lk_X0_greatestGroup_21 hK n _ _ _ _ _ _ _ _ h )
      · exact am_Ew.run (lk_X0_greatestGroup_21 hK n _ _ _ _ _ _ _ _ h )
    · obtain ⟨v1, f1, h1, h⟩ := am_bI_some h
      refine am_Ew.run (am_Ev.call (fun n => rfl) (lk_J9_max_7cf53 h1) ?_)
      refine am_Ew.start [4] 3 (am_Ew.conv (fun k => (k 4 [some (.ref 79), some (.int x1), some (.int v1), some (.int (x3 + 1)), some (.int x4), some (.int x5)] [] am_G0 f1)) (fun k => rfl) ?_)
      exact am_Ew.run (hK _ _ _ _ _ _ h _ _ )
set_option maxHeartbeats 400000 in
set_option maxRecDepth 100000 in
theorem lk_X0_greatestGroup_4 {X : am_X} : ∀ (n : Nat) (x1 x2 x3 : Int32) (f : am_M) (v' : Int32) (f' : am_M), D_X0_greatestGroup_4 n x1 x2 x3 f = some (v', f') → ∀ d4 d5 : Option Value, am_Ev X 6 4 [some (.ref 79), some (.int x1), some (.int x2), some (.int x3), d4, d5] [] f (some (.int v')) f'
  | 0, _, _, _, _, _, _, h, _, _ => by cases h
  | n + 1, x1, x2, x3, f, v', f', h, d4, d5 => by
    rw [D_X0_greatestGroup_4] at h
    refine am_Ew.start [21] 9 (am_Ew.conv (fun k => (if x3 < (f 3 2) then (k 21 [some (.ref 79), some (.int x1), some (.int x2), some (.int x3), some (.int 0), some (.int 0)] [] am_G0 f) else (some (some (.int x2), am_G0, f)))) (fun k => rfl) ?_)
    refine am_Ew.ite h (fun _ h => ?_) (fun _ h => ?_)
    · exact am_Ew.run (lk_X0_greatestGroup_21 (fun y1 y2 y3 f9 v9 f8 h9 e0 e1 => lk_X0_greatestGroup_4 n y1 y2 y3 f9 v9 f8 h9 e0 e1) _ _ _ _ _ _ _ _ _ h )
    · exact am_Ew.retI h
set_option maxHeartbeats 400000 in
set_option maxRecDepth 100000 in
theorem lk_X0_greatestGroup {X : am_X} {a1 : Int32} {f f' : am_M} {v' : Int32} (h : D_X0_greatestGroup a1 f = some (v', f')) : am_Ev X 6 0 [some (.ref 79), some (.int a1), none, none, none, none] [] f (some (.int v')) f' := by
  rw [D_X0_greatestGroup] at h
  refine am_Ew.start [4] 4 (am_Ew.conv (fun k => (k 4 [some (.ref 79), some (.int a1), some (.int 0), some (.int 0), none, none] [] am_G0 f)) (fun k => rfl) ?_)
  exact am_Ew.run (lk_X0_greatestGroup_4 _ _ _ _ _ _ _ h _ _ )
set_option maxHeartbeats 400000 in
set_option maxRecDepth 100000 in
theorem lk_X0_start_10 {X : am_X} : ∀ (n : Nat) (x2 : Int32) (f : am_M) (f' : am_M), D_X0_start_10 n x2 f = some f' → ∀ d1 : Option Value, am_Ev X 2 10 [some (.ref 79), d1, some (.int x2)] [] f none f'
  | 0, _, _, _, h, _ => by cases h
  | n + 1, x2, f, f', h, d1 => by
    rw [D_X0_start_10] at h
    refine am_Ew.start [10] 10 (am_Ew.conv (fun k => (if x2 < 3 then (am_chk x2 3 (k 10 [some (.ref 79), d1, some (.int (x2 + 1))] [] am_G0 (am_wr f 80 x2.toNatClampNeg 0))) else (some (none, am_G0, f)))) (fun k => rfl) ?_)
    refine am_Ew.ite h (fun _ h => ?_) (fun _ h => ?_)
    · refine am_Ew.chk h (fun h => ?_)
      exact am_Ew.run (lk_X0_start_10  n _ _ _ h _ )
    · exact am_Ew.retV h
set_option maxHeartbeats 400000 in
set_option maxRecDepth 100000 in
theorem lk_X0_start {X : am_X} {f f' : am_M} (h : D_X0_start f = some f') : am_Ev X 2 0 [some (.ref 79), some (.ref 11), none] [] f none f' := by
  rw [D_X0_start] at h
  refine am_Ew.start [5] 3 (am_Ew.conv (fun k => (k 5 [some (.ref 79), some (.ref 11), none] [.ref 11, .ref 81] am_G0 f)) (fun k => rfl) ?_)
  obtain ⟨f1, h1, h⟩ := am_bV_some h
  refine am_Ew.run (am_Ev.call (fun n => rfl) (lk_X4_copyFrom_81_11 h1) ?_)
  refine am_Ew.start [10] 2 (am_Ew.conv (fun k => (k 10 [some (.ref 79), some (.ref 11), some (.int 0)] [] am_G0 f1)) (fun k => rfl) ?_)
  exact am_Ew.run (lk_X0_start_10 _ _ _ _ h _ )
set_option maxHeartbeats 400000 in
set_option maxRecDepth 100000 in
theorem lk_X2_remember {X : am_X} {a2 : Int32} {f f' : am_M} (h : D_X2_remember a2 f = some f') : am_Ev X 9 0 [some (.ref 18), some (.ref 11), some (.int a2)] [] f none f' := by
  rw [D_X2_remember] at h
  refine am_Ew.start [21] 12 (am_Ew.conv (fun k => (k 21 [some (.ref 18), some (.ref 11), some (.int a2)] [.int (((f 18 2) + 1) - ((f 18 2) + 1) / 6 * 6), .ref 19] am_G0 (am_wr f 18 2 (((f 18 2) + 1) - ((f 18 2) + 1) / 6 * 6)))) (fun k => rfl) ?_)
  refine am_Ew.run (am_Ev.six h (fun h => ?_) (fun h => ?_) (fun h => ?_) (fun h => ?_) (fun h => ?_) (fun h => ?_))
  · refine am_Ew.start [23] 2 (am_Ew.conv (fun k => (k 23 [some (.ref 18), some (.ref 11), some (.int a2)] [.ref 11, .ref 21] am_G0 (am_wr f 18 2 (((f 18 2) + 1) - ((f 18 2) + 1) / 6 * 6)))) (fun k => rfl) ?_)
    obtain ⟨f1, h1, h⟩ := am_bV_some h
    refine am_Ew.run (am_Ev.call (fun n => rfl) (lk_X4_copyFrom_21_11 h1) ?_)
    refine am_Ew.start [45] 12 (am_Ew.conv (fun k => (am_chk (f1 18 2) 6 (k 45 [some (.ref 18), some (.ref 11), some (.int a2)] [.int 6, .int ((f1 18 3) + 1), .ref 18] am_G0 (am_wr f1 20 (f1 18 2).toNatClampNeg a2)))) (fun k => rfl) ?_)
    refine am_Ew.chk h (fun h => ?_)
    obtain ⟨v2, f2, h1, h⟩ := am_bI_some h
    refine am_Ew.run (am_Ev.call (fun n => rfl) (lk_J9_min_7cf53 h1) ?_)
    refine am_Ew.start [] 2 (am_Ew.conv (fun k => (some (none, am_G0, (am_wr f2 18 3 v2)))) (fun k => rfl) ?_)
    exact am_Ew.retV h
  · refine am_Ew.start [23] 2 (am_Ew.conv (fun k => (k 23 [some (.ref 18), some (.ref 11), some (.int a2)] [.ref 11, .ref 28] am_G0 (am_wr f 18 2 (((f 18 2) + 1) - ((f 18 2) + 1) / 6 * 6)))) (fun k => rfl) ?_)
    obtain ⟨f3, h1, h⟩ := am_bV_some h
    refine am_Ew.run (am_Ev.call (fun n => rfl) (lk_X4_copyFrom_28_11 h1) ?_)
    refine am_Ew.start [45] 12 (am_Ew.conv (fun k => (am_chk (f3 18 2) 6 (k 45 [some (.ref 18), some (.ref 11), some (.int a2)] [.int 6, .int ((f3 18 3) + 1), .ref 18] am_G0 (am_wr f3 20 (f3 18 2).toNatClampNeg a2)))) (fun k => rfl) ?_)
    refine am_Ew.chk h (fun h => ?_)
    obtain ⟨v4, f4, h1, h⟩ := am_bI_some h
    refine am_Ew.run (am_Ev.call (fun n => rfl) (lk_J9_min_7cf53 h1) ?_)
    refine am_Ew.start [] 2 (am_Ew.conv (fun k => (some (none, am_G0, (am_wr f4 18 3 v4)))) (fun k => rfl) ?_)
    exact am_Ew.retV h
  · refine am_Ew.start [23] 2 (am_Ew.conv (fun k => (k 23 [some (.ref 18), some (.ref 11), some (.int a2)] [.ref 11, .ref 35] am_G0 (am_wr f 18 2 (((f 18 2) + 1) - ((f 18 2) + 1) / 6 * 6)))) (fun k => rfl) ?_)
    obtain ⟨f5, h1, h⟩ := am_bV_some h
    refine am_Ew.run (am_Ev.call (fun n => rfl) (lk_X4_copyFrom_35_11 h1) ?_)
    refine am_Ew.start [45] 12 (am_Ew.conv (fun k => (am_chk (f5 18 2) 6 (k 45 [some (.ref 18), some (.ref 11), some (.int a2)] [.int 6, .int ((f5 18 3) + 1), .ref 18] am_G0 (am_wr f5 20 (f5 18 2).toNatClampNeg a2)))) (fun k => rfl) ?_)
    refine am_Ew.chk h (fun h => ?_)
    obtain ⟨v6, f6, h1, h⟩ := am_bI_some h
    refine am_Ew.run (am_Ev.call (fun n => rfl) (lk_J9_min_7cf53 h1) ?_)
    refine am_Ew.start [] 2 (am_Ew.conv (fun k => (some (none, am_G0, (am_wr f6 18 3 v6)))) (fun k => rfl) ?_)
    exact am_Ew.retV h
  · refine am_Ew.start [23] 2 (am_Ew.conv (fun k => (k 23 [some (.ref 18), some (.ref 11), some (.int a2)] [.ref 11, .ref 42] am_G0 (am_wr f 18 2 (((f 18 2) + 1) - ((f 18 2) + 1) / 6 * 6)))) (fun k => rfl) ?_)
    obtain ⟨f7, h1, h⟩ := am_bV_some h
    refine am_Ew.run (am_Ev.call (fun n => rfl) (lk_X4_copyFrom_42_11 h1) ?_)
    refine am_Ew.start [45] 12 (am_Ew.conv (fun k => (am_chk (f7 18 2) 6 (k 45 [some (.ref 18), some (.ref 11), some (.int a2)] [.int 6, .int ((f7 18 3) + 1), .ref 18] am_G0 (am_wr f7 20 (f7 18 2).toNatClampNeg a2)))) (fun k => rfl) ?_)
    refine am_Ew.chk h (fun h => ?_)
    obtain ⟨v8, f8, h1, h⟩ := am_bI_some h
    refine am_Ew.run (am_Ev.call (fun n => rfl) (lk_J9_min_7cf53 h1) ?_)
    refine am_Ew.start [] 2 (am_Ew.conv (fun k => (some (none, am_G0, (am_wr f8 18 3 v8)))) (fun k => rfl) ?_)
    exact am_Ew.retV h
  · refine am_Ew.start [23] 2 (am_Ew.conv (fun k => (k 23 [some (.ref 18), some (.ref 11), some (.int a2)] [.ref 11, .ref 49] am_G0 (am_wr f 18 2 (((f 18 2) + 1) - ((f 18 2) + 1) / 6 * 6)))) (fun k => rfl) ?_)
    obtain ⟨f9, h1, h⟩ := am_bV_some h
    refine am_Ew.run (am_Ev.call (fun n => rfl) (lk_X4_copyFrom_49_11 h1) ?_)
    refine am_Ew.start [45] 12 (am_Ew.conv (fun k => (am_chk (f9 18 2) 6 (k 45 [some (.ref 18), some (.ref 11), some (.int a2)] [.int 6, .int ((f9 18 3) + 1), .ref 18] am_G0 (am_wr f9 20 (f9 18 2).toNatClampNeg a2)))) (fun k => rfl) ?_)
    refine am_Ew.chk h (fun h => ?_)
    obtain ⟨v10, f10, h1, h⟩ := am_bI_some h
    refine am_Ew.run (am_Ev.call (fun n => rfl) (lk_J9_min_7cf53 h1) ?_)
    refine am_Ew.start [] 2 (am_Ew.conv (fun k => (some (none, am_G0, (am_wr f10 18 3 v10)))) (fun k => rfl) ?_)
    exact am_Ew.retV h
  · refine am_Ew.start [23] 2 (am_Ew.conv (fun k => (k 23 [some (.ref 18), some (.ref 11), some (.int a2)] [.ref 11, .ref 56] am_G0 (am_wr f 18 2 (((f 18 2) + 1) - ((f 18 2) + 1) / 6 * 6)))) (fun k => rfl) ?_)
    obtain ⟨f11, h1, h⟩ := am_bV_some h
    refine am_Ew.run (am_Ev.call (fun n => rfl) (lk_X4_copyFrom_56_11 h1) ?_)
    refine am_Ew.start [45] 12 (am_Ew.conv (fun k => (am_chk (f11 18 2) 6 (k 45 [some (.ref 18), some (.ref 11), some (.int a2)] [.int 6, .int ((f11 18 3) + 1), .ref 18] am_G0 (am_wr f11 20 (f11 18 2).toNatClampNeg a2)))) (fun k => rfl) ?_)
    refine am_Ew.chk h (fun h => ?_)
    obtain ⟨v12, f12, h1, h⟩ := am_bI_some h
    refine am_Ew.run (am_Ev.call (fun n => rfl) (lk_J9_min_7cf53 h1) ?_)
    refine am_Ew.start [] 2 (am_Ew.conv (fun k => (some (none, am_G0, (am_wr f12 18 3 v12)))) (fun k => rfl) ?_)
    exact am_Ew.retV h
set_option maxHeartbeats 400000 in
set_option maxRecDepth 100000 in
theorem lk_X2_restore {X : am_X} {f f' : am_M} {v' : Int32} (h : D_X2_restore f = some (v', f')) : am_Ev X 10 0 [some (.ref 18), some (.ref 11)] [] f (some (.int v')) f' := by
  rw [D_X2_restore] at h
  refine am_Ew.start [18] 8 (am_Ew.conv (fun k => (if (f 18 3) = 0 then (some (some (.int 0), am_G0, f)) else (k 18 [some (.ref 18), some (.ref 11)] [.int (f 18 2), .ref 19, .ref 11] am_G0 f))) (fun k => rfl) ?_)
  refine am_Ew.ite h (fun _ h => ?_) (fun _ h => ?_)
  · exact am_Ew.retI h
  · refine am_Ew.run (am_Ev.six h (fun h => ?_) (fun h => ?_) (fun h => ?_) (fun h => ?_) (fun h => ?_) (fun h => ?_))
    · refine am_Ew.start [19] 1 (am_Ew.conv (fun k => (k 19 [some (.ref 18), some (.ref 11)] [.ref 21, .ref 11] am_G0 f)) (fun k => rfl) ?_)
      obtain ⟨f1, h1, h⟩ := am_bV_some h
      refine am_Ew.run (am_Ev.call (fun n => rfl) (lk_X4_copyFrom_11_21 h1) ?_)
      refine am_Ew.start [32] 6 (am_Ew.conv (fun k => (am_chk (f1 18 2) 6 (k 32 [some (.ref 18), some (.ref 11)] [.int (f1 20 (f1 18 2).toNatClampNeg), .ref 11] am_G0 f1))) (fun k => rfl) ?_)
      refine am_Ew.chk h (fun h => ?_)
      obtain ⟨f2, h1, h⟩ := am_bV_some h
      refine am_Ew.run (am_Ev.call (fun n => rfl) (lk_X4_reopen_11 h1) ?_)
      refine am_Ew.start [] 18 (am_Ew.conv (fun k => (some (some (.int 1), am_G0, (am_wr (am_wr f2 18 2 ((((f2 18 2) + 6) - 1) - (((f2 18 2) + 6) - 1) / 6 * 6)) 18 3 ((f2 18 3) - 1))))) (fun k => rfl) ?_)
      exact am_Ew.retI h
    · refine am_Ew.start [19] 1 (am_Ew.conv (fun k => (k 19 [some (.ref 18), some (.ref 11)] [.ref 28, .ref 11] am_G0 f)) (fun k => rfl) ?_)
      obtain ⟨f3, h1, h⟩ := am_bV_some h
      refine am_Ew.run (am_Ev.call (fun n => rfl) (lk_X4_copyFrom_11_28 h1) ?_)
      refine am_Ew.start [32] 6 (am_Ew.conv (fun k => (am_chk (f3 18 2) 6 (k 32 [some (.ref 18), some (.ref 11)] [.int (f3 20 (f3 18 2).toNatClampNeg), .ref 11] am_G0 f3))) (fun k => rfl) ?_)
      refine am_Ew.chk h (fun h => ?_)
      obtain ⟨f4, h1, h⟩ := am_bV_some h
      refine am_Ew.run (am_Ev.call (fun n => rfl) (lk_X4_reopen_11 h1) ?_)
      refine am_Ew.start [] 18 (am_Ew.conv (fun k => (some (some (.int 1), am_G0, (am_wr (am_wr f4 18 2 ((((f4 18 2) + 6) - 1) - (((f4 18 2) + 6) - 1) / 6 * 6)) 18 3 ((f4 18 3) - 1))))) (fun k => rfl) ?_)
      exact am_Ew.retI h
    · refine am_Ew.start [19] 1 (am_Ew.conv (fun k => (k 19 [some (.ref 18), some (.ref 11)] [.ref 35, .ref 11] am_G0 f)) (fun k => rfl) ?_)
      obtain ⟨f5, h1, h⟩ := am_bV_some h
      refine am_Ew.run (am_Ev.call (fun n => rfl) (lk_X4_copyFrom_11_35 h1) ?_)
      refine am_Ew.start [32] 6 (am_Ew.conv (fun k => (am_chk (f5 18 2) 6 (k 32 [some (.ref 18), some (.ref 11)] [.int (f5 20 (f5 18 2).toNatClampNeg), .ref 11] am_G0 f5))) (fun k => rfl) ?_)
      refine am_Ew.chk h (fun h => ?_)
      obtain ⟨f6, h1, h⟩ := am_bV_some h
      refine am_Ew.run (am_Ev.call (fun n => rfl) (lk_X4_reopen_11 h1) ?_)
      refine am_Ew.start [] 18 (am_Ew.conv (fun k => (some (some (.int 1), am_G0, (am_wr (am_wr f6 18 2 ((((f6 18 2) + 6) - 1) - (((f6 18 2) + 6) - 1) / 6 * 6)) 18 3 ((f6 18 3) - 1))))) (fun k => rfl) ?_)
      exact am_Ew.retI h
    · refine am_Ew.start [19] 1 (am_Ew.conv (fun k => (k 19 [some (.ref 18), some (.ref 11)] [.ref 42, .ref 11] am_G0 f)) (fun k => rfl) ?_)
      obtain ⟨f7, h1, h⟩ := am_bV_some h
      refine am_Ew.run (am_Ev.call (fun n => rfl) (lk_X4_copyFrom_11_42 h1) ?_)
      refine am_Ew.start [32] 6 (am_Ew.conv (fun k => (am_chk (f7 18 2) 6 (k 32 [some (.ref 18), some (.ref 11)] [.int (f7 20 (f7 18 2).toNatClampNeg), .ref 11] am_G0 f7))) (fun k => rfl) ?_)
      refine am_Ew.chk h (fun h => ?_)
      obtain ⟨f8, h1, h⟩ := am_bV_some h
      refine am_Ew.run (am_Ev.call (fun n => rfl) (lk_X4_reopen_11 h1) ?_)
      refine am_Ew.start [] 18 (am_Ew.conv (fun k => (some (some (.int 1), am_G0, (am_wr (am_wr f8 18 2 ((((f8 18 2) + 6) - 1) - (((f8 18 2) + 6) - 1) / 6 * 6)) 18 3 ((f8 18 3) - 1))))) (fun k => rfl) ?_)
      exact am_Ew.retI h
    · refine am_Ew.start [19] 1 (am_Ew.conv (fun k => (k 19 [some (.ref 18), some (.ref 11)] [.ref 49, .ref 11] am_G0 f)) (fun k => rfl) ?_)
      obtain ⟨f9, h1, h⟩ := am_bV_some h
      refine am_Ew.run (am_Ev.call (fun n => rfl) (lk_X4_copyFrom_11_49 h1) ?_)
      refine am_Ew.start [32] 6 (am_Ew.conv (fun k => (am_chk (f9 18 2) 6 (k 32 [some (.ref 18), some (.ref 11)] [.int (f9 20 (f9 18 2).toNatClampNeg), .ref 11] am_G0 f9))) (fun k => rfl) ?_)
      refine am_Ew.chk h (fun h => ?_)
      obtain ⟨f10, h1, h⟩ := am_bV_some h
      refine am_Ew.run (am_Ev.call (fun n => rfl) (lk_X4_reopen_11 h1) ?_)
      refine am_Ew.start [] 18 (am_Ew.conv (fun k => (some (some (.int 1), am_G0, (am_wr (am_wr f10 18 2 ((((f10 18 2) + 6) - 1) - (((f10 18 2) + 6) - 1) / 6 * 6)) 18 3 ((f10 18 3) - 1))))) (fun k => rfl) ?_)
      exact am_Ew.retI h
    · refine am_Ew.start [19] 1 (am_Ew.conv (fun k => (k 19 [some (.ref 18), some (.ref 11)] [.ref 56, .ref 11] am_G0 f)) (fun k => rfl) ?_)
      obtain ⟨f11, h1, h⟩ := am_bV_some h
      refine am_Ew.run (am_Ev.call (fun n => rfl) (lk_X4_copyFrom_11_56 h1) ?_)
      refine am_Ew.start [32] 6 (am_Ew.conv (fun k => (am_chk (f11 18 2) 6 (k 32 [some (.ref 18), some (.ref 11)] [.int (f11 20 (f11 18 2).toNatClampNeg), .ref 11] am_G0 f11))) (fun k => rfl) ?_)
      refine am_Ew.chk h (fun h => ?_)
      obtain ⟨f12, h1, h⟩ := am_bV_some h
      refine am_Ew.run (am_Ev.call (fun n => rfl) (lk_X4_reopen_11 h1) ?_)
      refine am_Ew.start [] 18 (am_Ew.conv (fun k => (some (some (.int 1), am_G0, (am_wr (am_wr f12 18 2 ((((f12 18 2) + 6) - 1) - (((f12 18 2) + 6) - 1) / 6 * 6)) 18 3 ((f12 18 3) - 1))))) (fun k => rfl) ?_)
      exact am_Ew.retI h
set_option maxHeartbeats 400000 in
set_option maxRecDepth 100000 in
theorem lk_X0_tick_107 {X : am_X} : ∀ (n : Nat) (x1 : Int32) (f : am_M) (f' : am_M), D_X0_tick_107 n x1 f = some f' → am_Ev X 3 107 [some (.ref 79), some (.int x1)] [] f none f'
  | 0, _, _, _, h => by cases h
  | n + 1, x1, f, f', h => by
    rw [D_X0_tick_107] at h
    refine am_Ew.start [107] 21 (am_Ew.conv (fun k => (if x1 < (f 3 1) then (am_chk x1 3 (if 0 < (f 86 x1.toNatClampNeg) then (am_chk x1 3 (am_chk x1 3 (k 107 [some (.ref 79), some (.int (x1 + 1))] [] am_G0 (am_wr f 80 x1.toNatClampNeg ((f 80 x1.toNatClampNeg) + 1))))) else (k 107 [some (.ref 79), some (.int (x1 + 1))] [] am_G0 f))) else (some (none, am_G0, f)))) (fun k => rfl) ?_)
    refine am_Ew.ite h (fun _ h => ?_) (fun _ h => ?_)
    · refine am_Ew.chk h (fun h => ?_)
      refine am_Ew.ite h (fun _ h => ?_) (fun _ h => ?_)
      · refine am_Ew.chk h (fun h => ?_)
        refine am_Ew.chk h (fun h => ?_)
        exact am_Ew.run (lk_X0_tick_107  n _ _ _ h )
      · exact am_Ew.run (lk_X0_tick_107  n _ _ _ h )
    · exact am_Ew.retV h
set_option maxHeartbeats 400000 in
set_option maxRecDepth 100000 in
theorem lk_X0_tick_70 {X : am_X} : ∀ (n : Nat) (x1 : Int32) (f : am_M) (f' : am_M), D_X0_tick_70 n x1 f = some f' → am_Ev X 3 70 [some (.ref 79), some (.int x1)] [] f none f'
  | 0, _, _, _, h => by cases h
  | n + 1, x1, f, f', h => by
    rw [D_X0_tick_70] at h
    refine am_Ew.start [95, 107] 13 (am_Ew.conv (fun k => (if x1 < (f 3 2) then (am_chk x1 6 (k 95 [some (.ref 79), some (.int x1)] [.int (f 5 x1.toNatClampNeg), .int x1, .ref 81] am_G0 f)) else (k 107 [some (.ref 79), some (.int 0)] [] am_G0 f))) (fun k => rfl) ?_)
    refine am_Ew.ite h (fun _ h => ?_) (fun _ h => ?_)
    · refine am_Ew.chk h (fun h => ?_)
      obtain ⟨v3, f3, h1, h⟩ := am_bI_some h
      refine am_Ew.run (am_Ev.call (fun n => rfl) (lk_X4_goOver_81 h1) ?_)
      refine am_Ew.start [70] 3 (am_Ew.conv (fun k => (k 70 [some (.ref 79), some (.int (x1 + 1))] [] am_G0 f3)) (fun k => rfl) ?_)
      exact am_Ew.run (lk_X0_tick_70  n _ _ _ h )
    · exact am_Ew.run (lk_X0_tick_107 _ _ _ _ h )
set_option maxHeartbeats 400000 in
set_option maxRecDepth 100000 in
theorem lk_X0_tick_9 {X : am_X} : ∀ (n : Nat) (x1 : Int32) (f : am_M) (f' : am_M), D_X0_tick_9 n x1 f = some f' → am_Ev X 3 9 [some (.ref 79), some (.int x1)] [] f none f'
  | 0, _, _, _, h => by cases h
  | n + 1, x1, f, f', h => by
    rw [D_X0_tick_9] at h
    refine am_Ew.start [9, 58, 70] 25 (am_Ew.conv (fun k => (if x1 < (f 3 1) then (am_chk x1 3 (if 0 < (f 4 x1.toNatClampNeg) then (am_chk x1 3 (if (f 86 x1.toNatClampNeg) = 0 then (am_chk x1 3 (k 58 [some (.ref 79), some (.int x1)] [.int (f 4 x1.toNatClampNeg), .int x1, .ref 81] am_G0 f)) else (k 9 [some (.ref 79), some (.int (x1 + 1))] [] am_G0 f))) else (k 9 [some (.ref 79), some (.int (x1 + 1))] [] am_G0 f))) else (k 70 [some (.ref 79), some (.int 0)] [] am_G0 f))) (fun k => rfl) ?_)
    refine am_Ew.ite h (fun _ h => ?_) (fun _ h => ?_)
    · refine am_Ew.chk h (fun h => ?_)
      refine am_Ew.ite h (fun _ h => ?_) (fun _ h => ?_)
      · refine am_Ew.chk h (fun h => ?_)
        refine am_Ew.ite h (fun _ h => ?_) (fun _ h => ?_)
        · refine am_Ew.chk h (fun h => ?_)
          obtain ⟨v2, f2, h1, h⟩ := am_bI_some h
          refine am_Ew.run (am_Ev.call (fun n => rfl) (lk_X4_claimOrWait_81 h1) ?_)
          refine am_Ew.start [9] 3 (am_Ew.conv (fun k => (k 9 [some (.ref 79), some (.int (x1 + 1))] [] am_G0 f2)) (fun k => rfl) ?_)
          exact am_Ew.run (lk_X0_tick_9  n _ _ _ h )
        · exact am_Ew.run (lk_X0_tick_9  n _ _ _ h )
      · exact am_Ew.run (lk_X0_tick_9  n _ _ _ h )
    · exact am_Ew.run (lk_X0_tick_70 _ _ _ _ h )
set_option maxHeartbeats 400000 in
set_option maxRecDepth 100000 in
theorem lk_X0_tick {X : am_X} {f f' : am_M} (h : D_X0_tick f = some f') : am_Ev X 3 0 [some (.ref 79), none] [] f none f' := by
  rw [D_X0_tick] at h
  refine am_Ew.start [4] 2 (am_Ew.conv (fun k => (k 4 [some (.ref 79), none] [.ref 81] am_G0 f)) (fun k => rfl) ?_)
  obtain ⟨f1, h1, h⟩ := am_bV_some h
  refine am_Ew.run (am_Ev.call (fun n => rfl) (lk_X4_closeAllByRule_81 h1) ?_)
  refine am_Ew.start [9] 2 (am_Ew.conv (fun k => (k 9 [some (.ref 79), some (.int 0)] [] am_G0 f1)) (fun k => rfl) ?_)
  exact am_Ew.run (lk_X0_tick_9 _ _ _ _ h )
set_option maxHeartbeats 400000 in
set_option maxRecDepth 100000 in
theorem lk_X0_after_7 {X : am_X} : ∀ (n : Nat) (x2 x3 : Int32) (f : am_M) (f' : am_M), D_X0_after_7 n x2 x3 f = some f' → ∀ d1 : Option Value, am_Ev X 1 7 [some (.ref 79), d1, some (.int x2), some (.int x3)] [] f (some (.ref 81)) f'
  | 0, _, _, _, _, h, _ => by cases h
  | n + 1, x2, x3, f, f', h, d1 => by
    rw [D_X0_after_7] at h
    refine am_Ew.start [13] 6 (am_Ew.conv (fun k => (if x3 < x2 then (k 13 [some (.ref 79), d1, some (.int x2), some (.int x3)] [.ref 79] am_G0 f) else (some (some (.ref 81), am_G0, f)))) (fun k => rfl) ?_)
    refine am_Ew.ite h (fun _ h => ?_) (fun _ h => ?_)
    · obtain ⟨f2, h1, h⟩ := am_bV_some h
      refine am_Ew.run (am_Ev.call (fun n => rfl) (lk_X0_tick h1) ?_)
      refine am_Ew.start [7] 2 (am_Ew.conv (fun k => (k 7 [some (.ref 79), d1, some (.int x2), some (.int (x3 + 1))] [] am_G0 f2)) (fun k => rfl) ?_)
      exact am_Ew.run (lk_X0_after_7  n _ _ _ _ h _ )
    · exact am_Ew.retR h
set_option maxHeartbeats 400000 in
set_option maxRecDepth 100000 in
theorem lk_X0_after {X : am_X} {a2 : Int32} {f f' : am_M} (h : D_X0_after a2 f = some f') : am_Ev X 1 0 [some (.ref 79), some (.ref 11), some (.int a2), none] [] f (some (.ref 81)) f' := by
  rw [D_X0_after] at h
  refine am_Ew.start [2] 2 (am_Ew.conv (fun k => (k 2 [some (.ref 79), some (.ref 11), some (.int a2), none] [.ref 11, .ref 79] am_G0 f)) (fun k => rfl) ?_)
  obtain ⟨f1, h1, h⟩ := am_bV_some h
  refine am_Ew.run (am_Ev.call (fun n => rfl) (lk_X0_start h1) ?_)
  refine am_Ew.start [7] 2 (am_Ew.conv (fun k => (k 7 [some (.ref 79), some (.ref 11), some (.int a2), some (.int 0)] [] am_G0 f1)) (fun k => rfl) ?_)
  exact am_Ew.run (lk_X0_after_7 _ _ _ _ _ h _ )
set_option maxHeartbeats 400000 in
set_option maxRecDepth 100000 in
theorem lk_X0_takersSeen_45 {X : am_X} {K : Int32 → Int32 → Int32 → am_M → Option (Int32 × am_M)} (hK : ∀ (x3 x4 x5 : Int32) (f : am_M) (v' : Int32) (f' : am_M), K x3 x4 x5 f = some (v', f') → ∀ d1 d6 : Option Value, am_Ev X 4 26 [some (.ref 79), d1, some (.ref 88), some (.int x3), some (.int x4), some (.int x5), d6] [] f (some (.int v')) f') : ∀ (n : Nat) (x3 x4 x5 x6 : Int32) (f : am_M) (v' : Int32) (f' : am_M), D_X0_takersSeen_45 K n x3 x4 x5 x6 f = some (v', f') → ∀ d1 : Option Value, am_Ev X 4 45 [some (.ref 79), d1, some (.ref 88), some (.int x3), some (.int x4), some (.int x5), some (.int x6)] [] f (some (.int v')) f'
  | 0, _, _, _, _, _, _, _, h, _ => by cases h
  | n + 1, x3, x4, x5, x6, f, v', f', h, d1 => by
    rw [D_X0_takersSeen_45] at h
    refine am_Ew.start [26, 70] 12 (am_Ew.conv (fun k => (if x6 < (f 3 2) then (am_chk x6 6 (k 70 [some (.ref 79), d1, some (.ref 88), some (.int x3), some (.int x4), some (.int x5), some (.int x6)] [.int (f 82 x6.toNatClampNeg), .int x5, .ref 88] am_G0 f)) else (k 26 [some (.ref 79), d1, some (.ref 88), some (.int x3), some (.int x4), some (.int (x5 + 1)), some (.int x6)] [] am_G0 f))) (fun k => rfl) ?_)
    refine am_Ew.ite h (fun _ h => ?_) (fun _ h => ?_)
    · refine am_Ew.chk h (fun h => ?_)
      obtain ⟨v4, f4, h1, h⟩ := am_bI_some h
      refine am_Ew.run (am_Ev.call (fun n => rfl) (lk_X3_allows h1) ?_)
      refine am_Ew.start [45] 11 (am_Ew.conv (fun k => (if v4 = 0 then (k 45 [some (.ref 79), d1, some (.ref 88), some (.int (x3 &&& (((1 : Int32) <<< (x6 &&& 31)) ^^^ (-1)))), some (.int x4), some (.int x5), some (.int (x6 + 1))] [] am_G0 f4) else (k 45 [some (.ref 79), d1, some (.ref 88), some (.int x3), some (.int x4), some (.int x5), some (.int (x6 + 1))] [] am_G0 f4))) (fun k => rfl) ?_)
      refine am_Ew.ite h (fun _ h => ?_) (fun _ h => ?_)
      · exact am_Ew.run (lk_X0_takersSeen_45 hK n _ _ _ _ _ _ _ h _ )
      · exact am_Ew.run (lk_X0_takersSeen_45 hK n _ _ _ _ _ _ _ h _ )
    · exact am_Ew.run (hK _ _ _ _ _ _ h _ _ )
set_option maxHeartbeats 400000 in
set_option maxRecDepth 100000 in
theorem lk_X0_takersSeen_26 {X : am_X} : ∀ (n : Nat) (x3 x4 x5 : Int32) (f : am_M) (v' : Int32) (f' : am_M), D_X0_takersSeen_26 n x3 x4 x5 f = some (v', f') → ∀ d1 d6 : Option Value, am_Ev X 4 26 [some (.ref 79), d1, some (.ref 88), some (.int x3), some (.int x4), some (.int x5), d6] [] f (some (.int v')) f'
  | 0, _, _, _, _, _, _, h, _, _ => by cases h
  | n + 1, x3, x4, x5, f, v', f', h, d1, d6 => by
    rw [D_X0_takersSeen_26] at h
    refine am_Ew.start [39, 45] 7 (am_Ew.conv (fun k => (if x4 < x5 then (some (some (.int x3), am_G0, f)) else (if 0 < x5 then (k 39 [some (.ref 79), d1, some (.ref 88), some (.int x3), some (.int x4), some (.int x5), d6] [.ref 79] am_G0 f) else (k 45 [some (.ref 79), d1, some (.ref 88), some (.int x3), some (.int x4), some (.int x5), some (.int 0)] [] am_G0 f)))) (fun k => rfl) ?_)
    refine am_Ew.ite h (fun _ h => ?_) (fun _ h => ?_)
    · exact am_Ew.retI h
    · refine am_Ew.ite h (fun _ h => ?_) (fun _ h => ?_)
      · obtain ⟨f3, h1, h⟩ := am_bV_some h
        refine am_Ew.run (am_Ev.call (fun n => rfl) (lk_X0_tick h1) ?_)
        refine am_Ew.start [45] 2 (am_Ew.conv (fun k => (k 45 [some (.ref 79), d1, some (.ref 88), some (.int x3), some (.int x4), some (.int x5), some (.int 0)] [] am_G0 f3)) (fun k => rfl) ?_)
        exact am_Ew.run (lk_X0_takersSeen_45 (fun y3 y4 y5 f9 v9 f8 h9 e0 e1 => lk_X0_takersSeen_26 n y3 y4 y5 f9 v9 f8 h9 e0 e1) _ _ _ _ _ _ _ _ h _ )
      · exact am_Ew.run (lk_X0_takersSeen_45 (fun y3 y4 y5 f9 v9 f8 h9 e0 e1 => lk_X0_takersSeen_26 n y3 y4 y5 f9 v9 f8 h9 e0 e1) _ _ _ _ _ _ _ _ h _ )
set_option maxHeartbeats 400000 in
set_option maxRecDepth 100000 in
theorem lk_X0_takersSeen {X : am_X} {f f' : am_M} {v' : Int32} (h : D_X0_takersSeen f = some (v', f')) : am_Ev X 4 0 [some (.ref 79), some (.ref 11), some (.ref 88), none, none, none, none] [] f (some (.int v')) f' := by
  rw [D_X0_takersSeen] at h
  refine am_Ew.start [13] 9 (am_Ew.conv (fun k => (k 13 [some (.ref 79), some (.ref 11), some (.ref 88), some (.int (((1 : Int32) <<< ((f 3 2) &&& 31)) - 1)), none, none, none] [.ref 88] am_G0 f)) (fun k => rfl) ?_)
  obtain ⟨v1, f1, h1, h⟩ := am_bI_some h
  refine am_Ew.run (am_Ev.call (fun n => rfl) (lk_X3_lastTick h1) ?_)
  refine am_Ew.start [20] 3 (am_Ew.conv (fun k => (k 20 [some (.ref 79), some (.ref 11), some (.ref 88), some (.int (((1 : Int32) <<< ((f 3 2) &&& 31)) - 1)), some (.int v1), none, none] [.ref 11, .ref 79] am_G0 f1)) (fun k => rfl) ?_)
  obtain ⟨f2, h1, h⟩ := am_bV_some h
  refine am_Ew.run (am_Ev.call (fun n => rfl) (lk_X0_start h1) ?_)
  refine am_Ew.start [26] 2 (am_Ew.conv (fun k => (k 26 [some (.ref 79), some (.ref 11), some (.ref 88), some (.int (((1 : Int32) <<< ((f 3 2) &&& 31)) - 1)), some (.int v1), some (.int 0), none] [] am_G0 f2)) (fun k => rfl) ?_)
  exact am_Ew.run (lk_X0_takersSeen_26 _ _ _ _ _ _ _ h _ _ )
set_option maxHeartbeats 400000 in
set_option maxRecDepth 100000 in
theorem lk_X0_ticksThatPart_14 {X : am_X} : ∀ (n : Nat) (x2 x3 x4 x5 : Int32) (f : am_M) (v' : Int32) (f' : am_M), D_X0_ticksThatPart_14 n x2 x3 x4 x5 f = some (v', f') → ∀ d1 d6 : Option Value, am_Ev X 5 14 [some (.ref 79), d1, some (.int x2), some (.int x3), some (.int x4), some (.int x5), d6] [] f (some (.int v')) f'
  | 0, _, _, _, _, _, _, _, h, _, _ => by cases h
  | n + 1, x2, x3, x4, x5, f, v', f', h, d1, d6 => by
    rw [D_X0_ticksThatPart_14] at h
    refine am_Ew.start [33, 38] 10 (am_Ew.conv (fun k => (if 60 < x5 then (some (some (.int x3), am_G0, f)) else (if 1 < x4 then (if 0 < x5 then (k 33 [some (.ref 79), d1, some (.int x2), some (.int x3), some (.int x4), some (.int x5), d6] [.ref 79] am_G0 f) else (k 38 [some (.ref 79), d1, some (.int x2), some (.int x3), some (.int x4), some (.int x5), d6] [.int x2, .ref 79] am_G0 f)) else (some (some (.int x3), am_G0, f))))) (fun k => rfl) ?_)
    refine am_Ew.ite h (fun _ h => ?_) (fun _ h => ?_)
    · exact am_Ew.retI h
    · refine am_Ew.ite h (fun _ h => ?_) (fun _ h => ?_)
      · refine am_Ew.ite h (fun _ h => ?_) (fun _ h => ?_)
        · obtain ⟨f2, h1, h⟩ := am_bV_some h
          refine am_Ew.run (am_Ev.call (fun n => rfl) (lk_X0_tick h1) ?_)
          refine am_Ew.start [38] 2 (am_Ew.conv (fun k => (k 38 [some (.ref 79), d1, some (.int x2), some (.int x3), some (.int x4), some (.int x5), d6] [.int x2, .ref 79] am_G0 f2)) (fun k => rfl) ?_)
          obtain ⟨v3, f3, h1, h⟩ := am_bI_some h
          refine am_Ew.run (am_Ev.call (fun n => rfl) (lk_X0_greatestGroup h1) ?_)
          refine am_Ew.start [14] 10 (am_Ew.conv (fun k => (if v3 < x4 then (k 14 [some (.ref 79), d1, some (.int x2), some (.int x5), some (.int v3), some (.int (x5 + 1)), some (.int v3)] [] am_G0 f3) else (k 14 [some (.ref 79), d1, some (.int x2), some (.int x3), some (.int x4), some (.int (x5 + 1)), some (.int v3)] [] am_G0 f3))) (fun k => rfl) ?_)
          refine am_Ew.ite h (fun _ h => ?_) (fun _ h => ?_)
          · exact am_Ew.run (lk_X0_ticksThatPart_14  n _ _ _ _ _ _ _ h _ _ )
          · exact am_Ew.run (lk_X0_ticksThatPart_14  n _ _ _ _ _ _ _ h _ _ )
        · obtain ⟨v4, f4, h1, h⟩ := am_bI_some h
          refine am_Ew.run (am_Ev.call (fun n => rfl) (lk_X0_greatestGroup h1) ?_)
          refine am_Ew.start [14] 10 (am_Ew.conv (fun k => (if v4 < x4 then (k 14 [some (.ref 79), d1, some (.int x2), some (.int x5), some (.int v4), some (.int (x5 + 1)), some (.int v4)] [] am_G0 f4) else (k 14 [some (.ref 79), d1, some (.int x2), some (.int x3), some (.int x4), some (.int (x5 + 1)), some (.int v4)] [] am_G0 f4))) (fun k => rfl) ?_)
          refine am_Ew.ite h (fun _ h => ?_) (fun _ h => ?_)
          · exact am_Ew.run (lk_X0_ticksThatPart_14  n _ _ _ _ _ _ _ h _ _ )
          · exact am_Ew.run (lk_X0_ticksThatPart_14  n _ _ _ _ _ _ _ h _ _ )
      · exact am_Ew.retI h
set_option maxHeartbeats 400000 in
set_option maxRecDepth 100000 in
theorem lk_X0_ticksThatPart {X : am_X} {a2 : Int32} {f f' : am_M} {v' : Int32} (h : D_X0_ticksThatPart a2 f = some (v', f')) : am_Ev X 5 0 [some (.ref 79), some (.ref 11), some (.int a2), none, none, none, none] [] f (some (.int v')) f' := by
  rw [D_X0_ticksThatPart] at h
  refine am_Ew.start [8] 6 (am_Ew.conv (fun k => (k 8 [some (.ref 79), some (.ref 11), some (.int a2), some (.int 0), some (.int 7), none, none] [.ref 11, .ref 79] am_G0 f)) (fun k => rfl) ?_)
  obtain ⟨f1, h1, h⟩ := am_bV_some h
  refine am_Ew.run (am_Ev.call (fun n => rfl) (lk_X0_start h1) ?_)
  refine am_Ew.start [14] 2 (am_Ew.conv (fun k => (k 14 [some (.ref 79), some (.ref 11), some (.int a2), some (.int 0), some (.int 7), some (.int 0), none] [] am_G0 f1)) (fun k => rfl) ?_)
  exact am_Ew.run (lk_X0_ticksThatPart_14 _ _ _ _ _ _ _ _ h _ _ )
end
section
set_option maxHeartbeats 400000 in
set_option maxRecDepth 100000 in
theorem lk_X7_clear {X : am_X} {f f' : am_M} {v' : Int32} (h : D_X7_clear f = some (v', f')) : am_Ev X 64 0 [some (.ref 0), none] [] f (some (.int v')) f' := by
  rw [D_X7_clear] at h
  refine am_Ew.start [] 10 (am_Ew.conv (fun k => (some (some (.int (f 1 1)), am_G0, (am_wr f 1 1 0)))) (fun k => rfl) ?_)
  exact am_Ew.retI h
set_option maxHeartbeats 400000 in
set_option maxRecDepth 100000 in
theorem lk_X7_isTicks {X : am_X} {a0 : Int32} {f f' : am_M} {v' : Int32} (h : D_X7_isTicks a0 f = some (v', f')) : am_Ev X 81 0 [some (.int a0)] [] f (some (.int v')) f' := by
  rw [D_X7_isTicks] at h
  refine am_Ew.start [] 8 (am_Ew.conv (fun k => (if a0 < 0 then (some (some (.int 0), am_G0, f)) else (if 60 < a0 then (some (some (.int 0), am_G0, f)) else (some (some (.int 1), am_G0, f))))) (fun k => rfl) ?_)
  refine am_Ew.ite h (fun _ h => ?_) (fun _ h => ?_)
  · exact am_Ew.retI h
  · refine am_Ew.ite h (fun _ h => ?_) (fun _ h => ?_)
    · exact am_Ew.retI h
    · exact am_Ew.retI h
set_option maxHeartbeats 400000 in
set_option maxRecDepth 100000 in
theorem lk_X7_forget {X : am_X} {f f' : am_M} {v' : Int32} (h : D_X7_forget f = some (v', f')) : am_Ev X 83 0 [some (.ref 0), none] [] f (some (.int v')) f' := by
  rw [D_X7_forget] at h
  refine am_Ew.start [] 10 (am_Ew.conv (fun k => (some (some (.int (f 88 2)), am_G0, (am_wr f 88 2 0)))) (fun k => rfl) ?_)
  exact am_Ew.retI h
set_option maxHeartbeats 400000 in
set_option maxRecDepth 100000 in
theorem lk_X7_type {X : am_X} {a1 : Int32} {f f' : am_M} {v' : Int32} (h : D_X7_type a1 f = some (v', f')) : am_Ev X 63 0 [some (.ref 0), some (.int a1)] [] f (some (.int v')) f' := by
  rw [D_X7_type] at h
  refine am_Ew.start [18] 8 (am_Ew.conv (fun k => (if a1 < 0 then (some (some (.int (-1)), am_G0, f)) else (if (am_int 255) < a1 then (some (some (.int (-1)), am_G0, f)) else (k 18 [some (.ref 0), some (.int a1)] [.int a1, .ref 1] am_G0 f)))) (fun k => rfl) ?_)
  refine am_Ew.ite h (fun _ h => ?_) (fun _ h => ?_)
  · exact am_Ew.retI h
  · refine am_Ew.ite h (fun _ h => ?_) (fun _ h => ?_)
    · exact am_Ew.retI h
    · obtain ⟨v1, f1, h1, h⟩ := am_bI_some h
      refine am_Ew.run (am_Ev.call (fun n => rfl) (lk_X5_append h1) ?_)
      refine am_Ew.start [] 6 (am_Ew.conv (fun k => (if v1 = 0 then (some (some (.int (-3)), am_G0, f1)) else (some (some (.int (f1 1 1)), am_G0, f1)))) (fun k => rfl) ?_)
      refine am_Ew.ite h (fun _ h => ?_) (fun _ h => ?_)
      · exact am_Ew.retI h
      · exact am_Ew.retI h
set_option maxHeartbeats 400000 in
set_option maxRecDepth 100000 in
theorem lk_X7_event {X : am_X} {a1 a2 : Int32} {f f' : am_M} {v' : Int32} (h : D_X7_event a1 a2 f = some (v', f')) : am_Ev X 73 0 [some (.ref 0), some (.int a1), some (.int a2)] [] f (some (.int v')) f' := by
  rw [D_X7_event] at h
  refine am_Ew.start [5] 3 (am_Ew.conv (fun k => (k 5 [some (.ref 0), some (.int a1), some (.int a2)] [.int a1, .ref 11] am_G0 f)) (fun k => rfl) ?_)
  obtain ⟨v1, f1, h1, h⟩ := am_bI_some h
  refine am_Ew.run (am_Ev.call (fun n => rfl) (lk_X4_hasEvent_11 h1) ?_)
  refine am_Ew.start [45, 54, 63] 6 (am_Ew.conv (fun k => (if v1 = 0 then (some (some (.int (-1)), am_G0, f1)) else (if a2 = 0 then (k 45 [some (.ref 0), some (.int a1), some (.int a2)] [.int a1, .ref 11] am_G0 f1) else (if a2 = 1 then (k 54 [some (.ref 0), some (.int a1), some (.int a2)] [.int a1, .ref 11] am_G0 f1) else (if a2 = 2 then (k 63 [some (.ref 0), some (.int a1), some (.int a2)] [.int a1, .ref 11] am_G0 f1) else (some (some (.int (-1)), am_G0, f1))))))) (fun k => rfl) ?_)
  refine am_Ew.ite h (fun _ h => ?_) (fun _ h => ?_)
  · exact am_Ew.retI h
  · refine am_Ew.ite h (fun _ h => ?_) (fun _ h => ?_)
    · obtain ⟨v2, f2, h1, h⟩ := am_bI_some h
      refine am_Ew.run (am_Ev.call (fun n => rfl) (lk_X4_kindOf_11 h1) ?_)
      refine am_Ew.start [] 1 (am_Ew.conv (fun k => (some (some (.int v2), am_G0, f2))) (fun k => rfl) ?_)
      exact am_Ew.retI h
    · refine am_Ew.ite h (fun _ h => ?_) (fun _ h => ?_)
      · obtain ⟨v3, f3, h1, h⟩ := am_bI_some h
        refine am_Ew.run (am_Ev.call (fun n => rfl) (lk_X4_makerOf_11 h1) ?_)
        refine am_Ew.start [] 1 (am_Ew.conv (fun k => (some (some (.int v3), am_G0, f3))) (fun k => rfl) ?_)
        exact am_Ew.retI h
      · refine am_Ew.ite h (fun _ h => ?_) (fun _ h => ?_)
        · obtain ⟨v4, f4, h1, h⟩ := am_bI_some h
          refine am_Ew.run (am_Ev.call (fun n => rfl) (lk_X4_kindOf_11 h1) ?_)
          refine am_Ew.start [75] 5 (am_Ew.conv (fun k => (if v4 = 1 then (k 75 [some (.ref 0), some (.int a1), some (.int a2)] [.int a1, .ref 11] am_G0 f4) else (some (some (.int (-9)), am_G0, f4)))) (fun k => rfl) ?_)
          refine am_Ew.ite h (fun _ h => ?_) (fun _ h => ?_)
          · obtain ⟨v5, f5, h1, h⟩ := am_bI_some h
            refine am_Ew.run (am_Ev.call (fun n => rfl) (lk_X4_valueOf_11 h1) ?_)
            refine am_Ew.start [] 2 (am_Ew.conv (fun k => (some (some (.int v5), am_G0, f5))) (fun k => rfl) ?_)
            exact am_Ew.retI h
          · exact am_Ew.retI h
        · exact am_Ew.retI h
set_option maxHeartbeats 400000 in
set_option maxRecDepth 100000 in
theorem lk_X7_steps {X : am_X} {f f' : am_M} {v' : Int32} (h : D_X7_steps f = some (v', f')) : am_Ev X 77 0 [some (.ref 0)] [] f (some (.int v')) f' := by
  rw [D_X7_steps] at h
  refine am_Ew.start [4] 2 (am_Ew.conv (fun k => (k 4 [some (.ref 0)] [.ref 11] am_G0 f)) (fun k => rfl) ?_)
  obtain ⟨v1, f1, h1, h⟩ := am_bI_some h
  refine am_Ew.run (am_Ev.call (fun n => rfl) (lk_X4_takesToAdmitFirst_11 h1) ?_)
  refine am_Ew.start [] 1 (am_Ew.conv (fun k => (some (some (.int v1), am_G0, f1))) (fun k => rfl) ?_)
  exact am_Ew.retI h
set_option maxHeartbeats 400000 in
set_option maxRecDepth 100000 in
theorem lk_X7_sees {X : am_X} {a1 a2 : Int32} {f f' : am_M} {v' : Int32} (h : D_X7_sees a1 a2 f = some (v', f')) : am_Ev X 82 0 [some (.ref 0), some (.int a1), some (.int a2)] [] f (some (.int v')) f' := by
  rw [D_X7_sees] at h
  refine am_Ew.start [1] 1 (am_Ew.conv (fun k => (k 1 [some (.ref 0), some (.int a1), some (.int a2)] [.int a1] am_G0 f)) (fun k => rfl) ?_)
  obtain ⟨v1, f1, h1, h⟩ := am_bI_some h
  refine am_Ew.run (am_Ev.call (fun n => rfl) (lk_X7_isTicks h1) ?_)
  refine am_Ew.start [26] 10 (am_Ew.conv (fun k => (if v1 = 0 then (some (some (.int (-1)), am_G0, f1)) else (if a2 < 0 then (some (some (.int (-1)), am_G0, f1)) else (if (am_int 9999) < a2 then (some (some (.int (-1)), am_G0, f1)) else (k 26 [some (.ref 0), some (.int a1), some (.int a2)] [.int a2, .int a1, .ref 88] am_G0 f1))))) (fun k => rfl) ?_)
  refine am_Ew.ite h (fun _ h => ?_) (fun _ h => ?_)
  · exact am_Ew.retI h
  · refine am_Ew.ite h (fun _ h => ?_) (fun _ h => ?_)
    · exact am_Ew.retI h
    · refine am_Ew.ite h (fun _ h => ?_) (fun _ h => ?_)
      · exact am_Ew.retI h
      · obtain ⟨v2, f2, h1, h⟩ := am_bI_some h
        refine am_Ew.run (am_Ev.call (fun n => rfl) (lk_X3_add h1) ?_)
        refine am_Ew.start [] 6 (am_Ew.conv (fun k => (if v2 = 0 then (some (some (.int (-3)), am_G0, f2)) else (some (some (.int (f2 88 2)), am_G0, f2)))) (fun k => rfl) ?_)
        refine am_Ew.ite h (fun _ h => ?_) (fun _ h => ?_)
        · exact am_Ew.retI h
        · exact am_Ew.retI h
set_option maxHeartbeats 400000 in
set_option maxRecDepth 100000 in
theorem lk_X7_taker {X : am_X} {a1 a2 : Int32} {f f' : am_M} {v' : Int32} (h : D_X7_taker a1 a2 f = some (v', f')) : am_Ev X 74 0 [some (.ref 0), some (.int a1), some (.int a2)] [] f (some (.int v')) f' := by
  rw [D_X7_taker] at h
  refine am_Ew.start [5] 3 (am_Ew.conv (fun k => (k 5 [some (.ref 0), some (.int a1), some (.int a2)] [.int a1, .ref 3] am_G0 f)) (fun k => rfl) ?_)
  obtain ⟨v1, f1, h1, h⟩ := am_bI_some h
  refine am_Ew.run (am_Ev.call (fun n => rfl) (lk_X6_hasTaker h1) ?_)
  refine am_Ew.start [91] 13 (am_Ew.conv (fun k => (if v1 = 0 then (some (some (.int (-1)), am_G0, f1)) else (if a2 = 0 then (am_chk a1 6 (some (some (.int (f1 5 a1.toNatClampNeg)), am_G0, f1))) else (if a2 = 1 then (am_chk a1 6 (some (some (.int (f1 6 a1.toNatClampNeg)), am_G0, f1))) else (if a2 = 2 then (am_chk a1 6 (some (some (.int (f1 12 a1.toNatClampNeg)), am_G0, f1))) else (if a2 = 3 then (k 91 [some (.ref 0), some (.int a1), some (.int a2)] [.int a1, .ref 11] am_G0 f1) else (if a2 = 4 then (am_chk a1 6 (some (some (.int ((f1 11 3) - (f1 12 a1.toNatClampNeg))), am_G0, f1))) else (if a2 = 5 then (am_chk a1 6 (some (some (.int (f1 13 a1.toNatClampNeg)), am_G0, f1))) else (if a2 = 6 then (am_chk a1 6 (some (some (.int (f1 14 a1.toNatClampNeg)), am_G0, f1))) else (some (some (.int (-1)), am_G0, f1))))))))))) (fun k => rfl) ?_)
  refine am_Ew.ite h (fun _ h => ?_) (fun _ h => ?_)
  · exact am_Ew.retI h
  · refine am_Ew.ite h (fun _ h => ?_) (fun _ h => ?_)
    · refine am_Ew.chk h (fun h => ?_)
      exact am_Ew.retI h
    · refine am_Ew.ite h (fun _ h => ?_) (fun _ h => ?_)
      · refine am_Ew.chk h (fun h => ?_)
        exact am_Ew.retI h
      · refine am_Ew.ite h (fun _ h => ?_) (fun _ h => ?_)
        · refine am_Ew.chk h (fun h => ?_)
          exact am_Ew.retI h
        · refine am_Ew.ite h (fun _ h => ?_) (fun _ h => ?_)
          · obtain ⟨v2, f2, h1, h⟩ := am_bI_some h
            refine am_Ew.run (am_Ev.call (fun n => rfl) (lk_X4_atMost_11 h1) ?_)
            refine am_Ew.start [] 1 (am_Ew.conv (fun k => (some (some (.int v2), am_G0, f2))) (fun k => rfl) ?_)
            exact am_Ew.retI h
          · refine am_Ew.ite h (fun _ h => ?_) (fun _ h => ?_)
            · refine am_Ew.chk h (fun h => ?_)
              exact am_Ew.retI h
            · refine am_Ew.ite h (fun _ h => ?_) (fun _ h => ?_)
              · refine am_Ew.chk h (fun h => ?_)
                exact am_Ew.retI h
              · refine am_Ew.ite h (fun _ h => ?_) (fun _ h => ?_)
                · refine am_Ew.chk h (fun h => ?_)
                  exact am_Ew.retI h
                · exact am_Ew.retI h
set_option maxHeartbeats 400000 in
set_option maxRecDepth 100000 in
theorem lk_X7_maker {X : am_X} {a1 a2 : Int32} {f f' : am_M} {v' : Int32} (h : D_X7_maker a1 a2 f = some (v', f')) : am_Ev X 75 0 [some (.ref 0), some (.int a1), some (.int a2)] [] f (some (.int v')) f' := by
  rw [D_X7_maker] at h
  refine am_Ew.start [5] 3 (am_Ew.conv (fun k => (k 5 [some (.ref 0), some (.int a1), some (.int a2)] [.int a1, .ref 3] am_G0 f)) (fun k => rfl) ?_)
  obtain ⟨v1, f1, h1, h⟩ := am_bI_some h
  refine am_Ew.run (am_Ev.call (fun n => rfl) (lk_X6_hasMaker h1) ?_)
  refine am_Ew.start [69, 78] 9 (am_Ew.conv (fun k => (if v1 = 0 then (some (some (.int (-1)), am_G0, f1)) else (if a2 = 0 then (am_chk a1 3 (some (some (.int (f1 4 a1.toNatClampNeg)), am_G0, f1))) else (if a2 = 1 then (am_chk a1 3 (some (some (.int (f1 16 a1.toNatClampNeg)), am_G0, f1))) else (if a2 = 2 then (k 69 [some (.ref 0), some (.int a1), some (.int a2)] [.int a1, .ref 11] am_G0 f1) else (if a2 = 3 then (k 78 [some (.ref 0), some (.int a1), some (.int a2)] [.int a1, .ref 11] am_G0 f1) else (some (some (.int (-1)), am_G0, f1)))))))) (fun k => rfl) ?_)
  refine am_Ew.ite h (fun _ h => ?_) (fun _ h => ?_)
  · exact am_Ew.retI h
  · refine am_Ew.ite h (fun _ h => ?_) (fun _ h => ?_)
    · refine am_Ew.chk h (fun h => ?_)
      exact am_Ew.retI h
    · refine am_Ew.ite h (fun _ h => ?_) (fun _ h => ?_)
      · refine am_Ew.chk h (fun h => ?_)
        exact am_Ew.retI h
      · refine am_Ew.ite h (fun _ h => ?_) (fun _ h => ?_)
        · obtain ⟨v2, f2, h1, h⟩ := am_bI_some h
          refine am_Ew.run (am_Ev.call (fun n => rfl) (lk_X4_placeInRow_11 h1) ?_)
          refine am_Ew.start [] 1 (am_Ew.conv (fun k => (some (some (.int v2), am_G0, f2))) (fun k => rfl) ?_)
          exact am_Ew.retI h
        · refine am_Ew.ite h (fun _ h => ?_) (fun _ h => ?_)
          · obtain ⟨v3, f3, h1, h⟩ := am_bI_some h
            refine am_Ew.run (am_Ev.call (fun n => rfl) (lk_X4_openOf_11 h1) ?_)
            refine am_Ew.start [] 1 (am_Ew.conv (fun k => (some (some (.int v3), am_G0, f3))) (fun k => rfl) ?_)
            exact am_Ew.retI h
          · exact am_Ew.retI h
set_option maxHeartbeats 400000 in
set_option maxRecDepth 100000 in
theorem lk_X7_keep {X : am_X} {a1 : Int32} {f f' : am_M} {v' : Int32} (h : D_X7_keep a1 f = some (v', f')) : am_Ev X 86 0 [some (.ref 0), some (.int a1), none] [] f (some (.int v')) f' := by
  rw [D_X7_keep] at h
  refine am_Ew.start [13] 7 (am_Ew.conv (fun k => (if a1 = 0 then (k 13 [some (.ref 0), some (.int a1), none] [.int a1, .ref 0] am_G0 f) else (if a1 = 1 then (k 13 [some (.ref 0), some (.int a1), none] [.int a1, .ref 0] am_G0 f) else (some (some (.int (-1)), am_G0, f))))) (fun k => rfl) ?_)
  refine am_Ew.ite h (fun _ h => ?_) (fun _ h => ?_)
  · by_cases c9 : a1 = 0
    · rw [if_pos c9] at h
      refine am_Ew.run (am_Ev.call (fun n => rfl) (lk_img_0 c9) ?_)
      refine am_Ew.start [25] 5 (am_Ew.conv (fun k => (k 25 [some (.ref 0), some (.int a1), some (.ref 63)] [.ref 11, .ref 64] am_G0 f)) (fun k => rfl) ?_)
      obtain ⟨f2, h1, h⟩ := am_bV_some h
      refine am_Ew.run (am_Ev.call (fun n => rfl) (lk_X4_copyFrom_64_11 h1) ?_)
      refine am_Ew.start [] 7 (am_Ew.conv (fun k => (some (some (.int (f2 11 2)), am_G0, (am_wr f2 63 1 1)))) (fun k => rfl) ?_)
      exact am_Ew.retI h
    · rw [if_neg c9] at h
      refine am_Ew.run (am_Ev.call (fun n => rfl) (lk_img_1 c9) ?_)
      refine am_Ew.start [25] 5 (am_Ew.conv (fun k => (k 25 [some (.ref 0), some (.int a1), some (.ref 71)] [.ref 11, .ref 72] am_G0 f)) (fun k => rfl) ?_)
      obtain ⟨f3, h1, h⟩ := am_bV_some h
      refine am_Ew.run (am_Ev.call (fun n => rfl) (lk_X4_copyFrom_72_11 h1) ?_)
      refine am_Ew.start [] 7 (am_Ew.conv (fun k => (some (some (.int (f3 11 2)), am_G0, (am_wr f3 71 1 1)))) (fun k => rfl) ?_)
      exact am_Ew.retI h
  · refine am_Ew.ite h (fun _ h => ?_) (fun _ h => ?_)
    · by_cases c9 : a1 = 0
      · rw [if_pos c9] at h
        refine am_Ew.run (am_Ev.call (fun n => rfl) (lk_img_0 c9) ?_)
        refine am_Ew.start [25] 5 (am_Ew.conv (fun k => (k 25 [some (.ref 0), some (.int a1), some (.ref 63)] [.ref 11, .ref 64] am_G0 f)) (fun k => rfl) ?_)
        obtain ⟨f5, h1, h⟩ := am_bV_some h
        refine am_Ew.run (am_Ev.call (fun n => rfl) (lk_X4_copyFrom_64_11 h1) ?_)
        refine am_Ew.start [] 7 (am_Ew.conv (fun k => (some (some (.int (f5 11 2)), am_G0, (am_wr f5 63 1 1)))) (fun k => rfl) ?_)
        exact am_Ew.retI h
      · rw [if_neg c9] at h
        refine am_Ew.run (am_Ev.call (fun n => rfl) (lk_img_1 c9) ?_)
        refine am_Ew.start [25] 5 (am_Ew.conv (fun k => (k 25 [some (.ref 0), some (.int a1), some (.ref 71)] [.ref 11, .ref 72] am_G0 f)) (fun k => rfl) ?_)
        obtain ⟨f6, h1, h⟩ := am_bV_some h
        refine am_Ew.run (am_Ev.call (fun n => rfl) (lk_X4_copyFrom_72_11 h1) ?_)
        refine am_Ew.start [] 7 (am_Ew.conv (fun k => (some (some (.int (f6 11 2)), am_G0, (am_wr f6 71 1 1)))) (fun k => rfl) ?_)
        exact am_Ew.retI h
    · exact am_Ew.retI h
set_option maxHeartbeats 400000 in
set_option maxRecDepth 100000 in
theorem lk_X7_back {X : am_X} {a1 : Int32} {f f' : am_M} {v' : Int32} (h : D_X7_back a1 f = some (v', f')) : am_Ev X 87 0 [some (.ref 0), some (.int a1), none] [] f (some (.int v')) f' := by
  rw [D_X7_back] at h
  refine am_Ew.start [13] 7 (am_Ew.conv (fun k => (if a1 = 0 then (k 13 [some (.ref 0), some (.int a1), none] [.int a1, .ref 0] am_G0 f) else (if a1 = 1 then (k 13 [some (.ref 0), some (.int a1), none] [.int a1, .ref 0] am_G0 f) else (some (some (.int (-1)), am_G0, f))))) (fun k => rfl) ?_)
  refine am_Ew.ite h (fun _ h => ?_) (fun _ h => ?_)
  · by_cases c9 : a1 = 0
    · rw [if_pos c9] at h
      refine am_Ew.run (am_Ev.call (fun n => rfl) (lk_img_0 c9) ?_)
      refine am_Ew.start [35] 8 (am_Ew.conv (fun k => (if (f 63 1) = 0 then (some (some (.int (-2)), am_G0, f)) else (k 35 [some (.ref 0), some (.int a1), some (.ref 63)] [.ref 64, .ref 11] am_G0 f))) (fun k => rfl) ?_)
      refine am_Ew.ite h (fun _ h => ?_) (fun _ h => ?_)
      · exact am_Ew.retI h
      · obtain ⟨f2, h1, h⟩ := am_bV_some h
        refine am_Ew.run (am_Ev.call (fun n => rfl) (lk_X4_copyFrom_11_64 h1) ?_)
        refine am_Ew.start [] 8 (am_Ew.conv (fun k => (some (some (.int (f2 11 2)), am_G0, (am_wr f2 18 3 0)))) (fun k => rfl) ?_)
        exact am_Ew.retI h
    · rw [if_neg c9] at h
      refine am_Ew.run (am_Ev.call (fun n => rfl) (lk_img_1 c9) ?_)
      refine am_Ew.start [35] 8 (am_Ew.conv (fun k => (if (f 71 1) = 0 then (some (some (.int (-2)), am_G0, f)) else (k 35 [some (.ref 0), some (.int a1), some (.ref 71)] [.ref 72, .ref 11] am_G0 f))) (fun k => rfl) ?_)
      refine am_Ew.ite h (fun _ h => ?_) (fun _ h => ?_)
      · exact am_Ew.retI h
      · obtain ⟨f3, h1, h⟩ := am_bV_some h
        refine am_Ew.run (am_Ev.call (fun n => rfl) (lk_X4_copyFrom_11_72 h1) ?_)
        refine am_Ew.start [] 8 (am_Ew.conv (fun k => (some (some (.int (f3 11 2)), am_G0, (am_wr f3 18 3 0)))) (fun k => rfl) ?_)
        exact am_Ew.retI h
  · refine am_Ew.ite h (fun _ h => ?_) (fun _ h => ?_)
    · by_cases c9 : a1 = 0
      · rw [if_pos c9] at h
        refine am_Ew.run (am_Ev.call (fun n => rfl) (lk_img_0 c9) ?_)
        refine am_Ew.start [35] 8 (am_Ew.conv (fun k => (if (f 63 1) = 0 then (some (some (.int (-2)), am_G0, f)) else (k 35 [some (.ref 0), some (.int a1), some (.ref 63)] [.ref 64, .ref 11] am_G0 f))) (fun k => rfl) ?_)
        refine am_Ew.ite h (fun _ h => ?_) (fun _ h => ?_)
        · exact am_Ew.retI h
        · obtain ⟨f5, h1, h⟩ := am_bV_some h
          refine am_Ew.run (am_Ev.call (fun n => rfl) (lk_X4_copyFrom_11_64 h1) ?_)
          refine am_Ew.start [] 8 (am_Ew.conv (fun k => (some (some (.int (f5 11 2)), am_G0, (am_wr f5 18 3 0)))) (fun k => rfl) ?_)
          exact am_Ew.retI h
      · rw [if_neg c9] at h
        refine am_Ew.run (am_Ev.call (fun n => rfl) (lk_img_1 c9) ?_)
        refine am_Ew.start [35] 8 (am_Ew.conv (fun k => (if (f 71 1) = 0 then (some (some (.int (-2)), am_G0, f)) else (k 35 [some (.ref 0), some (.int a1), some (.ref 71)] [.ref 72, .ref 11] am_G0 f))) (fun k => rfl) ?_)
        refine am_Ew.ite h (fun _ h => ?_) (fun _ h => ?_)
        · exact am_Ew.retI h
        · obtain ⟨f6, h1, h⟩ := am_bV_some h
          refine am_Ew.run (am_Ev.call (fun n => rfl) (lk_X4_copyFrom_11_72 h1) ?_)
          refine am_Ew.start [] 8 (am_Ew.conv (fun k => (some (some (.int (f6 11 2)), am_G0, (am_wr f6 18 3 0)))) (fun k => rfl) ?_)
          exact am_Ew.retI h
    · exact am_Ew.retI h
set_option maxHeartbeats 400000 in
set_option maxRecDepth 100000 in
theorem lk_X7_count {X : am_X} {a1 : Int32} {f f' : am_M} {v' : Int32} (h : D_X7_count a1 f = some (v', f')) : am_Ev X 89 0 [some (.ref 0), some (.int a1)] [] f (some (.int v')) f' := by
  rw [D_X7_count] at h
  refine am_Ew.start [104, 112] 6 (am_Ew.conv (fun k => (if a1 = 0 then (some (some (.int (f 3 0)), am_G0, f)) else (if a1 = 1 then (some (some (.int (f 3 1)), am_G0, f)) else (if a1 = 2 then (some (some (.int (f 3 2)), am_G0, f)) else (if a1 = 3 then (some (some (.int (f 11 2)), am_G0, f)) else (if a1 = 4 then (some (some (.int (f 11 3)), am_G0, f)) else (if a1 = 5 then (k 104 [some (.ref 0), some (.int a1)] [.ref 11] am_G0 f) else (if a1 = 6 then (k 112 [some (.ref 0), some (.int a1)] [.ref 11] am_G0 f) else (if a1 = 7 then (some (some (.int (f 11 9)), am_G0, f)) else (if a1 = 8 then (some (some (.int (f 88 2)), am_G0, f)) else (if a1 = 9 then (some (some (.int (f 1 1)), am_G0, f)) else (if a1 = 10 then (some (some (.int (f 18 3)), am_G0, f)) else (some (some (.int (-1)), am_G0, f)))))))))))))) (fun k => rfl) ?_)
  refine am_Ew.ite h (fun _ h => ?_) (fun _ h => ?_)
  · exact am_Ew.retI h
  · refine am_Ew.ite h (fun _ h => ?_) (fun _ h => ?_)
    · exact am_Ew.retI h
    · refine am_Ew.ite h (fun _ h => ?_) (fun _ h => ?_)
      · exact am_Ew.retI h
      · refine am_Ew.ite h (fun _ h => ?_) (fun _ h => ?_)
        · exact am_Ew.retI h
        · refine am_Ew.ite h (fun _ h => ?_) (fun _ h => ?_)
          · exact am_Ew.retI h
          · refine am_Ew.ite h (fun _ h => ?_) (fun _ h => ?_)
            · obtain ⟨v1, f1, h1, h⟩ := am_bI_some h
              refine am_Ew.run (am_Ev.call (fun n => rfl) (lk_X4_least_11 h1) ?_)
              refine am_Ew.start [] 1 (am_Ew.conv (fun k => (some (some (.int v1), am_G0, f1))) (fun k => rfl) ?_)
              exact am_Ew.retI h
            · refine am_Ew.ite h (fun _ h => ?_) (fun _ h => ?_)
              · obtain ⟨v2, f2, h1, h⟩ := am_bI_some h
                refine am_Ew.run (am_Ev.call (fun n => rfl) (lk_X4_room_11 h1) ?_)
                refine am_Ew.start [] 1 (am_Ew.conv (fun k => (some (some (.int v2), am_G0, f2))) (fun k => rfl) ?_)
                exact am_Ew.retI h
              · refine am_Ew.ite h (fun _ h => ?_) (fun _ h => ?_)
                · exact am_Ew.retI h
                · refine am_Ew.ite h (fun _ h => ?_) (fun _ h => ?_)
                  · exact am_Ew.retI h
                  · refine am_Ew.ite h (fun _ h => ?_) (fun _ h => ?_)
                    · exact am_Ew.retI h
                    · refine am_Ew.ite h (fun _ h => ?_) (fun _ h => ?_)
                      · exact am_Ew.retI h
                      · exact am_Ew.retI h
set_option maxHeartbeats 400000 in
set_option maxRecDepth 100000 in
theorem lk_X7_claims {X : am_X} {a1 a2 : Int32} {f f' : am_M} {v' : Int32} (h : D_X7_claims a1 a2 f = some (v', f')) : am_Ev X 66 0 [some (.ref 0), some (.int a1), some (.int a2)] [] f (some (.int v')) f' := by
  rw [D_X7_claims] at h
  refine am_Ew.start [5] 3 (am_Ew.conv (fun k => (k 5 [some (.ref 0), some (.int a1), some (.int a2)] [.int a1, .ref 3] am_G0 f)) (fun k => rfl) ?_)
  obtain ⟨v1, f1, h1, h⟩ := am_bI_some h
  refine am_Ew.run (am_Ev.call (fun n => rfl) (lk_X6_hasMaker h1) ?_)
  refine am_Ew.start [50] 18 (am_Ew.conv (fun k => (if v1 = 0 then (some (some (.int (-1)), am_G0, f1)) else (if a2 < 1 then (some (some (.int (-1)), am_G0, f1)) else (if 9 < a2 then (some (some (.int (-1)), am_G0, f1)) else (am_chk a1 3 (if 0 < (f1 16 a1.toNatClampNeg) then (some (some (.int (-2)), am_G0, f1)) else (k 50 [some (.ref 0), some (.int a1), some (.int a2)] [.ref 11, .int (f1 11 2)] am_G0 f1))))))) (fun k => rfl) ?_)
  refine am_Ew.ite h (fun _ h => ?_) (fun _ h => ?_)
  · exact am_Ew.retI h
  · refine am_Ew.ite h (fun _ h => ?_) (fun _ h => ?_)
    · exact am_Ew.retI h
    · refine am_Ew.ite h (fun _ h => ?_) (fun _ h => ?_)
      · exact am_Ew.retI h
      · refine am_Ew.chk h (fun h => ?_)
        refine am_Ew.ite h (fun _ h => ?_) (fun _ h => ?_)
        · exact am_Ew.retI h
        · obtain ⟨v2, f2, h1, h⟩ := am_bI_some h
          refine am_Ew.run (am_Ev.call (fun n => rfl) (lk_X4_wantedByAll_11 h1) ?_)
          refine am_Ew.start [75] 10 (am_Ew.conv (fun k => (if (am_int 999) < (((f1 11 2) + v2) + a2) then (some (some (.int (-3)), am_G0, f2)) else (k 75 [some (.ref 0), some (.int a1), some (.int a2)] [.int (-9), .ref 11, .ref 18] am_G0 f2))) (fun k => rfl) ?_)
          refine am_Ew.ite h (fun _ h => ?_) (fun _ h => ?_)
          · exact am_Ew.retI h
          · obtain ⟨f3, h1, h⟩ := am_bV_some h
            refine am_Ew.run (am_Ev.call (fun n => rfl) (lk_X2_remember h1) ?_)
            refine am_Ew.start [84] 4 (am_Ew.conv (fun k => (k 84 [some (.ref 0), some (.int a1), some (.int a2)] [.int a2, .int a1, .ref 11] am_G0 f3)) (fun k => rfl) ?_)
            obtain ⟨v4, f4, h1, h⟩ := am_bI_some h
            refine am_Ew.run (am_Ev.call (fun n => rfl) (lk_X4_claimOrWait_11 h1) ?_)
            refine am_Ew.start [] 1 (am_Ew.conv (fun k => (some (some (.int v4), am_G0, f4))) (fun k => rfl) ?_)
            exact am_Ew.retI h
set_option maxHeartbeats 400000 in
set_option maxRecDepth 100000 in
theorem lk_X7_closeOpen {X : am_X} {a1 a2 a3 : Int32} {f f' : am_M} {v' : Int32} (h : D_X7_closeOpen a1 a2 a3 f = some (v', f')) : am_Ev X 69 0 [some (.ref 0), some (.int a1), some (.int a2), some (.int a3)] [] f (some (.int v')) f' := by
  rw [D_X7_closeOpen] at h
  refine am_Ew.start [5] 3 (am_Ew.conv (fun k => (k 5 [some (.ref 0), some (.int a1), some (.int a2), some (.int a3)] [.int a1, .ref 11] am_G0 f)) (fun k => rfl) ?_)
  obtain ⟨v1, f1, h1, h⟩ := am_bI_some h
  refine am_Ew.run (am_Ev.call (fun n => rfl) (lk_X4_kindOf_11 h1) ?_)
  refine am_Ew.start [23] 6 (am_Ew.conv (fun k => (if v1 = 0 then (k 23 [some (.ref 0), some (.int a1), some (.int a2), some (.int a3)] [.int a1, .ref 11, .ref 18] am_G0 f1) else (some (some (.int (-2)), am_G0, f1)))) (fun k => rfl) ?_)
  refine am_Ew.ite h (fun _ h => ?_) (fun _ h => ?_)
  · obtain ⟨f2, h1, h⟩ := am_bV_some h
    refine am_Ew.run (am_Ev.call (fun n => rfl) (lk_X2_remember h1) ?_)
    refine am_Ew.start [33] 5 (am_Ew.conv (fun k => (k 33 [some (.ref 0), some (.int a1), some (.int a2), some (.int a3)] [.int a3, .int a2, .int a1, .ref 11] am_G0 f2)) (fun k => rfl) ?_)
    obtain ⟨f3, h1, h⟩ := am_bV_some h
    refine am_Ew.run (am_Ev.call (fun n => rfl) (lk_X4_close_11 h1) ?_)
    refine am_Ew.start [] 4 (am_Ew.conv (fun k => (some (some (.int (f3 11 3)), am_G0, f3))) (fun k => rfl) ?_)
    exact am_Ew.retI h
  · exact am_Ew.retI h
set_option maxHeartbeats 400000 in
set_option maxRecDepth 100000 in
theorem lk_X7_calls {X : am_X} {a1 : Int32} {f f' : am_M} {v' : Int32} (h : D_X7_calls a1 f = some (v', f')) : am_Ev X 71 0 [some (.ref 0), some (.int a1), none] [] f (some (.int v')) f' := by
  rw [D_X7_calls] at h
  refine am_Ew.start [5] 3 (am_Ew.conv (fun k => (k 5 [some (.ref 0), some (.int a1), none] [.int a1, .ref 3] am_G0 f)) (fun k => rfl) ?_)
  obtain ⟨v1, f1, h1, h⟩ := am_bI_some h
  refine am_Ew.run (am_Ev.call (fun n => rfl) (lk_X6_hasMaker h1) ?_)
  refine am_Ew.start [40] 14 (am_Ew.conv (fun k => (if v1 = 0 then (some (some (.int (-1)), am_G0, f1)) else (am_chk a1 3 (if (f1 16 a1.toNatClampNeg) = 0 then (some (some (.int (-2)), am_G0, f1)) else (k 40 [some (.ref 0), some (.int a1), some (.int (f1 16 a1.toNatClampNeg))] [.int (-9), .ref 11, .ref 18] am_G0 f1))))) (fun k => rfl) ?_)
  refine am_Ew.ite h (fun _ h => ?_) (fun _ h => ?_)
  · exact am_Ew.retI h
  · refine am_Ew.chk h (fun h => ?_)
    refine am_Ew.ite h (fun _ h => ?_) (fun _ h => ?_)
    · exact am_Ew.retI h
    · obtain ⟨f2, h1, h⟩ := am_bV_some h
      refine am_Ew.run (am_Ev.call (fun n => rfl) (lk_X2_remember h1) ?_)
      refine am_Ew.start [48] 3 (am_Ew.conv (fun k => (k 48 [some (.ref 0), some (.int a1), some (.int (f1 16 a1.toNatClampNeg))] [.int a1, .ref 11] am_G0 f2)) (fun k => rfl) ?_)
      obtain ⟨f3, h1, h⟩ := am_bV_some h
      refine am_Ew.run (am_Ev.call (fun n => rfl) (lk_X4_leaveRow_11 h1) ?_)
      refine am_Ew.start [55] 2 (am_Ew.conv (fun k => (k 55 [some (.ref 0), some (.int a1), some (.int (f1 16 a1.toNatClampNeg))] [.ref 11] am_G0 f3)) (fun k => rfl) ?_)
      obtain ⟨f4, h1, h⟩ := am_bV_some h
      refine am_Ew.run (am_Ev.call (fun n => rfl) (lk_X4_admit_11 h1) ?_)
      refine am_Ew.start [] 2 (am_Ew.conv (fun k => (some (some (.int (f1 16 a1.toNatClampNeg)), am_G0, f4))) (fun k => rfl) ?_)
      exact am_Ew.retI h
set_option maxHeartbeats 400000 in
set_option maxRecDepth 100000 in
theorem lk_X7_undo {X : am_X} {f f' : am_M} {v' : Int32} (h : D_X7_undo f = some (v', f')) : am_Ev X 72 0 [some (.ref 0)] [] f (some (.int v')) f' := by
  rw [D_X7_undo] at h
  refine am_Ew.start [8] 4 (am_Ew.conv (fun k => (k 8 [some (.ref 0)] [.ref 11, .ref 18] am_G0 f)) (fun k => rfl) ?_)
  obtain ⟨v1, f1, h1, h⟩ := am_bI_some h
  refine am_Ew.run (am_Ev.call (fun n => rfl) (lk_X2_restore h1) ?_)
  refine am_Ew.start [] 6 (am_Ew.conv (fun k => (if v1 = 0 then (some (some (.int (-2)), am_G0, f1)) else (some (some (.int (f1 18 3)), am_G0, f1)))) (fun k => rfl) ?_)
  refine am_Ew.ite h (fun _ h => ?_) (fun _ h => ?_)
  · exact am_Ew.retI h
  · exact am_Ew.retI h
set_option maxHeartbeats 400000 in
set_option maxRecDepth 100000 in
theorem lk_X7_fills {X : am_X} {a1 a2 : Int32} {f f' : am_M} {v' : Int32} (h : D_X7_fills a1 a2 f = some (v', f')) : am_Ev X 67 0 [some (.ref 0), some (.int a1), some (.int a2)] [] f (some (.int v')) f' := by
  rw [D_X7_fills] at h
  refine am_Ew.start [5] 3 (am_Ew.conv (fun k => (k 5 [some (.ref 0), some (.int a1), some (.int a2)] [.int a1, .ref 11] am_G0 f)) (fun k => rfl) ?_)
  obtain ⟨v1, f1, h1, h⟩ := am_bI_some h
  refine am_Ew.run (am_Ev.call (fun n => rfl) (lk_X4_hasEvent_11 h1) ?_)
  refine am_Ew.start [27] 10 (am_Ew.conv (fun k => (if v1 = 0 then (some (some (.int (-1)), am_G0, f1)) else (if a2 < 0 then (some (some (.int (-1)), am_G0, f1)) else (if 99 < a2 then (some (some (.int (-1)), am_G0, f1)) else (k 27 [some (.ref 0), some (.int a1), some (.int a2)] [.int a2, .int 1, .int a1, .ref 0] am_G0 f1))))) (fun k => rfl) ?_)
  refine am_Ew.ite h (fun _ h => ?_) (fun _ h => ?_)
  · exact am_Ew.retI h
  · refine am_Ew.ite h (fun _ h => ?_) (fun _ h => ?_)
    · exact am_Ew.retI h
    · refine am_Ew.ite h (fun _ h => ?_) (fun _ h => ?_)
      · exact am_Ew.retI h
      · obtain ⟨v2, f2, h1, h⟩ := am_bI_some h
        refine am_Ew.run (am_Ev.call (fun n => rfl) (lk_X7_closeOpen h1) ?_)
        refine am_Ew.start [] 1 (am_Ew.conv (fun k => (some (some (.int v2), am_G0, f2))) (fun k => rfl) ?_)
        exact am_Ew.retI h
set_option maxHeartbeats 400000 in
set_option maxRecDepth 100000 in
theorem lk_X7_gaps {X : am_X} {a1 : Int32} {f f' : am_M} {v' : Int32} (h : D_X7_gaps a1 f = some (v', f')) : am_Ev X 68 0 [some (.ref 0), some (.int a1)] [] f (some (.int v')) f' := by
  rw [D_X7_gaps] at h
  refine am_Ew.start [5] 3 (am_Ew.conv (fun k => (k 5 [some (.ref 0), some (.int a1)] [.int a1, .ref 11] am_G0 f)) (fun k => rfl) ?_)
  obtain ⟨v1, f1, h1, h⟩ := am_bI_some h
  refine am_Ew.run (am_Ev.call (fun n => rfl) (lk_X4_hasEvent_11 h1) ?_)
  refine am_Ew.start [17] 5 (am_Ew.conv (fun k => (if v1 = 0 then (some (some (.int (-1)), am_G0, f1)) else (k 17 [some (.ref 0), some (.int a1)] [.int 0, .int 2, .int a1, .ref 0] am_G0 f1))) (fun k => rfl) ?_)
  refine am_Ew.ite h (fun _ h => ?_) (fun _ h => ?_)
  · exact am_Ew.retI h
  · obtain ⟨v2, f2, h1, h⟩ := am_bI_some h
    refine am_Ew.run (am_Ev.call (fun n => rfl) (lk_X7_closeOpen h1) ?_)
    refine am_Ew.start [] 1 (am_Ew.conv (fun k => (some (some (.int v2), am_G0, f2))) (fun k => rfl) ?_)
    exact am_Ew.retI h
set_option maxHeartbeats 400000 in
set_option maxRecDepth 100000 in
theorem lk_X7_takes {X : am_X} {a1 a2 : Int32} {f f' : am_M} {v' : Int32} (h : D_X7_takes a1 a2 f = some (v', f')) : am_Ev X 70 0 [some (.ref 0), some (.int a1), some (.int a2)] [] f (some (.int v')) f' := by
  rw [D_X7_takes] at h
  refine am_Ew.start [5] 3 (am_Ew.conv (fun k => (k 5 [some (.ref 0), some (.int a1), some (.int a2)] [.int a1, .ref 3] am_G0 f)) (fun k => rfl) ?_)
  obtain ⟨v1, f1, h1, h⟩ := am_bI_some h
  refine am_Ew.run (am_Ev.call (fun n => rfl) (lk_X6_hasTaker h1) ?_)
  refine am_Ew.start [29] 10 (am_Ew.conv (fun k => (if v1 = 0 then (some (some (.int (-1)), am_G0, f1)) else (if a2 < 1 then (some (some (.int (-1)), am_G0, f1)) else (if 16 < a2 then (some (some (.int (-1)), am_G0, f1)) else (k 29 [some (.ref 0), some (.int a1), some (.int a2)] [.int a1, .ref 11] am_G0 f1))))) (fun k => rfl) ?_)
  refine am_Ew.ite h (fun _ h => ?_) (fun _ h => ?_)
  · exact am_Ew.retI h
  · refine am_Ew.ite h (fun _ h => ?_) (fun _ h => ?_)
    · exact am_Ew.retI h
    · refine am_Ew.ite h (fun _ h => ?_) (fun _ h => ?_)
      · exact am_Ew.retI h
      · obtain ⟨v2, f2, h1, h⟩ := am_bI_some h
        refine am_Ew.run (am_Ev.call (fun n => rfl) (lk_X4_hasAhead_11 h1) ?_)
        refine am_Ew.start [48] 6 (am_Ew.conv (fun k => (if v2 = 0 then (some (some (.int (-2)), am_G0, f2)) else (k 48 [some (.ref 0), some (.int a1), some (.int a2)] [.int (-9), .ref 11, .ref 18] am_G0 f2))) (fun k => rfl) ?_)
        refine am_Ew.ite h (fun _ h => ?_) (fun _ h => ?_)
        · exact am_Ew.retI h
        · obtain ⟨f3, h1, h⟩ := am_bV_some h
          refine am_Ew.run (am_Ev.call (fun n => rfl) (lk_X2_remember h1) ?_)
          refine am_Ew.start [57] 4 (am_Ew.conv (fun k => (k 57 [some (.ref 0), some (.int a1), some (.int a2)] [.int a2, .int a1, .ref 11] am_G0 f3)) (fun k => rfl) ?_)
          obtain ⟨v4, f4, h1, h⟩ := am_bI_some h
          refine am_Ew.run (am_Ev.call (fun n => rfl) (lk_X4_goOver_11 h1) ?_)
          refine am_Ew.start [] 1 (am_Ew.conv (fun k => (some (some (.int v4), am_G0, f4))) (fun k => rfl) ?_)
          exact am_Ew.retI h
set_option maxHeartbeats 400000 in
set_option maxRecDepth 100000 in
theorem lk_X7_blamed {X : am_X} {f f' : am_M} {v' : Int32} (h : D_X7_blamed f = some (v', f')) : am_Ev X 76 0 [some (.ref 0)] [] f (some (.int v')) f' := by
  rw [D_X7_blamed] at h
  refine am_Ew.start [4] 2 (am_Ew.conv (fun k => (k 4 [some (.ref 0)] [.ref 11] am_G0 f)) (fun k => rfl) ?_)
  obtain ⟨v1, f1, h1, h⟩ := am_bI_some h
  refine am_Ew.run (am_Ev.call (fun n => rfl) (lk_X4_toBlame_11 h1) ?_)
  refine am_Ew.start [] 1 (am_Ew.conv (fun k => (some (some (.int v1), am_G0, f1))) (fun k => rfl) ?_)
  exact am_Ew.retI h
set_option maxHeartbeats 400000 in
set_option maxRecDepth 100000 in
theorem lk_X7_rule {X : am_X} {a1 a2 : Int32} {f f' : am_M} {v' : Int32} (h : D_X7_rule a1 a2 f = some (v', f')) : am_Ev X 78 0 [some (.ref 0), some (.int a1), some (.int a2), none] [] f (some (.int v')) f' := by
  rw [D_X7_rule] at h
  refine am_Ew.start [1] 1 (am_Ew.conv (fun k => (k 1 [some (.ref 0), some (.int a1), some (.int a2), none] [.int a1] am_G0 f)) (fun k => rfl) ?_)
  obtain ⟨v1, f1, h1, h⟩ := am_bI_some h
  refine am_Ew.run (am_Ev.call (fun n => rfl) (lk_X7_isTicks h1) ?_)
  refine am_Ew.start [27] 11 (am_Ew.conv (fun k => (if v1 = 0 then (some (some (.int (-1)), am_G0, f1)) else (if a2 < 0 then (some (some (.int (-1)), am_G0, f1)) else (if 3 < a2 then (some (some (.int (-1)), am_G0, f1)) else (k 27 [some (.ref 0), some (.int a1), some (.int a2), none] [.int a1, .ref 11, .ref 79] am_G0 f1))))) (fun k => rfl) ?_)
  refine am_Ew.ite h (fun _ h => ?_) (fun _ h => ?_)
  · exact am_Ew.retI h
  · refine am_Ew.ite h (fun _ h => ?_) (fun _ h => ?_)
    · exact am_Ew.retI h
    · refine am_Ew.ite h (fun _ h => ?_) (fun _ h => ?_)
      · exact am_Ew.retI h
      · obtain ⟨f2, h1, h⟩ := am_bV_some h
        refine am_Ew.run (am_Ev.call (fun n => rfl) (lk_X0_after h1) ?_)
        refine am_Ew.start [66, 71] 6 (am_Ew.conv (fun k => (if a2 = 0 then (some (some (.int (f2 81 2)), am_G0, f2)) else (if a2 = 1 then (k 66 [some (.ref 0), some (.int a1), some (.int a2), some (.ref 81)] [.ref 81] am_G0 f2) else (if a2 = 2 then (k 71 [some (.ref 0), some (.int a1), some (.int a2), some (.ref 81)] [.ref 81] am_G0 f2) else (some (some (.int (f2 81 9)), am_G0, f2)))))) (fun k => rfl) ?_)
        refine am_Ew.ite h (fun _ h => ?_) (fun _ h => ?_)
        · exact am_Ew.retI h
        · refine am_Ew.ite h (fun _ h => ?_) (fun _ h => ?_)
          · obtain ⟨v3, f3, h1, h⟩ := am_bI_some h
            refine am_Ew.run (am_Ev.call (fun n => rfl) (lk_X4_least_81 h1) ?_)
            refine am_Ew.start [] 1 (am_Ew.conv (fun k => (some (some (.int v3), am_G0, f3))) (fun k => rfl) ?_)
            exact am_Ew.retI h
          · refine am_Ew.ite h (fun _ h => ?_) (fun _ h => ?_)
            · obtain ⟨v4, f4, h1, h⟩ := am_bI_some h
              refine am_Ew.run (am_Ev.call (fun n => rfl) (lk_X4_slowest_81 h1) ?_)
              refine am_Ew.start [] 1 (am_Ew.conv (fun k => (some (some (.int v4), am_G0, f4))) (fun k => rfl) ?_)
              exact am_Ew.retI h
            · exact am_Ew.retI h
set_option maxHeartbeats 400000 in
set_option maxRecDepth 100000 in
theorem lk_X7_waited {X : am_X} {a1 a2 : Int32} {f f' : am_M} {v' : Int32} (h : D_X7_waited a1 a2 f = some (v', f')) : am_Ev X 79 0 [some (.ref 0), some (.int a1), some (.int a2)] [] f (some (.int v')) f' := by
  rw [D_X7_waited] at h
  refine am_Ew.start [1] 1 (am_Ew.conv (fun k => (k 1 [some (.ref 0), some (.int a1), some (.int a2)] [.int a1] am_G0 f)) (fun k => rfl) ?_)
  obtain ⟨v1, f1, h1, h⟩ := am_bI_some h
  refine am_Ew.run (am_Ev.call (fun n => rfl) (lk_X7_isTicks h1) ?_)
  refine am_Ew.start [12] 4 (am_Ew.conv (fun k => (if v1 = 0 then (some (some (.int (-1)), am_G0, f1)) else (k 12 [some (.ref 0), some (.int a1), some (.int a2)] [.int a2, .ref 3] am_G0 f1))) (fun k => rfl) ?_)
  refine am_Ew.ite h (fun _ h => ?_) (fun _ h => ?_)
  · exact am_Ew.retI h
  · obtain ⟨v2, f2, h1, h⟩ := am_bI_some h
    refine am_Ew.run (am_Ev.call (fun n => rfl) (lk_X6_hasMaker h1) ?_)
    refine am_Ew.start [29] 6 (am_Ew.conv (fun k => (if v2 = 0 then (some (some (.int (-1)), am_G0, f2)) else (k 29 [some (.ref 0), some (.int a1), some (.int a2)] [.int a1, .ref 11, .ref 79] am_G0 f2))) (fun k => rfl) ?_)
    refine am_Ew.ite h (fun _ h => ?_) (fun _ h => ?_)
    · exact am_Ew.retI h
    · obtain ⟨f3, h1, h⟩ := am_bV_some h
      refine am_Ew.run (am_Ev.call (fun n => rfl) (lk_X0_after h1) ?_)
      refine am_Ew.start [] 7 (am_Ew.conv (fun k => (am_chk a2 3 (some (some (.int (f3 80 a2.toNatClampNeg)), am_G0, f3)))) (fun k => rfl) ?_)
      refine am_Ew.chk h (fun h => ?_)
      exact am_Ew.retI h
set_option maxHeartbeats 400000 in
set_option maxRecDepth 100000 in
theorem lk_X7_done {X : am_X} {a1 a2 : Int32} {f f' : am_M} {v' : Int32} (h : D_X7_done a1 a2 f = some (v', f')) : am_Ev X 80 0 [some (.ref 0), some (.int a1), some (.int a2)] [] f (some (.int v')) f' := by
  rw [D_X7_done] at h
  refine am_Ew.start [1] 1 (am_Ew.conv (fun k => (k 1 [some (.ref 0), some (.int a1), some (.int a2)] [.int a1] am_G0 f)) (fun k => rfl) ?_)
  obtain ⟨v1, f1, h1, h⟩ := am_bI_some h
  refine am_Ew.run (am_Ev.call (fun n => rfl) (lk_X7_isTicks h1) ?_)
  refine am_Ew.start [12] 4 (am_Ew.conv (fun k => (if v1 = 0 then (some (some (.int (-1)), am_G0, f1)) else (k 12 [some (.ref 0), some (.int a1), some (.int a2)] [.int a2, .ref 3] am_G0 f1))) (fun k => rfl) ?_)
  refine am_Ew.ite h (fun _ h => ?_) (fun _ h => ?_)
  · exact am_Ew.retI h
  · obtain ⟨v2, f2, h1, h⟩ := am_bI_some h
    refine am_Ew.run (am_Ev.call (fun n => rfl) (lk_X6_hasTaker h1) ?_)
    refine am_Ew.start [29] 6 (am_Ew.conv (fun k => (if v2 = 0 then (some (some (.int (-1)), am_G0, f2)) else (k 29 [some (.ref 0), some (.int a1), some (.int a2)] [.int a1, .ref 11, .ref 79] am_G0 f2))) (fun k => rfl) ?_)
    refine am_Ew.ite h (fun _ h => ?_) (fun _ h => ?_)
    · exact am_Ew.retI h
    · obtain ⟨f3, h1, h⟩ := am_bV_some h
      refine am_Ew.run (am_Ev.call (fun n => rfl) (lk_X0_after h1) ?_)
      refine am_Ew.start [] 4 (am_Ew.conv (fun k => (am_chk a2 6 (some (some (.int (f3 82 a2.toNatClampNeg)), am_G0, f3)))) (fun k => rfl) ?_)
      refine am_Ew.chk h (fun h => ?_)
      exact am_Ew.retI h
set_option maxHeartbeats 400000 in
set_option maxRecDepth 100000 in
theorem lk_X7_which {X : am_X} {f f' : am_M} {v' : Int32} (h : D_X7_which f = some (v', f')) : am_Ev X 84 0 [some (.ref 0)] [] f (some (.int v')) f' := by
  rw [D_X7_which] at h
  refine am_Ew.start [12] 6 (am_Ew.conv (fun k => (k 12 [some (.ref 0)] [.ref 88, .ref 11, .ref 79] am_G0 f)) (fun k => rfl) ?_)
  obtain ⟨v1, f1, h1, h⟩ := am_bI_some h
  refine am_Ew.run (am_Ev.call (fun n => rfl) (lk_X0_takersSeen h1) ?_)
  refine am_Ew.start [] 1 (am_Ew.conv (fun k => (some (some (.int v1), am_G0, f1))) (fun k => rfl) ?_)
  exact am_Ew.retI h
set_option maxHeartbeats 400000 in
set_option maxRecDepth 100000 in
theorem lk_X7_look {X : am_X} {f f' : am_M} {v' : Int32} (h : D_X7_look f = some (v', f')) : am_Ev X 85 0 [some (.ref 0), none] [] f (some (.int v')) f' := by
  rw [D_X7_look] at h
  refine am_Ew.start [12] 6 (am_Ew.conv (fun k => (k 12 [some (.ref 0), none] [.ref 88, .ref 11, .ref 79] am_G0 f)) (fun k => rfl) ?_)
  obtain ⟨v1, f1, h1, h⟩ := am_bI_some h
  refine am_Ew.run (am_Ev.call (fun n => rfl) (lk_X0_takersSeen h1) ?_)
  refine am_Ew.start [17] 2 (am_Ew.conv (fun k => (k 17 [some (.ref 0), some (.int v1)] [.int v1] am_G0 f1)) (fun k => rfl) ?_)
  obtain ⟨v2, f2, h1, h⟩ := am_bI_some h
  refine am_Ew.run (am_Ev.call (fun n => rfl) (lk_J6_bitCount_0f7a4 h1) ?_)
  refine am_Ew.start [38] 7 (am_Ew.conv (fun k => (if v2 < 2 then (some (some (.int (-9)), am_G0, f2)) else (k 38 [some (.ref 0), some (.int v1)] [.int v1, .ref 11, .ref 79] am_G0 f2))) (fun k => rfl) ?_)
  refine am_Ew.ite h (fun _ h => ?_) (fun _ h => ?_)
  · exact am_Ew.retI h
  · obtain ⟨v3, f3, h1, h⟩ := am_bI_some h
    refine am_Ew.run (am_Ev.call (fun n => rfl) (lk_X0_ticksThatPart h1) ?_)
    refine am_Ew.start [] 1 (am_Ew.conv (fun k => (some (some (.int v3), am_G0, f3))) (fun k => rfl) ?_)
    exact am_Ew.retI h
set_option maxHeartbeats 400000 in
set_option maxRecDepth 100000 in
theorem lk_X7_tells {X : am_X} {f f' : am_M} {v' : Int32} (h : D_X7_tells f = some (v', f')) : am_Ev X 65 0 [some (.ref 0), none] [] f (some (.int v')) f' := by
  rw [D_X7_tells] at h
  refine am_Ew.start [8] 4 (am_Ew.conv (fun k => (k 8 [some (.ref 0), none] [.ref 7, .ref 1] am_G0 f)) (fun k => rfl) ?_)
  obtain ⟨v1, f1, h1, h⟩ := am_bI_some h
  refine am_Ew.run (am_Ev.call (fun n => rfl) (lk_X5_readInto h1) ?_)
  refine am_Ew.start [26] 7 (am_Ew.conv (fun k => (if v1 < 0 then (some (some (.int v1), am_G0, f1)) else (k 26 [some (.ref 0), some (.int v1)] [.ref 7, .ref 3] am_G0 f1))) (fun k => rfl) ?_)
  refine am_Ew.ite h (fun _ h => ?_) (fun _ h => ?_)
  · exact am_Ew.retI h
  · obtain ⟨f2, h1, h⟩ := am_bV_some h
    refine am_Ew.run (am_Ev.call (fun n => rfl) (lk_X6_copyFrom h1) ?_)
    refine am_Ew.start [33] 2 (am_Ew.conv (fun k => (k 33 [some (.ref 0), some (.int v1)] [.ref 11] am_G0 f2)) (fun k => rfl) ?_)
    obtain ⟨f3, h1, h⟩ := am_bV_some h
    refine am_Ew.run (am_Ev.call (fun n => rfl) (lk_X4_reset_11 h1) ?_)
    refine am_Ew.start [] 22 (am_Ew.conv (fun k => (some (some (.int v1), am_G0, (am_wr (am_wr (am_wr (am_wr (am_wr f3 18 3 0) 63 1 0) 71 1 0) 88 2 0) 1 1 0)))) (fun k => rfl) ?_)
    exact am_Ew.retI h
end
section
set_option maxHeartbeats 400000 in
set_option maxRecDepth 100000 in
theorem lk_X8_within {X : am_X} {a0 a1 a2 : Int32} {f f' : am_M} {v' : Int32} (h : D_X8_within a0 a1 a2 f = some (v', f')) : am_Ev X 91 0 [some (.int a0), some (.int a1), some (.int a2)] [] f (some (.int v')) f' := by
  rw [D_X8_within] at h
  refine am_Ew.start [] 9 (am_Ew.conv (fun k => (if a0 < a1 then (some (some (.int 0), am_G0, f)) else (if a2 < a0 then (some (some (.int 0), am_G0, f)) else (some (some (.int 1), am_G0, f))))) (fun k => rfl) ?_)
  refine am_Ew.ite h (fun _ h => ?_) (fun _ h => ?_)
  · exact am_Ew.retI h
  · refine am_Ew.ite h (fun _ h => ?_) (fun _ h => ?_)
    · exact am_Ew.retI h
    · exact am_Ew.retI h
set_option maxHeartbeats 400000 in
set_option maxRecDepth 100000 in
theorem lk_X8_has {X : am_X} {a0 a1 : Int32} {f f' : am_M} {v' : Int32} (h : D_X8_has a0 a1 f = some (v', f')) : am_Ev X 92 0 [some (.int a0), some (.int a1)] [] f (some (.int v')) f' := by
  rw [D_X8_has] at h
  refine am_Ew.start [] 10 (am_Ew.conv (fun k => (if ((a0 >>> (a1 &&& 31)) &&& 1) = 1 then (some (some (.int 1), am_G0, f)) else (some (some (.int 0), am_G0, f)))) (fun k => rfl) ?_)
  refine am_Ew.ite h (fun _ h => ?_) (fun _ h => ?_)
  · exact am_Ew.retI h
  · exact am_Ew.retI h
set_option maxHeartbeats 400000 in
set_option maxRecDepth 100000 in
theorem lk_X8_skips_0 {X : am_X} : ∀ (n : Nat) (f : am_M) (f' : am_M), D_X8_skips_0 n  f = some f' → am_Ev X 93 0 [some (.ref 91)] [] f none f'
  | 0, _, _, h => by cases h
  | n + 1, f, f', h => by
    rw [D_X8_skips_0] at h
    refine am_Ew.start [0] 19 (am_Ew.conv (fun k => (if (f 91 16) < (f 91 15) then (am_chk (f 91 16) 120 (if (f 101 (f 91 16).toNatClampNeg) = 32 then (k 0 [some (.ref 91)] [] am_G0 (am_wr f 91 16 ((f 91 16) + 1))) else (some (none, am_G0, (am_wr f 91 17 (f 91 16)))))) else (some (none, am_G0, (am_wr f 91 17 (f 91 16)))))) (fun k => rfl) ?_)
    refine am_Ew.ite h (fun _ h => ?_) (fun _ h => ?_)
    · refine am_Ew.chk h (fun h => ?_)
      refine am_Ew.ite h (fun _ h => ?_) (fun _ h => ?_)
      · exact am_Ew.run (lk_X8_skips_0  n _ _ h )
      · exact am_Ew.retV h
    · exact am_Ew.retV h
set_option maxHeartbeats 400000 in
set_option maxRecDepth 100000 in
theorem lk_X8_skips {X : am_X} {f f' : am_M} (h : D_X8_skips f = some f') : am_Ev X 93 0 [some (.ref 91)] [] f none f' := by
  rw [D_X8_skips] at h
  exact (lk_X8_skips_0 _ _ _ h )
set_option maxHeartbeats 400000 in
set_option maxRecDepth 100000 in
theorem lk_X8_spells {X : am_X} {a1 a2 a3 a4 a5 : Int32} {f f' : am_M} {v' : Int32} (h : D_X8_spells a1 a2 a3 a4 a5 f = some (v', f')) : am_Ev X 97 0 [some (.ref 91), some (.int a1), some (.int a2), some (.int a3), some (.int a4), some (.int a5), none] [] f (some (.int v')) f' := by
  rw [D_X8_spells] at h
  refine am_Ew.start [] 58 (am_Ew.conv (fun k => (if ((f 91 16) - (f 91 17)) = 5 then (am_chk (f 91 17) 120 (if (f 101 (f 91 17).toNatClampNeg) = a1 then (am_chk ((f 91 17) + 1) 120 (if (f 101 ((f 91 17) + 1).toNatClampNeg) = a2 then (am_chk ((f 91 17) + 2) 120 (if (f 101 ((f 91 17) + 2).toNatClampNeg) = a3 then (am_chk ((f 91 17) + 3) 120 (if (f 101 ((f 91 17) + 3).toNatClampNeg) = a4 then (am_chk ((f 91 17) + 4) 120 (if (f 101 ((f 91 17) + 4).toNatClampNeg) = a5 then (some (some (.int 1), am_G0, f)) else (some (some (.int 0), am_G0, f)))) else (some (some (.int 0), am_G0, f)))) else (some (some (.int 0), am_G0, f)))) else (some (some (.int 0), am_G0, f)))) else (some (some (.int 0), am_G0, f)))) else (some (some (.int 0), am_G0, f)))) (fun k => rfl) ?_)
  refine am_Ew.ite h (fun _ h => ?_) (fun _ h => ?_)
  · refine am_Ew.chk h (fun h => ?_)
    refine am_Ew.ite h (fun _ h => ?_) (fun _ h => ?_)
    · refine am_Ew.chk h (fun h => ?_)
      refine am_Ew.ite h (fun _ h => ?_) (fun _ h => ?_)
      · refine am_Ew.chk h (fun h => ?_)
        refine am_Ew.ite h (fun _ h => ?_) (fun _ h => ?_)
        · refine am_Ew.chk h (fun h => ?_)
          refine am_Ew.ite h (fun _ h => ?_) (fun _ h => ?_)
          · refine am_Ew.chk h (fun h => ?_)
            refine am_Ew.ite h (fun _ h => ?_) (fun _ h => ?_)
            · exact am_Ew.retI h
            · exact am_Ew.retI h
          · exact am_Ew.retI h
        · exact am_Ew.retI h
      · exact am_Ew.retI h
    · exact am_Ew.retI h
  · exact am_Ew.retI h
set_option maxHeartbeats 400000 in
set_option maxRecDepth 100000 in
theorem lk_X8_clear {X : am_X} {f f' : am_M} {v' : Int32} (h : D_X8_clear f = some (v', f')) : am_Ev X 104 0 [some (.ref 91), none] [] f (some (.int v')) f' := by
  rw [D_X8_clear] at h
  refine am_Ew.start [] 8 (am_Ew.conv (fun k => (some (some (.int (f 91 15)), am_G0, (am_wr f 91 15 0)))) (fun k => rfl) ?_)
  exact am_Ew.retI h
set_option maxHeartbeats 400000 in
set_option maxRecDepth 100000 in
theorem lk_X8_kindOf {X : am_X} {a1 : Int32} {f f' : am_M} {v' : Int32} (h : D_X8_kindOf a1 f = some (v', f')) : am_Ev X 109 0 [some (.ref 91), some (.int a1)] [] f (some (.int v')) f' := by
  rw [D_X8_kindOf] at h
  refine am_Ew.start [] 9 (am_Ew.conv (fun k => (am_chk ((26 : Int32) + a1) 1026 (some (some (.int ((f 95 ((26 : Int32) + a1).toNatClampNeg) &&& 3)), am_G0, f)))) (fun k => rfl) ?_)
  refine am_Ew.chk h (fun h => ?_)
  exact am_Ew.retI h
set_option maxHeartbeats 400000 in
set_option maxRecDepth 100000 in
theorem lk_X8_least_9 {X : am_X} : ∀ (n : Nat) (x1 x2 : Int32) (f : am_M) (v' : Int32) (f' : am_M), D_X8_least_9 n x1 x2 f = some (v', f') → am_Ev X 111 9 [some (.ref 91), some (.int x1), some (.int x2)] [] f (some (.int v')) f'
  | 0, _, _, _, _, _, h => by cases h
  | n + 1, x1, x2, f, v', f', h => by
    rw [D_X8_least_9] at h
    refine am_Ew.start [9] 22 (am_Ew.conv (fun k => (if x2 < (f 91 3) then (am_chk ((1 : Int32) + x2) 1026 (if (f 95 ((1 : Int32) + x2).toNatClampNeg) < x1 then (am_chk ((1 : Int32) + x2) 1026 (k 9 [some (.ref 91), some (.int (f 95 ((1 : Int32) + x2).toNatClampNeg)), some (.int (x2 + 1))] [] am_G0 f)) else (k 9 [some (.ref 91), some (.int x1), some (.int (x2 + 1))] [] am_G0 f))) else (some (some (.int x1), am_G0, f)))) (fun k => rfl) ?_)
    refine am_Ew.ite h (fun _ h => ?_) (fun _ h => ?_)
    · refine am_Ew.chk h (fun h => ?_)
      refine am_Ew.ite h (fun _ h => ?_) (fun _ h => ?_)
      · refine am_Ew.chk h (fun h => ?_)
        exact am_Ew.run (lk_X8_least_9  n _ _ _ _ _ h )
      · exact am_Ew.run (lk_X8_least_9  n _ _ _ _ _ h )
    · exact am_Ew.retI h
set_option maxHeartbeats 400000 in
set_option maxRecDepth 100000 in
theorem lk_X8_least {X : am_X} {f f' : am_M} {v' : Int32} (h : D_X8_least f = some (v', f')) : am_Ev X 111 0 [some (.ref 91), none, none] [] f (some (.int v')) f' := by
  rw [D_X8_least] at h
  refine am_Ew.start [9] 7 (am_Ew.conv (fun k => (k 9 [some (.ref 91), some (.int (f 95 0)), some (.int 0)] [] am_G0 f)) (fun k => rfl) ?_)
  exact am_Ew.run (lk_X8_least_9 _ _ _ _ _ _ h )
set_option maxHeartbeats 400000 in
set_option maxRecDepth 100000 in
theorem lk_X8_placeOf_5 {X : am_X} : ∀ (n : Nat) (x1 x2 x3 : Int32) (f : am_M) (v' : Int32) (f' : am_M), D_X8_placeOf_5 n x1 x2 x3 f = some (v', f') → am_Ev X 114 5 [some (.ref 91), some (.int x1), some (.int x2), some (.int x3)] [] f (some (.int v')) f'
  | 0, _, _, _, _, _, _, h => by cases h
  | n + 1, x1, x2, x3, f, v', f', h => by
    rw [D_X8_placeOf_5] at h
    refine am_Ew.start [5] 19 (am_Ew.conv (fun k => (if x3 < (f 95 19) then (am_chk ((20 : Int32) + x3) 1026 (if (f 95 ((20 : Int32) + x3).toNatClampNeg) = x1 then (k 5 [some (.ref 91), some (.int x1), some (.int x3), some (.int (x3 + 1))] [] am_G0 f) else (k 5 [some (.ref 91), some (.int x1), some (.int x2), some (.int (x3 + 1))] [] am_G0 f))) else (some (some (.int x2), am_G0, f)))) (fun k => rfl) ?_)
    refine am_Ew.ite h (fun _ h => ?_) (fun _ h => ?_)
    · refine am_Ew.chk h (fun h => ?_)
      refine am_Ew.ite h (fun _ h => ?_) (fun _ h => ?_)
      · exact am_Ew.run (lk_X8_placeOf_5  n _ _ _ _ _ _ h )
      · exact am_Ew.run (lk_X8_placeOf_5  n _ _ _ _ _ _ h )
    · exact am_Ew.retI h
set_option maxHeartbeats 400000 in
set_option maxRecDepth 100000 in
theorem lk_X8_placeOf {X : am_X} {a1 : Int32} {f f' : am_M} {v' : Int32} (h : D_X8_placeOf a1 f = some (v', f')) : am_Ev X 114 0 [some (.ref 91), some (.int a1), none, none] [] f (some (.int v')) f' := by
  rw [D_X8_placeOf] at h
  refine am_Ew.start [5] 4 (am_Ew.conv (fun k => (k 5 [some (.ref 91), some (.int a1), some (.int (-9)), some (.int 0)] [] am_G0 f)) (fun k => rfl) ?_)
  exact am_Ew.run (lk_X8_placeOf_5 _ _ _ _ _ _ _ h )
set_option maxHeartbeats 400000 in
set_option maxRecDepth 100000 in
theorem lk_X8_claimsNow_2 {X : am_X} : ∀ (n : Nat) (x1 x2 x3 : Int32) (f : am_M) (f' : am_M), D_X8_claimsNow_2 n x1 x2 x3 f = some f' → am_Ev X 115 2 [some (.ref 91), some (.int x1), some (.int x2), some (.int x3)] [] f none f'
  | 0, _, _, _, _, _, h => by cases h
  | n + 1, x1, x2, x3, f, f', h => by
    rw [D_X8_claimsNow_2] at h
    refine am_Ew.start [2] 27 (am_Ew.conv (fun k => (if x3 < x2 then (am_chk ((26 : Int32) + (f 95 0)) 1026 (k 2 [some (.ref 91), some (.int x1), some (.int x2), some (.int (x3 + 1))] [] am_G0 (am_wr (am_wr f 95 ((26 : Int32) + (f 95 0)).toNatClampNeg ((0 : Int32) + ((4 : Int32) * x1))) 95 0 (((am_wr f 95 ((26 : Int32) + (f 95 0)).toNatClampNeg ((0 : Int32) + ((4 : Int32) * x1))) 95 0) + 1)))) else (some (none, am_G0, f)))) (fun k => rfl) ?_)
    refine am_Ew.ite h (fun _ h => ?_) (fun _ h => ?_)
    · refine am_Ew.chk h (fun h => ?_)
      exact am_Ew.run (lk_X8_claimsNow_2  n _ _ _ _ _ h )
    · exact am_Ew.retV h
set_option maxHeartbeats 400000 in
set_option maxRecDepth 100000 in
theorem lk_X8_claimsNow {X : am_X} {a1 a2 : Int32} {f f' : am_M} (h : D_X8_claimsNow a1 a2 f = some f') : am_Ev X 115 0 [some (.ref 91), some (.int a1), some (.int a2), none] [] f none f' := by
  rw [D_X8_claimsNow] at h
  refine am_Ew.start [2] 2 (am_Ew.conv (fun k => (k 2 [some (.ref 91), some (.int a1), some (.int a2), some (.int 0)] [] am_G0 f)) (fun k => rfl) ?_)
  exact am_Ew.run (lk_X8_claimsNow_2 _ _ _ _ _ _ h )
set_option maxHeartbeats 400000 in
set_option maxRecDepth 100000 in
theorem lk_X8_leavesRow_13 {X : am_X} : ∀ (n : Nat) (x2 : Int32) (f : am_M) (f' : am_M), D_X8_leavesRow_13 n x2 f = some f' → ∀ d1 : Option Value, am_Ev X 116 13 [some (.ref 91), d1, some (.int x2)] [] f none f'
  | 0, _, _, _, h, _ => by cases h
  | n + 1, x2, f, f', h, d1 => by
    rw [D_X8_leavesRow_13] at h
    refine am_Ew.start [13] 36 (am_Ew.conv (fun k => (if x2 < (f 95 19) then (am_chk (((20 : Int32) + x2) + 1) 1026 (am_chk ((20 : Int32) + x2) 1026 (am_chk (((23 : Int32) + x2) + 1) 1026 (am_chk ((23 : Int32) + x2) 1026 (k 13 [some (.ref 91), d1, some (.int (x2 + 1))] [] am_G0 (am_wr (am_wr f 95 ((20 : Int32) + x2).toNatClampNeg (f 95 (((20 : Int32) + x2) + 1).toNatClampNeg)) 95 ((23 : Int32) + x2).toNatClampNeg ((am_wr f 95 ((20 : Int32) + x2).toNatClampNeg (f 95 (((20 : Int32) + x2) + 1).toNatClampNeg)) 95 (((23 : Int32) + x2) + 1).toNatClampNeg))))))) else (some (none, am_G0, f)))) (fun k => rfl) ?_)
    refine am_Ew.ite h (fun _ h => ?_) (fun _ h => ?_)
    · refine am_Ew.chk h (fun h => ?_)
      refine am_Ew.chk h (fun h => ?_)
      refine am_Ew.chk h (fun h => ?_)
      refine am_Ew.chk h (fun h => ?_)
      exact am_Ew.run (lk_X8_leavesRow_13  n _ _ _ h _ )
    · exact am_Ew.retV h
set_option maxHeartbeats 400000 in
set_option maxRecDepth 100000 in
theorem lk_X8_leavesRow {X : am_X} {a1 : Int32} {f f' : am_M} (h : D_X8_leavesRow a1 f = some f') : am_Ev X 116 0 [some (.ref 91), some (.int a1), none] [] f none f' := by
  rw [D_X8_leavesRow] at h
  refine am_Ew.start [13] 10 (am_Ew.conv (fun k => (k 13 [some (.ref 91), some (.int a1), some (.int a1)] [] am_G0 (am_wr f 95 19 ((f 95 19) - 1)))) (fun k => rfl) ?_)
  exact am_Ew.run (lk_X8_leavesRow_13 _ _ _ _ h _ )
set_option maxHeartbeats 400000 in
set_option maxRecDepth 100000 in
theorem lk_X8_wanted_4 {X : am_X} : ∀ (n : Nat) (x1 x2 : Int32) (f : am_M) (v' : Int32) (f' : am_M), D_X8_wanted_4 n x1 x2 f = some (v', f') → am_Ev X 118 4 [some (.ref 91), some (.int x1), some (.int x2)] [] f (some (.int v')) f'
  | 0, _, _, _, _, _, h => by cases h
  | n + 1, x1, x2, f, v', f', h => by
    rw [D_X8_wanted_4] at h
    refine am_Ew.start [4] 17 (am_Ew.conv (fun k => (if x2 < (f 95 19) then (am_chk ((23 : Int32) + x2) 1026 (k 4 [some (.ref 91), some (.int (x1 + (f 95 ((23 : Int32) + x2).toNatClampNeg))), some (.int (x2 + 1))] [] am_G0 f)) else (some (some (.int x1), am_G0, f)))) (fun k => rfl) ?_)
    refine am_Ew.ite h (fun _ h => ?_) (fun _ h => ?_)
    · refine am_Ew.chk h (fun h => ?_)
      exact am_Ew.run (lk_X8_wanted_4  n _ _ _ _ _ h )
    · exact am_Ew.retI h
set_option maxHeartbeats 400000 in
set_option maxRecDepth 100000 in
theorem lk_X8_wanted {X : am_X} {f f' : am_M} {v' : Int32} (h : D_X8_wanted f = some (v', f')) : am_Ev X 118 0 [some (.ref 91), none, none] [] f (some (.int v')) f' := by
  rw [D_X8_wanted] at h
  refine am_Ew.start [4] 4 (am_Ew.conv (fun k => (k 4 [some (.ref 91), some (.int 0), some (.int 0)] [] am_G0 f)) (fun k => rfl) ?_)
  exact am_Ew.run (lk_X8_wanted_4 _ _ _ _ _ _ h )
set_option maxHeartbeats 400000 in
set_option maxRecDepth 100000 in
theorem lk_X8_keeps_52 {X : am_X} : ∀ (n : Nat) (x1 : Int32) (f : am_M) (f' : am_M), D_X8_keeps_52 n x1 f = some f' → am_Ev X 119 52 [some (.ref 91), some (.int x1)] [] f none f'
  | 0, _, _, _, h => by cases h
  | n + 1, x1, f, f', h => by
    rw [D_X8_keeps_52] at h
    refine am_Ew.start [79] 15 (am_Ew.conv (fun k => (if x1 < (am_int 1026) then (am_chk x1 1026 (k 79 [some (.ref 91), some (.int x1)] [.int (f 95 x1.toNatClampNeg), .int ((((am_int 1026) : Int32) * (f 91 8)) + x1), .ref 96] am_G0 f)) else (some (none, am_G0, (am_wr f 91 8 ((f 91 8) + 1)))))) (fun k => rfl) ?_)
    refine am_Ew.ite h (fun _ h => ?_) (fun _ h => ?_)
    · refine am_Ew.chk h (fun h => ?_)
      refine am_Ew.run (?_)
      refine am_Ew.start [52] 3 (am_Ew.conv (fun k => (am_chk ((((am_int 1026) : Int32) * (f 91 8)) + x1) 6156 (k 52 [some (.ref 91), some (.int (x1 + 1))] [] am_G0 (am_wr f 96 ((((am_int 1026) : Int32) * (f 91 8)) + x1).toNatClampNeg (f 95 x1.toNatClampNeg))))) (fun k => rfl) ?_)
      refine am_Ew.chk h (fun h => ?_)
      exact am_Ew.run (lk_X8_keeps_52  n _ _ _ h )
    · exact am_Ew.retV h
set_option maxHeartbeats 400000 in
set_option maxRecDepth 100000 in
theorem lk_X8_keeps_11 {X : am_X} : ∀ (n : Nat) (x1 : Int32) (f : am_M) (f' : am_M), D_X8_keeps_11 n x1 f = some f' → am_Ev X 119 11 [some (.ref 91), some (.int x1)] [] f none f'
  | 0, _, _, _, h => by cases h
  | n + 1, x1, f, f', h => by
    rw [D_X8_keeps_11] at h
    refine am_Ew.start [32, 52] 11 (am_Ew.conv (fun k => (if x1 < (am_int 5130) then (k 32 [some (.ref 91), some (.int x1)] [.int (x1 + (am_int 1026)), .ref 96, .int x1, .ref 96] am_G0 f) else (k 52 [some (.ref 91), some (.int 0)] [] am_G0 (am_wr f 91 8 ((f 91 8) - 1))))) (fun k => rfl) ?_)
    refine am_Ew.ite h (fun _ h => ?_) (fun _ h => ?_)
    · refine am_Ew.run (?_)
      refine am_Ew.start [11] 4 (am_Ew.conv (fun k => (am_chk (x1 + (am_int 1026)) 6156 (am_chk x1 6156 (k 11 [some (.ref 91), some (.int (x1 + 1))] [] am_G0 (am_wr f 96 x1.toNatClampNeg (f 96 (x1 + (am_int 1026)).toNatClampNeg)))))) (fun k => rfl) ?_)
      refine am_Ew.chk h (fun h => ?_)
      refine am_Ew.chk h (fun h => ?_)
      exact am_Ew.run (lk_X8_keeps_11  n _ _ _ h )
    · exact am_Ew.run (lk_X8_keeps_52 _ _ _ _ h )
set_option maxHeartbeats 400000 in
set_option maxRecDepth 100000 in
theorem lk_X8_keeps {X : am_X} {f f' : am_M} (h : D_X8_keeps f = some f') : am_Ev X 119 0 [some (.ref 91), none] [] f none f' := by
  rw [D_X8_keeps] at h
  refine am_Ew.start [11, 52] 6 (am_Ew.conv (fun k => (if (f 91 8) = 6 then (k 11 [some (.ref 91), some (.int 0)] [] am_G0 f) else (k 52 [some (.ref 91), some (.int 0)] [] am_G0 f))) (fun k => rfl) ?_)
  refine am_Ew.ite h (fun _ h => ?_) (fun _ h => ?_)
  · exact am_Ew.run (lk_X8_keeps_11 _ _ _ _ h )
  · exact am_Ew.run (lk_X8_keeps_52 _ _ _ _ h )
set_option maxHeartbeats 400000 in
set_option maxRecDepth 100000 in
theorem lk_X8_undo_22 {X : am_X} : ∀ (n : Nat) (x1 : Int32) (f : am_M) (v' : Int32) (f' : am_M), D_X8_undo_22 n x1 f = some (v', f') → am_Ev X 127 22 [some (.ref 91), some (.int x1)] [] f (some (.int v')) f'
  | 0, _, _, _, _, h => by cases h
  | n + 1, x1, f, v', f', h => by
    rw [D_X8_undo_22] at h
    refine am_Ew.start [48] 14 (am_Ew.conv (fun k => (if x1 < (am_int 1026) then (k 48 [some (.ref 91), some (.int x1)] [.int ((((am_int 1026) : Int32) * (f 91 8)) + x1), .ref 96, .int x1, .ref 95] am_G0 f) else (some (some (.int (f 91 8)), am_G0, f)))) (fun k => rfl) ?_)
    refine am_Ew.ite h (fun _ h => ?_) (fun _ h => ?_)
    · refine am_Ew.run (?_)
      refine am_Ew.start [22] 4 (am_Ew.conv (fun k => (am_chk ((((am_int 1026) : Int32) * (f 91 8)) + x1) 6156 (am_chk x1 1026 (k 22 [some (.ref 91), some (.int (x1 + 1))] [] am_G0 (am_wr f 95 x1.toNatClampNeg (f 96 ((((am_int 1026) : Int32) * (f 91 8)) + x1).toNatClampNeg)))))) (fun k => rfl) ?_)
      refine am_Ew.chk h (fun h => ?_)
      refine am_Ew.chk h (fun h => ?_)
      exact am_Ew.run (lk_X8_undo_22  n _ _ _ _ h )
    · exact am_Ew.retI h
set_option maxHeartbeats 400000 in
set_option maxRecDepth 100000 in
theorem lk_X8_undo {X : am_X} {f f' : am_M} {v' : Int32} (h : D_X8_undo f = some (v', f')) : am_Ev X 127 0 [some (.ref 91), none] [] f (some (.int v')) f' := by
  rw [D_X8_undo] at h
  refine am_Ew.start [22] 11 (am_Ew.conv (fun k => (if (f 91 8) = 0 then (some (some (.int (-2)), am_G0, f)) else (k 22 [some (.ref 91), some (.int 0)] [] am_G0 (am_wr f 91 8 ((f 91 8) - 1))))) (fun k => rfl) ?_)
  refine am_Ew.ite h (fun _ h => ?_) (fun _ h => ?_)
  · exact am_Ew.retI h
  · exact am_Ew.run (lk_X8_undo_22 _ _ _ _ _ h )
set_option maxHeartbeats 400000 in
set_option maxRecDepth 100000 in
theorem lk_X8_tellEvent {X : am_X} {a1 a2 : Int32} {f f' : am_M} {v' : Int32} (h : D_X8_tellEvent a1 a2 f = some (v', f')) : am_Ev X 128 0 [some (.ref 91), some (.int a1), some (.int a2), none] [] f (some (.int v')) f' := by
  rw [D_X8_tellEvent] at h
  refine am_Ew.start [] 22 (am_Ew.conv (fun k => (am_chk ((26 : Int32) + a1) 1026 (if a2 = 0 then (some (some (.int ((f 95 ((26 : Int32) + a1).toNatClampNeg) &&& 3)), am_G0, f)) else (if a2 = 1 then (some (some (.int (((f 95 ((26 : Int32) + a1).toNatClampNeg) >>> ((2 : Int32) &&& 31)) &&& 3)), am_G0, f)) else (if ((f 95 ((26 : Int32) + a1).toNatClampNeg) &&& 3) = 1 then (some (some (.int ((f 95 ((26 : Int32) + a1).toNatClampNeg) / 16)), am_G0, f)) else (some (some (.int (-9)), am_G0, f))))))) (fun k => rfl) ?_)
  refine am_Ew.chk h (fun h => ?_)
  refine am_Ew.ite h (fun _ h => ?_) (fun _ h => ?_)
  · exact am_Ew.retI h
  · refine am_Ew.ite h (fun _ h => ?_) (fun _ h => ?_)
    · exact am_Ew.retI h
    · refine am_Ew.ite h (fun _ h => ?_) (fun _ h => ?_)
      · exact am_Ew.retI h
      · exact am_Ew.retI h
set_option maxHeartbeats 400000 in
set_option maxRecDepth 100000 in
theorem lk_X8_openOf_4 {X : am_X} : ∀ (n : Nat) (x1 x2 x3 : Int32) (f : am_M) (v' : Int32) (f' : am_M), D_X8_openOf_4 n x1 x2 x3 f = some (v', f') → am_Ev X 132 4 [some (.ref 91), some (.int x1), some (.int x2), some (.int x3)] [] f (some (.int v')) f'
  | 0, _, _, _, _, _, _, h => by cases h
  | n + 1, x1, x2, x3, f, v', f', h => by
    rw [D_X8_openOf_4] at h
    refine am_Ew.start [4] 25 (am_Ew.conv (fun k => (if x3 < (f 95 0) then (am_chk ((26 : Int32) + x3) 1026 (if (f 95 ((26 : Int32) + x3).toNatClampNeg) = ((0 : Int32) + ((4 : Int32) * x1)) then (k 4 [some (.ref 91), some (.int x1), some (.int (x2 + 1)), some (.int (x3 + 1))] [] am_G0 f) else (k 4 [some (.ref 91), some (.int x1), some (.int (x2 + 0)), some (.int (x3 + 1))] [] am_G0 f))) else (some (some (.int x2), am_G0, f)))) (fun k => rfl) ?_)
    refine am_Ew.ite h (fun _ h => ?_) (fun _ h => ?_)
    · refine am_Ew.chk h (fun h => ?_)
      refine am_Ew.ite h (fun _ h => ?_) (fun _ h => ?_)
      · exact am_Ew.run (lk_X8_openOf_4  n _ _ _ _ _ _ h )
      · exact am_Ew.run (lk_X8_openOf_4  n _ _ _ _ _ _ h )
    · exact am_Ew.retI h
set_option maxHeartbeats 400000 in
set_option maxRecDepth 100000 in
theorem lk_X8_openOf {X : am_X} {a1 : Int32} {f f' : am_M} {v' : Int32} (h : D_X8_openOf a1 f = some (v', f')) : am_Ev X 132 0 [some (.ref 91), some (.int a1), none, none] [] f (some (.int v')) f' := by
  rw [D_X8_openOf] at h
  refine am_Ew.start [4] 4 (am_Ew.conv (fun k => (k 4 [some (.ref 91), some (.int a1), some (.int 0), some (.int 0)] [] am_G0 f)) (fun k => rfl) ?_)
  exact am_Ew.run (lk_X8_openOf_4 _ _ _ _ _ _ _ h )
set_option maxHeartbeats 400000 in
set_option maxRecDepth 100000 in
theorem lk_X8_leastOver_7 {X : am_X} : ∀ (n : Nat) (x1 x2 : Int32) (f : am_M) (v' : Int32) (f' : am_M), D_X8_leastOver_7 n x1 x2 f = some (v', f') → am_Ev X 138 7 [some (.ref 91), some (.int x1), some (.int x2)] [] f (some (.int v')) f'
  | 0, _, _, _, _, _, h => by cases h
  | n + 1, x1, x2, f, v', f', h => by
    rw [D_X8_leastOver_7] at h
    refine am_Ew.start [7] 18 (am_Ew.conv (fun k => (if x2 < (f 91 3) then (am_chk x2 6 (if (f 111 x2.toNatClampNeg) < x1 then (am_chk x2 6 (k 7 [some (.ref 91), some (.int (f 111 x2.toNatClampNeg)), some (.int (x2 + 1))] [] am_G0 f)) else (k 7 [some (.ref 91), some (.int x1), some (.int (x2 + 1))] [] am_G0 f))) else (some (some (.int x1), am_G0, f)))) (fun k => rfl) ?_)
    refine am_Ew.ite h (fun _ h => ?_) (fun _ h => ?_)
    · refine am_Ew.chk h (fun h => ?_)
      refine am_Ew.ite h (fun _ h => ?_) (fun _ h => ?_)
      · refine am_Ew.chk h (fun h => ?_)
        exact am_Ew.run (lk_X8_leastOver_7  n _ _ _ _ _ h )
      · exact am_Ew.run (lk_X8_leastOver_7  n _ _ _ _ _ h )
    · exact am_Ew.retI h
set_option maxHeartbeats 400000 in
set_option maxRecDepth 100000 in
theorem lk_X8_leastOver {X : am_X} {f f' : am_M} {v' : Int32} (h : D_X8_leastOver f = some (v', f')) : am_Ev X 138 0 [some (.ref 91), none, none] [] f (some (.int v')) f' := by
  rw [D_X8_leastOver] at h
  refine am_Ew.start [7] 5 (am_Ew.conv (fun k => (k 7 [some (.ref 91), some (.int (f 91 29)), some (.int 0)] [] am_G0 f)) (fun k => rfl) ?_)
  exact am_Ew.run (lk_X8_leastOver_7 _ _ _ _ _ _ h )
set_option maxHeartbeats 400000 in
set_option maxRecDepth 100000 in
theorem lk_X8_doesWait_4 {X : am_X} : ∀ (n : Nat) (x1 x2 x3 : Int32) (f : am_M) (v' : Int32) (f' : am_M), D_X8_doesWait_4 n x1 x2 x3 f = some (v', f') → am_Ev X 140 4 [some (.ref 91), some (.int x1), some (.int x2), some (.int x3)] [] f (some (.int v')) f'
  | 0, _, _, _, _, _, _, h => by cases h
  | n + 1, x1, x2, x3, f, v', f', h => by
    rw [D_X8_doesWait_4] at h
    refine am_Ew.start [4] 17 (am_Ew.conv (fun k => (if x3 < (f 91 30) then (if x2 = 0 then (am_chk x3 3 (if (f 109 x3.toNatClampNeg) = x1 then (k 4 [some (.ref 91), some (.int x1), some (.int 1), some (.int (x3 + 1))] [] am_G0 f) else (k 4 [some (.ref 91), some (.int x1), some (.int 0), some (.int (x3 + 1))] [] am_G0 f))) else (k 4 [some (.ref 91), some (.int x1), some (.int 1), some (.int (x3 + 1))] [] am_G0 f)) else (if x2 = 0 ∨ x2 = 1 then some (some (.int x2), am_G0, f) else none))) (fun k => rfl) ?_)
    refine am_Ew.ite h (fun _ h => ?_) (fun _ h => ?_)
    · refine am_Ew.ite h (fun _ h => ?_) (fun _ h => ?_)
      · refine am_Ew.chk h (fun h => ?_)
        refine am_Ew.ite h (fun _ h => ?_) (fun _ h => ?_)
        · exact am_Ew.run (lk_X8_doesWait_4  n _ _ _ _ _ _ h )
        · exact am_Ew.run (lk_X8_doesWait_4  n _ _ _ _ _ _ h )
      · exact am_Ew.run (lk_X8_doesWait_4  n _ _ _ _ _ _ h )
    · exact am_Ew.ite h (fun _ h => am_Ew.retI h) (fun _ h => am_Ew.none h)
set_option maxHeartbeats 400000 in
set_option maxRecDepth 100000 in
theorem lk_X8_doesWait {X : am_X} {a1 : Int32} {f f' : am_M} {v' : Int32} (h : D_X8_doesWait a1 f = some (v', f')) : am_Ev X 140 0 [some (.ref 91), some (.int a1), none, none] [] f (some (.int v')) f' := by
  rw [D_X8_doesWait] at h
  refine am_Ew.start [4] 4 (am_Ew.conv (fun k => (k 4 [some (.ref 91), some (.int a1), some (.int 0), some (.int 0)] [] am_G0 f)) (fun k => rfl) ?_)
  exact am_Ew.run (lk_X8_doesWait_4 _ _ _ _ _ _ _ h )
set_option maxHeartbeats 400000 in
set_option maxRecDepth 100000 in
theorem lk_X8_slowAt_5 {X : am_X} : ∀ (n : Nat) (x1 x2 x3 : Int32) (f : am_M) (v' : Int32) (f' : am_M), D_X8_slowAt_5 n x1 x2 x3 f = some (v', f') → am_Ev X 146 5 [some (.ref 91), some (.int x1), some (.int x2), some (.int x3)] [] f (some (.int v')) f'
  | 0, _, _, _, _, _, _, h => by cases h
  | n + 1, x1, x2, x3, f, v', f', h => by
    rw [D_X8_slowAt_5] at h
    refine am_Ew.start [5] 29 (am_Ew.conv (fun k => (if x3 < (f 91 3) then (if x2 = (-9) then (k 5 [some (.ref 91), some (.int x1), some (.int x3), some (.int (x3 + 1))] [] am_G0 f) else (am_chk (((6 : Int32) * x1) + x3) 366 (am_chk (((6 : Int32) * x1) + x2) 366 (if (f 107 (((6 : Int32) * x1) + x3).toNatClampNeg) < (f 107 (((6 : Int32) * x1) + x2).toNatClampNeg) then (k 5 [some (.ref 91), some (.int x1), some (.int x3), some (.int (x3 + 1))] [] am_G0 f) else (k 5 [some (.ref 91), some (.int x1), some (.int x2), some (.int (x3 + 1))] [] am_G0 f))))) else (some (some (.int x2), am_G0, f)))) (fun k => rfl) ?_)
    refine am_Ew.ite h (fun _ h => ?_) (fun _ h => ?_)
    · refine am_Ew.ite h (fun _ h => ?_) (fun _ h => ?_)
      · exact am_Ew.run (lk_X8_slowAt_5  n _ _ _ _ _ _ h )
      · refine am_Ew.chk h (fun h => ?_)
        refine am_Ew.chk h (fun h => ?_)
        refine am_Ew.ite h (fun _ h => ?_) (fun _ h => ?_)
        · exact am_Ew.run (lk_X8_slowAt_5  n _ _ _ _ _ _ h )
        · exact am_Ew.run (lk_X8_slowAt_5  n _ _ _ _ _ _ h )
    · exact am_Ew.retI h
set_option maxHeartbeats 400000 in
set_option maxRecDepth 100000 in
theorem lk_X8_slowAt {X : am_X} {a1 : Int32} {f f' : am_M} {v' : Int32} (h : D_X8_slowAt a1 f = some (v', f')) : am_Ev X 146 0 [some (.ref 91), some (.int a1), none, none] [] f (some (.int v')) f' := by
  rw [D_X8_slowAt] at h
  refine am_Ew.start [5] 4 (am_Ew.conv (fun k => (k 5 [some (.ref 91), some (.int a1), some (.int (-9)), some (.int 0)] [] am_G0 f)) (fun k => rfl) ?_)
  exact am_Ew.run (lk_X8_slowAt_5 _ _ _ _ _ _ _ h )
set_option maxHeartbeats 400000 in
set_option maxRecDepth 100000 in
theorem lk_X8_forget {X : am_X} {f f' : am_M} {v' : Int32} (h : D_X8_forget f = some (v', f')) : am_Ev X 154 0 [some (.ref 91), none] [] f (some (.int v')) f' := by
  rw [D_X8_forget] at h
  refine am_Ew.start [] 8 (am_Ew.conv (fun k => (some (some (.int (f 91 11)), am_G0, (am_wr f 91 11 0)))) (fun k => rfl) ?_)
  exact am_Ew.retI h
set_option maxHeartbeats 400000 in
set_option maxRecDepth 100000 in
theorem lk_X8_isAt {X : am_X} {a1 a2 : Int32} {f f' : am_M} {v' : Int32} (h : D_X8_isAt a1 a2 f = some (v', f')) : am_Ev X 94 0 [some (.ref 91), some (.int a1), some (.int a2)] [] f (some (.int v')) f' := by
  rw [D_X8_isAt] at h
  refine am_Ew.start [22] 12 (am_Ew.conv (fun k => (if (f 91 16) < (f 91 15) then (am_chk (f 91 16) 120 (k 22 [some (.ref 91), some (.int a1), some (.int a2)] [.int a2, .int a1, .int (f 101 (f 91 16).toNatClampNeg)] am_G0 f)) else (some (some (.int 0), am_G0, f)))) (fun k => rfl) ?_)
  refine am_Ew.ite h (fun _ h => ?_) (fun _ h => ?_)
  · refine am_Ew.chk h (fun h => ?_)
    obtain ⟨v1, f1, h1, h⟩ := am_bI_some h
    refine am_Ew.run (am_Ev.call (fun n => rfl) (lk_X8_within h1) ?_)
    refine am_Ew.start [] 4 (am_Ew.conv (fun k => (if v1 = 0 then (some (some (.int 0), am_G0, f1)) else (some (some (.int 1), am_G0, f1)))) (fun k => rfl) ?_)
    refine am_Ew.ite h (fun _ h => ?_) (fun _ h => ?_)
    · exact am_Ew.retI h
    · exact am_Ew.retI h
  · exact am_Ew.retI h
set_option maxHeartbeats 400000 in
set_option maxRecDepth 100000 in
theorem lk_X8_type {X : am_X} {a1 : Int32} {f f' : am_M} {v' : Int32} (h : D_X8_type a1 f = some (v', f')) : am_Ev X 103 0 [some (.ref 91), some (.int a1)] [] f (some (.int v')) f' := by
  rw [D_X8_type] at h
  refine am_Ew.start [5] 3 (am_Ew.conv (fun k => (k 5 [some (.ref 91), some (.int a1)] [.int (am_int 255), .int 0, .int a1] am_G0 f)) (fun k => rfl) ?_)
  obtain ⟨v1, f1, h1, h⟩ := am_bI_some h
  refine am_Ew.run (am_Ev.call (fun n => rfl) (lk_X8_within h1) ?_)
  refine am_Ew.start [] 20 (am_Ew.conv (fun k => (if v1 = 0 then (some (some (.int (-1)), am_G0, f1)) else (if (f1 91 15) = 120 then (some (some (.int (-3)), am_G0, f1)) else (am_chk (f1 91 15) 120 (some (some (.int ((f1 91 15) + 1)), am_G0, (am_wr (am_wr f1 101 (f1 91 15).toNatClampNeg a1) 91 15 ((f1 91 15) + 1)))))))) (fun k => rfl) ?_)
  refine am_Ew.ite h (fun _ h => ?_) (fun _ h => ?_)
  · exact am_Ew.retI h
  · refine am_Ew.ite h (fun _ h => ?_) (fun _ h => ?_)
    · exact am_Ew.retI h
    · refine am_Ew.chk h (fun h => ?_)
      exact am_Ew.retI h
set_option maxHeartbeats 400000 in
set_option maxRecDepth 100000 in
theorem lk_X8_isMaker {X : am_X} {a1 : Int32} {f f' : am_M} {v' : Int32} (h : D_X8_isMaker a1 f = some (v', f')) : am_Ev X 106 0 [some (.ref 91), some (.int a1)] [] f (some (.int v')) f' := by
  rw [D_X8_isMaker] at h
  refine am_Ew.start [8] 6 (am_Ew.conv (fun k => (k 8 [some (.ref 91), some (.int a1)] [.int ((f 91 1) - 1), .int 0, .int a1] am_G0 f)) (fun k => rfl) ?_)
  obtain ⟨v1, f1, h1, h⟩ := am_bI_some h
  refine am_Ew.run (am_Ev.call (fun n => rfl) (lk_X8_within h1) ?_)
  refine am_Ew.start [] 1 (am_Ew.conv (fun k => (if v1 = 0 ∨ v1 = 1 then some (some (.int v1), am_G0, f1) else none)) (fun k => rfl) ?_)
  exact am_Ew.ite h (fun _ h => am_Ew.retI h) (fun _ h => am_Ew.none h)
set_option maxHeartbeats 400000 in
set_option maxRecDepth 100000 in
theorem lk_X8_isTaker {X : am_X} {a1 : Int32} {f f' : am_M} {v' : Int32} (h : D_X8_isTaker a1 f = some (v', f')) : am_Ev X 107 0 [some (.ref 91), some (.int a1)] [] f (some (.int v')) f' := by
  rw [D_X8_isTaker] at h
  refine am_Ew.start [8] 6 (am_Ew.conv (fun k => (k 8 [some (.ref 91), some (.int a1)] [.int ((f 91 3) - 1), .int 0, .int a1] am_G0 f)) (fun k => rfl) ?_)
  obtain ⟨v1, f1, h1, h⟩ := am_bI_some h
  refine am_Ew.run (am_Ev.call (fun n => rfl) (lk_X8_within h1) ?_)
  refine am_Ew.start [] 1 (am_Ew.conv (fun k => (if v1 = 0 ∨ v1 = 1 then some (some (.int v1), am_G0, f1) else none)) (fun k => rfl) ?_)
  exact am_Ew.ite h (fun _ h => am_Ew.retI h) (fun _ h => am_Ew.none h)
set_option maxHeartbeats 400000 in
set_option maxRecDepth 100000 in
theorem lk_X8_isEvent {X : am_X} {a1 : Int32} {f f' : am_M} {v' : Int32} (h : D_X8_isEvent a1 f = some (v', f')) : am_Ev X 108 0 [some (.ref 91), some (.int a1)] [] f (some (.int v')) f' := by
  rw [D_X8_isEvent] at h
  refine am_Ew.start [10] 8 (am_Ew.conv (fun k => (k 10 [some (.ref 91), some (.int a1)] [.int ((f 95 0) - 1), .int 0, .int a1] am_G0 f)) (fun k => rfl) ?_)
  obtain ⟨v1, f1, h1, h⟩ := am_bI_some h
  refine am_Ew.run (am_Ev.call (fun n => rfl) (lk_X8_within h1) ?_)
  refine am_Ew.start [] 1 (am_Ew.conv (fun k => (if v1 = 0 ∨ v1 = 1 then some (some (.int v1), am_G0, f1) else none)) (fun k => rfl) ?_)
  exact am_Ew.ite h (fun _ h => am_Ew.retI h) (fun _ h => am_Ew.none h)
set_option maxHeartbeats 400000 in
set_option maxRecDepth 100000 in
theorem lk_X8_cursor_2 {X : am_X} : ∀ (n : Nat) (x1 : Int32) (f : am_M) (v' : Int32) (f' : am_M), D_X8_cursor_2 n x1 f = some (v', f') → am_Ev X 110 2 [some (.ref 91), some (.int x1)] [] f (some (.int v')) f'
  | 0, _, _, _, _, h => by cases h
  | n + 1, x1, f, v', f', h => by
    rw [D_X8_cursor_2] at h
    refine am_Ew.start [14] 8 (am_Ew.conv (fun k => (if x1 < (f 95 0) then (k 14 [some (.ref 91), some (.int x1)] [.int x1, .ref 91] am_G0 f) else (some (some (.int x1), am_G0, f)))) (fun k => rfl) ?_)
    refine am_Ew.ite h (fun _ h => ?_) (fun _ h => ?_)
    · obtain ⟨v1, f1, h1, h⟩ := am_bI_some h
      refine am_Ew.run (am_Ev.call (fun n => rfl) (lk_X8_kindOf h1) ?_)
      refine am_Ew.start [2] 3 (am_Ew.conv (fun k => (if v1 = 0 then (some (some (.int x1), am_G0, f1)) else (k 2 [some (.ref 91), some (.int (x1 + 1))] [] am_G0 f1))) (fun k => rfl) ?_)
      refine am_Ew.ite h (fun _ h => ?_) (fun _ h => ?_)
      · exact am_Ew.retI h
      · exact am_Ew.run (lk_X8_cursor_2  n _ _ _ _ h )
    · exact am_Ew.retI h
set_option maxHeartbeats 400000 in
set_option maxRecDepth 100000 in
theorem lk_X8_cursor {X : am_X} {f f' : am_M} {v' : Int32} (h : D_X8_cursor f = some (v', f')) : am_Ev X 110 0 [some (.ref 91), none] [] f (some (.int v')) f' := by
  rw [D_X8_cursor] at h
  refine am_Ew.start [2] 2 (am_Ew.conv (fun k => (k 2 [some (.ref 91), some (.int 0)] [] am_G0 f)) (fun k => rfl) ?_)
  exact am_Ew.run (lk_X8_cursor_2 _ _ _ _ _ h )
set_option maxHeartbeats 400000 in
set_option maxRecDepth 100000 in
theorem lk_X8_room {X : am_X} {f f' : am_M} {v' : Int32} (h : D_X8_room f = some (v', f')) : am_Ev X 112 0 [some (.ref 91)] [] f (some (.int v')) f' := by
  rw [D_X8_room] at h
  refine am_Ew.start [5] 3 (am_Ew.conv (fun k => (k 5 [some (.ref 91)] [.ref 91, .int (f 91 0)] am_G0 f)) (fun k => rfl) ?_)
  obtain ⟨v1, f1, h1, h⟩ := am_bI_some h
  refine am_Ew.run (am_Ev.call (fun n => rfl) (lk_X8_least h1) ?_)
  refine am_Ew.start [] 7 (am_Ew.conv (fun k => (some (some (.int (((f 91 0) + v1) - (f1 95 0))), am_G0, f1))) (fun k => rfl) ?_)
  exact am_Ew.retI h
set_option maxHeartbeats 400000 in
set_option maxRecDepth 100000 in
theorem lk_X8_goesOver {X : am_X} {a1 a2 : Int32} {f f' : am_M} (h : D_X8_goesOver a1 a2 f = some f') : am_Ev X 124 0 [some (.ref 91), some (.int a1), some (.int a2)] [] f none f' := by
  rw [D_X8_goesOver] at h
  refine am_Ew.start [2] 2 (am_Ew.conv (fun k => (k 2 [some (.ref 91), some (.int a1), some (.int a2)] [.int a2, .ref 91] am_G0 f)) (fun k => rfl) ?_)
  obtain ⟨v1, f1, h1, h⟩ := am_bI_some h
  refine am_Ew.run (am_Ev.call (fun n => rfl) (lk_X8_kindOf h1) ?_)
  refine am_Ew.start [] 40 (am_Ew.conv (fun k => (if v1 = 1 then (am_chk ((7 : Int32) + a1) 1026 (am_chk ((7 : Int32) + a1) 1026 (am_chk ((13 : Int32) + a1) 1026 (am_chk ((26 : Int32) + a2) 1026 (am_chk ((13 : Int32) + a1) 1026 (some (none, am_G0, (am_wr (am_wr f1 95 ((7 : Int32) + a1).toNatClampNeg ((f1 95 ((7 : Int32) + a1).toNatClampNeg) + 1)) 95 ((13 : Int32) + a1).toNatClampNeg (((((31 : Int32) * ((am_wr f1 95 ((7 : Int32) + a1).toNatClampNeg ((f1 95 ((7 : Int32) + a1).toNatClampNeg) + 1)) 95 ((13 : Int32) + a1).toNatClampNeg)) + (((am_wr f1 95 ((7 : Int32) + a1).toNatClampNeg ((f1 95 ((7 : Int32) + a1).toNatClampNeg) + 1)) 95 ((26 : Int32) + a2).toNatClampNeg) / 16)) + a1) - ((((31 : Int32) * ((am_wr f1 95 ((7 : Int32) + a1).toNatClampNeg ((f1 95 ((7 : Int32) + a1).toNatClampNeg) + 1)) 95 ((13 : Int32) + a1).toNatClampNeg)) + (((am_wr f1 95 ((7 : Int32) + a1).toNatClampNeg ((f1 95 ((7 : Int32) + a1).toNatClampNeg) + 1)) 95 ((26 : Int32) + a2).toNatClampNeg) / 16)) + a1) / (am_int 9973) * (am_int 9973)))))))))) else (some (none, am_G0, f1)))) (fun k => rfl) ?_)
  refine am_Ew.ite h (fun _ h => ?_) (fun _ h => ?_)
  · refine am_Ew.chk h (fun h => ?_)
    refine am_Ew.chk h (fun h => ?_)
    refine am_Ew.chk h (fun h => ?_)
    refine am_Ew.chk h (fun h => ?_)
    refine am_Ew.chk h (fun h => ?_)
    exact am_Ew.retV h
  · exact am_Ew.retV h
set_option maxHeartbeats 400000 in
set_option maxRecDepth 100000 in
theorem lk_X8_tellMaker {X : am_X} {a1 a2 : Int32} {f f' : am_M} {v' : Int32} (h : D_X8_tellMaker a1 a2 f = some (v', f')) : am_Ev X 133 0 [some (.ref 91), some (.int a1), some (.int a2), none] [] f (some (.int v')) f' := by
  rw [D_X8_tellMaker] at h
  refine am_Ew.start [2] 2 (am_Ew.conv (fun k => (k 2 [some (.ref 91), some (.int a1), some (.int a2), none] [.int a1, .ref 91] am_G0 f)) (fun k => rfl) ?_)
  obtain ⟨v1, f1, h1, h⟩ := am_bI_some h
  refine am_Ew.run (am_Ev.call (fun n => rfl) (lk_X8_placeOf h1) ?_)
  refine am_Ew.start [57] 17 (am_Ew.conv (fun k => (if a2 = 0 then (am_chk a1 3 (some (some (.int (f1 92 a1.toNatClampNeg)), am_G0, f1))) else (if a2 = 1 then (if v1 = (-9) then (some (some (.int 0), am_G0, f1)) else (am_chk ((23 : Int32) + v1) 1026 (some (some (.int (f1 95 ((23 : Int32) + v1).toNatClampNeg)), am_G0, f1)))) else (if a2 = 2 then (some (some (.int v1), am_G0, f1)) else (k 57 [some (.ref 91), some (.int a1), some (.int a2), some (.int v1)] [.int a1, .ref 91] am_G0 f1))))) (fun k => rfl) ?_)
  refine am_Ew.ite h (fun _ h => ?_) (fun _ h => ?_)
  · refine am_Ew.chk h (fun h => ?_)
    exact am_Ew.retI h
  · refine am_Ew.ite h (fun _ h => ?_) (fun _ h => ?_)
    · refine am_Ew.ite h (fun _ h => ?_) (fun _ h => ?_)
      · exact am_Ew.retI h
      · refine am_Ew.chk h (fun h => ?_)
        exact am_Ew.retI h
    · refine am_Ew.ite h (fun _ h => ?_) (fun _ h => ?_)
      · exact am_Ew.retI h
      · obtain ⟨v2, f2, h1, h⟩ := am_bI_some h
        refine am_Ew.run (am_Ev.call (fun n => rfl) (lk_X8_openOf h1) ?_)
        refine am_Ew.start [] 1 (am_Ew.conv (fun k => (some (some (.int v2), am_G0, f2))) (fun k => rfl) ?_)
        exact am_Ew.retI h
set_option maxHeartbeats 400000 in
set_option maxRecDepth 100000 in
theorem lk_X8_slowest_5 {X : am_X} : ∀ (n : Nat) (x1 x2 x3 : Int32) (f : am_M) (v' : Int32) (f' : am_M), D_X8_slowest_5 n x1 x2 x3 f = some (v', f') → ∀ d4 : Option Value, am_Ev X 135 5 [some (.ref 91), some (.int x1), some (.int x2), some (.int x3), d4] [] f (some (.int v')) f'
  | 0, _, _, _, _, _, _, h, _ => by cases h
  | n + 1, x1, x2, x3, f, v', f', h, d4 => by
    rw [D_X8_slowest_5] at h
    refine am_Ew.start [15] 6 (am_Ew.conv (fun k => (if x3 < (f 91 3) then (k 15 [some (.ref 91), some (.int x1), some (.int x2), some (.int x3), d4] [.int x3, .int x1] am_G0 f) else (some (some (.int x2), am_G0, f)))) (fun k => rfl) ?_)
    refine am_Ew.ite h (fun _ h => ?_) (fun _ h => ?_)
    · obtain ⟨v1, f1, h1, h⟩ := am_bI_some h
      refine am_Ew.run (am_Ev.call (fun n => rfl) (lk_X8_has h1) ?_)
      refine am_Ew.start [5] 27 (am_Ew.conv (fun k => (if v1 = 0 then (k 5 [some (.ref 91), some (.int x1), some (.int x2), some (.int (x3 + 1)), some (.int 0)] [] am_G0 f1) else (if x2 = (-9) then (k 5 [some (.ref 91), some (.int x1), some (.int x3), some (.int (x3 + 1)), some (.int 1)] [] am_G0 f1) else (am_chk ((1 : Int32) + x3) 1026 (am_chk ((1 : Int32) + x2) 1026 (if (f1 95 ((1 : Int32) + x3).toNatClampNeg) < (f1 95 ((1 : Int32) + x2).toNatClampNeg) then (k 5 [some (.ref 91), some (.int x1), some (.int x3), some (.int (x3 + 1)), some (.int 1)] [] am_G0 f1) else (k 5 [some (.ref 91), some (.int x1), some (.int x2), some (.int (x3 + 1)), some (.int 0)] [] am_G0 f1))))))) (fun k => rfl) ?_)
      refine am_Ew.ite h (fun _ h => ?_) (fun _ h => ?_)
      · exact am_Ew.run (lk_X8_slowest_5  n _ _ _ _ _ _ h _ )
      · refine am_Ew.ite h (fun _ h => ?_) (fun _ h => ?_)
        · exact am_Ew.run (lk_X8_slowest_5  n _ _ _ _ _ _ h _ )
        · refine am_Ew.chk h (fun h => ?_)
          refine am_Ew.chk h (fun h => ?_)
          refine am_Ew.ite h (fun _ h => ?_) (fun _ h => ?_)
          · exact am_Ew.run (lk_X8_slowest_5  n _ _ _ _ _ _ h _ )
          · exact am_Ew.run (lk_X8_slowest_5  n _ _ _ _ _ _ h _ )
    · exact am_Ew.retI h
set_option maxHeartbeats 400000 in
set_option maxRecDepth 100000 in
theorem lk_X8_slowest {X : am_X} {a1 : Int32} {f f' : am_M} {v' : Int32} (h : D_X8_slowest a1 f = some (v', f')) : am_Ev X 135 0 [some (.ref 91), some (.int a1), none, none, none] [] f (some (.int v')) f' := by
  rw [D_X8_slowest] at h
  refine am_Ew.start [5] 4 (am_Ew.conv (fun k => (k 5 [some (.ref 91), some (.int a1), some (.int (-9)), some (.int 0), none] [] am_G0 f)) (fun k => rfl) ?_)
  exact am_Ew.run (lk_X8_slowest_5 _ _ _ _ _ _ _ h _ )
set_option maxHeartbeats 400000 in
set_option maxRecDepth 100000 in
theorem lk_X8_letsByRule_57 {X : am_X} {K : am_M → Option am_M} (hK : ∀ (f : am_M) (f' : am_M), K  f = some f' → ∀ d1 : Option Value, am_Ev X 139 0 [some (.ref 91), d1] [] f none f') : ∀ (n : Nat) (x1 : Int32) (f : am_M) (f' : am_M), D_X8_letsByRule_57 K n x1 f = some f' → am_Ev X 139 57 [some (.ref 91), some (.int x1)] [] f none f'
  | 0, _, _, _, h => by cases h
  | n + 1, x1, f, f', h => by
    rw [D_X8_letsByRule_57] at h
    refine am_Ew.start [0, 57] 26 (am_Ew.conv (fun k => (if x1 < (f 91 30) then (am_chk (x1 + 1) 3 (am_chk x1 3 (am_chk (x1 + 1) 3 (am_chk x1 3 (k 57 [some (.ref 91), some (.int (x1 + 1))] [] am_G0 (am_wr (am_wr f 109 x1.toNatClampNeg (f 109 (x1 + 1).toNatClampNeg)) 110 x1.toNatClampNeg (f 110 (x1 + 1).toNatClampNeg))))))) else (k 0 [some (.ref 91), some (.int x1)] [] am_G0 f))) (fun k => rfl) ?_)
    refine am_Ew.ite h (fun _ h => ?_) (fun _ h => ?_)
    · refine am_Ew.chk h (fun h => ?_)
      refine am_Ew.chk h (fun h => ?_)
      refine am_Ew.chk h (fun h => ?_)
      refine am_Ew.chk h (fun h => ?_)
      exact am_Ew.run (lk_X8_letsByRule_57 hK n _ _ _ h )
    · exact am_Ew.run (hK _ _ h _ )
set_option maxHeartbeats 400000 in
set_option maxRecDepth 100000 in
theorem lk_X8_letsByRule_0 {X : am_X} : ∀ (n : Nat) (f : am_M) (f' : am_M), D_X8_letsByRule_0 n  f = some f' → ∀ d1 : Option Value, am_Ev X 139 0 [some (.ref 91), d1] [] f none f'
  | 0, _, _, h, _ => by cases h
  | n + 1, f, f', h, d1 => by
    rw [D_X8_letsByRule_0] at h
    refine am_Ew.start [18] 10 (am_Ew.conv (fun k => (if 0 < (f 91 30) then (k 18 [some (.ref 91), d1] [.ref 91, .int (f 91 0), .int (f 110 0)] am_G0 f) else (some (none, am_G0, f)))) (fun k => rfl) ?_)
    refine am_Ew.ite h (fun _ h => ?_) (fun _ h => ?_)
    · obtain ⟨v1, f1, h1, h⟩ := am_bI_some h
      refine am_Ew.run (am_Ev.call (fun n => rfl) (lk_X8_leastOver h1) ?_)
      refine am_Ew.start [57] 22 (am_Ew.conv (fun k => (if (((f 91 0) + v1) - (f1 91 29)) < (f 110 0) then (some (none, am_G0, f1)) else (k 57 [some (.ref 91), some (.int 0)] [] am_G0 (am_wr (am_wr f1 91 29 ((f1 91 29) + (f1 110 0))) 91 30 ((f1 91 30) - 1))))) (fun k => rfl) ?_)
      refine am_Ew.ite h (fun _ h => ?_) (fun _ h => ?_)
      · exact am_Ew.retV h
      · exact am_Ew.run (lk_X8_letsByRule_57 (fun  f9 f8 h9 e0 => lk_X8_letsByRule_0 n  f9 f8 h9 e0) _ _ _ _ h )
    · exact am_Ew.retV h
set_option maxHeartbeats 400000 in
set_option maxRecDepth 100000 in
theorem lk_X8_letsByRule {X : am_X} {f f' : am_M} (h : D_X8_letsByRule f = some f') : am_Ev X 139 0 [some (.ref 91), none] [] f none f' := by
  rw [D_X8_letsByRule] at h
  exact (lk_X8_letsByRule_0 _ _ _ h _ )
set_option maxHeartbeats 400000 in
set_option maxRecDepth 100000 in
theorem lk_X8_claimsByRule {X : am_X} {a1 : Int32} {f f' : am_M} (h : D_X8_claimsByRule a1 f = some f') : am_Ev X 141 0 [some (.ref 91), some (.int a1)] [] f none f' := by
  rw [D_X8_claimsByRule] at h
  refine am_Ew.start [11] 7 (am_Ew.conv (fun k => (am_chk a1 3 (if (f 92 a1.toNatClampNeg) = 0 then (some (none, am_G0, f)) else (k 11 [some (.ref 91), some (.int a1)] [.int a1, .ref 91] am_G0 f)))) (fun k => rfl) ?_)
  refine am_Ew.chk h (fun h => ?_)
  refine am_Ew.ite h (fun _ h => ?_) (fun _ h => ?_)
  · exact am_Ew.retV h
  · obtain ⟨v1, f1, h1, h⟩ := am_bI_some h
    refine am_Ew.run (am_Ev.call (fun n => rfl) (lk_X8_doesWait h1) ?_)
    refine am_Ew.start [36] 26 (am_Ew.conv (fun k => (if v1 = 0 then (if (f1 91 30) = 0 then (am_chk a1 3 (k 36 [some (.ref 91), some (.int a1)] [.ref 91, .int (f1 91 0), .int (f1 92 a1.toNatClampNeg)] am_G0 f1)) else (am_chk (f1 91 30) 3 (am_chk a1 3 (am_chk (f1 91 30) 3 (some (none, am_G0, (am_wr (am_wr (am_wr f1 109 (f1 91 30).toNatClampNeg a1) 110 (f1 91 30).toNatClampNeg (f1 92 a1.toNatClampNeg)) 91 30 ((f1 91 30) + 1)))))))) else (some (none, am_G0, f1)))) (fun k => rfl) ?_)
    refine am_Ew.ite h (fun _ h => ?_) (fun _ h => ?_)
    · refine am_Ew.ite h (fun _ h => ?_) (fun _ h => ?_)
      · refine am_Ew.chk h (fun h => ?_)
        obtain ⟨v2, f2, h1, h⟩ := am_bI_some h
        refine am_Ew.run (am_Ev.call (fun n => rfl) (lk_X8_leastOver h1) ?_)
        refine am_Ew.start [] 27 (am_Ew.conv (fun k => (if (((f1 91 0) + v2) - (f2 91 29)) < (f1 92 a1.toNatClampNeg) then (am_chk (f2 91 30) 3 (am_chk a1 3 (am_chk (f2 91 30) 3 (some (none, am_G0, (am_wr (am_wr (am_wr f2 109 (f2 91 30).toNatClampNeg a1) 110 (f2 91 30).toNatClampNeg (f2 92 a1.toNatClampNeg)) 91 30 ((f2 91 30) + 1))))))) else (am_chk a1 3 (some (none, am_G0, (am_wr f2 91 29 ((f2 91 29) + (f2 92 a1.toNatClampNeg)))))))) (fun k => rfl) ?_)
        refine am_Ew.ite h (fun _ h => ?_) (fun _ h => ?_)
        · refine am_Ew.chk h (fun h => ?_)
          refine am_Ew.chk h (fun h => ?_)
          refine am_Ew.chk h (fun h => ?_)
          exact am_Ew.retV h
        · refine am_Ew.chk h (fun h => ?_)
          exact am_Ew.retV h
      · refine am_Ew.chk h (fun h => ?_)
        refine am_Ew.chk h (fun h => ?_)
        refine am_Ew.chk h (fun h => ?_)
        exact am_Ew.retV h
    · exact am_Ew.retV h
set_option maxHeartbeats 400000 in
set_option maxRecDepth 100000 in
theorem lk_X8_mostByRule_26 {X : am_X} : ∀ (n : Nat) (x1 x3 x4 : Int32) (f : am_M) (v' : Int32) (f' : am_M), D_X8_mostByRule_26 n x1 x3 x4 f = some (v', f') → ∀ d2 : Option Value, am_Ev X 142 26 [some (.ref 91), some (.int x1), d2, some (.int x3), some (.int x4)] [] f (some (.int v')) f'
  | 0, _, _, _, _, _, _, h, _ => by cases h
  | n + 1, x1, x3, x4, f, v', f', h, d2 => by
    rw [D_X8_mostByRule_26] at h
    refine am_Ew.start [40] 8 (am_Ew.conv (fun k => (if x4 < x1 then (am_chk x1 6 (k 40 [some (.ref 91), some (.int x1), d2, some (.int x3), some (.int x4)] [.int x4, .int (f 94 x1.toNatClampNeg)] am_G0 f)) else (some (some (.int x3), am_G0, f)))) (fun k => rfl) ?_)
    refine am_Ew.ite h (fun _ h => ?_) (fun _ h => ?_)
    · refine am_Ew.chk h (fun h => ?_)
      obtain ⟨v1, f1, h1, h⟩ := am_bI_some h
      refine am_Ew.run (am_Ev.call (fun n => rfl) (lk_X8_has h1) ?_)
      refine am_Ew.start [26] 15 (am_Ew.conv (fun k => (if v1 = 0 then (k 26 [some (.ref 91), some (.int x1), d2, some (.int x3), some (.int (x4 + 1))] [] am_G0 f1) else (am_chk x4 6 (if (f1 111 x4.toNatClampNeg) < x3 then (am_chk x4 6 (k 26 [some (.ref 91), some (.int x1), d2, some (.int (f1 111 x4.toNatClampNeg)), some (.int (x4 + 1))] [] am_G0 f1)) else (k 26 [some (.ref 91), some (.int x1), d2, some (.int x3), some (.int (x4 + 1))] [] am_G0 f1))))) (fun k => rfl) ?_)
      refine am_Ew.ite h (fun _ h => ?_) (fun _ h => ?_)
      · exact am_Ew.run (lk_X8_mostByRule_26  n _ _ _ _ _ _ h _ )
      · refine am_Ew.chk h (fun h => ?_)
        refine am_Ew.ite h (fun _ h => ?_) (fun _ h => ?_)
        · refine am_Ew.chk h (fun h => ?_)
          exact am_Ew.run (lk_X8_mostByRule_26  n _ _ _ _ _ _ h _ )
        · exact am_Ew.run (lk_X8_mostByRule_26  n _ _ _ _ _ _ h _ )
    · exact am_Ew.retI h
set_option maxHeartbeats 400000 in
set_option maxRecDepth 100000 in
theorem lk_X8_mostByRule {X : am_X} {a1 a2 : Int32} {f f' : am_M} {v' : Int32} (h : D_X8_mostByRule a1 a2 f = some (v', f')) : am_Ev X 142 0 [some (.ref 91), some (.int a1), some (.int a2), none, none] [] f (some (.int v')) f' := by
  rw [D_X8_mostByRule] at h
  refine am_Ew.start [26] 14 (am_Ew.conv (fun k => (am_chk a1 6 (if (f 94 a1.toNatClampNeg) = 0 then (k 26 [some (.ref 91), some (.int a1), some (.int a2), some (.int a2), some (.int 0)] [] am_G0 f) else (am_chk a1 6 (k 26 [some (.ref 91), some (.int a1), some (.int a2), some (.int ((f 111 a1.toNatClampNeg) + 16)), some (.int 0)] [] am_G0 f))))) (fun k => rfl) ?_)
  refine am_Ew.chk h (fun h => ?_)
  refine am_Ew.ite h (fun _ h => ?_) (fun _ h => ?_)
  · exact am_Ew.run (lk_X8_mostByRule_26 _ _ _ _ _ _ _ h _ )
  · refine am_Ew.chk h (fun h => ?_)
    exact am_Ew.run (lk_X8_mostByRule_26 _ _ _ _ _ _ _ h _ )
set_option maxHeartbeats 400000 in
set_option maxRecDepth 100000 in
theorem lk_X8_saves_55 {X : am_X} : ∀ (n : Nat) (x1 x2 : Int32) (f : am_M) (f' : am_M), D_X8_saves_55 n x1 x2 f = some f' → am_Ev X 144 55 [some (.ref 91), some (.int x1), some (.int x2)] [] f none f'
  | 0, _, _, _, _, h => by cases h
  | n + 1, x1, x2, f, f', h => by
    rw [D_X8_saves_55] at h
    refine am_Ew.start [55, 94] 25 (am_Ew.conv (fun k => (if x2 < (f 91 1) then (if x1 = 0 then (am_chk (((3 : Int32) * x1) + x2) 183 (k 55 [some (.ref 91), some (.int x1), some (.int (x2 + 1))] [] am_G0 (am_wr f 108 (((3 : Int32) * x1) + x2).toNatClampNeg 0))) else (am_chk (((3 : Int32) * (x1 - 1)) + x2) 183 (k 94 [some (.ref 91), some (.int x1), some (.int x2)] [.int x2, .ref 91, .int (f 108 (((3 : Int32) * (x1 - 1)) + x2).toNatClampNeg), .int (((3 : Int32) * x1) + x2), .ref 108] am_G0 f))) else (some (none, am_G0, f)))) (fun k => rfl) ?_)
    refine am_Ew.ite h (fun _ h => ?_) (fun _ h => ?_)
    · refine am_Ew.ite h (fun _ h => ?_) (fun _ h => ?_)
      · refine am_Ew.chk h (fun h => ?_)
        exact am_Ew.run (lk_X8_saves_55  n _ _ _ _ h )
      · refine am_Ew.chk h (fun h => ?_)
        obtain ⟨v1, f1, h1, h⟩ := am_bI_some h
        refine am_Ew.run (am_Ev.call (fun n => rfl) (lk_X8_doesWait h1) ?_)
        refine am_Ew.start [55] 7 (am_Ew.conv (fun k => (if v1 = 0 then (am_chk (((3 : Int32) * x1) + x2) 183 (k 55 [some (.ref 91), some (.int x1), some (.int (x2 + 1))] [] am_G0 (am_wr f1 108 (((3 : Int32) * x1) + x2).toNatClampNeg ((f 108 (((3 : Int32) * (x1 - 1)) + x2).toNatClampNeg) + 0)))) else (am_chk (((3 : Int32) * x1) + x2) 183 (k 55 [some (.ref 91), some (.int x1), some (.int (x2 + 1))] [] am_G0 (am_wr f1 108 (((3 : Int32) * x1) + x2).toNatClampNeg ((f 108 (((3 : Int32) * (x1 - 1)) + x2).toNatClampNeg) + 1)))))) (fun k => rfl) ?_)
        refine am_Ew.ite h (fun _ h => ?_) (fun _ h => ?_)
        · refine am_Ew.chk h (fun h => ?_)
          exact am_Ew.run (lk_X8_saves_55  n _ _ _ _ h )
        · refine am_Ew.chk h (fun h => ?_)
          exact am_Ew.run (lk_X8_saves_55  n _ _ _ _ h )
    · exact am_Ew.retV h
set_option maxHeartbeats 400000 in
set_option maxRecDepth 100000 in
theorem lk_X8_saves_22 {X : am_X} : ∀ (n : Nat) (x1 x2 : Int32) (f : am_M) (f' : am_M), D_X8_saves_22 n x1 x2 f = some f' → am_Ev X 144 22 [some (.ref 91), some (.int x1), some (.int x2)] [] f none f'
  | 0, _, _, _, _, h => by cases h
  | n + 1, x1, x2, f, f', h => by
    rw [D_X8_saves_22] at h
    refine am_Ew.start [22, 55] 18 (am_Ew.conv (fun k => (if x2 < (f 91 3) then (am_chk x2 6 (am_chk (((6 : Int32) * x1) + x2) 366 (k 22 [some (.ref 91), some (.int x1), some (.int (x2 + 1))] [] am_G0 (am_wr f 107 (((6 : Int32) * x1) + x2).toNatClampNeg (f 111 x2.toNatClampNeg))))) else (k 55 [some (.ref 91), some (.int x1), some (.int 0)] [] am_G0 f))) (fun k => rfl) ?_)
    refine am_Ew.ite h (fun _ h => ?_) (fun _ h => ?_)
    · refine am_Ew.chk h (fun h => ?_)
      refine am_Ew.chk h (fun h => ?_)
      exact am_Ew.run (lk_X8_saves_22  n _ _ _ _ h )
    · exact am_Ew.run (lk_X8_saves_55 _ _ _ _ _ h )
set_option maxHeartbeats 400000 in
set_option maxRecDepth 100000 in
theorem lk_X8_saves {X : am_X} {a1 : Int32} {f f' : am_M} (h : D_X8_saves a1 f = some f') : am_Ev X 144 0 [some (.ref 91), some (.int a1), none] [] f none f' := by
  rw [D_X8_saves] at h
  refine am_Ew.start [22] 14 (am_Ew.conv (fun k => (am_chk a1 61 (am_chk a1 61 (k 22 [some (.ref 91), some (.int a1), some (.int 0)] [] am_G0 (am_wr (am_wr f 105 a1.toNatClampNeg (f 91 29)) 106 a1.toNatClampNeg (f 91 30)))))) (fun k => rfl) ?_)
  refine am_Ew.chk h (fun h => ?_)
  refine am_Ew.chk h (fun h => ?_)
  exact am_Ew.run (lk_X8_saves_22 _ _ _ _ _ h )
set_option maxHeartbeats 400000 in
set_option maxRecDepth 100000 in
theorem lk_X8_leastAt {X : am_X} {a1 : Int32} {f f' : am_M} {v' : Int32} (h : D_X8_leastAt a1 f = some (v', f')) : am_Ev X 147 0 [some (.ref 91), some (.int a1)] [] f (some (.int v')) f' := by
  rw [D_X8_leastAt] at h
  refine am_Ew.start [26] 10 (am_Ew.conv (fun k => (if (f 91 3) = 0 then (am_chk a1 61 (some (some (.int (f 105 a1.toNatClampNeg)), am_G0, f))) else (k 26 [some (.ref 91), some (.int a1)] [.int a1, .ref 91, .int ((6 : Int32) * a1), .ref 107] am_G0 f))) (fun k => rfl) ?_)
  refine am_Ew.ite h (fun _ h => ?_) (fun _ h => ?_)
  · refine am_Ew.chk h (fun h => ?_)
    exact am_Ew.retI h
  · obtain ⟨v1, f1, h1, h⟩ := am_bI_some h
    refine am_Ew.run (am_Ev.call (fun n => rfl) (lk_X8_slowAt h1) ?_)
    refine am_Ew.start [] 3 (am_Ew.conv (fun k => (am_chk (((6 : Int32) * a1) + v1) 366 (some (some (.int (f1 107 (((6 : Int32) * a1) + v1).toNatClampNeg)), am_G0, f1)))) (fun k => rfl) ?_)
    refine am_Ew.chk h (fun h => ?_)
    exact am_Ew.retI h
set_option maxHeartbeats 400000 in
set_option maxRecDepth 100000 in
theorem lk_X8_isTicks {X : am_X} {a0 : Int32} {f f' : am_M} {v' : Int32} (h : D_X8_isTicks a0 f = some (v', f')) : am_Ev X 148 0 [some (.int a0)] [] f (some (.int v')) f' := by
  rw [D_X8_isTicks] at h
  refine am_Ew.start [4] 3 (am_Ew.conv (fun k => (k 4 [some (.int a0)] [.int 60, .int 0, .int a0] am_G0 f)) (fun k => rfl) ?_)
  obtain ⟨v1, f1, h1, h⟩ := am_bI_some h
  refine am_Ew.run (am_Ev.call (fun n => rfl) (lk_X8_within h1) ?_)
  refine am_Ew.start [] 1 (am_Ew.conv (fun k => (if v1 = 0 ∨ v1 = 1 then some (some (.int v1), am_G0, f1) else none)) (fun k => rfl) ?_)
  exact am_Ew.ite h (fun _ h => am_Ew.retI h) (fun _ h => am_Ew.none h)
set_option maxHeartbeats 400000 in
set_option maxRecDepth 100000 in
theorem lk_X8_mostAlike_20 {X : am_X} {K : Int32 → Int32 → Int32 → Int32 → am_M → Option (Int32 × am_M)} (hK : ∀ (x1 x2 x3 x4 : Int32) (f : am_M) (v' : Int32) (f' : am_M), K x1 x2 x3 x4 f = some (v', f') → ∀ d5 d6 : Option Value, am_Ev X 157 5 [some (.ref 91), some (.int x1), some (.int x2), some (.int x3), some (.int x4), d5, d6] [] f (some (.int v')) f') : ∀ (n : Nat) (x1 x2 x3 x4 x5 x6 : Int32) (f : am_M) (v' : Int32) (f' : am_M), D_X8_mostAlike_20 K n x1 x2 x3 x4 x5 x6 f = some (v', f') → am_Ev X 157 20 [some (.ref 91), some (.int x1), some (.int x2), some (.int x3), some (.int x4), some (.int x5), some (.int x6)] [] f (some (.int v')) f'
  | 0, _, _, _, _, _, _, _, _, _, h => by cases h
  | n + 1, x1, x2, x3, x4, x5, x6, f, v', f', h => by
    rw [D_X8_mostAlike_20] at h
    refine am_Ew.start [5, 34] 12 (am_Ew.conv (fun k => (if x6 < (f 91 3) then (k 34 [some (.ref 91), some (.int x1), some (.int x2), some (.int x3), some (.int x4), some (.int x5), some (.int x6)] [.int x4, .int x1, .int x5] am_G0 f) else (if x3 < x5 then (k 5 [some (.ref 91), some (.int x1), some (.int x2), some (.int x5), some (.int (x4 + 1)), some (.int x5), some (.int x6)] [] am_G0 f) else (k 5 [some (.ref 91), some (.int x1), some (.int x2), some (.int x3), some (.int (x4 + 1)), some (.int x5), some (.int x6)] [] am_G0 f)))) (fun k => rfl) ?_)
    refine am_Ew.ite h (fun _ h => ?_) (fun _ h => ?_)
    · obtain ⟨v1, f1, h1, h⟩ := am_bI_some h
      refine am_Ew.run (am_Ev.call (fun n => rfl) (lk_X8_has h1) ?_)
      refine am_Ew.start [20, 43] 6 (am_Ew.conv (fun k => (if v1 = 0 then (k 20 [some (.ref 91), some (.int x1), some (.int x2), some (.int x3), some (.int x4), some (.int (x5 + 0)), some (.int (x6 + 1))] [] am_G0 f1) else (k 43 [some (.ref 91), some (.int x1), some (.int x2), some (.int x3), some (.int x4), some (.int x5), some (.int x6)] [.int x6, .int x1, .int x5] am_G0 f1))) (fun k => rfl) ?_)
      refine am_Ew.ite h (fun _ h => ?_) (fun _ h => ?_)
      · exact am_Ew.run (lk_X8_mostAlike_20 hK n _ _ _ _ _ _ _ _ _ h )
      · obtain ⟨v2, f2, h1, h⟩ := am_bI_some h
        refine am_Ew.run (am_Ev.call (fun n => rfl) (lk_X8_has h1) ?_)
        refine am_Ew.start [20] 24 (am_Ew.conv (fun k => (if v2 = 0 then (k 20 [some (.ref 91), some (.int x1), some (.int x2), some (.int x3), some (.int x4), some (.int (x5 + 0)), some (.int (x6 + 1))] [] am_G0 f2) else (am_chk (((6 : Int32) * x2) + x4) 366 (am_chk (((6 : Int32) * x2) + x6) 366 (if (f2 107 (((6 : Int32) * x2) + x4).toNatClampNeg) = (f2 107 (((6 : Int32) * x2) + x6).toNatClampNeg) then (k 20 [some (.ref 91), some (.int x1), some (.int x2), some (.int x3), some (.int x4), some (.int (x5 + 1)), some (.int (x6 + 1))] [] am_G0 f2) else (k 20 [some (.ref 91), some (.int x1), some (.int x2), some (.int x3), some (.int x4), some (.int (x5 + 0)), some (.int (x6 + 1))] [] am_G0 f2)))))) (fun k => rfl) ?_)
        refine am_Ew.ite h (fun _ h => ?_) (fun _ h => ?_)
        · exact am_Ew.run (lk_X8_mostAlike_20 hK n _ _ _ _ _ _ _ _ _ h )
        · refine am_Ew.chk h (fun h => ?_)
          refine am_Ew.chk h (fun h => ?_)
          refine am_Ew.ite h (fun _ h => ?_) (fun _ h => ?_)
          · exact am_Ew.run (lk_X8_mostAlike_20 hK n _ _ _ _ _ _ _ _ _ h )
          · exact am_Ew.run (lk_X8_mostAlike_20 hK n _ _ _ _ _ _ _ _ _ h )
    · refine am_Ew.ite h (fun _ h => ?_) (fun _ h => ?_)
      · exact am_Ew.run (hK _ _ _ _ _ _ _ h _ _ )
      · exact am_Ew.run (hK _ _ _ _ _ _ _ h _ _ )
set_option maxHeartbeats 400000 in
set_option maxRecDepth 100000 in
theorem lk_X8_mostAlike_5 {X : am_X} : ∀ (n : Nat) (x1 x2 x3 x4 : Int32) (f : am_M) (v' : Int32) (f' : am_M), D_X8_mostAlike_5 n x1 x2 x3 x4 f = some (v', f') → ∀ d5 d6 : Option Value, am_Ev X 157 5 [some (.ref 91), some (.int x1), some (.int x2), some (.int x3), some (.int x4), d5, d6] [] f (some (.int v')) f'
  | 0, _, _, _, _, _, _, _, h, _, _ => by cases h
  | n + 1, x1, x2, x3, x4, f, v', f', h, d5, d6 => by
    rw [D_X8_mostAlike_5] at h
    refine am_Ew.start [20] 8 (am_Ew.conv (fun k => (if x4 < (f 91 3) then (k 20 [some (.ref 91), some (.int x1), some (.int x2), some (.int x3), some (.int x4), some (.int 0), some (.int 0)] [] am_G0 f) else (some (some (.int x3), am_G0, f)))) (fun k => rfl) ?_)
    refine am_Ew.ite h (fun _ h => ?_) (fun _ h => ?_)
    · exact am_Ew.run (lk_X8_mostAlike_20 (fun y1 y2 y3 y4 f9 v9 f8 h9 e0 e1 => lk_X8_mostAlike_5 n y1 y2 y3 y4 f9 v9 f8 h9 e0 e1) _ _ _ _ _ _ _ _ _ _ h )
    · exact am_Ew.retI h
set_option maxHeartbeats 400000 in
set_option maxRecDepth 100000 in
theorem lk_X8_mostAlike {X : am_X} {a1 a2 : Int32} {f f' : am_M} {v' : Int32} (h : D_X8_mostAlike a1 a2 f = some (v', f')) : am_Ev X 157 0 [some (.ref 91), some (.int a1), some (.int a2), none, none, none, none] [] f (some (.int v')) f' := by
  rw [D_X8_mostAlike] at h
  refine am_Ew.start [5] 4 (am_Ew.conv (fun k => (k 5 [some (.ref 91), some (.int a1), some (.int a2), some (.int 0), some (.int 0), none, none] [] am_G0 f)) (fun k => rfl) ?_)
  exact am_Ew.run (lk_X8_mostAlike_5 _ _ _ _ _ _ _ _ h _ _ )
set_option maxHeartbeats 400000 in
set_option maxRecDepth 100000 in
theorem lk_X8_keep_13 {X : am_X} : ∀ (n : Nat) (x1 x2 : Int32) (f : am_M) (v' : Int32) (f' : am_M), D_X8_keep_13 n x1 x2 f = some (v', f') → am_Ev X 159 13 [some (.ref 91), some (.int x1), some (.int x2)] [] f (some (.int v')) f'
  | 0, _, _, _, _, _, h => by cases h
  | n + 1, x1, x2, f, v', f', h => by
    rw [D_X8_keep_13] at h
    refine am_Ew.start [37] 14 (am_Ew.conv (fun k => (if x2 < (am_int 1026) then (am_chk x2 1026 (k 37 [some (.ref 91), some (.int x1), some (.int x2)] [.int (f 95 x2.toNatClampNeg), .int ((((am_int 1026) : Int32) * x1) + x2), .ref 97] am_G0 f)) else (am_chk x1 2 (some (some (.int (f 95 0)), am_G0, (am_wr f 98 x1.toNatClampNeg 1)))))) (fun k => rfl) ?_)
    refine am_Ew.ite h (fun _ h => ?_) (fun _ h => ?_)
    · refine am_Ew.chk h (fun h => ?_)
      refine am_Ew.run (?_)
      refine am_Ew.start [13] 3 (am_Ew.conv (fun k => (am_chk ((((am_int 1026) : Int32) * x1) + x2) 2052 (k 13 [some (.ref 91), some (.int x1), some (.int (x2 + 1))] [] am_G0 (am_wr f 97 ((((am_int 1026) : Int32) * x1) + x2).toNatClampNeg (f 95 x2.toNatClampNeg))))) (fun k => rfl) ?_)
      refine am_Ew.chk h (fun h => ?_)
      exact am_Ew.run (lk_X8_keep_13  n _ _ _ _ _ h )
    · refine am_Ew.chk h (fun h => ?_)
      exact am_Ew.retI h
set_option maxHeartbeats 400000 in
set_option maxRecDepth 100000 in
theorem lk_X8_keep {X : am_X} {a1 : Int32} {f f' : am_M} {v' : Int32} (h : D_X8_keep a1 f = some (v', f')) : am_Ev X 159 0 [some (.ref 91), some (.int a1), none] [] f (some (.int v')) f' := by
  rw [D_X8_keep] at h
  refine am_Ew.start [3] 3 (am_Ew.conv (fun k => (k 3 [some (.ref 91), some (.int a1), none] [.int 1, .int 0, .int a1] am_G0 f)) (fun k => rfl) ?_)
  obtain ⟨v1, f1, h1, h⟩ := am_bI_some h
  refine am_Ew.run (am_Ev.call (fun n => rfl) (lk_X8_within h1) ?_)
  refine am_Ew.start [13] 3 (am_Ew.conv (fun k => (if v1 = 0 then (some (some (.int (-1)), am_G0, f1)) else (k 13 [some (.ref 91), some (.int a1), some (.int 0)] [] am_G0 f1))) (fun k => rfl) ?_)
  refine am_Ew.ite h (fun _ h => ?_) (fun _ h => ?_)
  · exact am_Ew.retI h
  · exact am_Ew.run (lk_X8_keep_13 _ _ _ _ _ _ h )
set_option maxHeartbeats 400000 in
set_option maxRecDepth 100000 in
theorem lk_X8_back_25 {X : am_X} : ∀ (n : Nat) (x1 x2 : Int32) (f : am_M) (v' : Int32) (f' : am_M), D_X8_back_25 n x1 x2 f = some (v', f') → am_Ev X 160 25 [some (.ref 91), some (.int x1), some (.int x2)] [] f (some (.int v')) f'
  | 0, _, _, _, _, _, h => by cases h
  | n + 1, x1, x2, f, v', f', h => by
    rw [D_X8_back_25] at h
    refine am_Ew.start [48] 13 (am_Ew.conv (fun k => (if x2 < (am_int 1026) then (k 48 [some (.ref 91), some (.int x1), some (.int x2)] [.int ((((am_int 1026) : Int32) * x1) + x2), .ref 97, .int x2, .ref 95] am_G0 f) else (some (some (.int (f 95 0)), am_G0, (am_wr f 91 8 0))))) (fun k => rfl) ?_)
    refine am_Ew.ite h (fun _ h => ?_) (fun _ h => ?_)
    · refine am_Ew.run (?_)
      refine am_Ew.start [25] 4 (am_Ew.conv (fun k => (am_chk ((((am_int 1026) : Int32) * x1) + x2) 2052 (am_chk x2 1026 (k 25 [some (.ref 91), some (.int x1), some (.int (x2 + 1))] [] am_G0 (am_wr f 95 x2.toNatClampNeg (f 97 ((((am_int 1026) : Int32) * x1) + x2).toNatClampNeg)))))) (fun k => rfl) ?_)
      refine am_Ew.chk h (fun h => ?_)
      refine am_Ew.chk h (fun h => ?_)
      exact am_Ew.run (lk_X8_back_25  n _ _ _ _ _ h )
    · exact am_Ew.retI h
set_option maxHeartbeats 400000 in
set_option maxRecDepth 100000 in
theorem lk_X8_back {X : am_X} {a1 : Int32} {f f' : am_M} {v' : Int32} (h : D_X8_back a1 f = some (v', f')) : am_Ev X 160 0 [some (.ref 91), some (.int a1), none] [] f (some (.int v')) f' := by
  rw [D_X8_back] at h
  refine am_Ew.start [3] 3 (am_Ew.conv (fun k => (k 3 [some (.ref 91), some (.int a1), none] [.int 1, .int 0, .int a1] am_G0 f)) (fun k => rfl) ?_)
  obtain ⟨v1, f1, h1, h⟩ := am_bI_some h
  refine am_Ew.run (am_Ev.call (fun n => rfl) (lk_X8_within h1) ?_)
  refine am_Ew.start [25] 8 (am_Ew.conv (fun k => (if v1 = 0 then (some (some (.int (-1)), am_G0, f1)) else (am_chk a1 2 (if (f1 98 a1.toNatClampNeg) = 0 then (some (some (.int (-2)), am_G0, f1)) else (k 25 [some (.ref 91), some (.int a1), some (.int 0)] [] am_G0 f1))))) (fun k => rfl) ?_)
  refine am_Ew.ite h (fun _ h => ?_) (fun _ h => ?_)
  · exact am_Ew.retI h
  · refine am_Ew.chk h (fun h => ?_)
    refine am_Ew.ite h (fun _ h => ?_) (fun _ h => ?_)
    · exact am_Ew.retI h
    · exact am_Ew.run (lk_X8_back_25 _ _ _ _ _ _ h )
end
section
set_option maxHeartbeats 400000 in
set_option maxRecDepth 100000 in
theorem lk_X8_passesEnd {X : am_X} {f f' : am_M} {v' : Int32} (h : D_X8_passesEnd f = some (v', f')) : am_Ev X 95 0 [some (.ref 91), none] [] f (some (.int v')) f' := by
  rw [D_X8_passesEnd] at h
  refine am_Ew.start [1] 1 (am_Ew.conv (fun k => (k 1 [some (.ref 91), none] [.ref 91] am_G0 f)) (fun k => rfl) ?_)
  obtain ⟨f1, h1, h⟩ := am_bV_some h
  refine am_Ew.run (am_Ev.call (fun n => rfl) (lk_X8_skips h1) ?_)
  refine am_Ew.start [9] 3 (am_Ew.conv (fun k => (k 9 [some (.ref 91), none] [.int 59, .int 59, .ref 91] am_G0 f1)) (fun k => rfl) ?_)
  obtain ⟨v2, f2, h1, h⟩ := am_bI_some h
  refine am_Ew.run (am_Ev.call (fun n => rfl) (lk_X8_isAt h1) ?_)
  refine am_Ew.start [] 12 (am_Ew.conv (fun k => (if v2 = 0 then (if v2 = 0 ∨ v2 = 1 then some (some (.int v2), am_G0, (am_wr f2 91 16 ((f2 91 16) + 0))) else none) else (if v2 = 0 ∨ v2 = 1 then some (some (.int v2), am_G0, (am_wr f2 91 16 ((f2 91 16) + 1))) else none))) (fun k => rfl) ?_)
  refine am_Ew.ite h (fun _ h => ?_) (fun _ h => ?_)
  · exact am_Ew.ite h (fun _ h => am_Ew.retI h) (fun _ h => am_Ew.none h)
  · exact am_Ew.ite h (fun _ h => am_Ew.retI h) (fun _ h => am_Ew.none h)
set_option maxHeartbeats 400000 in
set_option maxRecDepth 100000 in
theorem lk_X8_number_9 {X : am_X} : ∀ (n : Nat) (x1 x2 x3 x4 : Int32) (f : am_M) (v' : Int32) (f' : am_M), D_X8_number_9 n x1 x2 x3 x4 f = some (v', f') → ∀ d5 : Option Value, am_Ev X 96 9 [some (.ref 91), some (.int x1), some (.int x2), some (.int x3), some (.int x4), d5] [] f (some (.int v')) f'
  | 0, _, _, _, _, _, _, _, h, _ => by cases h
  | n + 1, x1, x2, x3, x4, f, v', f', h, d5 => by
    rw [D_X8_number_9] at h
    refine am_Ew.start [14] 3 (am_Ew.conv (fun k => (k 14 [some (.ref 91), some (.int x1), some (.int x2), some (.int x3), some (.int x4), d5] [.int 57, .int 48, .ref 91] am_G0 f)) (fun k => rfl) ?_)
    obtain ⟨v2, f2, h1, h⟩ := am_bI_some h
    refine am_Ew.run (am_Ev.call (fun n => rfl) (lk_X8_isAt h1) ?_)
    refine am_Ew.start [9, 99] 24 (am_Ew.conv (fun k => (if v2 = 0 then (if 0 < x4 then (if 99 < x3 then (some (some (.int (-1)), am_G0, f2)) else (if x4 = 1 then (k 99 [some (.ref 91), some (.int x1), some (.int x2), some (.int x3), some (.int x4), d5] [.int x2, .int x1, .int x3] am_G0 f2) else (am_chk (f2 91 17) 120 (if (f2 101 (f2 91 17).toNatClampNeg) = 48 then (some (some (.int (-1)), am_G0, f2)) else (k 99 [some (.ref 91), some (.int x1), some (.int x2), some (.int x3), some (.int x4), d5] [.int x2, .int x1, .int x3] am_G0 f2))))) else (some (some (.int (-1)), am_G0, f2))) else (if 99 < x3 then (k 9 [some (.ref 91), some (.int x1), some (.int x2), some (.int 100), some (.int (x4 + 1)), d5] [] am_G0 (am_wr f2 91 16 ((f2 91 16) + 1))) else (am_chk (f2 91 16) 120 (k 9 [some (.ref 91), some (.int x1), some (.int x2), some (.int ((((10 : Int32) * x3) + (f2 101 (f2 91 16).toNatClampNeg)) - 48)), some (.int (x4 + 1)), d5] [] am_G0 (am_wr f2 91 16 ((f2 91 16) + 1))))))) (fun k => rfl) ?_)
    refine am_Ew.ite h (fun _ h => ?_) (fun _ h => ?_)
    · refine am_Ew.ite h (fun _ h => ?_) (fun _ h => ?_)
      · refine am_Ew.ite h (fun _ h => ?_) (fun _ h => ?_)
        · exact am_Ew.retI h
        · refine am_Ew.ite h (fun _ h => ?_) (fun _ h => ?_)
          · obtain ⟨v3, f3, h1, h⟩ := am_bI_some h
            refine am_Ew.run (am_Ev.call (fun n => rfl) (lk_X8_within h1) ?_)
            refine am_Ew.start [] 9 (am_Ew.conv (fun k => (if v3 = 0 then (some (some (.int (-1)), am_G0, f3)) else (some (some (.int x3), am_G0, f3)))) (fun k => rfl) ?_)
            refine am_Ew.ite h (fun _ h => ?_) (fun _ h => ?_)
            · exact am_Ew.retI h
            · exact am_Ew.retI h
          · refine am_Ew.chk h (fun h => ?_)
            refine am_Ew.ite h (fun _ h => ?_) (fun _ h => ?_)
            · exact am_Ew.retI h
            · obtain ⟨v4, f4, h1, h⟩ := am_bI_some h
              refine am_Ew.run (am_Ev.call (fun n => rfl) (lk_X8_within h1) ?_)
              refine am_Ew.start [] 9 (am_Ew.conv (fun k => (if v4 = 0 then (some (some (.int (-1)), am_G0, f4)) else (some (some (.int x3), am_G0, f4)))) (fun k => rfl) ?_)
              refine am_Ew.ite h (fun _ h => ?_) (fun _ h => ?_)
              · exact am_Ew.retI h
              · exact am_Ew.retI h
      · exact am_Ew.retI h
    · refine am_Ew.ite h (fun _ h => ?_) (fun _ h => ?_)
      · exact am_Ew.run (lk_X8_number_9  n _ _ _ _ _ _ _ h _ )
      · refine am_Ew.chk h (fun h => ?_)
        exact am_Ew.run (lk_X8_number_9  n _ _ _ _ _ _ _ h _ )
set_option maxHeartbeats 400000 in
set_option maxRecDepth 100000 in
theorem lk_X8_number {X : am_X} {a1 a2 : Int32} {f f' : am_M} {v' : Int32} (h : D_X8_number a1 a2 f = some (v', f')) : am_Ev X 96 0 [some (.ref 91), some (.int a1), some (.int a2), none, none, none] [] f (some (.int v')) f' := by
  rw [D_X8_number] at h
  refine am_Ew.start [1] 1 (am_Ew.conv (fun k => (k 1 [some (.ref 91), some (.int a1), some (.int a2), none, none, none] [.ref 91] am_G0 f)) (fun k => rfl) ?_)
  obtain ⟨f1, h1, h⟩ := am_bV_some h
  refine am_Ew.run (am_Ev.call (fun n => rfl) (lk_X8_skips h1) ?_)
  refine am_Ew.start [9] 4 (am_Ew.conv (fun k => (k 9 [some (.ref 91), some (.int a1), some (.int a2), some (.int 0), some (.int 0), none] [] am_G0 f1)) (fun k => rfl) ?_)
  exact am_Ew.run (lk_X8_number_9 _ _ _ _ _ _ _ _ h _ )
set_option maxHeartbeats 400000 in
set_option maxRecDepth 100000 in
theorem lk_X8_wordPassed_4 {X : am_X} : ∀ (n : Nat) (f : am_M) (v' : Int32) (f' : am_M), D_X8_wordPassed_4 n  f = some (v', f') → am_Ev X 98 4 [some (.ref 91)] [] f (some (.int v')) f'
  | 0, _, _, _, h => by cases h
  | n + 1, f, v', f', h => by
    rw [D_X8_wordPassed_4] at h
    refine am_Ew.start [9] 3 (am_Ew.conv (fun k => (k 9 [some (.ref 91)] [.int 122, .int 97, .ref 91] am_G0 f)) (fun k => rfl) ?_)
    obtain ⟨v2, f2, h1, h⟩ := am_bI_some h
    refine am_Ew.run (am_Ev.call (fun n => rfl) (lk_X8_isAt h1) ?_)
    refine am_Ew.start [4, 39] 8 (am_Ew.conv (fun k => (if v2 = 0 then (k 39 [some (.ref 91)] [.int 115, .int 116, .int 111, .int 108, .int 115, .ref 91] am_G0 f2) else (k 4 [some (.ref 91)] [] am_G0 (am_wr f2 91 16 ((f2 91 16) + 1))))) (fun k => rfl) ?_)
    refine am_Ew.ite h (fun _ h => ?_) (fun _ h => ?_)
    · obtain ⟨v3, f3, h1, h⟩ := am_bI_some h
      refine am_Ew.run (am_Ev.call (fun n => rfl) (lk_X8_spells h1) ?_)
      refine am_Ew.start [70] 7 (am_Ew.conv (fun k => (if v3 = 0 then (k 70 [some (.ref 91)] [.int 114, .int 101, .int 107, .int 97, .int 109, .ref 91] am_G0 f3) else (if (f3 91 18) = 0 then (some (some (.int 0), am_G0, f3)) else (some (some (.int (-9)), am_G0, f3))))) (fun k => rfl) ?_)
      refine am_Ew.ite h (fun _ h => ?_) (fun _ h => ?_)
      · obtain ⟨v4, f4, h1, h⟩ := am_bI_some h
        refine am_Ew.run (am_Ev.call (fun n => rfl) (lk_X8_spells h1) ?_)
        refine am_Ew.start [102] 8 (am_Ew.conv (fun k => (if v4 = 0 then (k 102 [some (.ref 91)] [.int 114, .int 101, .int 107, .int 97, .int 116, .ref 91] am_G0 f4) else (if (f4 91 20) < 3 then (some (some (.int 1), am_G0, f4)) else (some (some (.int (-9)), am_G0, f4))))) (fun k => rfl) ?_)
        refine am_Ew.ite h (fun _ h => ?_) (fun _ h => ?_)
        · obtain ⟨v5, f5, h1, h⟩ := am_bI_some h
          refine am_Ew.run (am_Ev.call (fun n => rfl) (lk_X8_spells h1) ?_)
          refine am_Ew.start [] 8 (am_Ew.conv (fun k => (if v5 = 0 then (some (some (.int (-9)), am_G0, f5)) else (if (f5 91 21) < 6 then (some (some (.int 2), am_G0, f5)) else (some (some (.int (-9)), am_G0, f5))))) (fun k => rfl) ?_)
          refine am_Ew.ite h (fun _ h => ?_) (fun _ h => ?_)
          · exact am_Ew.retI h
          · refine am_Ew.ite h (fun _ h => ?_) (fun _ h => ?_)
            · exact am_Ew.retI h
            · exact am_Ew.retI h
        · refine am_Ew.ite h (fun _ h => ?_) (fun _ h => ?_)
          · exact am_Ew.retI h
          · exact am_Ew.retI h
      · refine am_Ew.ite h (fun _ h => ?_) (fun _ h => ?_)
        · exact am_Ew.retI h
        · exact am_Ew.retI h
    · exact am_Ew.run (lk_X8_wordPassed_4  n _ _ _ h )
set_option maxHeartbeats 400000 in
set_option maxRecDepth 100000 in
theorem lk_X8_wordPassed {X : am_X} {f f' : am_M} {v' : Int32} (h : D_X8_wordPassed f = some (v', f')) : am_Ev X 98 0 [some (.ref 91)] [] f (some (.int v')) f' := by
  rw [D_X8_wordPassed] at h
  refine am_Ew.start [1] 1 (am_Ew.conv (fun k => (k 1 [some (.ref 91)] [.ref 91] am_G0 f)) (fun k => rfl) ?_)
  obtain ⟨f1, h1, h⟩ := am_bV_some h
  refine am_Ew.run (am_Ev.call (fun n => rfl) (lk_X8_skips h1) ?_)
  exact (lk_X8_wordPassed_4 _ _ _ _ h )
set_option maxHeartbeats 400000 in
set_option maxRecDepth 100000 in
theorem lk_X8_atMost_20 {X : am_X} : ∀ (n : Nat) (x1 x2 x3 : Int32) (f : am_M) (v' : Int32) (f' : am_M), D_X8_atMost_20 n x1 x2 x3 f = some (v', f') → am_Ev X 113 20 [some (.ref 91), some (.int x1), some (.int x2), some (.int x3)] [] f (some (.int v')) f'
  | 0, _, _, _, _, _, _, h => by cases h
  | n + 1, x1, x2, x3, f, v', f', h => by
    rw [D_X8_atMost_20] at h
    refine am_Ew.start [35] 9 (am_Ew.conv (fun k => (if x3 < (f 91 3) then (am_chk x1 6 (k 35 [some (.ref 91), some (.int x1), some (.int x2), some (.int x3)] [.int x3, .int (f 94 x1.toNatClampNeg)] am_G0 f)) else (some (some (.int x2), am_G0, f)))) (fun k => rfl) ?_)
    refine am_Ew.ite h (fun _ h => ?_) (fun _ h => ?_)
    · refine am_Ew.chk h (fun h => ?_)
      obtain ⟨v2, f2, h1, h⟩ := am_bI_some h
      refine am_Ew.run (am_Ev.call (fun n => rfl) (lk_X8_has h1) ?_)
      refine am_Ew.start [20] 19 (am_Ew.conv (fun k => (if v2 = 0 then (k 20 [some (.ref 91), some (.int x1), some (.int x2), some (.int (x3 + 1))] [] am_G0 f2) else (am_chk ((1 : Int32) + x3) 1026 (if (f2 95 ((1 : Int32) + x3).toNatClampNeg) < x2 then (am_chk ((1 : Int32) + x3) 1026 (k 20 [some (.ref 91), some (.int x1), some (.int (f2 95 ((1 : Int32) + x3).toNatClampNeg)), some (.int (x3 + 1))] [] am_G0 f2)) else (k 20 [some (.ref 91), some (.int x1), some (.int x2), some (.int (x3 + 1))] [] am_G0 f2))))) (fun k => rfl) ?_)
      refine am_Ew.ite h (fun _ h => ?_) (fun _ h => ?_)
      · exact am_Ew.run (lk_X8_atMost_20  n _ _ _ _ _ _ h )
      · refine am_Ew.chk h (fun h => ?_)
        refine am_Ew.ite h (fun _ h => ?_) (fun _ h => ?_)
        · refine am_Ew.chk h (fun h => ?_)
          exact am_Ew.run (lk_X8_atMost_20  n _ _ _ _ _ _ h )
        · exact am_Ew.run (lk_X8_atMost_20  n _ _ _ _ _ _ h )
    · exact am_Ew.retI h
set_option maxHeartbeats 400000 in
set_option maxRecDepth 100000 in
theorem lk_X8_atMost {X : am_X} {a1 : Int32} {f f' : am_M} {v' : Int32} (h : D_X8_atMost a1 f = some (v', f')) : am_Ev X 113 0 [some (.ref 91), some (.int a1), none, none] [] f (some (.int v')) f' := by
  rw [D_X8_atMost] at h
  refine am_Ew.start [10, 20] 9 (am_Ew.conv (fun k => (am_chk a1 6 (if (f 94 a1.toNatClampNeg) = 0 then (k 10 [some (.ref 91), some (.int a1), none, none] [.ref 91] am_G0 f) else (k 20 [some (.ref 91), some (.int a1), some (.int (am_int 1000)), some (.int 0)] [] am_G0 f)))) (fun k => rfl) ?_)
  refine am_Ew.chk h (fun h => ?_)
  refine am_Ew.ite h (fun _ h => ?_) (fun _ h => ?_)
  · obtain ⟨v1, f1, h1, h⟩ := am_bI_some h
    refine am_Ew.run (am_Ev.call (fun n => rfl) (lk_X8_cursor h1) ?_)
    refine am_Ew.start [] 1 (am_Ew.conv (fun k => (some (some (.int v1), am_G0, f1))) (fun k => rfl) ?_)
    exact am_Ew.retI h
  · exact am_Ew.run (lk_X8_atMost_20 _ _ _ _ _ _ _ h )
set_option maxHeartbeats 400000 in
set_option maxRecDepth 100000 in
theorem lk_X8_lets_0 {X : am_X} : ∀ (n : Nat) (f : am_M) (f' : am_M), D_X8_lets_0 n  f = some f' → am_Ev X 117 0 [some (.ref 91)] [] f none f'
  | 0, _, _, h => by cases h
  | n + 1, f, f', h => by
    rw [D_X8_lets_0] at h
    refine am_Ew.start [18] 10 (am_Ew.conv (fun k => (if 0 < (f 95 19) then (k 18 [some (.ref 91)] [.ref 91, .int (f 95 23)] am_G0 f) else (some (none, am_G0, f)))) (fun k => rfl) ?_)
    refine am_Ew.ite h (fun _ h => ?_) (fun _ h => ?_)
    · obtain ⟨v1, f1, h1, h⟩ := am_bI_some h
      refine am_Ew.run (am_Ev.call (fun n => rfl) (lk_X8_room h1) ?_)
      refine am_Ew.start [39] 10 (am_Ew.conv (fun k => (if v1 < (f 95 23) then (some (none, am_G0, f1)) else (k 39 [some (.ref 91)] [.int (f1 95 23), .int (f1 95 20), .ref 91] am_G0 f1))) (fun k => rfl) ?_)
      refine am_Ew.ite h (fun _ h => ?_) (fun _ h => ?_)
      · exact am_Ew.retV h
      · obtain ⟨f2, h1, h⟩ := am_bV_some h
        refine am_Ew.run (am_Ev.call (fun n => rfl) (lk_X8_claimsNow h1) ?_)
        refine am_Ew.start [44] 2 (am_Ew.conv (fun k => (k 44 [some (.ref 91)] [.int 0, .ref 91] am_G0 f2)) (fun k => rfl) ?_)
        obtain ⟨f3, h1, h⟩ := am_bV_some h
        refine am_Ew.run (am_Ev.call (fun n => rfl) (lk_X8_leavesRow h1) ?_)
        refine am_Ew.start [0] 1 (am_Ew.conv (fun k => (k 0 [some (.ref 91)] [] am_G0 f3)) (fun k => rfl) ?_)
        exact am_Ew.run (lk_X8_lets_0  n _ _ h )
    · exact am_Ew.retV h
set_option maxHeartbeats 400000 in
set_option maxRecDepth 100000 in
theorem lk_X8_lets {X : am_X} {f f' : am_M} (h : D_X8_lets f = some f') : am_Ev X 117 0 [some (.ref 91)] [] f none f' := by
  rw [D_X8_lets] at h
  exact (lk_X8_lets_0 _ _ _ h )
set_option maxHeartbeats 400000 in
set_option maxRecDepth 100000 in
theorem lk_X8_claims {X : am_X} {a1 a2 : Int32} {f f' : am_M} {v' : Int32} (h : D_X8_claims a1 a2 f = some (v', f')) : am_Ev X 120 0 [some (.ref 91), some (.int a1), some (.int a2), none] [] f (some (.int v')) f' := by
  rw [D_X8_claims] at h
  refine am_Ew.start [2] 2 (am_Ew.conv (fun k => (k 2 [some (.ref 91), some (.int a1), some (.int a2), none] [.int a1, .ref 91] am_G0 f)) (fun k => rfl) ?_)
  obtain ⟨v1, f1, h1, h⟩ := am_bI_some h
  refine am_Ew.run (am_Ev.call (fun n => rfl) (lk_X8_isMaker h1) ?_)
  refine am_Ew.start [12] 4 (am_Ew.conv (fun k => (if v1 = 0 then (some (some (.int (-1)), am_G0, f1)) else (k 12 [some (.ref 91), some (.int a1), some (.int a2), none] [.int 9, .int 1, .int a2] am_G0 f1))) (fun k => rfl) ?_)
  refine am_Ew.ite h (fun _ h => ?_) (fun _ h => ?_)
  · exact am_Ew.retI h
  · obtain ⟨v2, f2, h1, h⟩ := am_bI_some h
    refine am_Ew.run (am_Ev.call (fun n => rfl) (lk_X8_within h1) ?_)
    refine am_Ew.start [22] 3 (am_Ew.conv (fun k => (if v2 = 0 then (some (some (.int (-1)), am_G0, f2)) else (k 22 [some (.ref 91), some (.int a1), some (.int a2), none] [.int a1, .ref 91] am_G0 f2))) (fun k => rfl) ?_)
    refine am_Ew.ite h (fun _ h => ?_) (fun _ h => ?_)
    · exact am_Ew.retI h
    · obtain ⟨v3, f3, h1, h⟩ := am_bI_some h
      refine am_Ew.run (am_Ev.call (fun n => rfl) (lk_X8_placeOf h1) ?_)
      refine am_Ew.start [40] 7 (am_Ew.conv (fun k => (if v3 = (-9) then (k 40 [some (.ref 91), some (.int a1), some (.int a2), none] [.ref 91, .int (f3 95 0)] am_G0 f3) else (some (some (.int (-2)), am_G0, f3)))) (fun k => rfl) ?_)
      refine am_Ew.ite h (fun _ h => ?_) (fun _ h => ?_)
      · obtain ⟨v4, f4, h1, h⟩ := am_bI_some h
        refine am_Ew.run (am_Ev.call (fun n => rfl) (lk_X8_wanted h1) ?_)
        refine am_Ew.start [56] 7 (am_Ew.conv (fun k => (if (am_int 999) < (((f3 95 0) + v4) + a2) then (some (some (.int (-3)), am_G0, f4)) else (k 56 [some (.ref 91), some (.int a1), some (.int a2), none] [.ref 91] am_G0 f4))) (fun k => rfl) ?_)
        refine am_Ew.ite h (fun _ h => ?_) (fun _ h => ?_)
        · exact am_Ew.retI h
        · obtain ⟨f5, h1, h⟩ := am_bV_some h
          refine am_Ew.run (am_Ev.call (fun n => rfl) (lk_X8_keeps h1) ?_)
          refine am_Ew.start [71] 35 (am_Ew.conv (fun k => (if (f5 95 19) = 0 then (k 71 [some (.ref 91), some (.int a1), some (.int a2), none] [.ref 91, .int a2] am_G0 f5) else (am_chk ((20 : Int32) + (f5 95 19)) 1026 (am_chk ((23 : Int32) + ((am_wr f5 95 ((20 : Int32) + (f5 95 19)).toNatClampNeg a1) 95 19)) 1026 (some (some (.int (-9)), am_G0, (am_wr (am_wr (am_wr f5 95 ((20 : Int32) + (f5 95 19)).toNatClampNeg a1) 95 ((23 : Int32) + ((am_wr f5 95 ((20 : Int32) + (f5 95 19)).toNatClampNeg a1) 95 19)).toNatClampNeg a2) 95 19 (((am_wr (am_wr f5 95 ((20 : Int32) + (f5 95 19)).toNatClampNeg a1) 95 ((23 : Int32) + ((am_wr f5 95 ((20 : Int32) + (f5 95 19)).toNatClampNeg a1) 95 19)).toNatClampNeg a2) 95 19) + 1)))))))) (fun k => rfl) ?_)
          refine am_Ew.ite h (fun _ h => ?_) (fun _ h => ?_)
          · obtain ⟨v6, f6, h1, h⟩ := am_bI_some h
            refine am_Ew.run (am_Ev.call (fun n => rfl) (lk_X8_room h1) ?_)
            refine am_Ew.start [87] 31 (am_Ew.conv (fun k => (if v6 < a2 then (am_chk ((20 : Int32) + (f6 95 19)) 1026 (am_chk ((23 : Int32) + ((am_wr f6 95 ((20 : Int32) + (f6 95 19)).toNatClampNeg a1) 95 19)) 1026 (some (some (.int (-9)), am_G0, (am_wr (am_wr (am_wr f6 95 ((20 : Int32) + (f6 95 19)).toNatClampNeg a1) 95 ((23 : Int32) + ((am_wr f6 95 ((20 : Int32) + (f6 95 19)).toNatClampNeg a1) 95 19)).toNatClampNeg a2) 95 19 (((am_wr (am_wr f6 95 ((20 : Int32) + (f6 95 19)).toNatClampNeg a1) 95 ((23 : Int32) + ((am_wr f6 95 ((20 : Int32) + (f6 95 19)).toNatClampNeg a1) 95 19)).toNatClampNeg a2) 95 19) + 1)))))) else (k 87 [some (.ref 91), some (.int a1), some (.int a2), some (.int (f6 95 0))] [.int a2, .int a1, .ref 91] am_G0 f6))) (fun k => rfl) ?_)
            refine am_Ew.ite h (fun _ h => ?_) (fun _ h => ?_)
            · refine am_Ew.chk h (fun h => ?_)
              refine am_Ew.chk h (fun h => ?_)
              exact am_Ew.retI h
            · obtain ⟨f7, h1, h⟩ := am_bV_some h
              refine am_Ew.run (am_Ev.call (fun n => rfl) (lk_X8_claimsNow h1) ?_)
              refine am_Ew.start [] 2 (am_Ew.conv (fun k => (some (some (.int (f6 95 0)), am_G0, f7))) (fun k => rfl) ?_)
              exact am_Ew.retI h
          · refine am_Ew.chk h (fun h => ?_)
            refine am_Ew.chk h (fun h => ?_)
            exact am_Ew.retI h
      · exact am_Ew.retI h
set_option maxHeartbeats 400000 in
set_option maxRecDepth 100000 in
theorem lk_X8_becomes {X : am_X} {a1 a2 a3 : Int32} {f f' : am_M} {v' : Int32} (h : D_X8_becomes a1 a2 a3 f = some (v', f')) : am_Ev X 121 0 [some (.ref 91), some (.int a1), some (.int a2), some (.int a3)] [] f (some (.int v')) f' := by
  rw [D_X8_becomes] at h
  refine am_Ew.start [2] 2 (am_Ew.conv (fun k => (k 2 [some (.ref 91), some (.int a1), some (.int a2), some (.int a3)] [.int a1, .ref 91] am_G0 f)) (fun k => rfl) ?_)
  obtain ⟨v1, f1, h1, h⟩ := am_bI_some h
  refine am_Ew.run (am_Ev.call (fun n => rfl) (lk_X8_kindOf h1) ?_)
  refine am_Ew.start [12] 3 (am_Ew.conv (fun k => (if v1 = 0 then (k 12 [some (.ref 91), some (.int a1), some (.int a2), some (.int a3)] [.ref 91] am_G0 f1) else (some (some (.int (-2)), am_G0, f1)))) (fun k => rfl) ?_)
  refine am_Ew.ite h (fun _ h => ?_) (fun _ h => ?_)
  · obtain ⟨f2, h1, h⟩ := am_bV_some h
    refine am_Ew.run (am_Ev.call (fun n => rfl) (lk_X8_keeps h1) ?_)
    refine am_Ew.start [34] 15 (am_Ew.conv (fun k => (am_chk ((26 : Int32) + a1) 1026 (am_chk ((26 : Int32) + a1) 1026 (k 34 [some (.ref 91), some (.int a1), some (.int a2), some (.int a3)] [.ref 91] am_G0 (am_wr f2 95 ((26 : Int32) + a1).toNatClampNeg ((f2 95 ((26 : Int32) + a1).toNatClampNeg) + (a2 + ((16 : Int32) * a3)))))))) (fun k => rfl) ?_)
    refine am_Ew.chk h (fun h => ?_)
    refine am_Ew.chk h (fun h => ?_)
    obtain ⟨v3, f3, h1, h⟩ := am_bI_some h
    refine am_Ew.run (am_Ev.call (fun n => rfl) (lk_X8_cursor h1) ?_)
    refine am_Ew.start [] 1 (am_Ew.conv (fun k => (some (some (.int v3), am_G0, f3))) (fun k => rfl) ?_)
    exact am_Ew.retI h
  · exact am_Ew.retI h
set_option maxHeartbeats 400000 in
set_option maxRecDepth 100000 in
theorem lk_X8_event {X : am_X} {a1 a2 : Int32} {f f' : am_M} {v' : Int32} (h : D_X8_event a1 a2 f = some (v', f')) : am_Ev X 129 0 [some (.ref 91), some (.int a1), some (.int a2)] [] f (some (.int v')) f' := by
  rw [D_X8_event] at h
  refine am_Ew.start [2] 2 (am_Ew.conv (fun k => (k 2 [some (.ref 91), some (.int a1), some (.int a2)] [.int a1, .ref 91] am_G0 f)) (fun k => rfl) ?_)
  obtain ⟨v1, f1, h1, h⟩ := am_bI_some h
  refine am_Ew.run (am_Ev.call (fun n => rfl) (lk_X8_isEvent h1) ?_)
  refine am_Ew.start [11] 4 (am_Ew.conv (fun k => (if v1 = 0 then (some (some (.int (-1)), am_G0, f1)) else (k 11 [some (.ref 91), some (.int a1), some (.int a2)] [.int 2, .int 0, .int a2] am_G0 f1))) (fun k => rfl) ?_)
  refine am_Ew.ite h (fun _ h => ?_) (fun _ h => ?_)
  · exact am_Ew.retI h
  · obtain ⟨v2, f2, h1, h⟩ := am_bI_some h
    refine am_Ew.run (am_Ev.call (fun n => rfl) (lk_X8_within h1) ?_)
    refine am_Ew.start [20] 4 (am_Ew.conv (fun k => (if v2 = 0 then (some (some (.int (-1)), am_G0, f2)) else (k 20 [some (.ref 91), some (.int a1), some (.int a2)] [.int a2, .int a1, .ref 91] am_G0 f2))) (fun k => rfl) ?_)
    refine am_Ew.ite h (fun _ h => ?_) (fun _ h => ?_)
    · exact am_Ew.retI h
    · obtain ⟨v3, f3, h1, h⟩ := am_bI_some h
      refine am_Ew.run (am_Ev.call (fun n => rfl) (lk_X8_tellEvent h1) ?_)
      refine am_Ew.start [] 2 (am_Ew.conv (fun k => (some (some (.int v3), am_G0, f3))) (fun k => rfl) ?_)
      exact am_Ew.retI h
set_option maxHeartbeats 400000 in
set_option maxRecDepth 100000 in
theorem lk_X8_maker {X : am_X} {a1 a2 : Int32} {f f' : am_M} {v' : Int32} (h : D_X8_maker a1 a2 f = some (v', f')) : am_Ev X 134 0 [some (.ref 91), some (.int a1), some (.int a2)] [] f (some (.int v')) f' := by
  rw [D_X8_maker] at h
  refine am_Ew.start [2] 2 (am_Ew.conv (fun k => (k 2 [some (.ref 91), some (.int a1), some (.int a2)] [.int a1, .ref 91] am_G0 f)) (fun k => rfl) ?_)
  obtain ⟨v1, f1, h1, h⟩ := am_bI_some h
  refine am_Ew.run (am_Ev.call (fun n => rfl) (lk_X8_isMaker h1) ?_)
  refine am_Ew.start [11] 4 (am_Ew.conv (fun k => (if v1 = 0 then (some (some (.int (-1)), am_G0, f1)) else (k 11 [some (.ref 91), some (.int a1), some (.int a2)] [.int 3, .int 0, .int a2] am_G0 f1))) (fun k => rfl) ?_)
  refine am_Ew.ite h (fun _ h => ?_) (fun _ h => ?_)
  · exact am_Ew.retI h
  · obtain ⟨v2, f2, h1, h⟩ := am_bI_some h
    refine am_Ew.run (am_Ev.call (fun n => rfl) (lk_X8_within h1) ?_)
    refine am_Ew.start [20] 4 (am_Ew.conv (fun k => (if v2 = 0 then (some (some (.int (-1)), am_G0, f2)) else (k 20 [some (.ref 91), some (.int a1), some (.int a2)] [.int a2, .int a1, .ref 91] am_G0 f2))) (fun k => rfl) ?_)
    refine am_Ew.ite h (fun _ h => ?_) (fun _ h => ?_)
    · exact am_Ew.retI h
    · obtain ⟨v3, f3, h1, h⟩ := am_bI_some h
      refine am_Ew.run (am_Ev.call (fun n => rfl) (lk_X8_tellMaker h1) ?_)
      refine am_Ew.start [] 2 (am_Ew.conv (fun k => (some (some (.int v3), am_G0, f3))) (fun k => rfl) ?_)
      exact am_Ew.retI h
set_option maxHeartbeats 400000 in
set_option maxRecDepth 100000 in
theorem lk_X8_steps_51 {X : am_X} : ∀ (n : Nat) (x1 x2 x3 : Int32) (f : am_M) (v' : Int32) (f' : am_M), D_X8_steps_51 n x1 x2 x3 f = some (v', f') → am_Ev X 137 51 [some (.ref 91), some (.int x1), some (.int x2), some (.int x3)] [] f (some (.int v')) f'
  | 0, _, _, _, _, _, _, h => by cases h
  | n + 1, x1, x2, x3, f, v', f', h => by
    rw [D_X8_steps_51] at h
    refine am_Ew.start [51] 19 (am_Ew.conv (fun k => (if x3 < (f 91 3) then (am_chk ((1 : Int32) + x3) 1026 (if (f 95 ((1 : Int32) + x3).toNatClampNeg) < x1 then (k 51 [some (.ref 91), some (.int x1), some (.int (x2 + 1)), some (.int (x3 + 1))] [] am_G0 f) else (k 51 [some (.ref 91), some (.int x1), some (.int (x2 + 0)), some (.int (x3 + 1))] [] am_G0 f))) else (some (some (.int x2), am_G0, f)))) (fun k => rfl) ?_)
    refine am_Ew.ite h (fun _ h => ?_) (fun _ h => ?_)
    · refine am_Ew.chk h (fun h => ?_)
      refine am_Ew.ite h (fun _ h => ?_) (fun _ h => ?_)
      · exact am_Ew.run (lk_X8_steps_51  n _ _ _ _ _ _ h )
      · exact am_Ew.run (lk_X8_steps_51  n _ _ _ _ _ _ h )
    · exact am_Ew.retI h
set_option maxHeartbeats 400000 in
set_option maxRecDepth 100000 in
theorem lk_X8_steps {X : am_X} {f f' : am_M} {v' : Int32} (h : D_X8_steps f = some (v', f')) : am_Ev X 137 0 [some (.ref 91), none, none, none] [] f (some (.int v')) f' := by
  rw [D_X8_steps] at h
  refine am_Ew.start [38] 20 (am_Ew.conv (fun k => (if (f 95 19) = 0 then (k 38 [some (.ref 91), some (.int (am_int 1000)), none, none] [.ref 91, .int (am_int 1000)] am_G0 f) else (k 38 [some (.ref 91), some (.int (((f 95 0) + (f 95 23)) - (f 91 0))), none, none] [.ref 91, .int (((f 95 0) + (f 95 23)) - (f 91 0))] am_G0 f))) (fun k => rfl) ?_)
  refine am_Ew.ite h (fun _ h => ?_) (fun _ h => ?_)
  · obtain ⟨v1, f1, h1, h⟩ := am_bI_some h
    refine am_Ew.run (am_Ev.call (fun n => rfl) (lk_X8_cursor h1) ?_)
    refine am_Ew.start [51] 5 (am_Ew.conv (fun k => (if v1 < ((am_int 1000) : Int32) then (some (some (.int (-9)), am_G0, f1)) else (k 51 [some (.ref 91), some (.int (am_int 1000)), some (.int 0), some (.int 0)] [] am_G0 f1))) (fun k => rfl) ?_)
    refine am_Ew.ite h (fun _ h => ?_) (fun _ h => ?_)
    · exact am_Ew.retI h
    · exact am_Ew.run (lk_X8_steps_51 _ _ _ _ _ _ _ h )
  · obtain ⟨v2, f2, h1, h⟩ := am_bI_some h
    refine am_Ew.run (am_Ev.call (fun n => rfl) (lk_X8_cursor h1) ?_)
    refine am_Ew.start [51] 5 (am_Ew.conv (fun k => (if v2 < (((f 95 0) + (f 95 23)) - (f 91 0)) then (some (some (.int (-9)), am_G0, f2)) else (k 51 [some (.ref 91), some (.int (((f 95 0) + (f 95 23)) - (f 91 0))), some (.int 0), some (.int 0)] [] am_G0 f2))) (fun k => rfl) ?_)
    refine am_Ew.ite h (fun _ h => ?_) (fun _ h => ?_)
    · exact am_Ew.retI h
    · exact am_Ew.run (lk_X8_steps_51 _ _ _ _ _ _ _ h )
set_option maxHeartbeats 400000 in
set_option maxRecDepth 100000 in
theorem lk_X8_ticks_28 {X : am_X} : ∀ (n : Nat) (x1 x2 : Int32) (f : am_M) (f' : am_M), D_X8_ticks_28 n x1 x2 f = some f' → ∀ d3 d4 : Option Value, am_Ev X 143 28 [some (.ref 91), some (.int x1), some (.int x2), d3, d4] [] f none f'
  | 0, _, _, _, _, h, _, _ => by cases h
  | n + 1, x1, x2, f, f', h, d3, d4 => by
    rw [D_X8_ticks_28] at h
    refine am_Ew.start [39] 7 (am_Ew.conv (fun k => (if x2 < (f 91 3) then (k 39 [some (.ref 91), some (.int x1), some (.int x2), d3, d4] [.int x1, .int x2, .ref 91] am_G0 f) else (some (none, am_G0, f)))) (fun k => rfl) ?_)
    refine am_Ew.ite h (fun _ h => ?_) (fun _ h => ?_)
    · obtain ⟨v2, f2, h1, h⟩ := am_bI_some h
      refine am_Ew.run (am_Ev.call (fun n => rfl) (lk_X8_mostByRule h1) ?_)
      refine am_Ew.start [77] 21 (am_Ew.conv (fun k => (am_chk x2 6 (am_chk x2 6 (if ((f2 111 x2.toNatClampNeg) + (f2 93 x2.toNatClampNeg)) < v2 then (am_chk x2 6 (k 77 [some (.ref 91), some (.int x1), some (.int x2), some (.int v2), some (.int ((f2 111 x2.toNatClampNeg) + (f2 93 x2.toNatClampNeg)))] [.ref 91] am_G0 (am_wr f2 111 x2.toNatClampNeg ((f2 111 x2.toNatClampNeg) + (f2 93 x2.toNatClampNeg))))) else (am_chk x2 6 (k 77 [some (.ref 91), some (.int x1), some (.int x2), some (.int v2), some (.int ((f2 111 x2.toNatClampNeg) + (f2 93 x2.toNatClampNeg)))] [.ref 91] am_G0 (am_wr f2 111 x2.toNatClampNeg v2))))))) (fun k => rfl) ?_)
      refine am_Ew.chk h (fun h => ?_)
      refine am_Ew.chk h (fun h => ?_)
      refine am_Ew.ite h (fun _ h => ?_) (fun _ h => ?_)
      · refine am_Ew.chk h (fun h => ?_)
        obtain ⟨f3, h1, h⟩ := am_bV_some h
        refine am_Ew.run (am_Ev.call (fun n => rfl) (lk_X8_letsByRule h1) ?_)
        refine am_Ew.start [28] 2 (am_Ew.conv (fun k => (k 28 [some (.ref 91), some (.int x1), some (.int (x2 + 1)), some (.int v2), some (.int ((f2 111 x2.toNatClampNeg) + (f2 93 x2.toNatClampNeg)))] [] am_G0 f3)) (fun k => rfl) ?_)
        exact am_Ew.run (lk_X8_ticks_28  n _ _ _ _ h _ _ )
      · refine am_Ew.chk h (fun h => ?_)
        obtain ⟨f4, h1, h⟩ := am_bV_some h
        refine am_Ew.run (am_Ev.call (fun n => rfl) (lk_X8_letsByRule h1) ?_)
        refine am_Ew.start [28] 2 (am_Ew.conv (fun k => (k 28 [some (.ref 91), some (.int x1), some (.int (x2 + 1)), some (.int v2), some (.int ((f2 111 x2.toNatClampNeg) + (f2 93 x2.toNatClampNeg)))] [] am_G0 f4)) (fun k => rfl) ?_)
        exact am_Ew.run (lk_X8_ticks_28  n _ _ _ _ h _ _ )
    · exact am_Ew.retV h
set_option maxHeartbeats 400000 in
set_option maxRecDepth 100000 in
theorem lk_X8_ticks_7 {X : am_X} : ∀ (n : Nat) (x1 x2 : Int32) (f : am_M) (f' : am_M), D_X8_ticks_7 n x1 x2 f = some f' → ∀ d3 d4 : Option Value, am_Ev X 143 7 [some (.ref 91), some (.int x1), some (.int x2), d3, d4] [] f none f'
  | 0, _, _, _, _, h, _, _ => by cases h
  | n + 1, x1, x2, f, f', h, d3, d4 => by
    rw [D_X8_ticks_7] at h
    refine am_Ew.start [17, 28] 6 (am_Ew.conv (fun k => (if x2 < (f 91 1) then (k 17 [some (.ref 91), some (.int x1), some (.int x2), d3, d4] [.int x2, .ref 91] am_G0 f) else (k 28 [some (.ref 91), some (.int x1), some (.int 0), d3, d4] [] am_G0 f))) (fun k => rfl) ?_)
    refine am_Ew.ite h (fun _ h => ?_) (fun _ h => ?_)
    · obtain ⟨f1, h1, h⟩ := am_bV_some h
      refine am_Ew.run (am_Ev.call (fun n => rfl) (lk_X8_claimsByRule h1) ?_)
      refine am_Ew.start [7] 2 (am_Ew.conv (fun k => (k 7 [some (.ref 91), some (.int x1), some (.int (x2 + 1)), d3, d4] [] am_G0 f1)) (fun k => rfl) ?_)
      exact am_Ew.run (lk_X8_ticks_7  n _ _ _ _ h _ _ )
    · exact am_Ew.run (lk_X8_ticks_28 _ _ _ _ _ h _ _ )
set_option maxHeartbeats 400000 in
set_option maxRecDepth 100000 in
theorem lk_X8_ticks {X : am_X} {f f' : am_M} (h : D_X8_ticks f = some f') : am_Ev X 143 0 [some (.ref 91), none, none, none, none] [] f none f' := by
  rw [D_X8_ticks] at h
  refine am_Ew.start [7] 5 (am_Ew.conv (fun k => (k 7 [some (.ref 91), some (.int (f 91 29)), some (.int 0), none, none] [] am_G0 f)) (fun k => rfl) ?_)
  exact am_Ew.run (lk_X8_ticks_7 _ _ _ _ _ h _ _ )
set_option maxHeartbeats 400000 in
set_option maxRecDepth 100000 in
theorem lk_X8_sees {X : am_X} {a1 a2 : Int32} {f f' : am_M} {v' : Int32} (h : D_X8_sees a1 a2 f = some (v', f')) : am_Ev X 153 0 [some (.ref 91), some (.int a1), some (.int a2)] [] f (some (.int v')) f' := by
  rw [D_X8_sees] at h
  refine am_Ew.start [1] 1 (am_Ew.conv (fun k => (k 1 [some (.ref 91), some (.int a1), some (.int a2)] [.int a1] am_G0 f)) (fun k => rfl) ?_)
  obtain ⟨v1, f1, h1, h⟩ := am_bI_some h
  refine am_Ew.run (am_Ev.call (fun n => rfl) (lk_X8_isTicks h1) ?_)
  refine am_Ew.start [12] 4 (am_Ew.conv (fun k => (if v1 = 0 then (some (some (.int (-1)), am_G0, f1)) else (k 12 [some (.ref 91), some (.int a1), some (.int a2)] [.int (am_int 9999), .int 0, .int a2] am_G0 f1))) (fun k => rfl) ?_)
  refine am_Ew.ite h (fun _ h => ?_) (fun _ h => ?_)
  · exact am_Ew.retI h
  · obtain ⟨v2, f2, h1, h⟩ := am_bI_some h
    refine am_Ew.run (am_Ev.call (fun n => rfl) (lk_X8_within h1) ?_)
    refine am_Ew.start [] 26 (am_Ew.conv (fun k => (if v2 = 0 then (some (some (.int (-1)), am_G0, f2)) else (if (f2 91 11) = 6 then (some (some (.int (-3)), am_G0, f2)) else (am_chk (f2 91 11) 6 (am_chk (f2 91 11) 6 (some (some (.int ((f2 91 11) + 1)), am_G0, (am_wr (am_wr (am_wr f2 99 (f2 91 11).toNatClampNeg a1) 100 (f2 91 11).toNatClampNeg a2) 91 11 ((f2 91 11) + 1))))))))) (fun k => rfl) ?_)
    refine am_Ew.ite h (fun _ h => ?_) (fun _ h => ?_)
    · exact am_Ew.retI h
    · refine am_Ew.ite h (fun _ h => ?_) (fun _ h => ?_)
      · exact am_Ew.retI h
      · refine am_Ew.chk h (fun h => ?_)
        refine am_Ew.chk h (fun h => ?_)
        exact am_Ew.retI h
set_option maxHeartbeats 400000 in
set_option maxRecDepth 100000 in
theorem lk_X8_count {X : am_X} {a1 : Int32} {f f' : am_M} {v' : Int32} (h : D_X8_count a1 f = some (v', f')) : am_Ev X 161 0 [some (.ref 91), some (.int a1)] [] f (some (.int v')) f' := by
  rw [D_X8_count] at h
  refine am_Ew.start [83, 88, 93] 7 (am_Ew.conv (fun k => (if a1 = 0 then (some (some (.int (f 91 0)), am_G0, f)) else (if a1 = 1 then (some (some (.int (f 91 1)), am_G0, f)) else (if a1 = 2 then (some (some (.int (f 91 3)), am_G0, f)) else (if a1 = 3 then (some (some (.int (f 95 0)), am_G0, f)) else (if a1 = 4 then (k 83 [some (.ref 91), some (.int a1)] [.ref 91] am_G0 f) else (if a1 = 5 then (k 88 [some (.ref 91), some (.int a1)] [.ref 91] am_G0 f) else (if a1 = 6 then (k 93 [some (.ref 91), some (.int a1)] [.ref 91] am_G0 f) else (if a1 = 7 then (some (some (.int (f 95 19)), am_G0, f)) else (if a1 = 8 then (some (some (.int (f 91 11)), am_G0, f)) else (if a1 = 9 then (some (some (.int (f 91 15)), am_G0, f)) else (if a1 = 10 then (some (some (.int (f 91 8)), am_G0, f)) else (some (some (.int (-1)), am_G0, f)))))))))))))) (fun k => rfl) ?_)
  refine am_Ew.ite h (fun _ h => ?_) (fun _ h => ?_)
  · exact am_Ew.retI h
  · refine am_Ew.ite h (fun _ h => ?_) (fun _ h => ?_)
    · exact am_Ew.retI h
    · refine am_Ew.ite h (fun _ h => ?_) (fun _ h => ?_)
      · exact am_Ew.retI h
      · refine am_Ew.ite h (fun _ h => ?_) (fun _ h => ?_)
        · exact am_Ew.retI h
        · refine am_Ew.ite h (fun _ h => ?_) (fun _ h => ?_)
          · obtain ⟨v1, f1, h1, h⟩ := am_bI_some h
            refine am_Ew.run (am_Ev.call (fun n => rfl) (lk_X8_cursor h1) ?_)
            refine am_Ew.start [] 1 (am_Ew.conv (fun k => (some (some (.int v1), am_G0, f1))) (fun k => rfl) ?_)
            exact am_Ew.retI h
          · refine am_Ew.ite h (fun _ h => ?_) (fun _ h => ?_)
            · obtain ⟨v2, f2, h1, h⟩ := am_bI_some h
              refine am_Ew.run (am_Ev.call (fun n => rfl) (lk_X8_least h1) ?_)
              refine am_Ew.start [] 1 (am_Ew.conv (fun k => (some (some (.int v2), am_G0, f2))) (fun k => rfl) ?_)
              exact am_Ew.retI h
            · refine am_Ew.ite h (fun _ h => ?_) (fun _ h => ?_)
              · obtain ⟨v3, f3, h1, h⟩ := am_bI_some h
                refine am_Ew.run (am_Ev.call (fun n => rfl) (lk_X8_room h1) ?_)
                refine am_Ew.start [] 1 (am_Ew.conv (fun k => (some (some (.int v3), am_G0, f3))) (fun k => rfl) ?_)
                exact am_Ew.retI h
              · refine am_Ew.ite h (fun _ h => ?_) (fun _ h => ?_)
                · exact am_Ew.retI h
                · refine am_Ew.ite h (fun _ h => ?_) (fun _ h => ?_)
                  · exact am_Ew.retI h
                  · refine am_Ew.ite h (fun _ h => ?_) (fun _ h => ?_)
                    · exact am_Ew.retI h
                    · refine am_Ew.ite h (fun _ h => ?_) (fun _ h => ?_)
                      · exact am_Ew.retI h
                      · exact am_Ew.retI h
set_option maxHeartbeats 400000 in
set_option maxRecDepth 100000 in
theorem lk_X8_readsSlots {X : am_X} {f f' : am_M} {v' : Int32} (h : D_X8_readsSlots f = some (v', f')) : am_Ev X 99 0 [some (.ref 91)] [] f (some (.int v')) f' := by
  rw [D_X8_readsSlots] at h
  refine am_Ew.start [5] 4 (am_Ew.conv (fun k => (k 5 [some (.ref 91)] [.int 16, .int 2, .ref 91, .ref 91] am_G0 f)) (fun k => rfl) ?_)
  obtain ⟨v1, f1, h1, h⟩ := am_bI_some h
  refine am_Ew.run (am_Ev.call (fun n => rfl) (lk_X8_number h1) ?_)
  refine am_Ew.start [24] 9 (am_Ew.conv (fun k => (if 0 < v1 then (k 24 [some (.ref 91)] [.ref 91] am_G0 (am_wr (am_wr f1 91 19 v1) 91 18 1)) else (some (some (.int 0), am_G0, (am_wr (am_wr f1 91 19 v1) 91 18 1))))) (fun k => rfl) ?_)
  refine am_Ew.ite h (fun _ h => ?_) (fun _ h => ?_)
  · obtain ⟨v2, f2, h1, h⟩ := am_bI_some h
    refine am_Ew.run (am_Ev.call (fun n => rfl) (lk_X8_passesEnd h1) ?_)
    refine am_Ew.start [] 4 (am_Ew.conv (fun k => (if v2 = 0 then (some (some (.int 0), am_G0, f2)) else (some (some (.int 1), am_G0, f2)))) (fun k => rfl) ?_)
    refine am_Ew.ite h (fun _ h => ?_) (fun _ h => ?_)
    · exact am_Ew.retI h
    · exact am_Ew.retI h
  · exact am_Ew.retI h
set_option maxHeartbeats 400000 in
set_option maxRecDepth 100000 in
theorem lk_X8_readsMaker {X : am_X} {f f' : am_M} {v' : Int32} (h : D_X8_readsMaker f = some (v', f')) : am_Ev X 100 0 [some (.ref 91)] [] f (some (.int v')) f' := by
  rw [D_X8_readsMaker] at h
  refine am_Ew.start [12] 7 (am_Ew.conv (fun k => (k 12 [some (.ref 91)] [.int 9, .int 0, .ref 91, .int (f 91 20), .ref 102] am_G0 f)) (fun k => rfl) ?_)
  obtain ⟨v1, f1, h1, h⟩ := am_bI_some h
  refine am_Ew.run (am_Ev.call (fun n => rfl) (lk_X8_number h1) ?_)
  refine am_Ew.start [29] 9 (am_Ew.conv (fun k => (am_chk (f 91 20) 3 (am_chk (f1 91 20) 3 (if ((am_wr f1 102 (f 91 20).toNatClampNeg v1) 102 (f1 91 20).toNatClampNeg) < 0 then (some (some (.int 0), am_G0, (am_wr f1 102 (f 91 20).toNatClampNeg v1))) else (k 29 [some (.ref 91)] [.ref 91] am_G0 (am_wr f1 102 (f 91 20).toNatClampNeg v1)))))) (fun k => rfl) ?_)
  refine am_Ew.chk h (fun h => ?_)
  refine am_Ew.chk h (fun h => ?_)
  refine am_Ew.ite h (fun _ h => ?_) (fun _ h => ?_)
  · exact am_Ew.retI h
  · obtain ⟨v2, f2, h1, h⟩ := am_bI_some h
    refine am_Ew.run (am_Ev.call (fun n => rfl) (lk_X8_passesEnd h1) ?_)
    refine am_Ew.start [] 9 (am_Ew.conv (fun k => (if v2 = 0 then (some (some (.int 0), am_G0, f2)) else (some (some (.int 1), am_G0, (am_wr f2 91 20 ((f2 91 20) + 1)))))) (fun k => rfl) ?_)
    refine am_Ew.ite h (fun _ h => ?_) (fun _ h => ?_)
    · exact am_Ew.retI h
    · exact am_Ew.retI h
set_option maxHeartbeats 400000 in
set_option maxRecDepth 100000 in
theorem lk_X8_readsTaker {X : am_X} {f f' : am_M} {v' : Int32} (h : D_X8_readsTaker f = some (v', f')) : am_Ev X 101 0 [some (.ref 91)] [] f (some (.int v')) f' := by
  rw [D_X8_readsTaker] at h
  refine am_Ew.start [12] 7 (am_Ew.conv (fun k => (k 12 [some (.ref 91)] [.int 9, .int 1, .ref 91, .int (f 91 21), .ref 103] am_G0 f)) (fun k => rfl) ?_)
  obtain ⟨v1, f1, h1, h⟩ := am_bI_some h
  refine am_Ew.run (am_Ev.call (fun n => rfl) (lk_X8_number h1) ?_)
  refine am_Ew.start [50, 67] 22 (am_Ew.conv (fun k => (am_chk (f 91 21) 6 (am_chk (f1 91 21) 6 (if ((am_wr f1 103 (f 91 21).toNatClampNeg v1) 103 (f1 91 21).toNatClampNeg) < 0 then (am_chk (f1 91 21) 6 (am_chk (f1 91 21) 6 (if ((am_wr (am_wr f1 103 (f 91 21).toNatClampNeg v1) 104 (f1 91 21).toNatClampNeg (-1)) 104 (f1 91 21).toNatClampNeg) < 0 then (some (some (.int 0), am_G0, (am_wr (am_wr f1 103 (f 91 21).toNatClampNeg v1) 104 (f1 91 21).toNatClampNeg (-1)))) else (k 67 [some (.ref 91)] [.ref 91] am_G0 (am_wr (am_wr f1 103 (f 91 21).toNatClampNeg v1) 104 (f1 91 21).toNatClampNeg (-1)))))) else (k 50 [some (.ref 91)] [.int (((1 : Int32) <<< ((f1 91 21) &&& 31)) - 1), .int 0, .ref 91, .int (f1 91 21), .ref 104] am_G0 (am_wr f1 103 (f 91 21).toNatClampNeg v1)))))) (fun k => rfl) ?_)
  refine am_Ew.chk h (fun h => ?_)
  refine am_Ew.chk h (fun h => ?_)
  refine am_Ew.ite h (fun _ h => ?_) (fun _ h => ?_)
  · refine am_Ew.chk h (fun h => ?_)
    refine am_Ew.chk h (fun h => ?_)
    refine am_Ew.ite h (fun _ h => ?_) (fun _ h => ?_)
    · exact am_Ew.retI h
    · obtain ⟨v2, f2, h1, h⟩ := am_bI_some h
      refine am_Ew.run (am_Ev.call (fun n => rfl) (lk_X8_passesEnd h1) ?_)
      refine am_Ew.start [] 9 (am_Ew.conv (fun k => (if v2 = 0 then (some (some (.int 0), am_G0, f2)) else (some (some (.int 1), am_G0, (am_wr f2 91 21 ((f2 91 21) + 1)))))) (fun k => rfl) ?_)
      refine am_Ew.ite h (fun _ h => ?_) (fun _ h => ?_)
      · exact am_Ew.retI h
      · exact am_Ew.retI h
  · obtain ⟨v3, f3, h1, h⟩ := am_bI_some h
    refine am_Ew.run (am_Ev.call (fun n => rfl) (lk_X8_number h1) ?_)
    refine am_Ew.start [67] 9 (am_Ew.conv (fun k => (am_chk (f1 91 21) 6 (am_chk (f3 91 21) 6 (if ((am_wr f3 104 (f1 91 21).toNatClampNeg v3) 104 (f3 91 21).toNatClampNeg) < 0 then (some (some (.int 0), am_G0, (am_wr f3 104 (f1 91 21).toNatClampNeg v3))) else (k 67 [some (.ref 91)] [.ref 91] am_G0 (am_wr f3 104 (f1 91 21).toNatClampNeg v3)))))) (fun k => rfl) ?_)
    refine am_Ew.chk h (fun h => ?_)
    refine am_Ew.chk h (fun h => ?_)
    refine am_Ew.ite h (fun _ h => ?_) (fun _ h => ?_)
    · exact am_Ew.retI h
    · obtain ⟨v4, f4, h1, h⟩ := am_bI_some h
      refine am_Ew.run (am_Ev.call (fun n => rfl) (lk_X8_passesEnd h1) ?_)
      refine am_Ew.start [] 9 (am_Ew.conv (fun k => (if v4 = 0 then (some (some (.int 0), am_G0, f4)) else (some (some (.int 1), am_G0, (am_wr f4 91 21 ((f4 91 21) + 1)))))) (fun k => rfl) ?_)
      refine am_Ew.ite h (fun _ h => ?_) (fun _ h => ?_)
      · exact am_Ew.retI h
      · exact am_Ew.retI h
set_option maxHeartbeats 400000 in
set_option maxRecDepth 100000 in
theorem lk_X8_fills {X : am_X} {a1 a2 : Int32} {f f' : am_M} {v' : Int32} (h : D_X8_fills a1 a2 f = some (v', f')) : am_Ev X 122 0 [some (.ref 91), some (.int a1), some (.int a2)] [] f (some (.int v')) f' := by
  rw [D_X8_fills] at h
  refine am_Ew.start [2] 2 (am_Ew.conv (fun k => (k 2 [some (.ref 91), some (.int a1), some (.int a2)] [.int a1, .ref 91] am_G0 f)) (fun k => rfl) ?_)
  obtain ⟨v1, f1, h1, h⟩ := am_bI_some h
  refine am_Ew.run (am_Ev.call (fun n => rfl) (lk_X8_isEvent h1) ?_)
  refine am_Ew.start [12] 4 (am_Ew.conv (fun k => (if v1 = 0 then (some (some (.int (-1)), am_G0, f1)) else (k 12 [some (.ref 91), some (.int a1), some (.int a2)] [.int 99, .int 0, .int a2] am_G0 f1))) (fun k => rfl) ?_)
  refine am_Ew.ite h (fun _ h => ?_) (fun _ h => ?_)
  · exact am_Ew.retI h
  · obtain ⟨v2, f2, h1, h⟩ := am_bI_some h
    refine am_Ew.run (am_Ev.call (fun n => rfl) (lk_X8_within h1) ?_)
    refine am_Ew.start [22] 5 (am_Ew.conv (fun k => (if v2 = 0 then (some (some (.int (-1)), am_G0, f2)) else (k 22 [some (.ref 91), some (.int a1), some (.int a2)] [.int a2, .int 1, .int a1, .ref 91] am_G0 f2))) (fun k => rfl) ?_)
    refine am_Ew.ite h (fun _ h => ?_) (fun _ h => ?_)
    · exact am_Ew.retI h
    · obtain ⟨v3, f3, h1, h⟩ := am_bI_some h
      refine am_Ew.run (am_Ev.call (fun n => rfl) (lk_X8_becomes h1) ?_)
      refine am_Ew.start [] 2 (am_Ew.conv (fun k => (some (some (.int v3), am_G0, f3))) (fun k => rfl) ?_)
      exact am_Ew.retI h
set_option maxHeartbeats 400000 in
set_option maxRecDepth 100000 in
theorem lk_X8_gaps {X : am_X} {a1 : Int32} {f f' : am_M} {v' : Int32} (h : D_X8_gaps a1 f = some (v', f')) : am_Ev X 123 0 [some (.ref 91), some (.int a1)] [] f (some (.int v')) f' := by
  rw [D_X8_gaps] at h
  refine am_Ew.start [2] 2 (am_Ew.conv (fun k => (k 2 [some (.ref 91), some (.int a1)] [.int a1, .ref 91] am_G0 f)) (fun k => rfl) ?_)
  obtain ⟨v1, f1, h1, h⟩ := am_bI_some h
  refine am_Ew.run (am_Ev.call (fun n => rfl) (lk_X8_isEvent h1) ?_)
  refine am_Ew.start [12] 5 (am_Ew.conv (fun k => (if v1 = 0 then (some (some (.int (-1)), am_G0, f1)) else (k 12 [some (.ref 91), some (.int a1)] [.int 0, .int 2, .int a1, .ref 91] am_G0 f1))) (fun k => rfl) ?_)
  refine am_Ew.ite h (fun _ h => ?_) (fun _ h => ?_)
  · exact am_Ew.retI h
  · obtain ⟨v2, f2, h1, h⟩ := am_bI_some h
    refine am_Ew.run (am_Ev.call (fun n => rfl) (lk_X8_becomes h1) ?_)
    refine am_Ew.start [] 2 (am_Ew.conv (fun k => (some (some (.int v2), am_G0, f2))) (fun k => rfl) ?_)
    exact am_Ew.retI h
set_option maxHeartbeats 400000 in
set_option maxRecDepth 100000 in
theorem lk_X8_takes_70 {X : am_X} : ∀ (n : Nat) (x1 x3 x4 x5 : Int32) (f : am_M) (v' : Int32) (f' : am_M), D_X8_takes_70 n x1 x3 x4 x5 f = some (v', f') → ∀ d2 : Option Value, am_Ev X 125 70 [some (.ref 91), some (.int x1), d2, some (.int x3), some (.int x4), some (.int x5)] [] f (some (.int v')) f'
  | 0, _, _, _, _, _, _, _, h, _ => by cases h
  | n + 1, x1, x3, x4, x5, f, v', f', h, d2 => by
    rw [D_X8_takes_70] at h
    refine am_Ew.start [81, 101] 11 (am_Ew.conv (fun k => (if x5 < x4 then (k 81 [some (.ref 91), some (.int x1), d2, some (.int x3), some (.int x4), some (.int x5)] [.int x5, .int x1, .ref 91] am_G0 f) else (am_chk ((1 : Int32) + x1) 1026 (k 101 [some (.ref 91), some (.int x1), d2, some (.int x3), some (.int x4), some (.int x5)] [.ref 91] am_G0 (am_wr f 95 ((1 : Int32) + x1).toNatClampNeg x4))))) (fun k => rfl) ?_)
    refine am_Ew.ite h (fun _ h => ?_) (fun _ h => ?_)
    · obtain ⟨f5, h1, h⟩ := am_bV_some h
      refine am_Ew.run (am_Ev.call (fun n => rfl) (lk_X8_goesOver h1) ?_)
      refine am_Ew.start [70] 2 (am_Ew.conv (fun k => (k 70 [some (.ref 91), some (.int x1), d2, some (.int x3), some (.int x4), some (.int (x5 + 1))] [] am_G0 f5)) (fun k => rfl) ?_)
      exact am_Ew.run (lk_X8_takes_70  n _ _ _ _ _ _ _ h _ )
    · refine am_Ew.chk h (fun h => ?_)
      obtain ⟨f6, h1, h⟩ := am_bV_some h
      refine am_Ew.run (am_Ev.call (fun n => rfl) (lk_X8_lets h1) ?_)
      refine am_Ew.start [] 4 (am_Ew.conv (fun k => (some (some (.int (x4 - x3)), am_G0, f6))) (fun k => rfl) ?_)
      exact am_Ew.retI h
set_option maxHeartbeats 400000 in
set_option maxRecDepth 100000 in
theorem lk_X8_takes {X : am_X} {a1 a2 : Int32} {f f' : am_M} {v' : Int32} (h : D_X8_takes a1 a2 f = some (v', f')) : am_Ev X 125 0 [some (.ref 91), some (.int a1), some (.int a2), none, none, none] [] f (some (.int v')) f' := by
  rw [D_X8_takes] at h
  refine am_Ew.start [2] 2 (am_Ew.conv (fun k => (k 2 [some (.ref 91), some (.int a1), some (.int a2), none, none, none] [.int a1, .ref 91] am_G0 f)) (fun k => rfl) ?_)
  obtain ⟨v1, f1, h1, h⟩ := am_bI_some h
  refine am_Ew.run (am_Ev.call (fun n => rfl) (lk_X8_isTaker h1) ?_)
  refine am_Ew.start [12] 4 (am_Ew.conv (fun k => (if v1 = 0 then (some (some (.int (-1)), am_G0, f1)) else (k 12 [some (.ref 91), some (.int a1), some (.int a2), none, none, none] [.int 16, .int 1, .int a2] am_G0 f1))) (fun k => rfl) ?_)
  refine am_Ew.ite h (fun _ h => ?_) (fun _ h => ?_)
  · exact am_Ew.retI h
  · obtain ⟨v2, f2, h1, h⟩ := am_bI_some h
    refine am_Ew.run (am_Ev.call (fun n => rfl) (lk_X8_within h1) ?_)
    refine am_Ew.start [31] 10 (am_Ew.conv (fun k => (if v2 = 0 then (some (some (.int (-1)), am_G0, f2)) else (am_chk ((1 : Int32) + a1) 1026 (k 31 [some (.ref 91), some (.int a1), some (.int a2), some (.int (f2 95 ((1 : Int32) + a1).toNatClampNeg)), none, none] [.int a1, .ref 91] am_G0 f2)))) (fun k => rfl) ?_)
    refine am_Ew.ite h (fun _ h => ?_) (fun _ h => ?_)
    · exact am_Ew.retI h
    · refine am_Ew.chk h (fun h => ?_)
      obtain ⟨v3, f3, h1, h⟩ := am_bI_some h
      refine am_Ew.run (am_Ev.call (fun n => rfl) (lk_X8_atMost h1) ?_)
      refine am_Ew.start [46] 6 (am_Ew.conv (fun k => (if (f2 95 ((1 : Int32) + a1).toNatClampNeg) < v3 then (k 46 [some (.ref 91), some (.int a1), some (.int a2), some (.int (f2 95 ((1 : Int32) + a1).toNatClampNeg)), some (.int v3), none] [.ref 91] am_G0 f3) else (some (some (.int (-2)), am_G0, f3)))) (fun k => rfl) ?_)
      refine am_Ew.ite h (fun _ h => ?_) (fun _ h => ?_)
      · obtain ⟨f4, h1, h⟩ := am_bV_some h
        refine am_Ew.run (am_Ev.call (fun n => rfl) (lk_X8_keeps h1) ?_)
        refine am_Ew.start [70] 12 (am_Ew.conv (fun k => (if ((f2 95 ((1 : Int32) + a1).toNatClampNeg) + a2) < v3 then (k 70 [some (.ref 91), some (.int a1), some (.int a2), some (.int (f2 95 ((1 : Int32) + a1).toNatClampNeg)), some (.int ((f2 95 ((1 : Int32) + a1).toNatClampNeg) + a2)), some (.int (f2 95 ((1 : Int32) + a1).toNatClampNeg))] [] am_G0 f4) else (k 70 [some (.ref 91), some (.int a1), some (.int a2), some (.int (f2 95 ((1 : Int32) + a1).toNatClampNeg)), some (.int v3), some (.int (f2 95 ((1 : Int32) + a1).toNatClampNeg))] [] am_G0 f4))) (fun k => rfl) ?_)
        refine am_Ew.ite h (fun _ h => ?_) (fun _ h => ?_)
        · exact am_Ew.run (lk_X8_takes_70 _ _ _ _ _ _ _ _ h _ )
        · exact am_Ew.run (lk_X8_takes_70 _ _ _ _ _ _ _ _ h _ )
      · exact am_Ew.retI h
set_option maxHeartbeats 400000 in
set_option maxRecDepth 100000 in
theorem lk_X8_calls {X : am_X} {a1 : Int32} {f f' : am_M} {v' : Int32} (h : D_X8_calls a1 f = some (v', f')) : am_Ev X 126 0 [some (.ref 91), some (.int a1), none, none] [] f (some (.int v')) f' := by
  rw [D_X8_calls] at h
  refine am_Ew.start [2] 2 (am_Ew.conv (fun k => (k 2 [some (.ref 91), some (.int a1), none, none] [.int a1, .ref 91] am_G0 f)) (fun k => rfl) ?_)
  obtain ⟨v1, f1, h1, h⟩ := am_bI_some h
  refine am_Ew.run (am_Ev.call (fun n => rfl) (lk_X8_isMaker h1) ?_)
  refine am_Ew.start [12] 3 (am_Ew.conv (fun k => (if v1 = 0 then (some (some (.int (-1)), am_G0, f1)) else (k 12 [some (.ref 91), some (.int a1), none, none] [.int a1, .ref 91] am_G0 f1))) (fun k => rfl) ?_)
  refine am_Ew.ite h (fun _ h => ?_) (fun _ h => ?_)
  · exact am_Ew.retI h
  · obtain ⟨v2, f2, h1, h⟩ := am_bI_some h
    refine am_Ew.run (am_Ev.call (fun n => rfl) (lk_X8_placeOf h1) ?_)
    refine am_Ew.start [26] 6 (am_Ew.conv (fun k => (if v2 = (-9) then (some (some (.int (-2)), am_G0, f2)) else (k 26 [some (.ref 91), some (.int a1), some (.int v2), none] [.ref 91] am_G0 f2))) (fun k => rfl) ?_)
    refine am_Ew.ite h (fun _ h => ?_) (fun _ h => ?_)
    · exact am_Ew.retI h
    · obtain ⟨f3, h1, h⟩ := am_bV_some h
      refine am_Ew.run (am_Ev.call (fun n => rfl) (lk_X8_keeps h1) ?_)
      refine am_Ew.start [41] 9 (am_Ew.conv (fun k => (am_chk ((23 : Int32) + v2) 1026 (k 41 [some (.ref 91), some (.int a1), some (.int v2), some (.int (f3 95 ((23 : Int32) + v2).toNatClampNeg))] [.int v2, .ref 91] am_G0 f3))) (fun k => rfl) ?_)
      refine am_Ew.chk h (fun h => ?_)
      obtain ⟨f4, h1, h⟩ := am_bV_some h
      refine am_Ew.run (am_Ev.call (fun n => rfl) (lk_X8_leavesRow h1) ?_)
      refine am_Ew.start [45] 1 (am_Ew.conv (fun k => (k 45 [some (.ref 91), some (.int a1), some (.int v2), some (.int (f3 95 ((23 : Int32) + v2).toNatClampNeg))] [.ref 91] am_G0 f4)) (fun k => rfl) ?_)
      obtain ⟨f5, h1, h⟩ := am_bV_some h
      refine am_Ew.run (am_Ev.call (fun n => rfl) (lk_X8_lets h1) ?_)
      refine am_Ew.start [] 2 (am_Ew.conv (fun k => (some (some (.int (f3 95 ((23 : Int32) + v2).toNatClampNeg)), am_G0, f5))) (fun k => rfl) ?_)
      exact am_Ew.retI h
set_option maxHeartbeats 400000 in
set_option maxRecDepth 100000 in
theorem lk_X8_tellTaker {X : am_X} {a1 a2 : Int32} {f f' : am_M} {v' : Int32} (h : D_X8_tellTaker a1 a2 f = some (v', f')) : am_Ev X 130 0 [some (.ref 91), some (.int a1), some (.int a2)] [] f (some (.int v')) f' := by
  rw [D_X8_tellTaker] at h
  refine am_Ew.start [65, 70] 9 (am_Ew.conv (fun k => (if a2 = 0 then (am_chk a1 6 (some (some (.int (f 93 a1.toNatClampNeg)), am_G0, f))) else (if a2 = 1 then (am_chk a1 6 (some (some (.int (f 94 a1.toNatClampNeg)), am_G0, f))) else (if a2 = 2 then (am_chk ((1 : Int32) + a1) 1026 (some (some (.int (f 95 ((1 : Int32) + a1).toNatClampNeg)), am_G0, f))) else (if a2 = 3 then (k 65 [some (.ref 91), some (.int a1), some (.int a2)] [.int a1, .ref 91] am_G0 f) else (if a2 = 4 then (k 70 [some (.ref 91), some (.int a1), some (.int a2)] [.ref 91] am_G0 f) else (if a2 = 5 then (am_chk ((7 : Int32) + a1) 1026 (some (some (.int (f 95 ((7 : Int32) + a1).toNatClampNeg)), am_G0, f))) else (am_chk ((13 : Int32) + a1) 1026 (some (some (.int (f 95 ((13 : Int32) + a1).toNatClampNeg)), am_G0, f)))))))))) (fun k => rfl) ?_)
  refine am_Ew.ite h (fun _ h => ?_) (fun _ h => ?_)
  · refine am_Ew.chk h (fun h => ?_)
    exact am_Ew.retI h
  · refine am_Ew.ite h (fun _ h => ?_) (fun _ h => ?_)
    · refine am_Ew.chk h (fun h => ?_)
      exact am_Ew.retI h
    · refine am_Ew.ite h (fun _ h => ?_) (fun _ h => ?_)
      · refine am_Ew.chk h (fun h => ?_)
        exact am_Ew.retI h
      · refine am_Ew.ite h (fun _ h => ?_) (fun _ h => ?_)
        · obtain ⟨v1, f1, h1, h⟩ := am_bI_some h
          refine am_Ew.run (am_Ev.call (fun n => rfl) (lk_X8_atMost h1) ?_)
          refine am_Ew.start [] 1 (am_Ew.conv (fun k => (some (some (.int v1), am_G0, f1))) (fun k => rfl) ?_)
          exact am_Ew.retI h
        · refine am_Ew.ite h (fun _ h => ?_) (fun _ h => ?_)
          · obtain ⟨v2, f2, h1, h⟩ := am_bI_some h
            refine am_Ew.run (am_Ev.call (fun n => rfl) (lk_X8_cursor h1) ?_)
            refine am_Ew.start [] 8 (am_Ew.conv (fun k => (am_chk ((1 : Int32) + a1) 1026 (some (some (.int (v2 - (f2 95 ((1 : Int32) + a1).toNatClampNeg))), am_G0, f2)))) (fun k => rfl) ?_)
            refine am_Ew.chk h (fun h => ?_)
            exact am_Ew.retI h
          · refine am_Ew.ite h (fun _ h => ?_) (fun _ h => ?_)
            · refine am_Ew.chk h (fun h => ?_)
              exact am_Ew.retI h
            · refine am_Ew.chk h (fun h => ?_)
              exact am_Ew.retI h
set_option maxHeartbeats 400000 in
set_option maxRecDepth 100000 in
theorem lk_X8_blamed_33 {X : am_X} : ∀ (n : Nat) (x1 : Int32) (f : am_M) (v' : Int32) (f' : am_M), D_X8_blamed_33 n x1 f = some (v', f') → ∀ d2 : Option Value, am_Ev X 136 33 [some (.ref 91), some (.int x1), d2] [] f (some (.int v')) f'
  | 0, _, _, _, _, h, _ => by cases h
  | n + 1, x1, f, v', f', h, d2 => by
    rw [D_X8_blamed_33] at h
    refine am_Ew.start [43] 8 (am_Ew.conv (fun k => (am_chk ((1 : Int32) + x1) 1026 (k 43 [some (.ref 91), some (.int x1), d2] [.int x1, .ref 91, .int (f 95 ((1 : Int32) + x1).toNatClampNeg)] am_G0 f))) (fun k => rfl) ?_)
    refine am_Ew.chk h (fun h => ?_)
    obtain ⟨v2, f2, h1, h⟩ := am_bI_some h
    refine am_Ew.run (am_Ev.call (fun n => rfl) (lk_X8_atMost h1) ?_)
    refine am_Ew.start [59, 102] 11 (am_Ew.conv (fun k => (if (f 95 ((1 : Int32) + x1).toNatClampNeg) = v2 then (am_chk x1 6 (if (f2 94 x1.toNatClampNeg) = 0 then (k 59 [some (.ref 91), some (.int x1), d2] [.ref 91] am_G0 f2) else (am_chk x1 6 (k 102 [some (.ref 91), some (.int x1), d2] [.int (f2 94 x1.toNatClampNeg), .ref 91] am_G0 f2)))) else (some (some (.int x1), am_G0, f2)))) (fun k => rfl) ?_)
    refine am_Ew.ite h (fun _ h => ?_) (fun _ h => ?_)
    · refine am_Ew.chk h (fun h => ?_)
      refine am_Ew.ite h (fun _ h => ?_) (fun _ h => ?_)
      · obtain ⟨v3, f3, h1, h⟩ := am_bI_some h
        refine am_Ew.run (am_Ev.call (fun n => rfl) (lk_X8_cursor h1) ?_)
        refine am_Ew.start [] 21 (am_Ew.conv (fun k => (if v3 < (f3 95 0) then (am_chk ((26 : Int32) + v3) 1026 (some (some (.int ((10 : Int32) + (((f3 95 ((26 : Int32) + v3).toNatClampNeg) >>> ((2 : Int32) &&& 31)) &&& 3))), am_G0, f3))) else (some (some (.int (-9)), am_G0, f3)))) (fun k => rfl) ?_)
        refine am_Ew.ite h (fun _ h => ?_) (fun _ h => ?_)
        · refine am_Ew.chk h (fun h => ?_)
          exact am_Ew.retI h
        · exact am_Ew.retI h
      · refine am_Ew.chk h (fun h => ?_)
        obtain ⟨v4, f4, h1, h⟩ := am_bI_some h
        refine am_Ew.run (am_Ev.call (fun n => rfl) (lk_X8_slowest h1) ?_)
        refine am_Ew.start [33] 2 (am_Ew.conv (fun k => (k 33 [some (.ref 91), some (.int v4), d2] [] am_G0 f4)) (fun k => rfl) ?_)
        exact am_Ew.run (lk_X8_blamed_33  n _ _ _ _ h _ )
    · exact am_Ew.retI h
set_option maxHeartbeats 400000 in
set_option maxRecDepth 100000 in
theorem lk_X8_blamed {X : am_X} {f f' : am_M} {v' : Int32} (h : D_X8_blamed f = some (v', f')) : am_Ev X 136 0 [some (.ref 91), none, none] [] f (some (.int v')) f' := by
  rw [D_X8_blamed] at h
  refine am_Ew.start [29] 15 (am_Ew.conv (fun k => (if (f 95 19) = 0 then (some (some (.int (-9)), am_G0, f)) else (if (f 91 3) = 0 then (some (some (.int (-9)), am_G0, f)) else (k 29 [some (.ref 91), none, none] [.int (((1 : Int32) <<< ((f 91 3) &&& 31)) - 1), .ref 91] am_G0 f)))) (fun k => rfl) ?_)
  refine am_Ew.ite h (fun _ h => ?_) (fun _ h => ?_)
  · exact am_Ew.retI h
  · refine am_Ew.ite h (fun _ h => ?_) (fun _ h => ?_)
    · exact am_Ew.retI h
    · obtain ⟨v1, f1, h1, h⟩ := am_bI_some h
      refine am_Ew.run (am_Ev.call (fun n => rfl) (lk_X8_slowest h1) ?_)
      refine am_Ew.start [33] 1 (am_Ew.conv (fun k => (k 33 [some (.ref 91), some (.int v1), none] [] am_G0 f1)) (fun k => rfl) ?_)
      exact am_Ew.run (lk_X8_blamed_33 _ _ _ _ _ h _ )
set_option maxHeartbeats 400000 in
set_option maxRecDepth 100000 in
theorem lk_X8_laysRule_99 {X : am_X} : ∀ (n : Nat) (x1 x2 : Int32) (f : am_M) (f' : am_M), D_X8_laysRule_99 n x1 x2 f = some f' → am_Ev X 145 99 [some (.ref 91), some (.int x1), some (.int x2)] [] f none f'
  | 0, _, _, _, _, h => by cases h
  | n + 1, x1, x2, f, f', h => by
    rw [D_X8_laysRule_99] at h
    refine am_Ew.start [105] 4 (am_Ew.conv (fun k => (if x1 < x2 then (some (none, am_G0, f)) else (k 105 [some (.ref 91), some (.int x1), some (.int x2)] [.ref 91] am_G0 f))) (fun k => rfl) ?_)
    refine am_Ew.ite h (fun _ h => ?_) (fun _ h => ?_)
    · exact am_Ew.retV h
    · obtain ⟨f2, h1, h⟩ := am_bV_some h
      refine am_Ew.run (am_Ev.call (fun n => rfl) (lk_X8_ticks h1) ?_)
      refine am_Ew.start [110] 2 (am_Ew.conv (fun k => (k 110 [some (.ref 91), some (.int x1), some (.int x2)] [.int x2, .ref 91] am_G0 f2)) (fun k => rfl) ?_)
      obtain ⟨f3, h1, h⟩ := am_bV_some h
      refine am_Ew.run (am_Ev.call (fun n => rfl) (lk_X8_saves h1) ?_)
      refine am_Ew.start [99] 2 (am_Ew.conv (fun k => (k 99 [some (.ref 91), some (.int x1), some (.int (x2 + 1))] [] am_G0 f3)) (fun k => rfl) ?_)
      exact am_Ew.run (lk_X8_laysRule_99  n _ _ _ _ h )
set_option maxHeartbeats 400000 in
set_option maxRecDepth 100000 in
theorem lk_X8_laysRule_66 {X : am_X} : ∀ (n : Nat) (x1 x2 : Int32) (f : am_M) (f' : am_M), D_X8_laysRule_66 n x1 x2 f = some f' → am_Ev X 145 66 [some (.ref 91), some (.int x1), some (.int x2)] [] f none f'
  | 0, _, _, _, _, h => by cases h
  | n + 1, x1, x2, f, f', h => by
    rw [D_X8_laysRule_66] at h
    refine am_Ew.start [66, 94] 15 (am_Ew.conv (fun k => (if x2 < 6 then (am_chk ((1 : Int32) + x2) 1026 (am_chk x2 6 (k 66 [some (.ref 91), some (.int x1), some (.int (x2 + 1))] [] am_G0 (am_wr f 111 x2.toNatClampNeg (f 95 ((1 : Int32) + x2).toNatClampNeg))))) else (k 94 [some (.ref 91), some (.int x1), some (.int x2)] [.int 0, .ref 91] am_G0 f))) (fun k => rfl) ?_)
    refine am_Ew.ite h (fun _ h => ?_) (fun _ h => ?_)
    · refine am_Ew.chk h (fun h => ?_)
      refine am_Ew.chk h (fun h => ?_)
      exact am_Ew.run (lk_X8_laysRule_66  n _ _ _ _ h )
    · obtain ⟨f1, h1, h⟩ := am_bV_some h
      refine am_Ew.run (am_Ev.call (fun n => rfl) (lk_X8_saves h1) ?_)
      refine am_Ew.start [99] 2 (am_Ew.conv (fun k => (k 99 [some (.ref 91), some (.int x1), some (.int 1)] [] am_G0 f1)) (fun k => rfl) ?_)
      exact am_Ew.run (lk_X8_laysRule_99 _ _ _ _ _ h )
set_option maxHeartbeats 400000 in
set_option maxRecDepth 100000 in
theorem lk_X8_laysRule_23 {X : am_X} : ∀ (n : Nat) (x1 x2 : Int32) (f : am_M) (f' : am_M), D_X8_laysRule_23 n x1 x2 f = some f' → am_Ev X 145 23 [some (.ref 91), some (.int x1), some (.int x2)] [] f none f'
  | 0, _, _, _, _, h => by cases h
  | n + 1, x1, x2, f, f', h => by
    rw [D_X8_laysRule_23] at h
    refine am_Ew.start [23, 66] 25 (am_Ew.conv (fun k => (if x2 < 3 then (am_chk ((20 : Int32) + x2) 1026 (am_chk x2 3 (am_chk ((23 : Int32) + x2) 1026 (am_chk x2 3 (k 23 [some (.ref 91), some (.int x1), some (.int (x2 + 1))] [] am_G0 (am_wr (am_wr f 109 x2.toNatClampNeg (f 95 ((20 : Int32) + x2).toNatClampNeg)) 110 x2.toNatClampNeg (f 95 ((23 : Int32) + x2).toNatClampNeg))))))) else (k 66 [some (.ref 91), some (.int x1), some (.int 0)] [] am_G0 f))) (fun k => rfl) ?_)
    refine am_Ew.ite h (fun _ h => ?_) (fun _ h => ?_)
    · refine am_Ew.chk h (fun h => ?_)
      refine am_Ew.chk h (fun h => ?_)
      refine am_Ew.chk h (fun h => ?_)
      refine am_Ew.chk h (fun h => ?_)
      exact am_Ew.run (lk_X8_laysRule_23  n _ _ _ _ h )
    · exact am_Ew.run (lk_X8_laysRule_66 _ _ _ _ _ h )
set_option maxHeartbeats 400000 in
set_option maxRecDepth 100000 in
theorem lk_X8_laysRule {X : am_X} {a1 : Int32} {f f' : am_M} (h : D_X8_laysRule a1 f = some f') : am_Ev X 145 0 [some (.ref 91), some (.int a1), none] [] f none f' := by
  rw [D_X8_laysRule] at h
  refine am_Ew.start [23] 14 (am_Ew.conv (fun k => (k 23 [some (.ref 91), some (.int a1), some (.int 0)] [] am_G0 (am_wr (am_wr f 91 29 (f 95 0)) 91 30 (f 95 19)))) (fun k => rfl) ?_)
  exact am_Ew.run (lk_X8_laysRule_23 _ _ _ _ _ h )
set_option maxHeartbeats 400000 in
set_option maxRecDepth 100000 in
theorem lk_X8_reads_32 {X : am_X} : ∀ (n : Nat) (x1 : Int32) (f : am_M) (v' : Int32) (f' : am_M), D_X8_reads_32 n x1 f = some (v', f') → ∀ d2 d3 : Option Value, am_Ev X 102 32 [some (.ref 91), some (.int x1), d2, d3] [] f (some (.int v')) f'
  | 0, _, _, _, _, h, _, _ => by cases h
  | n + 1, x1, f, v', f', h, d2, d3 => by
    rw [D_X8_reads_32] at h
    refine am_Ew.start [44] 7 (am_Ew.conv (fun k => (if (f 91 16) < (f 91 15) then (k 44 [some (.ref 91), some (.int x1), d2, d3] [.ref 91] am_G0 f) else (some (some (.int x1), am_G0, f)))) (fun k => rfl) ?_)
    refine am_Ew.ite h (fun _ h => ?_) (fun _ h => ?_)
    · obtain ⟨v2, f2, h1, h⟩ := am_bI_some h
      refine am_Ew.run (am_Ev.call (fun n => rfl) (lk_X8_wordPassed h1) ?_)
      refine am_Ew.start [53, 65, 77] 15 (am_Ew.conv (fun k => (if v2 = 0 then (k 53 [some (.ref 91), some (.int x1), some (.int v2), d3] [.ref 91] am_G0 f2) else (if v2 = 1 then (k 65 [some (.ref 91), some (.int x1), some (.int v2), d3] [.ref 91] am_G0 f2) else (if v2 = 2 then (k 77 [some (.ref 91), some (.int x1), some (.int v2), d3] [.ref 91] am_G0 f2) else (some (some (.int (-1)), am_G0, f2)))))) (fun k => rfl) ?_)
      refine am_Ew.ite h (fun _ h => ?_) (fun _ h => ?_)
      · obtain ⟨v3, f3, h1, h⟩ := am_bI_some h
        refine am_Ew.run (am_Ev.call (fun n => rfl) (lk_X8_readsSlots h1) ?_)
        refine am_Ew.start [99] 6 (am_Ew.conv (fun k => (if v3 = 0 then (some (some (.int (-1)), am_G0, f3)) else (k 99 [some (.ref 91), some (.int (x1 + 1)), some (.int v2), some (.int v3)] [.ref 91] am_G0 f3))) (fun k => rfl) ?_)
        refine am_Ew.ite h (fun _ h => ?_) (fun _ h => ?_)
        · exact am_Ew.retI h
        · obtain ⟨f4, h1, h⟩ := am_bV_some h
          refine am_Ew.run (am_Ev.call (fun n => rfl) (lk_X8_skips h1) ?_)
          refine am_Ew.start [32] 1 (am_Ew.conv (fun k => (k 32 [some (.ref 91), some (.int (x1 + 1)), some (.int v2), some (.int v3)] [] am_G0 f4)) (fun k => rfl) ?_)
          exact am_Ew.run (lk_X8_reads_32  n _ _ _ _ h _ _ )
      · refine am_Ew.ite h (fun _ h => ?_) (fun _ h => ?_)
        · obtain ⟨v5, f5, h1, h⟩ := am_bI_some h
          refine am_Ew.run (am_Ev.call (fun n => rfl) (lk_X8_readsMaker h1) ?_)
          refine am_Ew.start [99] 6 (am_Ew.conv (fun k => (if v5 = 0 then (some (some (.int (-1)), am_G0, f5)) else (k 99 [some (.ref 91), some (.int (x1 + 1)), some (.int v2), some (.int v5)] [.ref 91] am_G0 f5))) (fun k => rfl) ?_)
          refine am_Ew.ite h (fun _ h => ?_) (fun _ h => ?_)
          · exact am_Ew.retI h
          · obtain ⟨f6, h1, h⟩ := am_bV_some h
            refine am_Ew.run (am_Ev.call (fun n => rfl) (lk_X8_skips h1) ?_)
            refine am_Ew.start [32] 1 (am_Ew.conv (fun k => (k 32 [some (.ref 91), some (.int (x1 + 1)), some (.int v2), some (.int v5)] [] am_G0 f6)) (fun k => rfl) ?_)
            exact am_Ew.run (lk_X8_reads_32  n _ _ _ _ h _ _ )
        · refine am_Ew.ite h (fun _ h => ?_) (fun _ h => ?_)
          · obtain ⟨v7, f7, h1, h⟩ := am_bI_some h
            refine am_Ew.run (am_Ev.call (fun n => rfl) (lk_X8_readsTaker h1) ?_)
            refine am_Ew.start [99] 8 (am_Ew.conv (fun k => (if v7 = 0 then (some (some (.int (-1)), am_G0, f7)) else (k 99 [some (.ref 91), some (.int (x1 + 1)), some (.int v2), some (.int 1)] [.ref 91] am_G0 f7))) (fun k => rfl) ?_)
            refine am_Ew.ite h (fun _ h => ?_) (fun _ h => ?_)
            · exact am_Ew.retI h
            · obtain ⟨f8, h1, h⟩ := am_bV_some h
              refine am_Ew.run (am_Ev.call (fun n => rfl) (lk_X8_skips h1) ?_)
              refine am_Ew.start [32] 1 (am_Ew.conv (fun k => (k 32 [some (.ref 91), some (.int (x1 + 1)), some (.int v2), some (.int 1)] [] am_G0 f8)) (fun k => rfl) ?_)
              exact am_Ew.run (lk_X8_reads_32  n _ _ _ _ h _ _ )
          · exact am_Ew.retI h
    · exact am_Ew.retI h
set_option maxHeartbeats 400000 in
set_option maxRecDepth 100000 in
theorem lk_X8_reads {X : am_X} {f f' : am_M} {v' : Int32} (h : D_X8_reads f = some (v', f')) : am_Ev X 102 0 [some (.ref 91), none, none, none] [] f (some (.int v')) f' := by
  rw [D_X8_reads] at h
  refine am_Ew.start [29] 18 (am_Ew.conv (fun k => (k 29 [some (.ref 91), some (.int 0), none, none] [.ref 91] am_G0 (am_wr (am_wr (am_wr (am_wr (am_wr f 91 16 0) 91 18 0) 91 19 8) 91 20 0) 91 21 0))) (fun k => rfl) ?_)
  obtain ⟨f1, h1, h⟩ := am_bV_some h
  refine am_Ew.run (am_Ev.call (fun n => rfl) (lk_X8_skips h1) ?_)
  exact (lk_X8_reads_32 _ _ _ _ _ h _ _ )
set_option maxHeartbeats 400000 in
set_option maxRecDepth 100000 in
theorem lk_X8_taker {X : am_X} {a1 a2 : Int32} {f f' : am_M} {v' : Int32} (h : D_X8_taker a1 a2 f = some (v', f')) : am_Ev X 131 0 [some (.ref 91), some (.int a1), some (.int a2)] [] f (some (.int v')) f' := by
  rw [D_X8_taker] at h
  refine am_Ew.start [2] 2 (am_Ew.conv (fun k => (k 2 [some (.ref 91), some (.int a1), some (.int a2)] [.int a1, .ref 91] am_G0 f)) (fun k => rfl) ?_)
  obtain ⟨v1, f1, h1, h⟩ := am_bI_some h
  refine am_Ew.run (am_Ev.call (fun n => rfl) (lk_X8_isTaker h1) ?_)
  refine am_Ew.start [12] 4 (am_Ew.conv (fun k => (if v1 = 0 then (some (some (.int (-1)), am_G0, f1)) else (k 12 [some (.ref 91), some (.int a1), some (.int a2)] [.int 6, .int 0, .int a2] am_G0 f1))) (fun k => rfl) ?_)
  refine am_Ew.ite h (fun _ h => ?_) (fun _ h => ?_)
  · exact am_Ew.retI h
  · obtain ⟨v2, f2, h1, h⟩ := am_bI_some h
    refine am_Ew.run (am_Ev.call (fun n => rfl) (lk_X8_within h1) ?_)
    refine am_Ew.start [21] 4 (am_Ew.conv (fun k => (if v2 = 0 then (some (some (.int (-1)), am_G0, f2)) else (k 21 [some (.ref 91), some (.int a1), some (.int a2)] [.int a2, .int a1, .ref 91] am_G0 f2))) (fun k => rfl) ?_)
    refine am_Ew.ite h (fun _ h => ?_) (fun _ h => ?_)
    · exact am_Ew.retI h
    · obtain ⟨v3, f3, h1, h⟩ := am_bI_some h
      refine am_Ew.run (am_Ev.call (fun n => rfl) (lk_X8_tellTaker h1) ?_)
      refine am_Ew.start [] 2 (am_Ew.conv (fun k => (some (some (.int v3), am_G0, f3))) (fun k => rfl) ?_)
      exact am_Ew.retI h
set_option maxHeartbeats 400000 in
set_option maxRecDepth 100000 in
theorem lk_X8_tellRule {X : am_X} {a1 a2 : Int32} {f f' : am_M} {v' : Int32} (h : D_X8_tellRule a1 a2 f = some (v', f')) : am_Ev X 149 0 [some (.ref 91), some (.int a1), some (.int a2)] [] f (some (.int v')) f' := by
  rw [D_X8_tellRule] at h
  refine am_Ew.start [2] 2 (am_Ew.conv (fun k => (k 2 [some (.ref 91), some (.int a1), some (.int a2)] [.int a1, .ref 91] am_G0 f)) (fun k => rfl) ?_)
  obtain ⟨f1, h1, h⟩ := am_bV_some h
  refine am_Ew.run (am_Ev.call (fun n => rfl) (lk_X8_laysRule h1) ?_)
  refine am_Ew.start [25, 38] 13 (am_Ew.conv (fun k => (if a2 = 0 then (am_chk a1 61 (some (some (.int (f1 105 a1.toNatClampNeg)), am_G0, f1))) else (if a2 = 1 then (k 25 [some (.ref 91), some (.int a1), some (.int a2)] [.int a1, .ref 91] am_G0 f1) else (if a2 = 2 then (k 38 [some (.ref 91), some (.int a1), some (.int a2)] [.int a1, .ref 91] am_G0 f1) else (am_chk a1 61 (some (some (.int (f1 106 a1.toNatClampNeg)), am_G0, f1))))))) (fun k => rfl) ?_)
  refine am_Ew.ite h (fun _ h => ?_) (fun _ h => ?_)
  · refine am_Ew.chk h (fun h => ?_)
    exact am_Ew.retI h
  · refine am_Ew.ite h (fun _ h => ?_) (fun _ h => ?_)
    · obtain ⟨v2, f2, h1, h⟩ := am_bI_some h
      refine am_Ew.run (am_Ev.call (fun n => rfl) (lk_X8_leastAt h1) ?_)
      refine am_Ew.start [] 2 (am_Ew.conv (fun k => (some (some (.int v2), am_G0, f2))) (fun k => rfl) ?_)
      exact am_Ew.retI h
    · refine am_Ew.ite h (fun _ h => ?_) (fun _ h => ?_)
      · obtain ⟨v3, f3, h1, h⟩ := am_bI_some h
        refine am_Ew.run (am_Ev.call (fun n => rfl) (lk_X8_slowAt h1) ?_)
        refine am_Ew.start [] 2 (am_Ew.conv (fun k => (some (some (.int v3), am_G0, f3))) (fun k => rfl) ?_)
        exact am_Ew.retI h
      · refine am_Ew.chk h (fun h => ?_)
        exact am_Ew.retI h
set_option maxHeartbeats 400000 in
set_option maxRecDepth 100000 in
theorem lk_X8_waited {X : am_X} {a1 a2 : Int32} {f f' : am_M} {v' : Int32} (h : D_X8_waited a1 a2 f = some (v', f')) : am_Ev X 151 0 [some (.ref 91), some (.int a1), some (.int a2)] [] f (some (.int v')) f' := by
  rw [D_X8_waited] at h
  refine am_Ew.start [1] 1 (am_Ew.conv (fun k => (k 1 [some (.ref 91), some (.int a1), some (.int a2)] [.int a1] am_G0 f)) (fun k => rfl) ?_)
  obtain ⟨v1, f1, h1, h⟩ := am_bI_some h
  refine am_Ew.run (am_Ev.call (fun n => rfl) (lk_X8_isTicks h1) ?_)
  refine am_Ew.start [9] 3 (am_Ew.conv (fun k => (if v1 = 0 then (some (some (.int (-1)), am_G0, f1)) else (k 9 [some (.ref 91), some (.int a1), some (.int a2)] [.int a2, .ref 91] am_G0 f1))) (fun k => rfl) ?_)
  refine am_Ew.ite h (fun _ h => ?_) (fun _ h => ?_)
  · exact am_Ew.retI h
  · obtain ⟨v2, f2, h1, h⟩ := am_bI_some h
    refine am_Ew.run (am_Ev.call (fun n => rfl) (lk_X8_isMaker h1) ?_)
    refine am_Ew.start [19] 3 (am_Ew.conv (fun k => (if v2 = 0 then (some (some (.int (-1)), am_G0, f2)) else (k 19 [some (.ref 91), some (.int a1), some (.int a2)] [.int a1, .ref 91] am_G0 f2))) (fun k => rfl) ?_)
    refine am_Ew.ite h (fun _ h => ?_) (fun _ h => ?_)
    · exact am_Ew.retI h
    · obtain ⟨f3, h1, h⟩ := am_bV_some h
      refine am_Ew.run (am_Ev.call (fun n => rfl) (lk_X8_laysRule h1) ?_)
      refine am_Ew.start [] 9 (am_Ew.conv (fun k => (am_chk (((3 : Int32) * a1) + a2) 183 (some (some (.int (f3 108 (((3 : Int32) * a1) + a2).toNatClampNeg)), am_G0, f3)))) (fun k => rfl) ?_)
      refine am_Ew.chk h (fun h => ?_)
      exact am_Ew.retI h
set_option maxHeartbeats 400000 in
set_option maxRecDepth 100000 in
theorem lk_X8_done {X : am_X} {a1 a2 : Int32} {f f' : am_M} {v' : Int32} (h : D_X8_done a1 a2 f = some (v', f')) : am_Ev X 152 0 [some (.ref 91), some (.int a1), some (.int a2)] [] f (some (.int v')) f' := by
  rw [D_X8_done] at h
  refine am_Ew.start [1] 1 (am_Ew.conv (fun k => (k 1 [some (.ref 91), some (.int a1), some (.int a2)] [.int a1] am_G0 f)) (fun k => rfl) ?_)
  obtain ⟨v1, f1, h1, h⟩ := am_bI_some h
  refine am_Ew.run (am_Ev.call (fun n => rfl) (lk_X8_isTicks h1) ?_)
  refine am_Ew.start [9] 3 (am_Ew.conv (fun k => (if v1 = 0 then (some (some (.int (-1)), am_G0, f1)) else (k 9 [some (.ref 91), some (.int a1), some (.int a2)] [.int a2, .ref 91] am_G0 f1))) (fun k => rfl) ?_)
  refine am_Ew.ite h (fun _ h => ?_) (fun _ h => ?_)
  · exact am_Ew.retI h
  · obtain ⟨v2, f2, h1, h⟩ := am_bI_some h
    refine am_Ew.run (am_Ev.call (fun n => rfl) (lk_X8_isTaker h1) ?_)
    refine am_Ew.start [19] 3 (am_Ew.conv (fun k => (if v2 = 0 then (some (some (.int (-1)), am_G0, f2)) else (k 19 [some (.ref 91), some (.int a1), some (.int a2)] [.int a1, .ref 91] am_G0 f2))) (fun k => rfl) ?_)
    refine am_Ew.ite h (fun _ h => ?_) (fun _ h => ?_)
    · exact am_Ew.retI h
    · obtain ⟨f3, h1, h⟩ := am_bV_some h
      refine am_Ew.run (am_Ev.call (fun n => rfl) (lk_X8_laysRule h1) ?_)
      refine am_Ew.start [] 9 (am_Ew.conv (fun k => (am_chk (((6 : Int32) * a1) + a2) 366 (some (some (.int (f3 107 (((6 : Int32) * a1) + a2).toNatClampNeg)), am_G0, f3)))) (fun k => rfl) ?_)
      refine am_Ew.chk h (fun h => ?_)
      exact am_Ew.retI h
set_option maxHeartbeats 400000 in
set_option maxRecDepth 100000 in
theorem lk_X8_candidates_23 {X : am_X} {K : Int32 → Int32 → am_M → Option (Int32 × am_M)} (hK : ∀ (x1 x2 : Int32) (f : am_M) (v' : Int32) (f' : am_M), K x1 x2 f = some (v', f') → ∀ d3 d4 : Option Value, am_Ev X 155 10 [some (.ref 91), some (.int x1), some (.int x2), d3, d4] [] f (some (.int v')) f') : ∀ (n : Nat) (x1 x2 x3 x4 : Int32) (f : am_M) (v' : Int32) (f' : am_M), D_X8_candidates_23 K n x1 x2 x3 x4 f = some (v', f') → am_Ev X 155 23 [some (.ref 91), some (.int x1), some (.int x2), some (.int x3), some (.int x4)] [] f (some (.int v')) f'
  | 0, _, _, _, _, _, _, _, h => by cases h
  | n + 1, x1, x2, x3, x4, f, v', f', h => by
    rw [D_X8_candidates_23] at h
    refine am_Ew.start [10, 23] 27 (am_Ew.conv (fun k => (if x4 < (f 91 11) then (if x3 = 0 then (k 23 [some (.ref 91), some (.int x1), some (.int x2), some (.int 0), some (.int (x4 + 1))] [] am_G0 f) else (am_chk x4 6 (am_chk (((6 : Int32) * (f 99 x4.toNatClampNeg)) + x2) 366 (am_chk x4 6 (if (f 107 (((6 : Int32) * (f 99 x4.toNatClampNeg)) + x2).toNatClampNeg) = (f 100 x4.toNatClampNeg) then (k 23 [some (.ref 91), some (.int x1), some (.int x2), some (.int 1), some (.int (x4 + 1))] [] am_G0 f) else (k 23 [some (.ref 91), some (.int x1), some (.int x2), some (.int 0), some (.int (x4 + 1))] [] am_G0 f)))))) else (if x3 = 0 then (k 10 [some (.ref 91), some (.int (x1 ||| 0)), some (.int (x2 + 1)), some (.int x3), some (.int x4)] [] am_G0 f) else (k 10 [some (.ref 91), some (.int (x1 ||| ((1 : Int32) <<< (x2 &&& 31)))), some (.int (x2 + 1)), some (.int x3), some (.int x4)] [] am_G0 f)))) (fun k => rfl) ?_)
    refine am_Ew.ite h (fun _ h => ?_) (fun _ h => ?_)
    · refine am_Ew.ite h (fun _ h => ?_) (fun _ h => ?_)
      · exact am_Ew.run (lk_X8_candidates_23 hK n _ _ _ _ _ _ _ h )
      · refine am_Ew.chk h (fun h => ?_)
        refine am_Ew.chk h (fun h => ?_)
        refine am_Ew.chk h (fun h => ?_)
        refine am_Ew.ite h (fun _ h => ?_) (fun _ h => ?_)
        · exact am_Ew.run (lk_X8_candidates_23 hK n _ _ _ _ _ _ _ h )
        · exact am_Ew.run (lk_X8_candidates_23 hK n _ _ _ _ _ _ _ h )
    · refine am_Ew.ite h (fun _ h => ?_) (fun _ h => ?_)
      · exact am_Ew.run (hK _ _ _ _ _ h _ _ )
      · exact am_Ew.run (hK _ _ _ _ _ h _ _ )
set_option maxHeartbeats 400000 in
set_option maxRecDepth 100000 in
theorem lk_X8_candidates_10 {X : am_X} : ∀ (n : Nat) (x1 x2 : Int32) (f : am_M) (v' : Int32) (f' : am_M), D_X8_candidates_10 n x1 x2 f = some (v', f') → ∀ d3 d4 : Option Value, am_Ev X 155 10 [some (.ref 91), some (.int x1), some (.int x2), d3, d4] [] f (some (.int v')) f'
  | 0, _, _, _, _, _, h, _, _ => by cases h
  | n + 1, x1, x2, f, v', f', h, d3, d4 => by
    rw [D_X8_candidates_10] at h
    refine am_Ew.start [23] 8 (am_Ew.conv (fun k => (if x2 < (f 91 3) then (k 23 [some (.ref 91), some (.int x1), some (.int x2), some (.int 1), some (.int 0)] [] am_G0 f) else (some (some (.int x1), am_G0, f)))) (fun k => rfl) ?_)
    refine am_Ew.ite h (fun _ h => ?_) (fun _ h => ?_)
    · exact am_Ew.run (lk_X8_candidates_23 (fun y1 y2 f9 v9 f8 h9 e0 e1 => lk_X8_candidates_10 n y1 y2 f9 v9 f8 h9 e0 e1) _ _ _ _ _ _ _ _ h )
    · exact am_Ew.retI h
set_option maxHeartbeats 400000 in
set_option maxRecDepth 100000 in
theorem lk_X8_candidates {X : am_X} {f f' : am_M} {v' : Int32} (h : D_X8_candidates f = some (v', f')) : am_Ev X 155 0 [some (.ref 91), none, none, none, none] [] f (some (.int v')) f' := by
  rw [D_X8_candidates] at h
  refine am_Ew.start [3] 2 (am_Ew.conv (fun k => (k 3 [some (.ref 91), none, none, none, none] [.int 60, .ref 91] am_G0 f)) (fun k => rfl) ?_)
  obtain ⟨f1, h1, h⟩ := am_bV_some h
  refine am_Ew.run (am_Ev.call (fun n => rfl) (lk_X8_laysRule h1) ?_)
  refine am_Ew.start [10] 4 (am_Ew.conv (fun k => (k 10 [some (.ref 91), some (.int 0), some (.int 0), none, none] [] am_G0 f1)) (fun k => rfl) ?_)
  exact am_Ew.run (lk_X8_candidates_10 _ _ _ _ _ _ h _ _ )
set_option maxHeartbeats 400000 in
set_option maxRecDepth 100000 in
theorem lk_X8_tells_106 {X : am_X} : ∀ (n : Nat) (x1 x2 : Int32) (f : am_M) (v' : Int32) (f' : am_M), D_X8_tells_106 n x1 x2 f = some (v', f') → am_Ev X 105 106 [some (.ref 91), some (.int x1), some (.int x2)] [] f (some (.int v')) f'
  | 0, _, _, _, _, _, h => by cases h
  | n + 1, x1, x2, f, v', f', h => by
    rw [D_X8_tells_106] at h
    refine am_Ew.start [106] 24 (am_Ew.conv (fun k => (if x2 < (am_int 1026) then (am_chk x2 1026 (k 106 [some (.ref 91), some (.int x1), some (.int (x2 + 1))] [] am_G0 (am_wr f 95 x2.toNatClampNeg 0))) else (some (some (.int x1), am_G0, (am_wr (am_wr (am_wr (am_wr (am_wr f 91 11 0) 91 8 0) 98 0 0) 98 1 0) 91 15 0))))) (fun k => rfl) ?_)
    refine am_Ew.ite h (fun _ h => ?_) (fun _ h => ?_)
    · refine am_Ew.chk h (fun h => ?_)
      exact am_Ew.run (lk_X8_tells_106  n _ _ _ _ _ h )
    · exact am_Ew.retI h
set_option maxHeartbeats 400000 in
set_option maxRecDepth 100000 in
theorem lk_X8_tells_68 {X : am_X} : ∀ (n : Nat) (x1 x2 : Int32) (f : am_M) (v' : Int32) (f' : am_M), D_X8_tells_68 n x1 x2 f = some (v', f') → am_Ev X 105 68 [some (.ref 91), some (.int x1), some (.int x2)] [] f (some (.int v')) f'
  | 0, _, _, _, _, _, h => by cases h
  | n + 1, x1, x2, f, v', f', h => by
    rw [D_X8_tells_68] at h
    refine am_Ew.start [68, 106] 21 (am_Ew.conv (fun k => (if x2 < 6 then (am_chk x2 6 (am_chk x2 6 (am_chk x2 6 (am_chk x2 6 (k 68 [some (.ref 91), some (.int x1), some (.int (x2 + 1))] [] am_G0 (am_wr (am_wr f 93 x2.toNatClampNeg (f 103 x2.toNatClampNeg)) 94 x2.toNatClampNeg (f 104 x2.toNatClampNeg))))))) else (k 106 [some (.ref 91), some (.int x1), some (.int 0)] [] am_G0 f))) (fun k => rfl) ?_)
    refine am_Ew.ite h (fun _ h => ?_) (fun _ h => ?_)
    · refine am_Ew.chk h (fun h => ?_)
      refine am_Ew.chk h (fun h => ?_)
      refine am_Ew.chk h (fun h => ?_)
      refine am_Ew.chk h (fun h => ?_)
      exact am_Ew.run (lk_X8_tells_68  n _ _ _ _ _ h )
    · exact am_Ew.run (lk_X8_tells_106 _ _ _ _ _ _ h )
set_option maxHeartbeats 400000 in
set_option maxRecDepth 100000 in
theorem lk_X8_tells_43 {X : am_X} : ∀ (n : Nat) (x1 x2 : Int32) (f : am_M) (v' : Int32) (f' : am_M), D_X8_tells_43 n x1 x2 f = some (v', f') → am_Ev X 105 43 [some (.ref 91), some (.int x1), some (.int x2)] [] f (some (.int v')) f'
  | 0, _, _, _, _, _, h => by cases h
  | n + 1, x1, x2, f, v', f', h => by
    rw [D_X8_tells_43] at h
    refine am_Ew.start [43, 68] 13 (am_Ew.conv (fun k => (if x2 < 3 then (am_chk x2 3 (am_chk x2 3 (k 43 [some (.ref 91), some (.int x1), some (.int (x2 + 1))] [] am_G0 (am_wr f 92 x2.toNatClampNeg (f 102 x2.toNatClampNeg))))) else (k 68 [some (.ref 91), some (.int x1), some (.int 0)] [] am_G0 f))) (fun k => rfl) ?_)
    refine am_Ew.ite h (fun _ h => ?_) (fun _ h => ?_)
    · refine am_Ew.chk h (fun h => ?_)
      refine am_Ew.chk h (fun h => ?_)
      exact am_Ew.run (lk_X8_tells_43  n _ _ _ _ _ h )
    · exact am_Ew.run (lk_X8_tells_68 _ _ _ _ _ _ h )
set_option maxHeartbeats 400000 in
set_option maxRecDepth 100000 in
theorem lk_X8_tells {X : am_X} {f f' : am_M} {v' : Int32} (h : D_X8_tells f = some (v', f')) : am_Ev X 105 0 [some (.ref 91), none, none] [] f (some (.int v')) f' := by
  rw [D_X8_tells] at h
  refine am_Ew.start [1] 1 (am_Ew.conv (fun k => (k 1 [some (.ref 91), none, none] [.ref 91] am_G0 f)) (fun k => rfl) ?_)
  obtain ⟨v1, f1, h1, h⟩ := am_bI_some h
  refine am_Ew.run (am_Ev.call (fun n => rfl) (lk_X8_reads h1) ?_)
  refine am_Ew.start [43] 17 (am_Ew.conv (fun k => (if v1 < 0 then (some (some (.int (((-10) : Int32) - (f1 91 17))), am_G0, f1)) else (k 43 [some (.ref 91), some (.int v1), some (.int 0)] [] am_G0 (am_wr (am_wr (am_wr f1 91 0 (f1 91 19)) 91 1 (f1 91 20)) 91 3 (f1 91 21))))) (fun k => rfl) ?_)
  refine am_Ew.ite h (fun _ h => ?_) (fun _ h => ?_)
  · exact am_Ew.retI h
  · exact am_Ew.run (lk_X8_tells_43 _ _ _ _ _ _ h )
set_option maxHeartbeats 400000 in
set_option maxRecDepth 100000 in
theorem lk_X8_rule {X : am_X} {a1 a2 : Int32} {f f' : am_M} {v' : Int32} (h : D_X8_rule a1 a2 f = some (v', f')) : am_Ev X 150 0 [some (.ref 91), some (.int a1), some (.int a2)] [] f (some (.int v')) f' := by
  rw [D_X8_rule] at h
  refine am_Ew.start [1] 1 (am_Ew.conv (fun k => (k 1 [some (.ref 91), some (.int a1), some (.int a2)] [.int a1] am_G0 f)) (fun k => rfl) ?_)
  obtain ⟨v1, f1, h1, h⟩ := am_bI_some h
  refine am_Ew.run (am_Ev.call (fun n => rfl) (lk_X8_isTicks h1) ?_)
  refine am_Ew.start [10] 4 (am_Ew.conv (fun k => (if v1 = 0 then (some (some (.int (-1)), am_G0, f1)) else (k 10 [some (.ref 91), some (.int a1), some (.int a2)] [.int 3, .int 0, .int a2] am_G0 f1))) (fun k => rfl) ?_)
  refine am_Ew.ite h (fun _ h => ?_) (fun _ h => ?_)
  · exact am_Ew.retI h
  · obtain ⟨v2, f2, h1, h⟩ := am_bI_some h
    refine am_Ew.run (am_Ev.call (fun n => rfl) (lk_X8_within h1) ?_)
    refine am_Ew.start [19] 4 (am_Ew.conv (fun k => (if v2 = 0 then (some (some (.int (-1)), am_G0, f2)) else (k 19 [some (.ref 91), some (.int a1), some (.int a2)] [.int a2, .int a1, .ref 91] am_G0 f2))) (fun k => rfl) ?_)
    refine am_Ew.ite h (fun _ h => ?_) (fun _ h => ?_)
    · exact am_Ew.retI h
    · obtain ⟨v3, f3, h1, h⟩ := am_bI_some h
      refine am_Ew.run (am_Ev.call (fun n => rfl) (lk_X8_tellRule h1) ?_)
      refine am_Ew.start [] 2 (am_Ew.conv (fun k => (some (some (.int v3), am_G0, f3))) (fun k => rfl) ?_)
      exact am_Ew.retI h
set_option maxHeartbeats 400000 in
set_option maxRecDepth 100000 in
theorem lk_X8_which {X : am_X} {f f' : am_M} {v' : Int32} (h : D_X8_which f = some (v', f')) : am_Ev X 156 0 [some (.ref 91)] [] f (some (.int v')) f' := by
  rw [D_X8_which] at h
  refine am_Ew.start [1] 1 (am_Ew.conv (fun k => (k 1 [some (.ref 91)] [.ref 91] am_G0 f)) (fun k => rfl) ?_)
  obtain ⟨v1, f1, h1, h⟩ := am_bI_some h
  refine am_Ew.run (am_Ev.call (fun n => rfl) (lk_X8_candidates h1) ?_)
  refine am_Ew.start [] 1 (am_Ew.conv (fun k => (some (some (.int v1), am_G0, f1))) (fun k => rfl) ?_)
  exact am_Ew.retI h
set_option maxHeartbeats 400000 in
set_option maxRecDepth 100000 in
theorem lk_X8_look_20 {X : am_X} : ∀ (n : Nat) (x1 x2 x3 : Int32) (f : am_M) (v' : Int32) (f' : am_M), D_X8_look_20 n x1 x2 x3 f = some (v', f') → am_Ev X 158 20 [some (.ref 91), some (.int x1), some (.int x2), some (.int x3)] [] f (some (.int v')) f'
  | 0, _, _, _, _, _, _, h => by cases h
  | n + 1, x1, x2, x3, f, v', f', h => by
    rw [D_X8_look_20] at h
    refine am_Ew.start [29] 6 (am_Ew.conv (fun k => (if 60 < x3 then (some (some (.int x2), am_G0, f)) else (k 29 [some (.ref 91), some (.int x1), some (.int x2), some (.int x3)] [.int x3, .int x1, .ref 91] am_G0 f))) (fun k => rfl) ?_)
    refine am_Ew.ite h (fun _ h => ?_) (fun _ h => ?_)
    · exact am_Ew.retI h
    · obtain ⟨v2, f2, h1, h⟩ := am_bI_some h
      refine am_Ew.run (am_Ev.call (fun n => rfl) (lk_X8_mostAlike h1) ?_)
      refine am_Ew.start [35] 3 (am_Ew.conv (fun k => (k 35 [some (.ref 91), some (.int x1), some (.int x2), some (.int x3)] [.int x2, .int x1, .ref 91, .int v2] am_G0 f2)) (fun k => rfl) ?_)
      obtain ⟨v3, f3, h1, h⟩ := am_bI_some h
      refine am_Ew.run (am_Ev.call (fun n => rfl) (lk_X8_mostAlike h1) ?_)
      refine am_Ew.start [20] 6 (am_Ew.conv (fun k => (if v2 < v3 then (k 20 [some (.ref 91), some (.int x1), some (.int x3), some (.int (x3 + 1))] [] am_G0 f3) else (k 20 [some (.ref 91), some (.int x1), some (.int x2), some (.int (x3 + 1))] [] am_G0 f3))) (fun k => rfl) ?_)
      refine am_Ew.ite h (fun _ h => ?_) (fun _ h => ?_)
      · exact am_Ew.run (lk_X8_look_20  n _ _ _ _ _ _ h )
      · exact am_Ew.run (lk_X8_look_20  n _ _ _ _ _ _ h )
set_option maxHeartbeats 400000 in
set_option maxRecDepth 100000 in
theorem lk_X8_look {X : am_X} {f f' : am_M} {v' : Int32} (h : D_X8_look f = some (v', f')) : am_Ev X 158 0 [some (.ref 91), none, none, none] [] f (some (.int v')) f' := by
  rw [D_X8_look] at h
  refine am_Ew.start [1] 1 (am_Ew.conv (fun k => (k 1 [some (.ref 91), none, none, none] [.ref 91] am_G0 f)) (fun k => rfl) ?_)
  obtain ⟨v1, f1, h1, h⟩ := am_bI_some h
  refine am_Ew.run (am_Ev.call (fun n => rfl) (lk_X8_candidates h1) ?_)
  refine am_Ew.start [20] 11 (am_Ew.conv (fun k => (if (v1 &&& (v1 - 1)) = 0 then (some (some (.int (-9)), am_G0, f1)) else (k 20 [some (.ref 91), some (.int v1), some (.int 0), some (.int 1)] [] am_G0 f1))) (fun k => rfl) ?_)
  refine am_Ew.ite h (fun _ h => ?_) (fun _ h => ?_)
  · exact am_Ew.retI h
  · exact am_Ew.run (lk_X8_look_20 _ _ _ _ _ _ _ h )
end
section
set_option maxHeartbeats 400000 in
set_option maxRecDepth 100000 in
theorem lk_L_law_18 {X : am_X} : ∀ (n : Nat) (x3 : Int32) (f : am_M) (v' : Int32) (f' : am_M), D_L_law_18 X n x3 f = some (v', f') → am_Ev X 172 18 [some (.ref 1000), some (.ref 0), some (.ref 91), some (.int x3)] [] f (some (.int v')) f'
  | 0, _, _, _, _, h => by cases h
  | n + 1, x3, f, v', f', h => by
    rw [D_L_law_18] at h
    refine am_Ew.start [18, 150, 168, 181, 204, 237, 265, 293, 321, 339, 362, 395, 428, 451, 464, 487, 520, 553, 586, 609, 622, 635, 653, 676, 699] 23 (am_Ew.conv (fun k => (if ((Int32.ofNat X.1) - 3) < x3 then (some (some (.int 1), am_G0, f)) else (am_chk x3 X.1 (if ((X.2 x3.toNatClampNeg) &&& 31) = 0 then (am_chk (x3 + 1) X.1 (k 150 [some (.ref 1000), some (.ref 0), some (.ref 91), some (.int x3)] [.int (X.2 (x3 + 1).toNatClampNeg), .ref 0] am_G0 f)) else (if ((X.2 x3.toNatClampNeg) &&& 31) = 1 then (k 168 [some (.ref 1000), some (.ref 0), some (.ref 91), some (.int x3)] [.ref 0] am_G0 f) else (if ((X.2 x3.toNatClampNeg) &&& 31) = 2 then (k 181 [some (.ref 1000), some (.ref 0), some (.ref 91), some (.int x3)] [.ref 0] am_G0 f) else (if ((X.2 x3.toNatClampNeg) &&& 31) = 3 then (am_chk (x3 + 1) X.1 (am_chk (x3 + 2) X.1 (k 204 [some (.ref 1000), some (.ref 0), some (.ref 91), some (.int x3)] [.int (X.2 (x3 + 2).toNatClampNeg), .int (X.2 (x3 + 1).toNatClampNeg), .ref 0] am_G0 f))) else (if ((X.2 x3.toNatClampNeg) &&& 31) = 4 then (am_chk (x3 + 1) X.1 (am_chk (x3 + 2) X.1 (k 237 [some (.ref 1000), some (.ref 0), some (.ref 91), some (.int x3)] [.int (X.2 (x3 + 2).toNatClampNeg), .int (X.2 (x3 + 1).toNatClampNeg), .ref 0] am_G0 f))) else (if ((X.2 x3.toNatClampNeg) &&& 31) = 5 then (am_chk (x3 + 1) X.1 (k 265 [some (.ref 1000), some (.ref 0), some (.ref 91), some (.int x3)] [.int (X.2 (x3 + 1).toNatClampNeg), .ref 0] am_G0 f)) else (if ((X.2 x3.toNatClampNeg) &&& 31) = 6 then (am_chk (x3 + 1) X.1 (am_chk (x3 + 2) X.1 (k 293 [some (.ref 1000), some (.ref 0), some (.ref 91), some (.int x3)] [.int (X.2 (x3 + 2).toNatClampNeg), .int (X.2 (x3 + 1).toNatClampNeg), .ref 0] am_G0 f))) else (if ((X.2 x3.toNatClampNeg) &&& 31) = 7 then (am_chk (x3 + 1) X.1 (k 321 [some (.ref 1000), some (.ref 0), some (.ref 91), some (.int x3)] [.int (X.2 (x3 + 1).toNatClampNeg), .ref 0] am_G0 f)) else (if ((X.2 x3.toNatClampNeg) &&& 31) = 8 then (k 339 [some (.ref 1000), some (.ref 0), some (.ref 91), some (.int x3)] [.ref 0] am_G0 f) else (if ((X.2 x3.toNatClampNeg) &&& 31) = 9 then (am_chk (x3 + 1) X.1 (am_chk (x3 + 2) X.1 (k 362 [some (.ref 1000), some (.ref 0), some (.ref 91), some (.int x3)] [.int (X.2 (x3 + 2).toNatClampNeg), .int (X.2 (x3 + 1).toNatClampNeg), .ref 0] am_G0 f))) else (if ((X.2 x3.toNatClampNeg) &&& 31) = 10 then (am_chk (x3 + 1) X.1 (am_chk (x3 + 2) X.1 (k 395 [some (.ref 1000), some (.ref 0), some (.ref 91), some (.int x3)] [.int (X.2 (x3 + 2).toNatClampNeg), .int (X.2 (x3 + 1).toNatClampNeg), .ref 0] am_G0 f))) else (if ((X.2 x3.toNatClampNeg) &&& 31) = 11 then (am_chk (x3 + 1) X.1 (am_chk (x3 + 2) X.1 (k 428 [some (.ref 1000), some (.ref 0), some (.ref 91), some (.int x3)] [.int (X.2 (x3 + 2).toNatClampNeg), .int (X.2 (x3 + 1).toNatClampNeg), .ref 0] am_G0 f))) else (if ((X.2 x3.toNatClampNeg) &&& 31) = 12 then (k 451 [some (.ref 1000), some (.ref 0), some (.ref 91), some (.int x3)] [.ref 0] am_G0 f) else (if ((X.2 x3.toNatClampNeg) &&& 31) = 13 then (k 464 [some (.ref 1000), some (.ref 0), some (.ref 91), some (.int x3)] [.ref 0] am_G0 f) else (if ((X.2 x3.toNatClampNeg) &&& 31) = 14 then (am_chk (x3 + 1) X.1 (am_chk (x3 + 2) X.1 (k 487 [some (.ref 1000), some (.ref 0), some (.ref 91), some (.int x3)] [.int (X.2 (x3 + 2).toNatClampNeg), .int (X.2 (x3 + 1).toNatClampNeg), .ref 0] am_G0 f))) else (if ((X.2 x3.toNatClampNeg) &&& 31) = 15 then (am_chk (x3 + 1) X.1 (am_chk (x3 + 2) X.1 (k 520 [some (.ref 1000), some (.ref 0), some (.ref 91), some (.int x3)] [.int (X.2 (x3 + 2).toNatClampNeg), .int (X.2 (x3 + 1).toNatClampNeg), .ref 0] am_G0 f))) else (if ((X.2 x3.toNatClampNeg) &&& 31) = 16 then (am_chk (x3 + 1) X.1 (am_chk (x3 + 2) X.1 (k 553 [some (.ref 1000), some (.ref 0), some (.ref 91), some (.int x3)] [.int (X.2 (x3 + 2).toNatClampNeg), .int (X.2 (x3 + 1).toNatClampNeg), .ref 0] am_G0 f))) else (if ((X.2 x3.toNatClampNeg) &&& 31) = 17 then (am_chk (x3 + 1) X.1 (am_chk (x3 + 2) X.1 (k 586 [some (.ref 1000), some (.ref 0), some (.ref 91), some (.int x3)] [.int (X.2 (x3 + 2).toNatClampNeg), .int (X.2 (x3 + 1).toNatClampNeg), .ref 0] am_G0 f))) else (if ((X.2 x3.toNatClampNeg) &&& 31) = 18 then (k 609 [some (.ref 1000), some (.ref 0), some (.ref 91), some (.int x3)] [.ref 0] am_G0 f) else (if ((X.2 x3.toNatClampNeg) &&& 31) = 19 then (k 622 [some (.ref 1000), some (.ref 0), some (.ref 91), some (.int x3)] [.ref 0] am_G0 f) else (if ((X.2 x3.toNatClampNeg) &&& 31) = 20 then (k 635 [some (.ref 1000), some (.ref 0), some (.ref 91), some (.int x3)] [.ref 0] am_G0 f) else (if ((X.2 x3.toNatClampNeg) &&& 31) = 21 then (am_chk (x3 + 1) X.1 (k 653 [some (.ref 1000), some (.ref 0), some (.ref 91), some (.int x3)] [.int (X.2 (x3 + 1).toNatClampNeg), .ref 0] am_G0 f)) else (if ((X.2 x3.toNatClampNeg) &&& 31) = 22 then (am_chk (x3 + 1) X.1 (k 676 [some (.ref 1000), some (.ref 0), some (.ref 91), some (.int x3)] [.int (X.2 (x3 + 1).toNatClampNeg), .ref 0] am_G0 f)) else (if ((X.2 x3.toNatClampNeg) &&& 31) = 23 then (am_chk (x3 + 1) X.1 (k 699 [some (.ref 1000), some (.ref 0), some (.ref 91), some (.int x3)] [.int (X.2 (x3 + 1).toNatClampNeg), .ref 0] am_G0 f)) else (k 18 [some (.ref 1000), some (.ref 0), some (.ref 91), some (.int (x3 + 3))] [] am_G0 f)))))))))))))))))))))))))))) (fun k => rfl) ?_)
    refine am_Ew.ite h (fun _ h => ?_) (fun _ h => ?_)
    · exact am_Ew.retI h
    · refine am_Ew.chk h (fun h => ?_)
      refine am_Ew.ite h (fun _ h => ?_) (fun _ h => ?_)
      · refine am_Ew.chk h (fun h => ?_)
        obtain ⟨v1, f1, h1, h⟩ := am_bI_some h
        refine am_Ew.run (am_Ev.call (fun n => rfl) (lk_X7_type h1) ?_)
        refine am_Ew.start [159] 6 (am_Ew.conv (fun k => (am_chk (x3 + 1) X.1 (k 159 [some (.ref 1000), some (.ref 0), some (.ref 91), some (.int x3)] [.int (X.2 (x3 + 1).toNatClampNeg), .ref 91, .int v1] am_G0 f1))) (fun k => rfl) ?_)
        refine am_Ew.chk h (fun h => ?_)
        obtain ⟨v2, f2, h1, h⟩ := am_bI_some h
        refine am_Ew.run (am_Ev.call (fun n => rfl) (lk_X8_type h1) ?_)
        refine am_Ew.start [18] 3 (am_Ew.conv (fun k => (if v1 = v2 then (k 18 [some (.ref 1000), some (.ref 0), some (.ref 91), some (.int (x3 + 3))] [] am_G0 f2) else (some (some (.int 0), am_G0, f2)))) (fun k => rfl) ?_)
        refine am_Ew.ite h (fun _ h => ?_) (fun _ h => ?_)
        · exact am_Ew.run (lk_L_law_18  n _ _ _ _ h )
        · exact am_Ew.retI h
      · refine am_Ew.ite h (fun _ h => ?_) (fun _ h => ?_)
        · obtain ⟨v3, f3, h1, h⟩ := am_bI_some h
          refine am_Ew.run (am_Ev.call (fun n => rfl) (lk_X7_clear h1) ?_)
          refine am_Ew.start [172] 1 (am_Ew.conv (fun k => (k 172 [some (.ref 1000), some (.ref 0), some (.ref 91), some (.int x3)] [.ref 91, .int v3] am_G0 f3)) (fun k => rfl) ?_)
          obtain ⟨v4, f4, h1, h⟩ := am_bI_some h
          refine am_Ew.run (am_Ev.call (fun n => rfl) (lk_X8_clear h1) ?_)
          refine am_Ew.start [18] 3 (am_Ew.conv (fun k => (if v3 = v4 then (k 18 [some (.ref 1000), some (.ref 0), some (.ref 91), some (.int (x3 + 3))] [] am_G0 f4) else (some (some (.int 0), am_G0, f4)))) (fun k => rfl) ?_)
          refine am_Ew.ite h (fun _ h => ?_) (fun _ h => ?_)
          · exact am_Ew.run (lk_L_law_18  n _ _ _ _ h )
          · exact am_Ew.retI h
        · refine am_Ew.ite h (fun _ h => ?_) (fun _ h => ?_)
          · obtain ⟨v5, f5, h1, h⟩ := am_bI_some h
            refine am_Ew.run (am_Ev.call (fun n => rfl) (lk_X7_tells h1) ?_)
            refine am_Ew.start [185] 1 (am_Ew.conv (fun k => (k 185 [some (.ref 1000), some (.ref 0), some (.ref 91), some (.int x3)] [.ref 91, .int v5] am_G0 f5)) (fun k => rfl) ?_)
            obtain ⟨v6, f6, h1, h⟩ := am_bI_some h
            refine am_Ew.run (am_Ev.call (fun n => rfl) (lk_X8_tells h1) ?_)
            refine am_Ew.start [18] 3 (am_Ew.conv (fun k => (if v5 = v6 then (k 18 [some (.ref 1000), some (.ref 0), some (.ref 91), some (.int (x3 + 3))] [] am_G0 f6) else (some (some (.int 0), am_G0, f6)))) (fun k => rfl) ?_)
            refine am_Ew.ite h (fun _ h => ?_) (fun _ h => ?_)
            · exact am_Ew.run (lk_L_law_18  n _ _ _ _ h )
            · exact am_Ew.retI h
          · refine am_Ew.ite h (fun _ h => ?_) (fun _ h => ?_)
            · refine am_Ew.chk h (fun h => ?_)
              refine am_Ew.chk h (fun h => ?_)
              obtain ⟨v7, f7, h1, h⟩ := am_bI_some h
              refine am_Ew.run (am_Ev.call (fun n => rfl) (lk_X7_claims h1) ?_)
              refine am_Ew.start [218] 11 (am_Ew.conv (fun k => (am_chk (x3 + 1) X.1 (am_chk (x3 + 2) X.1 (k 218 [some (.ref 1000), some (.ref 0), some (.ref 91), some (.int x3)] [.int (X.2 (x3 + 2).toNatClampNeg), .int (X.2 (x3 + 1).toNatClampNeg), .ref 91, .int v7] am_G0 f7)))) (fun k => rfl) ?_)
              refine am_Ew.chk h (fun h => ?_)
              refine am_Ew.chk h (fun h => ?_)
              obtain ⟨v8, f8, h1, h⟩ := am_bI_some h
              refine am_Ew.run (am_Ev.call (fun n => rfl) (lk_X8_claims h1) ?_)
              refine am_Ew.start [18] 3 (am_Ew.conv (fun k => (if v7 = v8 then (k 18 [some (.ref 1000), some (.ref 0), some (.ref 91), some (.int (x3 + 3))] [] am_G0 f8) else (some (some (.int 0), am_G0, f8)))) (fun k => rfl) ?_)
              refine am_Ew.ite h (fun _ h => ?_) (fun _ h => ?_)
              · exact am_Ew.run (lk_L_law_18  n _ _ _ _ h )
              · exact am_Ew.retI h
            · refine am_Ew.ite h (fun _ h => ?_) (fun _ h => ?_)
              · refine am_Ew.chk h (fun h => ?_)
                refine am_Ew.chk h (fun h => ?_)
                obtain ⟨v9, f9, h1, h⟩ := am_bI_some h
                refine am_Ew.run (am_Ev.call (fun n => rfl) (lk_X7_fills h1) ?_)
                refine am_Ew.start [251] 11 (am_Ew.conv (fun k => (am_chk (x3 + 1) X.1 (am_chk (x3 + 2) X.1 (k 251 [some (.ref 1000), some (.ref 0), some (.ref 91), some (.int x3)] [.int (X.2 (x3 + 2).toNatClampNeg), .int (X.2 (x3 + 1).toNatClampNeg), .ref 91, .int v9] am_G0 f9)))) (fun k => rfl) ?_)
                refine am_Ew.chk h (fun h => ?_)
                refine am_Ew.chk h (fun h => ?_)
                obtain ⟨v10, f10, h1, h⟩ := am_bI_some h
                refine am_Ew.run (am_Ev.call (fun n => rfl) (lk_X8_fills h1) ?_)
                refine am_Ew.start [18] 3 (am_Ew.conv (fun k => (if v9 = v10 then (k 18 [some (.ref 1000), some (.ref 0), some (.ref 91), some (.int (x3 + 3))] [] am_G0 f10) else (some (some (.int 0), am_G0, f10)))) (fun k => rfl) ?_)
                refine am_Ew.ite h (fun _ h => ?_) (fun _ h => ?_)
                · exact am_Ew.run (lk_L_law_18  n _ _ _ _ h )
                · exact am_Ew.retI h
              · refine am_Ew.ite h (fun _ h => ?_) (fun _ h => ?_)
                · refine am_Ew.chk h (fun h => ?_)
                  obtain ⟨v11, f11, h1, h⟩ := am_bI_some h
                  refine am_Ew.run (am_Ev.call (fun n => rfl) (lk_X7_gaps h1) ?_)
                  refine am_Ew.start [274] 6 (am_Ew.conv (fun k => (am_chk (x3 + 1) X.1 (k 274 [some (.ref 1000), some (.ref 0), some (.ref 91), some (.int x3)] [.int (X.2 (x3 + 1).toNatClampNeg), .ref 91, .int v11] am_G0 f11))) (fun k => rfl) ?_)
                  refine am_Ew.chk h (fun h => ?_)
                  obtain ⟨v12, f12, h1, h⟩ := am_bI_some h
                  refine am_Ew.run (am_Ev.call (fun n => rfl) (lk_X8_gaps h1) ?_)
                  refine am_Ew.start [18] 3 (am_Ew.conv (fun k => (if v11 = v12 then (k 18 [some (.ref 1000), some (.ref 0), some (.ref 91), some (.int (x3 + 3))] [] am_G0 f12) else (some (some (.int 0), am_G0, f12)))) (fun k => rfl) ?_)
                  refine am_Ew.ite h (fun _ h => ?_) (fun _ h => ?_)
                  · exact am_Ew.run (lk_L_law_18  n _ _ _ _ h )
                  · exact am_Ew.retI h
                · refine am_Ew.ite h (fun _ h => ?_) (fun _ h => ?_)
                  · refine am_Ew.chk h (fun h => ?_)
                    refine am_Ew.chk h (fun h => ?_)
                    obtain ⟨v13, f13, h1, h⟩ := am_bI_some h
                    refine am_Ew.run (am_Ev.call (fun n => rfl) (lk_X7_takes h1) ?_)
                    refine am_Ew.start [307] 11 (am_Ew.conv (fun k => (am_chk (x3 + 1) X.1 (am_chk (x3 + 2) X.1 (k 307 [some (.ref 1000), some (.ref 0), some (.ref 91), some (.int x3)] [.int (X.2 (x3 + 2).toNatClampNeg), .int (X.2 (x3 + 1).toNatClampNeg), .ref 91, .int v13] am_G0 f13)))) (fun k => rfl) ?_)
                    refine am_Ew.chk h (fun h => ?_)
                    refine am_Ew.chk h (fun h => ?_)
                    obtain ⟨v14, f14, h1, h⟩ := am_bI_some h
                    refine am_Ew.run (am_Ev.call (fun n => rfl) (lk_X8_takes h1) ?_)
                    refine am_Ew.start [18] 3 (am_Ew.conv (fun k => (if v13 = v14 then (k 18 [some (.ref 1000), some (.ref 0), some (.ref 91), some (.int (x3 + 3))] [] am_G0 f14) else (some (some (.int 0), am_G0, f14)))) (fun k => rfl) ?_)
                    refine am_Ew.ite h (fun _ h => ?_) (fun _ h => ?_)
                    · exact am_Ew.run (lk_L_law_18  n _ _ _ _ h )
                    · exact am_Ew.retI h
                  · refine am_Ew.ite h (fun _ h => ?_) (fun _ h => ?_)
                    · refine am_Ew.chk h (fun h => ?_)
                      obtain ⟨v15, f15, h1, h⟩ := am_bI_some h
                      refine am_Ew.run (am_Ev.call (fun n => rfl) (lk_X7_calls h1) ?_)
                      refine am_Ew.start [330] 6 (am_Ew.conv (fun k => (am_chk (x3 + 1) X.1 (k 330 [some (.ref 1000), some (.ref 0), some (.ref 91), some (.int x3)] [.int (X.2 (x3 + 1).toNatClampNeg), .ref 91, .int v15] am_G0 f15))) (fun k => rfl) ?_)
                      refine am_Ew.chk h (fun h => ?_)
                      obtain ⟨v16, f16, h1, h⟩ := am_bI_some h
                      refine am_Ew.run (am_Ev.call (fun n => rfl) (lk_X8_calls h1) ?_)
                      refine am_Ew.start [18] 3 (am_Ew.conv (fun k => (if v15 = v16 then (k 18 [some (.ref 1000), some (.ref 0), some (.ref 91), some (.int (x3 + 3))] [] am_G0 f16) else (some (some (.int 0), am_G0, f16)))) (fun k => rfl) ?_)
                      refine am_Ew.ite h (fun _ h => ?_) (fun _ h => ?_)
                      · exact am_Ew.run (lk_L_law_18  n _ _ _ _ h )
                      · exact am_Ew.retI h
                    · refine am_Ew.ite h (fun _ h => ?_) (fun _ h => ?_)
                      · obtain ⟨v17, f17, h1, h⟩ := am_bI_some h
                        refine am_Ew.run (am_Ev.call (fun n => rfl) (lk_X7_undo h1) ?_)
                        refine am_Ew.start [343] 1 (am_Ew.conv (fun k => (k 343 [some (.ref 1000), some (.ref 0), some (.ref 91), some (.int x3)] [.ref 91, .int v17] am_G0 f17)) (fun k => rfl) ?_)
                        obtain ⟨v18, f18, h1, h⟩ := am_bI_some h
                        refine am_Ew.run (am_Ev.call (fun n => rfl) (lk_X8_undo h1) ?_)
                        refine am_Ew.start [18] 3 (am_Ew.conv (fun k => (if v17 = v18 then (k 18 [some (.ref 1000), some (.ref 0), some (.ref 91), some (.int (x3 + 3))] [] am_G0 f18) else (some (some (.int 0), am_G0, f18)))) (fun k => rfl) ?_)
                        refine am_Ew.ite h (fun _ h => ?_) (fun _ h => ?_)
                        · exact am_Ew.run (lk_L_law_18  n _ _ _ _ h )
                        · exact am_Ew.retI h
                      · refine am_Ew.ite h (fun _ h => ?_) (fun _ h => ?_)
                        · refine am_Ew.chk h (fun h => ?_)
                          refine am_Ew.chk h (fun h => ?_)
                          obtain ⟨v19, f19, h1, h⟩ := am_bI_some h
                          refine am_Ew.run (am_Ev.call (fun n => rfl) (lk_X7_event h1) ?_)
                          refine am_Ew.start [376] 11 (am_Ew.conv (fun k => (am_chk (x3 + 1) X.1 (am_chk (x3 + 2) X.1 (k 376 [some (.ref 1000), some (.ref 0), some (.ref 91), some (.int x3)] [.int (X.2 (x3 + 2).toNatClampNeg), .int (X.2 (x3 + 1).toNatClampNeg), .ref 91, .int v19] am_G0 f19)))) (fun k => rfl) ?_)
                          refine am_Ew.chk h (fun h => ?_)
                          refine am_Ew.chk h (fun h => ?_)
                          obtain ⟨v20, f20, h1, h⟩ := am_bI_some h
                          refine am_Ew.run (am_Ev.call (fun n => rfl) (lk_X8_event h1) ?_)
                          refine am_Ew.start [18] 3 (am_Ew.conv (fun k => (if v19 = v20 then (k 18 [some (.ref 1000), some (.ref 0), some (.ref 91), some (.int (x3 + 3))] [] am_G0 f20) else (some (some (.int 0), am_G0, f20)))) (fun k => rfl) ?_)
                          refine am_Ew.ite h (fun _ h => ?_) (fun _ h => ?_)
                          · exact am_Ew.run (lk_L_law_18  n _ _ _ _ h )
                          · exact am_Ew.retI h
                        · refine am_Ew.ite h (fun _ h => ?_) (fun _ h => ?_)
                          · refine am_Ew.chk h (fun h => ?_)
                            refine am_Ew.chk h (fun h => ?_)
                            obtain ⟨v21, f21, h1, h⟩ := am_bI_some h
                            refine am_Ew.run (am_Ev.call (fun n => rfl) (lk_X7_taker h1) ?_)
                            refine am_Ew.start [409] 11 (am_Ew.conv (fun k => (am_chk (x3 + 1) X.1 (am_chk (x3 + 2) X.1 (k 409 [some (.ref 1000), some (.ref 0), some (.ref 91), some (.int x3)] [.int (X.2 (x3 + 2).toNatClampNeg), .int (X.2 (x3 + 1).toNatClampNeg), .ref 91, .int v21] am_G0 f21)))) (fun k => rfl) ?_)
                            refine am_Ew.chk h (fun h => ?_)
                            refine am_Ew.chk h (fun h => ?_)
                            obtain ⟨v22, f22, h1, h⟩ := am_bI_some h
                            refine am_Ew.run (am_Ev.call (fun n => rfl) (lk_X8_taker h1) ?_)
                            refine am_Ew.start [18] 3 (am_Ew.conv (fun k => (if v21 = v22 then (k 18 [some (.ref 1000), some (.ref 0), some (.ref 91), some (.int (x3 + 3))] [] am_G0 f22) else (some (some (.int 0), am_G0, f22)))) (fun k => rfl) ?_)
                            refine am_Ew.ite h (fun _ h => ?_) (fun _ h => ?_)
                            · exact am_Ew.run (lk_L_law_18  n _ _ _ _ h )
                            · exact am_Ew.retI h
                          · refine am_Ew.ite h (fun _ h => ?_) (fun _ h => ?_)
                            · refine am_Ew.chk h (fun h => ?_)
                              refine am_Ew.chk h (fun h => ?_)
                              obtain ⟨v23, f23, h1, h⟩ := am_bI_some h
                              refine am_Ew.run (am_Ev.call (fun n => rfl) (lk_X7_maker h1) ?_)
                              refine am_Ew.start [442] 11 (am_Ew.conv (fun k => (am_chk (x3 + 1) X.1 (am_chk (x3 + 2) X.1 (k 442 [some (.ref 1000), some (.ref 0), some (.ref 91), some (.int x3)] [.int (X.2 (x3 + 2).toNatClampNeg), .int (X.2 (x3 + 1).toNatClampNeg), .ref 91, .int v23] am_G0 f23)))) (fun k => rfl) ?_)
                              refine am_Ew.chk h (fun h => ?_)
                              refine am_Ew.chk h (fun h => ?_)
                              obtain ⟨v24, f24, h1, h⟩ := am_bI_some h
                              refine am_Ew.run (am_Ev.call (fun n => rfl) (lk_X8_maker h1) ?_)
                              refine am_Ew.start [18] 3 (am_Ew.conv (fun k => (if v23 = v24 then (k 18 [some (.ref 1000), some (.ref 0), some (.ref 91), some (.int (x3 + 3))] [] am_G0 f24) else (some (some (.int 0), am_G0, f24)))) (fun k => rfl) ?_)
                              refine am_Ew.ite h (fun _ h => ?_) (fun _ h => ?_)
                              · exact am_Ew.run (lk_L_law_18  n _ _ _ _ h )
                              · exact am_Ew.retI h
                            · refine am_Ew.ite h (fun _ h => ?_) (fun _ h => ?_)
                              · obtain ⟨v25, f25, h1, h⟩ := am_bI_some h
                                refine am_Ew.run (am_Ev.call (fun n => rfl) (lk_X7_blamed h1) ?_)
                                refine am_Ew.start [455] 1 (am_Ew.conv (fun k => (k 455 [some (.ref 1000), some (.ref 0), some (.ref 91), some (.int x3)] [.ref 91, .int v25] am_G0 f25)) (fun k => rfl) ?_)
                                obtain ⟨v26, f26, h1, h⟩ := am_bI_some h
                                refine am_Ew.run (am_Ev.call (fun n => rfl) (lk_X8_blamed h1) ?_)
                                refine am_Ew.start [18] 3 (am_Ew.conv (fun k => (if v25 = v26 then (k 18 [some (.ref 1000), some (.ref 0), some (.ref 91), some (.int (x3 + 3))] [] am_G0 f26) else (some (some (.int 0), am_G0, f26)))) (fun k => rfl) ?_)
                                refine am_Ew.ite h (fun _ h => ?_) (fun _ h => ?_)
                                · exact am_Ew.run (lk_L_law_18  n _ _ _ _ h )
                                · exact am_Ew.retI h
                              · refine am_Ew.ite h (fun _ h => ?_) (fun _ h => ?_)
                                · obtain ⟨v27, f27, h1, h⟩ := am_bI_some h
                                  refine am_Ew.run (am_Ev.call (fun n => rfl) (lk_X7_steps h1) ?_)
                                  refine am_Ew.start [468] 1 (am_Ew.conv (fun k => (k 468 [some (.ref 1000), some (.ref 0), some (.ref 91), some (.int x3)] [.ref 91, .int v27] am_G0 f27)) (fun k => rfl) ?_)
                                  obtain ⟨v28, f28, h1, h⟩ := am_bI_some h
                                  refine am_Ew.run (am_Ev.call (fun n => rfl) (lk_X8_steps h1) ?_)
                                  refine am_Ew.start [18] 3 (am_Ew.conv (fun k => (if v27 = v28 then (k 18 [some (.ref 1000), some (.ref 0), some (.ref 91), some (.int (x3 + 3))] [] am_G0 f28) else (some (some (.int 0), am_G0, f28)))) (fun k => rfl) ?_)
                                  refine am_Ew.ite h (fun _ h => ?_) (fun _ h => ?_)
                                  · exact am_Ew.run (lk_L_law_18  n _ _ _ _ h )
                                  · exact am_Ew.retI h
                                · refine am_Ew.ite h (fun _ h => ?_) (fun _ h => ?_)
                                  · refine am_Ew.chk h (fun h => ?_)
                                    refine am_Ew.chk h (fun h => ?_)
                                    obtain ⟨v29, f29, h1, h⟩ := am_bI_some h
                                    refine am_Ew.run (am_Ev.call (fun n => rfl) (lk_X7_rule h1) ?_)
                                    refine am_Ew.start [501] 11 (am_Ew.conv (fun k => (am_chk (x3 + 1) X.1 (am_chk (x3 + 2) X.1 (k 501 [some (.ref 1000), some (.ref 0), some (.ref 91), some (.int x3)] [.int (X.2 (x3 + 2).toNatClampNeg), .int (X.2 (x3 + 1).toNatClampNeg), .ref 91, .int v29] am_G0 f29)))) (fun k => rfl) ?_)
                                    refine am_Ew.chk h (fun h => ?_)
                                    refine am_Ew.chk h (fun h => ?_)
                                    obtain ⟨v30, f30, h1, h⟩ := am_bI_some h
                                    refine am_Ew.run (am_Ev.call (fun n => rfl) (lk_X8_rule h1) ?_)
                                    refine am_Ew.start [18] 3 (am_Ew.conv (fun k => (if v29 = v30 then (k 18 [some (.ref 1000), some (.ref 0), some (.ref 91), some (.int (x3 + 3))] [] am_G0 f30) else (some (some (.int 0), am_G0, f30)))) (fun k => rfl) ?_)
                                    refine am_Ew.ite h (fun _ h => ?_) (fun _ h => ?_)
                                    · exact am_Ew.run (lk_L_law_18  n _ _ _ _ h )
                                    · exact am_Ew.retI h
                                  · refine am_Ew.ite h (fun _ h => ?_) (fun _ h => ?_)
                                    · refine am_Ew.chk h (fun h => ?_)
                                      refine am_Ew.chk h (fun h => ?_)
                                      obtain ⟨v31, f31, h1, h⟩ := am_bI_some h
                                      refine am_Ew.run (am_Ev.call (fun n => rfl) (lk_X7_waited h1) ?_)
                                      refine am_Ew.start [534] 11 (am_Ew.conv (fun k => (am_chk (x3 + 1) X.1 (am_chk (x3 + 2) X.1 (k 534 [some (.ref 1000), some (.ref 0), some (.ref 91), some (.int x3)] [.int (X.2 (x3 + 2).toNatClampNeg), .int (X.2 (x3 + 1).toNatClampNeg), .ref 91, .int v31] am_G0 f31)))) (fun k => rfl) ?_)
                                      refine am_Ew.chk h (fun h => ?_)
                                      refine am_Ew.chk h (fun h => ?_)
                                      obtain ⟨v32, f32, h1, h⟩ := am_bI_some h
                                      refine am_Ew.run (am_Ev.call (fun n => rfl) (lk_X8_waited h1) ?_)
                                      refine am_Ew.start [18] 3 (am_Ew.conv (fun k => (if v31 = v32 then (k 18 [some (.ref 1000), some (.ref 0), some (.ref 91), some (.int (x3 + 3))] [] am_G0 f32) else (some (some (.int 0), am_G0, f32)))) (fun k => rfl) ?_)
                                      refine am_Ew.ite h (fun _ h => ?_) (fun _ h => ?_)
                                      · exact am_Ew.run (lk_L_law_18  n _ _ _ _ h )
                                      · exact am_Ew.retI h
                                    · refine am_Ew.ite h (fun _ h => ?_) (fun _ h => ?_)
                                      · refine am_Ew.chk h (fun h => ?_)
                                        refine am_Ew.chk h (fun h => ?_)
                                        obtain ⟨v33, f33, h1, h⟩ := am_bI_some h
                                        refine am_Ew.run (am_Ev.call (fun n => rfl) (lk_X7_done h1) ?_)
                                        refine am_Ew.start [567] 11 (am_Ew.conv (fun k => (am_chk (x3 + 1) X.1 (am_chk (x3 + 2) X.1 (k 567 [some (.ref 1000), some (.ref 0), some (.ref 91), some (.int x3)] [.int (X.2 (x3 + 2).toNatClampNeg), .int (X.2 (x3 + 1).toNatClampNeg), .ref 91, .int v33] am_G0 f33)))) (fun k => rfl) ?_)
                                        refine am_Ew.chk h (fun h => ?_)
                                        refine am_Ew.chk h (fun h => ?_)
                                        obtain ⟨v34, f34, h1, h⟩ := am_bI_some h
                                        refine am_Ew.run (am_Ev.call (fun n => rfl) (lk_X8_done h1) ?_)
                                        refine am_Ew.start [18] 3 (am_Ew.conv (fun k => (if v33 = v34 then (k 18 [some (.ref 1000), some (.ref 0), some (.ref 91), some (.int (x3 + 3))] [] am_G0 f34) else (some (some (.int 0), am_G0, f34)))) (fun k => rfl) ?_)
                                        refine am_Ew.ite h (fun _ h => ?_) (fun _ h => ?_)
                                        · exact am_Ew.run (lk_L_law_18  n _ _ _ _ h )
                                        · exact am_Ew.retI h
                                      · refine am_Ew.ite h (fun _ h => ?_) (fun _ h => ?_)
                                        · refine am_Ew.chk h (fun h => ?_)
                                          refine am_Ew.chk h (fun h => ?_)
                                          obtain ⟨v35, f35, h1, h⟩ := am_bI_some h
                                          refine am_Ew.run (am_Ev.call (fun n => rfl) (lk_X7_sees h1) ?_)
                                          refine am_Ew.start [600] 11 (am_Ew.conv (fun k => (am_chk (x3 + 1) X.1 (am_chk (x3 + 2) X.1 (k 600 [some (.ref 1000), some (.ref 0), some (.ref 91), some (.int x3)] [.int (X.2 (x3 + 2).toNatClampNeg), .int (X.2 (x3 + 1).toNatClampNeg), .ref 91, .int v35] am_G0 f35)))) (fun k => rfl) ?_)
                                          refine am_Ew.chk h (fun h => ?_)
                                          refine am_Ew.chk h (fun h => ?_)
                                          obtain ⟨v36, f36, h1, h⟩ := am_bI_some h
                                          refine am_Ew.run (am_Ev.call (fun n => rfl) (lk_X8_sees h1) ?_)
                                          refine am_Ew.start [18] 3 (am_Ew.conv (fun k => (if v35 = v36 then (k 18 [some (.ref 1000), some (.ref 0), some (.ref 91), some (.int (x3 + 3))] [] am_G0 f36) else (some (some (.int 0), am_G0, f36)))) (fun k => rfl) ?_)
                                          refine am_Ew.ite h (fun _ h => ?_) (fun _ h => ?_)
                                          · exact am_Ew.run (lk_L_law_18  n _ _ _ _ h )
                                          · exact am_Ew.retI h
                                        · refine am_Ew.ite h (fun _ h => ?_) (fun _ h => ?_)
                                          · obtain ⟨v37, f37, h1, h⟩ := am_bI_some h
                                            refine am_Ew.run (am_Ev.call (fun n => rfl) (lk_X7_forget h1) ?_)
                                            refine am_Ew.start [613] 1 (am_Ew.conv (fun k => (k 613 [some (.ref 1000), some (.ref 0), some (.ref 91), some (.int x3)] [.ref 91, .int v37] am_G0 f37)) (fun k => rfl) ?_)
                                            obtain ⟨v38, f38, h1, h⟩ := am_bI_some h
                                            refine am_Ew.run (am_Ev.call (fun n => rfl) (lk_X8_forget h1) ?_)
                                            refine am_Ew.start [18] 3 (am_Ew.conv (fun k => (if v37 = v38 then (k 18 [some (.ref 1000), some (.ref 0), some (.ref 91), some (.int (x3 + 3))] [] am_G0 f38) else (some (some (.int 0), am_G0, f38)))) (fun k => rfl) ?_)
                                            refine am_Ew.ite h (fun _ h => ?_) (fun _ h => ?_)
                                            · exact am_Ew.run (lk_L_law_18  n _ _ _ _ h )
                                            · exact am_Ew.retI h
                                          · refine am_Ew.ite h (fun _ h => ?_) (fun _ h => ?_)
                                            · obtain ⟨v39, f39, h1, h⟩ := am_bI_some h
                                              refine am_Ew.run (am_Ev.call (fun n => rfl) (lk_X7_which h1) ?_)
                                              refine am_Ew.start [626] 1 (am_Ew.conv (fun k => (k 626 [some (.ref 1000), some (.ref 0), some (.ref 91), some (.int x3)] [.ref 91, .int v39] am_G0 f39)) (fun k => rfl) ?_)
                                              obtain ⟨v40, f40, h1, h⟩ := am_bI_some h
                                              refine am_Ew.run (am_Ev.call (fun n => rfl) (lk_X8_which h1) ?_)
                                              refine am_Ew.start [18] 3 (am_Ew.conv (fun k => (if v39 = v40 then (k 18 [some (.ref 1000), some (.ref 0), some (.ref 91), some (.int (x3 + 3))] [] am_G0 f40) else (some (some (.int 0), am_G0, f40)))) (fun k => rfl) ?_)
                                              refine am_Ew.ite h (fun _ h => ?_) (fun _ h => ?_)
                                              · exact am_Ew.run (lk_L_law_18  n _ _ _ _ h )
                                              · exact am_Ew.retI h
                                            · refine am_Ew.ite h (fun _ h => ?_) (fun _ h => ?_)
                                              · obtain ⟨v41, f41, h1, h⟩ := am_bI_some h
                                                refine am_Ew.run (am_Ev.call (fun n => rfl) (lk_X7_look h1) ?_)
                                                refine am_Ew.start [639] 1 (am_Ew.conv (fun k => (k 639 [some (.ref 1000), some (.ref 0), some (.ref 91), some (.int x3)] [.ref 91, .int v41] am_G0 f41)) (fun k => rfl) ?_)
                                                obtain ⟨v42, f42, h1, h⟩ := am_bI_some h
                                                refine am_Ew.run (am_Ev.call (fun n => rfl) (lk_X8_look h1) ?_)
                                                refine am_Ew.start [18] 3 (am_Ew.conv (fun k => (if v41 = v42 then (k 18 [some (.ref 1000), some (.ref 0), some (.ref 91), some (.int (x3 + 3))] [] am_G0 f42) else (some (some (.int 0), am_G0, f42)))) (fun k => rfl) ?_)
                                                refine am_Ew.ite h (fun _ h => ?_) (fun _ h => ?_)
                                                · exact am_Ew.run (lk_L_law_18  n _ _ _ _ h )
                                                · exact am_Ew.retI h
                                              · refine am_Ew.ite h (fun _ h => ?_) (fun _ h => ?_)
                                                · refine am_Ew.chk h (fun h => ?_)
                                                  obtain ⟨v43, f43, h1, h⟩ := am_bI_some h
                                                  refine am_Ew.run (am_Ev.call (fun n => rfl) (lk_X7_keep h1) ?_)
                                                  refine am_Ew.start [662] 6 (am_Ew.conv (fun k => (am_chk (x3 + 1) X.1 (k 662 [some (.ref 1000), some (.ref 0), some (.ref 91), some (.int x3)] [.int (X.2 (x3 + 1).toNatClampNeg), .ref 91, .int v43] am_G0 f43))) (fun k => rfl) ?_)
                                                  refine am_Ew.chk h (fun h => ?_)
                                                  obtain ⟨v44, f44, h1, h⟩ := am_bI_some h
                                                  refine am_Ew.run (am_Ev.call (fun n => rfl) (lk_X8_keep h1) ?_)
                                                  refine am_Ew.start [18] 3 (am_Ew.conv (fun k => (if v43 = v44 then (k 18 [some (.ref 1000), some (.ref 0), some (.ref 91), some (.int (x3 + 3))] [] am_G0 f44) else (some (some (.int 0), am_G0, f44)))) (fun k => rfl) ?_)
                                                  refine am_Ew.ite h (fun _ h => ?_) (fun _ h => ?_)
                                                  · exact am_Ew.run (lk_L_law_18  n _ _ _ _ h )
                                                  · exact am_Ew.retI h
                                                · refine am_Ew.ite h (fun _ h => ?_) (fun _ h => ?_)
                                                  · refine am_Ew.chk h (fun h => ?_)
                                                    obtain ⟨v45, f45, h1, h⟩ := am_bI_some h
                                                    refine am_Ew.run (am_Ev.call (fun n => rfl) (lk_X7_back h1) ?_)
                                                    refine am_Ew.start [685] 6 (am_Ew.conv (fun k => (am_chk (x3 + 1) X.1 (k 685 [some (.ref 1000), some (.ref 0), some (.ref 91), some (.int x3)] [.int (X.2 (x3 + 1).toNatClampNeg), .ref 91, .int v45] am_G0 f45))) (fun k => rfl) ?_)
                                                    refine am_Ew.chk h (fun h => ?_)
                                                    obtain ⟨v46, f46, h1, h⟩ := am_bI_some h
                                                    refine am_Ew.run (am_Ev.call (fun n => rfl) (lk_X8_back h1) ?_)
                                                    refine am_Ew.start [18] 3 (am_Ew.conv (fun k => (if v45 = v46 then (k 18 [some (.ref 1000), some (.ref 0), some (.ref 91), some (.int (x3 + 3))] [] am_G0 f46) else (some (some (.int 0), am_G0, f46)))) (fun k => rfl) ?_)
                                                    refine am_Ew.ite h (fun _ h => ?_) (fun _ h => ?_)
                                                    · exact am_Ew.run (lk_L_law_18  n _ _ _ _ h )
                                                    · exact am_Ew.retI h
                                                  · refine am_Ew.ite h (fun _ h => ?_) (fun _ h => ?_)
                                                    · refine am_Ew.chk h (fun h => ?_)
                                                      obtain ⟨v47, f47, h1, h⟩ := am_bI_some h
                                                      refine am_Ew.run (am_Ev.call (fun n => rfl) (lk_X7_count h1) ?_)
                                                      refine am_Ew.start [708] 6 (am_Ew.conv (fun k => (am_chk (x3 + 1) X.1 (k 708 [some (.ref 1000), some (.ref 0), some (.ref 91), some (.int x3)] [.int (X.2 (x3 + 1).toNatClampNeg), .ref 91, .int v47] am_G0 f47))) (fun k => rfl) ?_)
                                                      refine am_Ew.chk h (fun h => ?_)
                                                      obtain ⟨v48, f48, h1, h⟩ := am_bI_some h
                                                      refine am_Ew.run (am_Ev.call (fun n => rfl) (lk_X8_count h1) ?_)
                                                      refine am_Ew.start [18] 3 (am_Ew.conv (fun k => (if v47 = v48 then (k 18 [some (.ref 1000), some (.ref 0), some (.ref 91), some (.int (x3 + 3))] [] am_G0 f48) else (some (some (.int 0), am_G0, f48)))) (fun k => rfl) ?_)
                                                      refine am_Ew.ite h (fun _ h => ?_) (fun _ h => ?_)
                                                      · exact am_Ew.run (lk_L_law_18  n _ _ _ _ h )
                                                      · exact am_Ew.retI h
                                                    · exact am_Ew.run (lk_L_law_18  n _ _ _ _ h )
set_option maxHeartbeats 400000 in
set_option maxRecDepth 100000 in
theorem lk_L_law {X : am_X} {f f' : am_M} {v' : Int32} (h : D_L_law X f = some (v', f')) : am_Ev X 172 16 [some (.ref 1000), some (.ref 0), some (.ref 91), none] [] f (some (.int v')) f' := by
  rw [D_L_law] at h
  refine am_Ew.start [18] 2 (am_Ew.conv (fun k => (k 18 [some (.ref 1000), some (.ref 0), some (.ref 91), some (.int 0)] [] am_G0 f)) (fun k => rfl) ?_)
  exact am_Ew.run (lk_L_law_18 _ _ _ _ _ h )
end
section
/-! what the two systems hold, and how they agree -/
/-- a standing: claimed; events (kind, maker, value); done, count, sum by taker; the row (maker, wants) -/
abbrev pu_S : Type := Nat × (Nat → Nat × Nat × Nat) × (Nat → Nat) × (Nat → Int32) × (Nat → Int32) × List (Nat × Nat)
def pu_cl (S : pu_S) : Nat := S.1
def pu_ev (S : pu_S) : Nat → Nat × Nat × Nat := S.2.1
def pu_dn (S : pu_S) : Nat → Nat := S.2.2.1
def pu_ct (S : pu_S) : Nat → Int32 := S.2.2.2.1
def pu_sm (S : pu_S) : Nat → Int32 := S.2.2.2.2.1
def pu_rw (S : pu_S) : List (Nat × Nat) := S.2.2.2.2.2
/-- what is told: slots, makers, takers, rates, speeds, behind -/
abbrev pu_T : Type := Nat × Nat × Nat × (Nat → Nat) × (Nat → Nat) × (Nat → Nat)
def pu_sl (T : pu_T) : Nat := T.1
def pu_nm (T : pu_T) : Nat := T.2.1
def pu_nt (T : pu_T) : Nat := T.2.2.1
def pu_ra (T : pu_T) : Nat → Nat := T.2.2.2.1
def pu_sp (T : pu_T) : Nat → Nat := T.2.2.2.2.1
def pu_bh (T : pu_T) : Nat → Nat := T.2.2.2.2.2
/-- the cursor -/
def pu_cur (ev : Nat → Nat × Nat × Nat) : Nat → Nat → Nat
  | 0, k => k
  | d + 1, k => if (ev k).1 = 0 then k else pu_cur ev d (k + 1)
def pu_cu (S : pu_S) : Nat := pu_cur (pu_ev S) (pu_cl S) 0
/-- the least done of the first k takers, no more than c -/
def pu_le (dn : Nat → Nat) (c : Nat) : Nat → Nat
  | 0 => c
  | k + 1 => if dn k < pu_le dn c k then dn k else pu_le dn c k
def pu_lst (T : pu_T) (S : pu_S) : Nat := pu_le (pu_dn S) (pu_cl S) (pu_nt T)
/-- what a maker waits for -/
def pu_wa : List (Nat × Nat) → Nat → Nat
  | [], _ => 0
  | (a, n) :: r, m => if a = m then n else pu_wa r m
def pu_sw : List (Nat × Nat) → Nat
  | [] => 0
  | (_, n) :: r => n + pu_sw r
def pu_bit (s u : Nat) : Prop := s / 2 ^ u % 2 = 1
def pu_Tok (T : pu_T) : Prop := (2 ≤ pu_sl T ∧ pu_sl T ≤ 16) ∧ pu_nm T ≤ 3 ∧ pu_nt T ≤ 6 ∧ (∀ m, m < pu_nm T → pu_ra T m ≤ 9) ∧ (∀ t, t < pu_nt T → 1 ≤ pu_sp T t ∧ pu_sp T t ≤ 9 ∧ pu_bh T t < 2 ^ t)
def pu_Rok (T : pu_T) (r : List (Nat × Nat)) : Prop := (∀ q ∈ r, q.1 < pu_nm T ∧ 1 ≤ q.2 ∧ q.2 ≤ 9) ∧ (r.map Prod.fst).Nodup
/-- what holds of every standing -/
def pu_Sok (T : pu_T) (S : pu_S) : Prop :=
  pu_cl S + pu_sw (pu_rw S) ≤ 999 ∧ (∀ k, k < pu_cl S → (pu_ev S k).1 ≤ 2 ∧ (pu_ev S k).2.1 < 3 ∧ (pu_ev S k).2.2 ≤ 99 ∧ ((pu_ev S k).1 ≠ 1 → (pu_ev S k).2.2 = 0)) ∧ pu_Rok T (pu_rw S) ∧
  (∀ t, t < pu_nt T → pu_dn S t ≤ pu_cu S ∧ ∀ u, u < t → pu_bit (pu_bh T t) u → pu_dn S t ≤ pu_dn S u) ∧ (∀ m n r, pu_rw S = (m, n) :: r → pu_sl T + pu_lst T S < pu_cl S + n) ∧ pu_cl S ≤ pu_sl T + pu_lst T S
/-- the component's standing: its object's row and those of done, count, sum, row, wants -/
def pu_Sc (S : pu_S) (r0 r1 r2 r3 r4 r5 : Nat → Int32) : Prop :=
  r0 2 = nI (pu_cl S) ∧ r0 3 = nI (pu_cu S) ∧ r0 9 = nI (pu_rw S).length ∧ (∀ t, t < 6 → r1 t = nI (pu_dn S t)) ∧ (∀ t, t < 6 → r2 t = pu_ct S t) ∧ (∀ t, t < 6 → r3 t = pu_sm S t) ∧ (∀ (i : Nat) (q : Nat × Nat), (pu_rw S)[i]? = some q → r4 i = nI q.1) ∧ (∀ m, m < 3 → r5 m = nI (pu_wa (pu_rw S) m))
def pu_ce (x : Nat × Nat × Nat) : Int32 := nI (x.2.1 + 4 * x.1 + 16 * x.2.2)
def pu_me (x : Nat × Nat × Nat) : Int32 := nI (x.1 + 4 * x.2.1 + 16 * x.2.2)
def pu_Ec (S : pu_S) (r6 : Nat → Int32) : Prop := ∀ k, k < pu_cl S → r6 k = pu_ce (pu_ev S k)
/-- the model's -/
def pu_Sm (S : pu_S) (g : Nat → Int32) : Prop :=
  g 0 = nI (pu_cl S) ∧ g 19 = nI (pu_rw S).length ∧ (∀ t, t < 6 → g (1 + t) = nI (pu_dn S t)) ∧ (∀ t, t < 6 → g (7 + t) = pu_ct S t) ∧ (∀ t, t < 6 → g (13 + t) = pu_sm S t) ∧ (∀ (i : Nat) (q : Nat × Nat), (pu_rw S)[i]? = some q → g (20 + i) = nI q.1 ∧ g (23 + i) = nI q.2) ∧ (∀ k, k < pu_cl S → g (26 + k) = pu_me (pu_ev S k))
def pu_Tc (T : pu_T) (r3 r4 r5 r6 : Nat → Int32) : Prop := r3 0 = nI (pu_sl T) ∧ r3 1 = nI (pu_nm T) ∧ r3 2 = nI (pu_nt T) ∧ (∀ m, m < pu_nm T → r4 m = nI (pu_ra T m)) ∧ (∀ t, t < pu_nt T → r5 t = nI (pu_sp T t)) ∧ (∀ t, t < pu_nt T → r6 t = nI (pu_bh T t))
def pu_Tm (T : pu_T) (g r92 r93 r94 : Nat → Int32) : Prop := g 0 = nI (pu_sl T) ∧ g 1 = nI (pu_nm T) ∧ g 3 = nI (pu_nt T) ∧ (∀ m, m < pu_nm T → r92 m = nI (pu_ra T m)) ∧ (∀ t, t < pu_nt T → r93 t = nI (pu_sp T t)) ∧ (∀ t, t < pu_nt T → r94 t = nI (pu_bh T t))
/-- an older standing beside the next newer one: c is the number that was closed between them -/
def pu_Ch : pu_S → List (pu_S × Option Nat) → Prop
  | _, [] => True
  | N, (O, c) :: P => pu_cl O ≤ pu_cl N ∧ (∀ k, k < pu_cl O → pu_ev O k = if c = some k then (0, (pu_ev N k).2.1, 0) else pu_ev N k) ∧ (∀ k, c = some k → k < pu_cl O) ∧ pu_Ch O P
def pu_cd (c : Option Nat) : Int32 := match c with
  | some k => nI k
  | none => -9
/-- the i-th latest standing's place in the round, of which la is the latest -/
def pu_pl (la i : Nat) : Nat := (la + 6 - i) % 6
def pu_Sf (S : pu_S) (f : am_M) (p : Nat) : Prop := pu_Sc S (f p) (f (p + 1)) (f (p + 2)) (f (p + 3)) (f (p + 4)) (f (p + 5))
def pu_Pc (P : List (pu_S × Option Nat)) (f : am_M) : Prop := f 18 3 = nI P.length ∧ P.length ≤ 6 ∧ ∃ la, la < 6 ∧ f 18 2 = nI la ∧ ∀ (i : Nat) (q : pu_S × Option Nat), P[i]? = some q → pu_Sf q.1 f (21 + 7 * pu_pl la i) ∧ f 20 (pu_pl la i) = pu_cd q.2
def pu_Pm (P : List (pu_S × Option Nat)) (f : am_M) : Prop := f 91 8 = nI P.length ∧ ∀ (i : Nat) (q : pu_S × Option Nat), P[i]? = some q → pu_Sm q.1 (fun k => f 96 (1026 * (P.length - 1 - i) + k))
def pu_Ic (I : Option pu_S) (f : am_M) (a p : Nat) : Prop := match I with
  | none => f a 1 = 0
  | some S => f a 1 = 1 ∧ pu_Sf S f p ∧ pu_Ec S (f (p + 6))
def pu_Im (I : Option pu_S) (f : am_M) (i : Nat) : Prop := match I with
  | none => f 98 i = 0
  | some S => f 98 i = 1 ∧ pu_Sm S (fun k => f 97 (1026 * i + k))
/-- the component, all of it -/
def pu_C (T : pu_T) (X : Nat × (Nat → Int32)) (N : pu_S) (P : List (pu_S × Option Nat)) (I0 I1 : Option pu_S) (Z : Nat × (Nat → Nat) × (Nat → Int32)) (f : am_M) : Prop :=
  pu_Tc T (f 3) (f 4) (f 5) (f 6) ∧ (f 1 1 = nI X.1 ∧ ∀ i, i < X.1 → f 2 i = X.2 i) ∧ (pu_Sf N f 11 ∧ pu_Ec N (f 17)) ∧ pu_Pc P f ∧ (pu_Ic I0 f 63 64 ∧ pu_Ic I1 f 71 72) ∧ (f 88 2 = nI Z.1 ∧ ∀ i, i < Z.1 → f 89 i = nI (Z.2.1 i) ∧ f 90 i = Z.2.2 i)
/-- the model, all of it -/
def pu_M (T : pu_T) (X : Nat × (Nat → Int32)) (N : pu_S) (P : List (pu_S × Option Nat)) (I0 I1 : Option pu_S) (Z : Nat × (Nat → Nat) × (Nat → Int32)) (f : am_M) : Prop :=
  pu_Tm T (f 91) (f 92) (f 93) (f 94) ∧ (f 91 15 = nI X.1 ∧ ∀ i, i < X.1 → f 101 i = X.2 i) ∧ pu_Sm N (f 95) ∧ pu_Pm P f ∧ (pu_Im I0 f 0 ∧ pu_Im I1 f 1) ∧ (f 91 11 = nI Z.1 ∧ ∀ i, i < Z.1 → f 99 i = nI (Z.2.1 i) ∧ f 100 i = Z.2.2 i)
/-- what holds of what they hold -/
def pu_V (T : pu_T) (X : Nat × (Nat → Int32)) (N : pu_S) (P : List (pu_S × Option Nat)) (I0 I1 : Option pu_S) (Z : Nat × (Nat → Nat) × (Nat → Int32)) : Prop :=
  pu_Tok T ∧ X.1 ≤ 120 ∧ pu_Sok T N ∧ (pu_Ch N P ∧ P.length ≤ 6 ∧ ∀ q ∈ P, pu_Sok T q.1) ∧ (∀ S, I0 = some S → pu_Sok T S) ∧ (∀ S, I1 = some S → pu_Sok T S) ∧ (Z.1 ≤ 6 ∧ ∀ i, i < Z.1 → Z.2.1 i ≤ 60)
def pu_R (f : am_M) : Prop := ∃ (T : pu_T) (X : Nat × (Nat → Int32)) (N : pu_S) (P : List (pu_S × Option Nat)) (I0 I1 : Option pu_S) (Z : Nat × (Nat → Nat) × (Nat → Int32)), pu_V T X N P I0 I1 Z ∧ pu_C T X N P I0 I1 Z f ∧ pu_M T X N P I0 I1 Z f
/-- the component and the model answer alike, and agree behind it -/
def pu_Go (A B : am_M → Option (Int32 × am_M)) (f : am_M) : Prop := ∃ r f1 f2, A f = some (r, f1) ∧ B f1 = some (r, f2) ∧ pu_R f2
/-! frames: the component writes below 91, the model from there on -/
def pu_lo (f f' : am_M) : Prop := ∀ q, 91 ≤ q → f' q = f q
def pu_hi (f f' : am_M) : Prop := ∀ q, q < 91 → f' q = f q
theorem pu_pl_lt (la i : Nat) : pu_pl la i < 6 := Nat.mod_lt _ (by decide)
theorem pu_Sf.fr {S : pu_S} {f f' : am_M} {p : Nat} (h : pu_Sf S f p) (e0 : f' p = f p) (e1 : f' (p + 1) = f (p + 1)) (e2 : f' (p + 2) = f (p + 2)) (e3 : f' (p + 3) = f (p + 3)) (e4 : f' (p + 4) = f (p + 4)) (e5 : f' (p + 5) = f (p + 5)) : pu_Sf S f' p := by
  unfold pu_Sf at h ⊢
  rw [e0, e1, e2, e3, e4, e5]
  exact h
theorem pu_C.fr {T : pu_T} {X : Nat × (Nat → Int32)} {N : pu_S} {P : List (pu_S × Option Nat)} {I0 I1 : Option pu_S} {Z : Nat × (Nat → Nat) × (Nat → Int32)} {f f' : am_M} (h : pu_C T X N P I0 I1 Z f) (e : pu_hi f f') : pu_C T X N P I0 I1 Z f' := by
  obtain ⟨h1, h2, ⟨h3, h3'⟩, ⟨h4, h5, la, h6, h7, h8⟩, ⟨h9, h10⟩, h11⟩ := h
  refine ⟨?_, ?_, ⟨?_, ?_⟩, ⟨?_, h5, la, h6, ?_, fun i q hq => ?_⟩, ⟨?_, ?_⟩, ?_⟩
  · rw [e 3 (by decide), e 4 (by decide), e 5 (by decide), e 6 (by decide)]; exact h1
  · rw [e 1 (by decide), e 2 (by decide)]; exact h2
  · exact h3.fr (e _ (by decide)) (e _ (by decide)) (e _ (by decide)) (e _ (by decide)) (e _ (by decide)) (e _ (by decide))
  · rw [e 17 (by decide)]; exact h3'
  · rw [e 18 (by decide)]; exact h4
  · rw [e 18 (by decide)]; exact h7
  · have hl := pu_pl_lt la i
    refine ⟨(h8 i q hq).1.fr (e _ (by omega)) (e _ (by omega)) (e _ (by omega)) (e _ (by omega)) (e _ (by omega)) (e _ (by omega)), ?_⟩
    rw [e 20 (by decide)]; exact (h8 i q hq).2
  · cases I0 with
    | none => show f' 63 1 = 0; rw [e 63 (by decide)]; exact h9
    | some S => exact ⟨by rw [e 63 (by decide)]; exact h9.1, h9.2.1.fr (e _ (by decide)) (e _ (by decide)) (e _ (by decide)) (e _ (by decide)) (e _ (by decide)) (e _ (by decide)), by rw [e _ (by decide)]; exact h9.2.2⟩
  · cases I1 with
    | none => show f' 71 1 = 0; rw [e 71 (by decide)]; exact h10
    | some S => exact ⟨by rw [e 71 (by decide)]; exact h10.1, h10.2.1.fr (e _ (by decide)) (e _ (by decide)) (e _ (by decide)) (e _ (by decide)) (e _ (by decide)) (e _ (by decide)), by rw [e _ (by decide)]; exact h10.2.2⟩
  · rw [e 88 (by decide), e 89 (by decide), e 90 (by decide)]; exact h11
theorem pu_M.fr {T : pu_T} {X : Nat × (Nat → Int32)} {N : pu_S} {P : List (pu_S × Option Nat)} {I0 I1 : Option pu_S} {Z : Nat × (Nat → Nat) × (Nat → Int32)} {f f' : am_M} (h : pu_M T X N P I0 I1 Z f) (e : pu_lo f f') : pu_M T X N P I0 I1 Z f' := by
  obtain ⟨h1, h2, h3, h4, ⟨h9, h10⟩, h11⟩ := h
  refine ⟨?_, ?_, ?_, ?_, ⟨?_, ?_⟩, ?_⟩
  · rw [e 91 (by decide), e 92 (by decide), e 93 (by decide), e 94 (by decide)]; exact h1
  · rw [e 91 (by decide), e 101 (by decide)]; exact h2
  · rw [e 95 (by decide)]; exact h3
  · unfold pu_Pm at h4 ⊢
    rw [e 91 (by decide), e 96 (by decide)]; exact h4
  · unfold pu_Im at h9 ⊢
    rw [e 97 (by decide), e 98 (by decide)]; exact h9
  · unfold pu_Im at h10 ⊢
    rw [e 97 (by decide), e 98 (by decide)]; exact h10
  · rw [e 91 (by decide), e 99 (by decide), e 100 (by decide)]; exact h11
end
section
/-! numbers, frames by groups -/
theorem pu_chk {α : Type} {k n : Nat} {x : Option α} (h : k < n) (hn : n < 2 ^ 31) : am_chk (nI k) n x = x := by
  unfold am_chk
  rw [if_neg (nI_pos (by omega)), nI_clamp (by omega), if_pos h]
theorem pu_lt {a b : Nat} (h : a < b) (hb : b < 2 ^ 31) : nI a < nI b := (nI_ltI (by omega) hb).mpr h
theorem pu_nlt {a b : Nat} (h : b ≤ a) (ha : a < 2 ^ 31) : ¬ nI a < nI b := fun q => by
  have := (nI_ltI ha (by omega)).mp q
  omega
theorem pu_ne {a b : Nat} (h : a ≠ b) (ha : a < 2 ^ 31) (hb : b < 2 ^ 31) : ¬ nI a = nI b := fun q => h ((nI_eq ha hb).mp q)
theorem pu_neg9 {a : Nat} (ha : a < 2 ^ 31) : ¬ nI a = -9 := by
  intro h
  have h1 := congrArg Int32.toInt h
  rw [nI_toInt ha] at h1
  have : (-9 : Int32).toInt = -9 := by decide
  omega
theorem pu_bI {ρ : Type} {v : Int32} {f : am_M} {k : Int32 → am_M → Option ρ} : am_bI (some (v, f)) k = k v f := rfl
theorem pu_bV {ρ : Type} {f : am_M} {k : am_M → Option ρ} : am_bV (some f) k = k f := rfl
def pu_g (lo hi : Nat) (f f' : am_M) : Prop := ∀ q, lo ≤ q → q ≤ hi → f' q = f q
section FRG
variable {f f' : am_M} {T : pu_T} {S : pu_S} {P : List (pu_S × Option Nat)} {I : Option pu_S}
theorem pu_g.sub {lo hi lo' hi' : Nat} (h : pu_g lo hi f f') (h1 : lo ≤ lo') (h2 : hi' ≤ hi) : pu_g lo' hi' f f' := fun q a b => h q (by omega) (by omega)
theorem pu_frT (e : pu_g 3 6 f f') (h : pu_Tc T (f 3) (f 4) (f 5) (f 6)) : pu_Tc T (f' 3) (f' 4) (f' 5) (f' 6) := by
  rw [e 3 (by decide) (by decide), e 4 (by decide) (by decide), e 5 (by decide) (by decide), e 6 (by decide) (by decide)]; exact h
theorem pu_frS {p : Nat} (e : pu_g p (p + 5) f f') (h : pu_Sf S f p) : pu_Sf S f' p := h.fr (e _ (by omega) (by omega)) (e _ (by omega) (by omega)) (e _ (by omega) (by omega)) (e _ (by omega) (by omega)) (e _ (by omega) (by omega)) (e _ (by omega) (by omega))
theorem pu_frN (e : pu_g 11 17 f f') (h : pu_Sf S f 11 ∧ pu_Ec S (f 17)) : pu_Sf S f' 11 ∧ pu_Ec S (f' 17) := ⟨pu_frS (e.sub (by omega) (by omega)) h.1, by rw [e 17 (by decide) (by decide)]; exact h.2⟩
theorem pu_frP (e : pu_g 18 62 f f') (h : pu_Pc P f) : pu_Pc P f' := by
  obtain ⟨h4, h5, la, h6, h7, h8⟩ := h
  refine ⟨by rw [e 18 (by decide) (by decide)]; exact h4, h5, la, h6, by rw [e 18 (by decide) (by decide)]; exact h7, fun i q hq => ?_⟩
  have hl := pu_pl_lt la i
  exact ⟨pu_frS (e.sub (by omega) (by omega)) (h8 i q hq).1, by rw [e 20 (by decide) (by decide)]; exact (h8 i q hq).2⟩
theorem pu_frI {a p : Nat} (hp : p = a + 1) (e : pu_g a (a + 7) f f') (h : pu_Ic I f a p) : pu_Ic I f' a p := by
  subst hp
  cases I with
  | none => show f' a 1 = 0; rw [e a (by omega) (by omega)]; exact h
  | some S => exact ⟨by rw [e a (by omega) (by omega)]; exact h.1, pu_frS (e.sub (by omega) (by omega)) h.2.1, by rw [e (a + 1 + 6) (by omega) (by omega)]; exact h.2.2⟩
end FRG
/-- two rows of writes elsewhere -/
theorem pu_g1 {f : am_M} {p k lo hi : Nat} {x : Int32} (h : p < lo ∨ hi < p) : pu_g lo hi f (am_wr f p k x) := fun q a b => am_wr_ne q (by omega)
theorem pu_gt {f f1 f2 : am_M} {lo hi : Nat} (h1 : pu_g lo hi f f1) (h2 : pu_g lo hi f1 f2) : pu_g lo hi f f2 := fun q a b => (h2 q a b).trans (h1 q a b)
theorem pu_wr_eq {f : am_M} {p k : Nat} {x : Int32} : am_wr f p k x p k = x := by simp [am_wr]
theorem pu_wr_n1 {f : am_M} {p k q j : Nat} {x : Int32} (h : q ≠ p) : am_wr f p k x q j = f q j := by simp [am_wr, h]
theorem pu_wr_n2 {f : am_M} {p k q j : Nat} {x : Int32} (h : j ≠ k) : am_wr f p k x q j = f q j := by simp [am_wr, h]
theorem pu_sub {a b : Nat} (ha : a < 2 ^ 30) (hb : b < 2 ^ 30) : (nI a - nI b).toInt = (a : Int) - b := by
  rw [Int32.toInt_sub, nI_toInt (by omega), nI_toInt (by omega)]
  exact Int.bmod_eq_of_le (by omega) (by omega)
theorem pu_sublt {a b c : Nat} (ha : a < 2 ^ 30) (hb : b < 2 ^ 30) (hc : c < 2 ^ 30) : nI a - nI b < nI c ↔ a < b + c := by
  rw [Int32.lt_iff_toInt_lt, pu_sub ha hb, nI_toInt (by omega)]
  omega
theorem pu_subN {a b : Nat} (h : b ≤ a) : nI a - nI b = nI (a - b) := by
  have : a = (a - b) + b := by omega
  rw [this, ← nI_add, Nat.add_sub_cancel, Int32.add_sub_cancel]
/-! the frames of the parts of the model, and writes -/
theorem pu_lo.refl {f : am_M} : pu_lo f f := fun _ _ => rfl
theorem pu_hi.refl {f : am_M} : pu_hi f f := fun _ _ => rfl
theorem pu_lo.wr {f g : am_M} {p k : Nat} {x : Int32} (h : pu_lo f g) (hp : p < 91) : pu_lo f (am_wr g p k x) := fun q hq => (am_wr_ne q (by omega)).trans (h q hq)
theorem pu_hi.wr {f g : am_M} {p k : Nat} {x : Int32} (h : pu_hi f g) (hp : 91 ≤ p) : pu_hi f (am_wr g p k x) := fun q hq => (am_wr_ne q (by omega)).trans (h q hq)
theorem pu_lo.cp {f g : am_M} {a p k l n : Nat} (h : pu_lo f g) (hp : p < 91) : pu_lo f (am_cp g a p k l n) := fun q hq => (am_cp_ne q (by omega)).trans (h q hq)
theorem pu_hi.cp {f g : am_M} {a p k l n : Nat} (h : pu_hi f g) (hp : 91 ≤ p) : pu_hi f (am_cp g a p k l n) := fun q hq => (am_cp_ne q (by omega)).trans (h q hq)
theorem pu_lo.trans {f g h : am_M} (a : pu_lo f g) (b : pu_lo g h) : pu_lo f h := fun q hq => (b q hq).trans (a q hq)
theorem pu_hi.trans {f g h : am_M} (a : pu_hi f g) (b : pu_hi g h) : pu_hi f h := fun q hq => (b q hq).trans (a q hq)
theorem pu_g.refl {f : am_M} {lo hi : Nat} : pu_g lo hi f f := fun _ _ _ => rfl
theorem pu_g.wr {f g : am_M} {lo hi p k : Nat} {x : Int32} (h : pu_g lo hi f g) (hp : p < lo ∨ hi < p) : pu_g lo hi f (am_wr g p k x) := fun q a b => (am_wr_ne q (by omega)).trans (h q a b)
theorem pu_g.cp {f g : am_M} {lo hi a p k l n : Nat} (h : pu_g lo hi f g) (hp : p < lo ∨ hi < p) : pu_g lo hi f (am_cp g a p k l n) := fun q a b => (am_cp_ne q (by omega)).trans (h q a b)
theorem pu_wr_u {f : am_M} {p k j : Nat} {x : Int32} : am_wr f p k x p j = upd (f p) k x j := by rw [am_wr_eq]
theorem pu_cp_n1 {f : am_M} {a p k l n q j : Nat} (h : q ≠ p) : am_cp f a p k l n q j = f q j := by simp [am_cp, h]
section FRM
variable {f f' : am_M} {T : pu_T} {S : pu_S} {P : List (pu_S × Option Nat)} {I : Option pu_S}
theorem pu_fmT (e0 : f' 91 0 = f 91 0) (e1 : f' 91 1 = f 91 1) (e3 : f' 91 3 = f 91 3) (e : pu_g 92 94 f f') (h : pu_Tm T (f 91) (f 92) (f 93) (f 94)) : pu_Tm T (f' 91) (f' 92) (f' 93) (f' 94) := by
  unfold pu_Tm at h ⊢
  rw [e 92 (by decide) (by decide), e 93 (by decide) (by decide), e 94 (by decide) (by decide), e0, e1, e3]
  exact h
theorem pu_fmP (e : f' 91 8 = f 91 8) (e2 : f' 96 = f 96) (h : pu_Pm P f) : pu_Pm P f' := by
  unfold pu_Pm at h ⊢
  rw [e, e2]
  exact h
theorem pu_fmI {i : Nat} (e : f' 97 = f 97) (e2 : f' 98 = f 98) (h : pu_Im I f i) : pu_Im I f' i := by
  unfold pu_Im at h ⊢
  rw [e, e2]
  exact h
theorem pu_fmX {X : Nat × (Nat → Int32)} (e : f' 91 15 = f 91 15) (e2 : f' 101 = f 101) (h : f 91 15 = nI X.1 ∧ ∀ i, i < X.1 → f 101 i = X.2 i) : f' 91 15 = nI X.1 ∧ ∀ i, i < X.1 → f' 101 i = X.2 i := by
  rw [e, e2]
  exact h
theorem pu_fmZ {Z : Nat × (Nat → Nat) × (Nat → Int32)} (e : f' 91 11 = f 91 11) (e2 : f' 99 = f 99) (e3 : f' 100 = f 100) (h : f 91 11 = nI Z.1 ∧ ∀ i, i < Z.1 → f 99 i = nI (Z.2.1 i) ∧ f 100 i = Z.2.2 i) : f' 91 11 = nI Z.1 ∧ ∀ i, i < Z.1 → f' 99 i = nI (Z.2.1 i) ∧ f' 100 i = Z.2.2 i := by
  rw [e, e2, e3]
  exact h
theorem pu_fcX {X : Nat × (Nat → Int32)} (e : pu_g 1 2 f f') (h : f 1 1 = nI X.1 ∧ ∀ i, i < X.1 → f 2 i = X.2 i) : f' 1 1 = nI X.1 ∧ ∀ i, i < X.1 → f' 2 i = X.2 i := by
  rw [e 1 (by decide) (by decide), e 2 (by decide) (by decide)]
  exact h
theorem pu_fcZ {Z : Nat × (Nat → Nat) × (Nat → Int32)} (e : pu_g 88 90 f f') (h : f 88 2 = nI Z.1 ∧ ∀ i, i < Z.1 → f 89 i = nI (Z.2.1 i) ∧ f 90 i = Z.2.2 i) : f' 88 2 = nI Z.1 ∧ ∀ i, i < Z.1 → f' 89 i = nI (Z.2.1 i) ∧ f' 90 i = Z.2.2 i := by
  rw [e 88 (by decide) (by decide), e 89 (by decide) (by decide), e 90 (by decide) (by decide)]
  exact h
end FRM
/-- the two sides apart -/
theorem pu_join {A B : am_M → Option (Int32 × am_M)} {f f1 : am_M} {r : Int32} {T T' : pu_T} {X X' : Nat × (Nat → Int32)} {N N' : pu_S} {P P' : List (pu_S × Option Nat)} {I0 I0' I1 I1' : Option pu_S} {Z Z' : Nat × (Nat → Nat) × (Nat → Int32)} (hV : pu_V T' X' N' P' I0' I1' Z') (hA : A f = some (r, f1)) (hl : pu_lo f f1) (hC : pu_C T' X' N' P' I0' I1' Z' f1) (hM : pu_M T X N P I0 I1 Z f) (hB : ∀ g, pu_M T X N P I0 I1 Z g → ∃ g2, B g = some (r, g2) ∧ pu_hi g g2 ∧ pu_M T' X' N' P' I0' I1' Z' g2) : pu_Go A B f := by
  obtain ⟨g2, h1, h2, h3⟩ := hB f1 (hM.fr hl)
  exact ⟨r, f1, g2, hA, h1, T', X', N', P', I0', I1', Z', hV, hC.fr h2, h3⟩
/-- both answer, neither writes -/
theorem pu_same {A B : am_M → Option (Int32 × am_M)} {f : am_M} {r : Int32} (h : pu_R f) (hA : A f = some (r, f)) (hB : B f = some (r, f)) : pu_Go A B f := ⟨r, f, f, hA, hB, h⟩
end
section
/-! type, clear, forget, sees -/
theorem pu_type (a : Int32) {f : am_M} (h : pu_R f) : pu_Go (D_X7_type a) (D_X8_type a) f := by
  obtain ⟨T, X, N, P, I0, I1, Z, hV, hC, hM⟩ := id h
  have hx := hV.2.1
  have c1 : f 1 1 = nI X.1 := hC.2.1.1
  have m1 : f 91 15 = nI X.1 := hM.2.1.1
  by_cases h0 : a < 0
  · exact pu_same h (if_pos h0) (by unfold D_X8_type D_X8_within; rw [if_pos h0, pu_bI, if_pos rfl])
  by_cases h1 : am_int 255 < a
  · refine pu_same (r := -1) h ?_ ?_
    · unfold D_X7_type; rw [if_neg h0, if_pos h1]
    · unfold D_X8_type D_X8_within; rw [if_neg h0, if_pos h1, pu_bI, if_pos rfl]
  by_cases h2 : X.1 < 120
  · have e1 : nI X.1 < 120 := pu_lt h2 (by decide)
    have e2 : ¬ nI X.1 = 120 := pu_ne (b := 120) (by omega) (by omega) (by decide)
    refine pu_join (T' := T) (X' := (X.1 + 1, upd X.2 X.1 a)) (N' := N) (P' := P) (I0' := I0) (I1' := I1) (Z' := Z) (r := nI (X.1 + 1)) (f1 := am_wr (am_wr f 2 X.1 a) 1 1 (nI (X.1 + 1))) ⟨hV.1, by show X.1 + 1 ≤ 120; omega, hV.2.2⟩ ?_ (pu_lo.refl.wr (by decide) |>.wr (by decide)) ?_ hM (fun g hg => ?_)
    · unfold D_X7_type D_X5_append
      rw [if_neg h0, if_neg h1, c1, if_pos e1, pu_chk h2 (by decide), nI_clamp (by omega), pu_bI, if_neg (by decide), pu_wr_eq, nI_1]
    · obtain ⟨a1, a2, a3, a4, ⟨a5, a6⟩, a7⟩ := hC
      refine ⟨pu_frT (pu_g.refl.wr (by decide) |>.wr (by decide)) a1, ⟨pu_wr_eq, fun i hi => ?_⟩, pu_frN (pu_g.refl.wr (by decide) |>.wr (by decide)) a3, pu_frP (pu_g.refl.wr (by decide) |>.wr (by decide)) a4, ⟨pu_frI rfl (pu_g.refl.wr (by decide) |>.wr (by decide)) a5, pu_frI rfl (pu_g.refl.wr (by decide) |>.wr (by decide)) a6⟩, pu_fcZ (pu_g.refl.wr (by decide) |>.wr (by decide)) a7⟩
      rw [pu_wr_n1 (by decide), pu_wr_u]
      have : i < X.1 + 1 := hi
      by_cases hi2 : i = X.1
      · simp [upd, hi2]
      · simp [upd, hi2]
        exact a2.2 i (by omega)
    · obtain ⟨a1, a2, a3, a4, ⟨a5, a6⟩, a7⟩ := hg
      refine ⟨am_wr (am_wr g 101 X.1 a) 91 15 (nI (X.1 + 1)), ?_, pu_hi.refl.wr (by decide) |>.wr (by decide), ?_⟩
      · unfold D_X8_type D_X8_within
        rw [if_neg h0, if_neg h1, pu_bI, if_neg (by decide), a2.1, if_neg e2, pu_chk h2 (by decide), nI_clamp (by omega), nI_1]
      · refine ⟨pu_fmT (by simp [am_wr]) (by simp [am_wr]) (by simp [am_wr]) (pu_g.refl.wr (by decide) |>.wr (by decide)) a1, ⟨pu_wr_eq, fun i hi => ?_⟩, by rw [am_wr_ne _ (by decide), am_wr_ne _ (by decide)]; exact a3, pu_fmP (by simp [am_wr]) (by rw [am_wr_ne _ (by decide), am_wr_ne _ (by decide)]) a4, ⟨pu_fmI (by rw [am_wr_ne _ (by decide), am_wr_ne _ (by decide)]) (by rw [am_wr_ne _ (by decide), am_wr_ne _ (by decide)]) a5, pu_fmI (by rw [am_wr_ne _ (by decide), am_wr_ne _ (by decide)]) (by rw [am_wr_ne _ (by decide), am_wr_ne _ (by decide)]) a6⟩, pu_fmZ (by simp [am_wr]) (by rw [am_wr_ne _ (by decide), am_wr_ne _ (by decide)]) (by rw [am_wr_ne _ (by decide), am_wr_ne _ (by decide)]) a7⟩
        rw [pu_wr_n1 (by decide), pu_wr_u]
        have : i < X.1 + 1 := hi
        by_cases hi2 : i = X.1
        · simp [upd, hi2]
        · simp [upd, hi2]
          exact a2.2 i (by omega)
  · have hx2 : X.1 = 120 := by omega
    refine pu_same (r := -3) h ?_ ?_
    · unfold D_X7_type D_X5_append
      rw [if_neg h0, if_neg h1, c1, hx2, if_neg (by decide), pu_bI, if_pos rfl]
    · unfold D_X8_type D_X8_within
      rw [if_neg h0, if_neg h1, pu_bI, if_neg (by decide), m1, hx2, if_pos (by rfl)]
/-- the model, where but single fields of its object are written -/
theorem pu_clear {f : am_M} (h : pu_R f) : pu_Go D_X7_clear D_X8_clear f := by
  obtain ⟨T, X, N, P, I0, I1, Z, hV, hC, hM⟩ := id h
  refine pu_join (T' := T) (X' := (0, X.2)) (N' := N) (P' := P) (I0' := I0) (I1' := I1) (Z' := Z) (r := nI X.1) (f1 := am_wr f 1 1 0) ⟨hV.1, Nat.zero_le _, hV.2.2⟩ (by unfold D_X7_clear; rw [hC.2.1.1]) (pu_lo.refl.wr (by decide)) ?_ hM (fun g hg => ?_)
  · obtain ⟨a1, a2, a3, a4, ⟨a5, a6⟩, a7⟩ := hC
    exact ⟨pu_frT (pu_g.refl.wr (by decide)) a1, ⟨pu_wr_eq, fun i hi => absurd hi (Nat.not_lt_zero _)⟩, pu_frN (pu_g.refl.wr (by decide)) a3, pu_frP (pu_g.refl.wr (by decide)) a4, ⟨pu_frI rfl (pu_g.refl.wr (by decide)) a5, pu_frI rfl (pu_g.refl.wr (by decide)) a6⟩, pu_fcZ (pu_g.refl.wr (by decide)) a7⟩
  · obtain ⟨a1, a2, a3, a4, ⟨a5, a6⟩, a7⟩ := hg
    exact ⟨am_wr g 91 15 0, by unfold D_X8_clear; rw [a2.1], pu_hi.refl.wr (by decide), pu_fmT (by simp [am_wr]) (by simp [am_wr]) (by simp [am_wr]) (pu_g.refl.wr (by decide)) a1, ⟨pu_wr_eq, fun i hi => absurd hi (Nat.not_lt_zero _)⟩, by rw [am_wr_ne _ (by decide)]; exact a3, pu_fmP (by simp [am_wr]) (am_wr_ne _ (by decide)) a4, ⟨pu_fmI (am_wr_ne _ (by decide)) (am_wr_ne _ (by decide)) a5, pu_fmI (am_wr_ne _ (by decide)) (am_wr_ne _ (by decide)) a6⟩, pu_fmZ (by simp [am_wr]) (am_wr_ne _ (by decide)) (am_wr_ne _ (by decide)) a7⟩
theorem pu_forget {f : am_M} (h : pu_R f) : pu_Go D_X7_forget D_X8_forget f := by
  obtain ⟨T, X, N, P, I0, I1, Z, hV, hC, hM⟩ := id h
  refine pu_join (T' := T) (X' := X) (N' := N) (P' := P) (I0' := I0) (I1' := I1) (Z' := (0, Z.2)) (r := nI Z.1) (f1 := am_wr f 88 2 0) ⟨hV.1, hV.2.1, hV.2.2.1, hV.2.2.2.1, hV.2.2.2.2.1, hV.2.2.2.2.2.1, Nat.zero_le _, fun i hi => absurd hi (Nat.not_lt_zero _)⟩ (by unfold D_X7_forget; rw [hC.2.2.2.2.2.1]) (pu_lo.refl.wr (by decide)) ?_ hM (fun g hg => ?_)
  · obtain ⟨a1, a2, a3, a4, ⟨a5, a6⟩, a7⟩ := hC
    exact ⟨pu_frT (pu_g.refl.wr (by decide)) a1, pu_fcX (pu_g.refl.wr (by decide)) a2, pu_frN (pu_g.refl.wr (by decide)) a3, pu_frP (pu_g.refl.wr (by decide)) a4, ⟨pu_frI rfl (pu_g.refl.wr (by decide)) a5, pu_frI rfl (pu_g.refl.wr (by decide)) a6⟩, ⟨pu_wr_eq, fun i hi => absurd hi (Nat.not_lt_zero _)⟩⟩
  · obtain ⟨a1, a2, a3, a4, ⟨a5, a6⟩, a7⟩ := hg
    exact ⟨am_wr g 91 11 0, by unfold D_X8_forget; rw [a7.1], pu_hi.refl.wr (by decide), pu_fmT (by simp [am_wr]) (by simp [am_wr]) (by simp [am_wr]) (pu_g.refl.wr (by decide)) a1, pu_fmX (by simp [am_wr]) (am_wr_ne _ (by decide)) a2, by rw [am_wr_ne _ (by decide)]; exact a3, pu_fmP (by simp [am_wr]) (am_wr_ne _ (by decide)) a4, ⟨pu_fmI (am_wr_ne _ (by decide)) (am_wr_ne _ (by decide)) a5, pu_fmI (am_wr_ne _ (by decide)) (am_wr_ne _ (by decide)) a6⟩, ⟨pu_wr_eq, fun i hi => absurd hi (Nat.not_lt_zero _)⟩⟩
end
section
/-! the law's own loop, given each call -/
def pu_Each : Prop := ∀ f, pu_R f → (∀ a, pu_Go (D_X7_type a) (D_X8_type a) f) ∧ pu_Go D_X7_clear D_X8_clear f ∧ pu_Go D_X7_tells D_X8_tells f ∧ (∀ a b, pu_Go (D_X7_claims a b) (D_X8_claims a b) f) ∧ (∀ a b, pu_Go (D_X7_fills a b) (D_X8_fills a b) f) ∧ (∀ a, pu_Go (D_X7_gaps a) (D_X8_gaps a) f) ∧ (∀ a b, pu_Go (D_X7_takes a b) (D_X8_takes a b) f) ∧ (∀ a, pu_Go (D_X7_calls a) (D_X8_calls a) f) ∧ pu_Go D_X7_undo D_X8_undo f ∧ (∀ a b, pu_Go (D_X7_event a b) (D_X8_event a b) f) ∧ (∀ a b, pu_Go (D_X7_taker a b) (D_X8_taker a b) f) ∧ (∀ a b, pu_Go (D_X7_maker a b) (D_X8_maker a b) f) ∧ pu_Go D_X7_blamed D_X8_blamed f ∧ pu_Go D_X7_steps D_X8_steps f ∧ (∀ a b, pu_Go (D_X7_rule a b) (D_X8_rule a b) f) ∧ (∀ a b, pu_Go (D_X7_waited a b) (D_X8_waited a b) f) ∧ (∀ a b, pu_Go (D_X7_done a b) (D_X8_done a b) f) ∧ (∀ a b, pu_Go (D_X7_sees a b) (D_X8_sees a b) f) ∧ pu_Go D_X7_forget D_X8_forget f ∧ pu_Go D_X7_which D_X8_which f ∧ pu_Go D_X7_look D_X8_look f ∧ (∀ a, pu_Go (D_X7_keep a) (D_X8_keep a) f) ∧ (∀ a, pu_Go (D_X7_back a) (D_X8_back a) f) ∧ (∀ a, pu_Go (D_X7_count a) (D_X8_count a) f)
theorem pu_st {A B : am_M → Option (Int32 × am_M)} {f : am_M} {K : am_M → Option (Int32 × am_M)} (h : pu_Go A B f) (hK : ∀ f2, pu_R f2 → ∃ f', K f2 = some (1, f')) : ∃ f', (am_bI (A f) fun v1 f1 => am_bI (B f1) fun v2 f2 => if v1 = v2 then K f2 else some (0, f2)) = some (1, f') := by
  obtain ⟨r, f1, f2, h1, h2, h3⟩ := h
  obtain ⟨f', hf⟩ := hK f2 h3
  refine ⟨f', ?_⟩
  rw [h1, pu_bI, h2, pu_bI, if_pos rfl, hf]
theorem pu_ite {c : Prop} [Decidable c] {a b : Option (Int32 × am_M)} (ha : ∃ f', a = some (1, f')) (hb : ∃ f', b = some (1, f')) : ∃ f', (if c then a else b) = some (1, f') := by
  by_cases h : c
  · rw [if_pos h]; exact ha
  · rw [if_neg h]; exact hb
set_option maxHeartbeats 1000000 in
theorem pu_loop (hE : pu_Each) (X : am_X) (hL : X.1 ≤ 1536) : ∀ (n j : Nat) (f : am_M), X.1 < j + n → j ≤ X.1 → pu_R f → ∃ f', D_L_law_18 X n (nI j) f = some (1, f')
  | 0, j, f, h1, h2, _ => absurd h1 (by omega)
  | n + 1, j, f, h1, h2, hR => by
    by_cases hj : X.1 < j + 3
    · refine ⟨f, ?_⟩
      show (if nI X.1 - nI 3 < nI j then some (1, f) else _) = _
      exact if_pos ((pu_sublt (by omega) (by decide) (by omega)).mpr (by omega))
    have hK : ∀ f2, pu_R f2 → ∃ f', D_L_law_18 X n (nI (j + 3)) f2 = some (1, f') := fun f2 h => pu_loop hE X hL n (j + 3) f2 (by omega) (by omega) h
    have e1 : nI j + 1 = nI (j + 1) := nI_1 j
    have e2 : nI j + 2 = nI (j + 2) := nI_add j 2
    have e3 : nI j + 3 = nI (j + 3) := nI_add j 3
    have hE' := hE f hR
    unfold D_L_law_18
    rw [if_neg (fun q => by have := (pu_sublt (a := X.1) (b := 3) (c := j) (by omega) (by decide) (by omega)).mp q; omega)]
    simp only [e1, e2, e3, pu_chk (show j < X.1 by omega) (show X.1 < 2 ^ 31 by omega), pu_chk (show j + 1 < X.1 by omega) (show X.1 < 2 ^ 31 by omega), pu_chk (show j + 2 < X.1 by omega) (show X.1 < 2 ^ 31 by omega)]
    generalize X.2 (nI j).toNatClampNeg &&& 31 = w
    generalize X.2 (nI (j + 1)).toNatClampNeg = u
    generalize X.2 (nI (j + 2)).toNatClampNeg = v
    obtain ⟨h0, h1, h2, h3, h4, h5, h6, h7, h8, h9, h10, h11, h12, h13, h14, h15, h16, h17, h18, h19, h20, h21, h22, h23⟩ := hE'
    refine pu_ite (pu_st (h0 u) hK) ?_
    refine pu_ite (pu_st (h1) hK) ?_
    refine pu_ite (pu_st (h2) hK) ?_
    refine pu_ite (pu_st (h3 u v) hK) ?_
    refine pu_ite (pu_st (h4 u v) hK) ?_
    refine pu_ite (pu_st (h5 u) hK) ?_
    refine pu_ite (pu_st (h6 u v) hK) ?_
    refine pu_ite (pu_st (h7 u) hK) ?_
    refine pu_ite (pu_st (h8) hK) ?_
    refine pu_ite (pu_st (h9 u v) hK) ?_
    refine pu_ite (pu_st (h10 u v) hK) ?_
    refine pu_ite (pu_st (h11 u v) hK) ?_
    refine pu_ite (pu_st (h12) hK) ?_
    refine pu_ite (pu_st (h13) hK) ?_
    refine pu_ite (pu_st (h14 u v) hK) ?_
    refine pu_ite (pu_st (h15 u v) hK) ?_
    refine pu_ite (pu_st (h16 u v) hK) ?_
    refine pu_ite (pu_st (h17 u v) hK) ?_
    refine pu_ite (pu_st (h18) hK) ?_
    refine pu_ite (pu_st (h19) hK) ?_
    refine pu_ite (pu_st (h20) hK) ?_
    refine pu_ite (pu_st (h21 u) hK) ?_
    refine pu_ite (pu_st (h22 u) hK) ?_
    refine pu_ite (pu_st (h23 u) hK) ?_
    exact hK f hR
theorem am_pure_of (hE : pu_Each) (h0 : pu_R am_fb) (X : am_X) (hL : X.1 ≤ 1536) : ∃ f', D_L_law X am_fb = some (1, f') := pu_loop hE X hL am_fu 0 am_fb (by show X.1 < 0 + 6000; omega) (Nat.zero_le _) h0
end
