-- ===== PART A: goes FIRST, ahead of the names: the tables' words, and 'selects' of the private methods out of them =====
/-- a private method of a class that the tables say can be made, by its rows of tables_1 -/
def lw_okq (q : MethodName × Nat) : Prop := (q.1.cls ≠ "java/lang/invoke/MethodHandle" ∧ q.1.cls ≠ "java/lang/invoke/VarHandle") ∧ Cond.instantiable q.1.cls q.2 ∈ tables_1 ∧ Cond.privateMethod q.1 ∈ tables_1 ∧ Cond.instanceMethod q.1 ∈ tables_1
theorem lw_p0 : lw_okq (⟨"NumberedRings$Text", "next", "()V"⟩, 8) := ⟨⟨by decide +kernel, by decide +kernel⟩, List.mem_of_getElem? (i := 26) (by decide +kernel), List.mem_of_getElem? (i := 277) (by decide +kernel), List.mem_of_getElem? (i := 278) (by decide +kernel)⟩
theorem lw_p1 : lw_okq (⟨"NumberedRings$Text", "readWord", "()V"⟩, 8) := ⟨⟨by decide +kernel, by decide +kernel⟩, List.mem_of_getElem? (i := 26) (by decide +kernel), List.mem_of_getElem? (i := 284) (by decide +kernel), List.mem_of_getElem? (i := 285) (by decide +kernel)⟩
theorem lw_p2 : lw_okq (⟨"NumberedRings$Text", "isWord", "(Ljava/lang/String;)Z"⟩, 8) := ⟨⟨by decide +kernel, by decide +kernel⟩, List.mem_of_getElem? (i := 26) (by decide +kernel), List.mem_of_getElem? (i := 289) (by decide +kernel), List.mem_of_getElem? (i := 290) (by decide +kernel)⟩
theorem lw_p3 : lw_okq (⟨"NumberedRings$Text", "readNumber", "()V"⟩, 8) := ⟨⟨by decide +kernel, by decide +kernel⟩, List.mem_of_getElem? (i := 26) (by decide +kernel), List.mem_of_getElem? (i := 346) (by decide +kernel), List.mem_of_getElem? (i := 347) (by decide +kernel)⟩
theorem lw_p4 : lw_okq (⟨"NumberedRings$Text", "readSlots", "(LNumberedRings$Told;)Z"⟩, 8) := ⟨⟨by decide +kernel, by decide +kernel⟩, List.mem_of_getElem? (i := 26) (by decide +kernel), List.mem_of_getElem? (i := 353) (by decide +kernel), List.mem_of_getElem? (i := 354) (by decide +kernel)⟩
theorem lw_p5 : lw_okq (⟨"NumberedRings$Text", "accept", "(II)Z"⟩, 8) := ⟨⟨by decide +kernel, by decide +kernel⟩, List.mem_of_getElem? (i := 26) (by decide +kernel), List.mem_of_getElem? (i := 357) (by decide +kernel), List.mem_of_getElem? (i := 358) (by decide +kernel)⟩
theorem lw_p6 : lw_okq (⟨"NumberedRings$Text", "acceptSemicolon", "()Z"⟩, 8) := ⟨⟨by decide +kernel, by decide +kernel⟩, List.mem_of_getElem? (i := 26) (by decide +kernel), List.mem_of_getElem? (i := 361) (by decide +kernel), List.mem_of_getElem? (i := 362) (by decide +kernel)⟩
theorem lw_p7 : lw_okq (⟨"NumberedRings$Text", "readMaker", "(LNumberedRings$Told;)Z"⟩, 8) := ⟨⟨by decide +kernel, by decide +kernel⟩, List.mem_of_getElem? (i := 26) (by decide +kernel), List.mem_of_getElem? (i := 365) (by decide +kernel), List.mem_of_getElem? (i := 366) (by decide +kernel)⟩
theorem lw_p8 : lw_okq (⟨"NumberedRings$Text", "readTaker", "(LNumberedRings$Told;)Z"⟩, 8) := ⟨⟨by decide +kernel, by decide +kernel⟩, List.mem_of_getElem? (i := 26) (by decide +kernel), List.mem_of_getElem? (i := 373) (by decide +kernel), List.mem_of_getElem? (i := 374) (by decide +kernel)⟩
theorem lw_p9 : lw_okq (⟨"NumberedRings$Standing", "claim", "(II)I"⟩, 10) := ⟨⟨by decide +kernel, by decide +kernel⟩, List.mem_of_getElem? (i := 101) (by decide +kernel), List.mem_of_getElem? (i := 428) (by decide +kernel), List.mem_of_getElem? (i := 429) (by decide +kernel)⟩
theorem lw_p10 : lw_okq (⟨"NumberedRings", "closeOpen", "(III)I"⟩, 9) := ⟨⟨by decide +kernel, by decide +kernel⟩, List.mem_of_getElem? (i := 18) (by decide +kernel), List.mem_of_getElem? (i := 440) (by decide +kernel), List.mem_of_getElem? (i := 441) (by decide +kernel)⟩
theorem lw_p11 : lw_okq (⟨"NumberedRings$Standing", "slowestOf", "(I)I"⟩, 10) := ⟨⟨by decide +kernel, by decide +kernel⟩, List.mem_of_getElem? (i := 101) (by decide +kernel), List.mem_of_getElem? (i := 477) (by decide +kernel), List.mem_of_getElem? (i := 478) (by decide +kernel)⟩
theorem lw_p12 : lw_okq (⟨"NumberedRings$Course", "start", "(LNumberedRings$Standing;)V"⟩, 3) := ⟨⟨by decide +kernel, by decide +kernel⟩, List.mem_of_getElem? (i := 189) (by decide +kernel), List.mem_of_getElem? (i := 572) (by decide +kernel), List.mem_of_getElem? (i := 573) (by decide +kernel)⟩
theorem lw_p13 : lw_okq (⟨"NumberedRings$Course", "tick", "()V"⟩, 3) := ⟨⟨by decide +kernel, by decide +kernel⟩, List.mem_of_getElem? (i := 189) (by decide +kernel), List.mem_of_getElem? (i := 577) (by decide +kernel), List.mem_of_getElem? (i := 578) (by decide +kernel)⟩
theorem lw_p14 : lw_okq (⟨"NumberedRings$Course", "greatestGroup", "(I)I"⟩, 3) := ⟨⟨by decide +kernel, by decide +kernel⟩, List.mem_of_getElem? (i := 189) (by decide +kernel), List.mem_of_getElem? (i := 640) (by decide +kernel), List.mem_of_getElem? (i := 641) (by decide +kernel)⟩
theorem lw_p15 : lw_okq (⟨"NumberedRings", "imageOf", "(I)LNumberedRings$Image;"⟩, 9) := ⟨⟨by decide +kernel, by decide +kernel⟩, List.mem_of_getElem? (i := 18) (by decide +kernel), List.mem_of_getElem? (i := 649) (by decide +kernel), List.mem_of_getElem? (i := 650) (by decide +kernel)⟩
def lw_privs_1 : List (MethodName × Nat) := [(⟨"NumberedRings$Text", "next", "()V"⟩, 8), (⟨"NumberedRings$Text", "readWord", "()V"⟩, 8), (⟨"NumberedRings$Text", "isWord", "(Ljava/lang/String;)Z"⟩, 8), (⟨"NumberedRings$Text", "readNumber", "()V"⟩, 8), (⟨"NumberedRings$Text", "readSlots", "(LNumberedRings$Told;)Z"⟩, 8), (⟨"NumberedRings$Text", "accept", "(II)Z"⟩, 8), (⟨"NumberedRings$Text", "acceptSemicolon", "()Z"⟩, 8), (⟨"NumberedRings$Text", "readMaker", "(LNumberedRings$Told;)Z"⟩, 8), (⟨"NumberedRings$Text", "readTaker", "(LNumberedRings$Told;)Z"⟩, 8), (⟨"NumberedRings$Standing", "claim", "(II)I"⟩, 10), (⟨"NumberedRings", "closeOpen", "(III)I"⟩, 9), (⟨"NumberedRings$Standing", "slowestOf", "(I)I"⟩, 10), (⟨"NumberedRings$Course", "start", "(LNumberedRings$Standing;)V"⟩, 3), (⟨"NumberedRings$Course", "tick", "()V"⟩, 3), (⟨"NumberedRings$Course", "greatestGroup", "(I)I"⟩, 3), (⟨"NumberedRings", "imageOf", "(I)LNumberedRings$Image;"⟩, 9)]
theorem lw_r1 : ∀ q ∈ lw_privs_1, lw_okq q := List.forall_mem_cons.mpr ⟨lw_p0, List.forall_mem_cons.mpr ⟨lw_p1, List.forall_mem_cons.mpr ⟨lw_p2, List.forall_mem_cons.mpr ⟨lw_p3, List.forall_mem_cons.mpr ⟨lw_p4, List.forall_mem_cons.mpr ⟨lw_p5, List.forall_mem_cons.mpr ⟨lw_p6, List.forall_mem_cons.mpr ⟨lw_p7, List.forall_mem_cons.mpr ⟨lw_p8, List.forall_mem_cons.mpr ⟨lw_p9, List.forall_mem_cons.mpr ⟨lw_p10, List.forall_mem_cons.mpr ⟨lw_p11, List.forall_mem_cons.mpr ⟨lw_p12, List.forall_mem_cons.mpr ⟨lw_p13, List.forall_mem_cons.mpr ⟨lw_p14, List.forall_mem_cons.mpr ⟨lw_p15, fun _ h => absurd h List.not_mem_nil⟩⟩⟩⟩⟩⟩⟩⟩⟩⟩⟩⟩⟩⟩⟩⟩
theorem lw_p16 : lw_okq (⟨"NumberedRingsModel", "reads", "()I"⟩, 34) := ⟨⟨by decide +kernel, by decide +kernel⟩, List.mem_of_getElem? (i := 663) (by decide +kernel), List.mem_of_getElem? (i := 788) (by decide +kernel), List.mem_of_getElem? (i := 789) (by decide +kernel)⟩
theorem lw_p17 : lw_okq (⟨"NumberedRingsModel", "skips", "()V"⟩, 34) := ⟨⟨by decide +kernel, by decide +kernel⟩, List.mem_of_getElem? (i := 663) (by decide +kernel), List.mem_of_getElem? (i := 792) (by decide +kernel), List.mem_of_getElem? (i := 793) (by decide +kernel)⟩
theorem lw_p18 : lw_okq (⟨"NumberedRingsModel", "wordPassed", "()I"⟩, 34) := ⟨⟨by decide +kernel, by decide +kernel⟩, List.mem_of_getElem? (i := 663) (by decide +kernel), List.mem_of_getElem? (i := 796) (by decide +kernel), List.mem_of_getElem? (i := 797) (by decide +kernel)⟩
theorem lw_p19 : lw_okq (⟨"NumberedRingsModel", "isAt", "(II)Z"⟩, 34) := ⟨⟨by decide +kernel, by decide +kernel⟩, List.mem_of_getElem? (i := 663) (by decide +kernel), List.mem_of_getElem? (i := 800) (by decide +kernel), List.mem_of_getElem? (i := 801) (by decide +kernel)⟩
theorem lw_p20 : lw_okq (⟨"NumberedRingsModel", "spells", "(IIIII)Z"⟩, 34) := ⟨⟨by decide +kernel, by decide +kernel⟩, List.mem_of_getElem? (i := 663) (by decide +kernel), List.mem_of_getElem? (i := 804) (by decide +kernel), List.mem_of_getElem? (i := 805) (by decide +kernel)⟩
theorem lw_p21 : lw_okq (⟨"NumberedRingsModel", "readsSlots", "()Z"⟩, 34) := ⟨⟨by decide +kernel, by decide +kernel⟩, List.mem_of_getElem? (i := 663) (by decide +kernel), List.mem_of_getElem? (i := 808) (by decide +kernel), List.mem_of_getElem? (i := 809) (by decide +kernel)⟩
theorem lw_p22 : lw_okq (⟨"NumberedRingsModel", "number", "(II)I"⟩, 34) := ⟨⟨by decide +kernel, by decide +kernel⟩, List.mem_of_getElem? (i := 663) (by decide +kernel), List.mem_of_getElem? (i := 812) (by decide +kernel), List.mem_of_getElem? (i := 813) (by decide +kernel)⟩
theorem lw_p23 : lw_okq (⟨"NumberedRingsModel", "passesEnd", "()Z"⟩, 34) := ⟨⟨by decide +kernel, by decide +kernel⟩, List.mem_of_getElem? (i := 663) (by decide +kernel), List.mem_of_getElem? (i := 816) (by decide +kernel), List.mem_of_getElem? (i := 817) (by decide +kernel)⟩
theorem lw_p24 : lw_okq (⟨"NumberedRingsModel", "readsMaker", "()Z"⟩, 34) := ⟨⟨by decide +kernel, by decide +kernel⟩, List.mem_of_getElem? (i := 663) (by decide +kernel), List.mem_of_getElem? (i := 820) (by decide +kernel), List.mem_of_getElem? (i := 821) (by decide +kernel)⟩
theorem lw_p25 : lw_okq (⟨"NumberedRingsModel", "readsTaker", "()Z"⟩, 34) := ⟨⟨by decide +kernel, by decide +kernel⟩, List.mem_of_getElem? (i := 663) (by decide +kernel), List.mem_of_getElem? (i := 824) (by decide +kernel), List.mem_of_getElem? (i := 825) (by decide +kernel)⟩
theorem lw_p26 : lw_okq (⟨"NumberedRingsModel", "isMaker", "(I)Z"⟩, 34) := ⟨⟨by decide +kernel, by decide +kernel⟩, List.mem_of_getElem? (i := 663) (by decide +kernel), List.mem_of_getElem? (i := 832) (by decide +kernel), List.mem_of_getElem? (i := 833) (by decide +kernel)⟩
theorem lw_p27 : lw_okq (⟨"NumberedRingsModel", "placeOf", "(I)I"⟩, 34) := ⟨⟨by decide +kernel, by decide +kernel⟩, List.mem_of_getElem? (i := 663) (by decide +kernel), List.mem_of_getElem? (i := 836) (by decide +kernel), List.mem_of_getElem? (i := 837) (by decide +kernel)⟩
theorem lw_p28 : lw_okq (⟨"NumberedRingsModel", "wanted", "()I"⟩, 34) := ⟨⟨by decide +kernel, by decide +kernel⟩, List.mem_of_getElem? (i := 663) (by decide +kernel), List.mem_of_getElem? (i := 840) (by decide +kernel), List.mem_of_getElem? (i := 841) (by decide +kernel)⟩
theorem lw_p29 : lw_okq (⟨"NumberedRingsModel", "keeps", "()V"⟩, 34) := ⟨⟨by decide +kernel, by decide +kernel⟩, List.mem_of_getElem? (i := 663) (by decide +kernel), List.mem_of_getElem? (i := 844) (by decide +kernel), List.mem_of_getElem? (i := 845) (by decide +kernel)⟩
theorem lw_p30 : lw_okq (⟨"NumberedRingsModel", "room", "()I"⟩, 34) := ⟨⟨by decide +kernel, by decide +kernel⟩, List.mem_of_getElem? (i := 663) (by decide +kernel), List.mem_of_getElem? (i := 848) (by decide +kernel), List.mem_of_getElem? (i := 849) (by decide +kernel)⟩
theorem lw_p31 : lw_okq (⟨"NumberedRingsModel", "least", "()I"⟩, 34) := ⟨⟨by decide +kernel, by decide +kernel⟩, List.mem_of_getElem? (i := 663) (by decide +kernel), List.mem_of_getElem? (i := 852) (by decide +kernel), List.mem_of_getElem? (i := 853) (by decide +kernel)⟩
def lw_privs_2 : List (MethodName × Nat) := [(⟨"NumberedRingsModel", "reads", "()I"⟩, 34), (⟨"NumberedRingsModel", "skips", "()V"⟩, 34), (⟨"NumberedRingsModel", "wordPassed", "()I"⟩, 34), (⟨"NumberedRingsModel", "isAt", "(II)Z"⟩, 34), (⟨"NumberedRingsModel", "spells", "(IIIII)Z"⟩, 34), (⟨"NumberedRingsModel", "readsSlots", "()Z"⟩, 34), (⟨"NumberedRingsModel", "number", "(II)I"⟩, 34), (⟨"NumberedRingsModel", "passesEnd", "()Z"⟩, 34), (⟨"NumberedRingsModel", "readsMaker", "()Z"⟩, 34), (⟨"NumberedRingsModel", "readsTaker", "()Z"⟩, 34), (⟨"NumberedRingsModel", "isMaker", "(I)Z"⟩, 34), (⟨"NumberedRingsModel", "placeOf", "(I)I"⟩, 34), (⟨"NumberedRingsModel", "wanted", "()I"⟩, 34), (⟨"NumberedRingsModel", "keeps", "()V"⟩, 34), (⟨"NumberedRingsModel", "room", "()I"⟩, 34), (⟨"NumberedRingsModel", "least", "()I"⟩, 34)]
theorem lw_r2 : ∀ q ∈ lw_privs_2, lw_okq q := List.forall_mem_cons.mpr ⟨lw_p16, List.forall_mem_cons.mpr ⟨lw_p17, List.forall_mem_cons.mpr ⟨lw_p18, List.forall_mem_cons.mpr ⟨lw_p19, List.forall_mem_cons.mpr ⟨lw_p20, List.forall_mem_cons.mpr ⟨lw_p21, List.forall_mem_cons.mpr ⟨lw_p22, List.forall_mem_cons.mpr ⟨lw_p23, List.forall_mem_cons.mpr ⟨lw_p24, List.forall_mem_cons.mpr ⟨lw_p25, List.forall_mem_cons.mpr ⟨lw_p26, List.forall_mem_cons.mpr ⟨lw_p27, List.forall_mem_cons.mpr ⟨lw_p28, List.forall_mem_cons.mpr ⟨lw_p29, List.forall_mem_cons.mpr ⟨lw_p30, List.forall_mem_cons.mpr ⟨lw_p31, fun _ h => absurd h List.not_mem_nil⟩⟩⟩⟩⟩⟩⟩⟩⟩⟩⟩⟩⟩⟩⟩⟩
theorem lw_p32 : lw_okq (⟨"NumberedRingsModel", "claimsNow", "(II)V"⟩, 34) := ⟨⟨by decide +kernel, by decide +kernel⟩, List.mem_of_getElem? (i := 663) (by decide +kernel), List.mem_of_getElem? (i := 856) (by decide +kernel), List.mem_of_getElem? (i := 857) (by decide +kernel)⟩
theorem lw_p33 : lw_okq (⟨"NumberedRingsModel", "isEvent", "(I)Z"⟩, 34) := ⟨⟨by decide +kernel, by decide +kernel⟩, List.mem_of_getElem? (i := 663) (by decide +kernel), List.mem_of_getElem? (i := 864) (by decide +kernel), List.mem_of_getElem? (i := 865) (by decide +kernel)⟩
theorem lw_p34 : lw_okq (⟨"NumberedRingsModel", "becomes", "(III)I"⟩, 34) := ⟨⟨by decide +kernel, by decide +kernel⟩, List.mem_of_getElem? (i := 663) (by decide +kernel), List.mem_of_getElem? (i := 868) (by decide +kernel), List.mem_of_getElem? (i := 869) (by decide +kernel)⟩
theorem lw_p35 : lw_okq (⟨"NumberedRingsModel", "kindOf", "(I)I"⟩, 34) := ⟨⟨by decide +kernel, by decide +kernel⟩, List.mem_of_getElem? (i := 663) (by decide +kernel), List.mem_of_getElem? (i := 872) (by decide +kernel), List.mem_of_getElem? (i := 873) (by decide +kernel)⟩
theorem lw_p36 : lw_okq (⟨"NumberedRingsModel", "cursor", "()I"⟩, 34) := ⟨⟨by decide +kernel, by decide +kernel⟩, List.mem_of_getElem? (i := 663) (by decide +kernel), List.mem_of_getElem? (i := 876) (by decide +kernel), List.mem_of_getElem? (i := 877) (by decide +kernel)⟩
theorem lw_p37 : lw_okq (⟨"NumberedRingsModel", "isTaker", "(I)Z"⟩, 34) := ⟨⟨by decide +kernel, by decide +kernel⟩, List.mem_of_getElem? (i := 663) (by decide +kernel), List.mem_of_getElem? (i := 888) (by decide +kernel), List.mem_of_getElem? (i := 889) (by decide +kernel)⟩
theorem lw_p38 : lw_okq (⟨"NumberedRingsModel", "atMost", "(I)I"⟩, 34) := ⟨⟨by decide +kernel, by decide +kernel⟩, List.mem_of_getElem? (i := 663) (by decide +kernel), List.mem_of_getElem? (i := 892) (by decide +kernel), List.mem_of_getElem? (i := 893) (by decide +kernel)⟩
theorem lw_p39 : lw_okq (⟨"NumberedRingsModel", "goesOver", "(II)V"⟩, 34) := ⟨⟨by decide +kernel, by decide +kernel⟩, List.mem_of_getElem? (i := 663) (by decide +kernel), List.mem_of_getElem? (i := 899) (by decide +kernel), List.mem_of_getElem? (i := 900) (by decide +kernel)⟩
theorem lw_p40 : lw_okq (⟨"NumberedRingsModel", "lets", "()V"⟩, 34) := ⟨⟨by decide +kernel, by decide +kernel⟩, List.mem_of_getElem? (i := 663) (by decide +kernel), List.mem_of_getElem? (i := 903) (by decide +kernel), List.mem_of_getElem? (i := 904) (by decide +kernel)⟩
theorem lw_p41 : lw_okq (⟨"NumberedRingsModel", "leavesRow", "(I)V"⟩, 34) := ⟨⟨by decide +kernel, by decide +kernel⟩, List.mem_of_getElem? (i := 663) (by decide +kernel), List.mem_of_getElem? (i := 907) (by decide +kernel), List.mem_of_getElem? (i := 908) (by decide +kernel)⟩
theorem lw_p42 : lw_okq (⟨"NumberedRingsModel", "tellEvent", "(II)I"⟩, 34) := ⟨⟨by decide +kernel, by decide +kernel⟩, List.mem_of_getElem? (i := 663) (by decide +kernel), List.mem_of_getElem? (i := 923) (by decide +kernel), List.mem_of_getElem? (i := 924) (by decide +kernel)⟩
theorem lw_p43 : lw_okq (⟨"NumberedRingsModel", "tellTaker", "(II)I"⟩, 34) := ⟨⟨by decide +kernel, by decide +kernel⟩, List.mem_of_getElem? (i := 663) (by decide +kernel), List.mem_of_getElem? (i := 931) (by decide +kernel), List.mem_of_getElem? (i := 932) (by decide +kernel)⟩
theorem lw_p44 : lw_okq (⟨"NumberedRingsModel", "tellMaker", "(II)I"⟩, 34) := ⟨⟨by decide +kernel, by decide +kernel⟩, List.mem_of_getElem? (i := 663) (by decide +kernel), List.mem_of_getElem? (i := 939) (by decide +kernel), List.mem_of_getElem? (i := 940) (by decide +kernel)⟩
theorem lw_p45 : lw_okq (⟨"NumberedRingsModel", "openOf", "(I)I"⟩, 34) := ⟨⟨by decide +kernel, by decide +kernel⟩, List.mem_of_getElem? (i := 663) (by decide +kernel), List.mem_of_getElem? (i := 943) (by decide +kernel), List.mem_of_getElem? (i := 944) (by decide +kernel)⟩
theorem lw_p46 : lw_okq (⟨"NumberedRingsModel", "slowest", "(I)I"⟩, 34) := ⟨⟨by decide +kernel, by decide +kernel⟩, List.mem_of_getElem? (i := 663) (by decide +kernel), List.mem_of_getElem? (i := 951) (by decide +kernel), List.mem_of_getElem? (i := 952) (by decide +kernel)⟩
theorem lw_p47 : lw_okq (⟨"NumberedRingsModel", "tellRule", "(II)I"⟩, 34) := ⟨⟨by decide +kernel, by decide +kernel⟩, List.mem_of_getElem? (i := 663) (by decide +kernel), List.mem_of_getElem? (i := 966) (by decide +kernel), List.mem_of_getElem? (i := 967) (by decide +kernel)⟩
def lw_privs_3 : List (MethodName × Nat) := [(⟨"NumberedRingsModel", "claimsNow", "(II)V"⟩, 34), (⟨"NumberedRingsModel", "isEvent", "(I)Z"⟩, 34), (⟨"NumberedRingsModel", "becomes", "(III)I"⟩, 34), (⟨"NumberedRingsModel", "kindOf", "(I)I"⟩, 34), (⟨"NumberedRingsModel", "cursor", "()I"⟩, 34), (⟨"NumberedRingsModel", "isTaker", "(I)Z"⟩, 34), (⟨"NumberedRingsModel", "atMost", "(I)I"⟩, 34), (⟨"NumberedRingsModel", "goesOver", "(II)V"⟩, 34), (⟨"NumberedRingsModel", "lets", "()V"⟩, 34), (⟨"NumberedRingsModel", "leavesRow", "(I)V"⟩, 34), (⟨"NumberedRingsModel", "tellEvent", "(II)I"⟩, 34), (⟨"NumberedRingsModel", "tellTaker", "(II)I"⟩, 34), (⟨"NumberedRingsModel", "tellMaker", "(II)I"⟩, 34), (⟨"NumberedRingsModel", "openOf", "(I)I"⟩, 34), (⟨"NumberedRingsModel", "slowest", "(I)I"⟩, 34), (⟨"NumberedRingsModel", "tellRule", "(II)I"⟩, 34)]
theorem lw_r3 : ∀ q ∈ lw_privs_3, lw_okq q := List.forall_mem_cons.mpr ⟨lw_p32, List.forall_mem_cons.mpr ⟨lw_p33, List.forall_mem_cons.mpr ⟨lw_p34, List.forall_mem_cons.mpr ⟨lw_p35, List.forall_mem_cons.mpr ⟨lw_p36, List.forall_mem_cons.mpr ⟨lw_p37, List.forall_mem_cons.mpr ⟨lw_p38, List.forall_mem_cons.mpr ⟨lw_p39, List.forall_mem_cons.mpr ⟨lw_p40, List.forall_mem_cons.mpr ⟨lw_p41, List.forall_mem_cons.mpr ⟨lw_p42, List.forall_mem_cons.mpr ⟨lw_p43, List.forall_mem_cons.mpr ⟨lw_p44, List.forall_mem_cons.mpr ⟨lw_p45, List.forall_mem_cons.mpr ⟨lw_p46, List.forall_mem_cons.mpr ⟨lw_p47, fun _ h => absurd h List.not_mem_nil⟩⟩⟩⟩⟩⟩⟩⟩⟩⟩⟩⟩⟩⟩⟩⟩
theorem lw_p48 : lw_okq (⟨"NumberedRingsModel", "laysRule", "(I)V"⟩, 34) := ⟨⟨by decide +kernel, by decide +kernel⟩, List.mem_of_getElem? (i := 663) (by decide +kernel), List.mem_of_getElem? (i := 970) (by decide +kernel), List.mem_of_getElem? (i := 971) (by decide +kernel)⟩
theorem lw_p49 : lw_okq (⟨"NumberedRingsModel", "saves", "(I)V"⟩, 34) := ⟨⟨by decide +kernel, by decide +kernel⟩, List.mem_of_getElem? (i := 663) (by decide +kernel), List.mem_of_getElem? (i := 974) (by decide +kernel), List.mem_of_getElem? (i := 975) (by decide +kernel)⟩
theorem lw_p50 : lw_okq (⟨"NumberedRingsModel", "doesWait", "(I)Z"⟩, 34) := ⟨⟨by decide +kernel, by decide +kernel⟩, List.mem_of_getElem? (i := 663) (by decide +kernel), List.mem_of_getElem? (i := 978) (by decide +kernel), List.mem_of_getElem? (i := 979) (by decide +kernel)⟩
theorem lw_p51 : lw_okq (⟨"NumberedRingsModel", "ticks", "()V"⟩, 34) := ⟨⟨by decide +kernel, by decide +kernel⟩, List.mem_of_getElem? (i := 663) (by decide +kernel), List.mem_of_getElem? (i := 982) (by decide +kernel), List.mem_of_getElem? (i := 983) (by decide +kernel)⟩
theorem lw_p52 : lw_okq (⟨"NumberedRingsModel", "claimsByRule", "(I)V"⟩, 34) := ⟨⟨by decide +kernel, by decide +kernel⟩, List.mem_of_getElem? (i := 663) (by decide +kernel), List.mem_of_getElem? (i := 986) (by decide +kernel), List.mem_of_getElem? (i := 987) (by decide +kernel)⟩
theorem lw_p53 : lw_okq (⟨"NumberedRingsModel", "leastOver", "()I"⟩, 34) := ⟨⟨by decide +kernel, by decide +kernel⟩, List.mem_of_getElem? (i := 663) (by decide +kernel), List.mem_of_getElem? (i := 990) (by decide +kernel), List.mem_of_getElem? (i := 991) (by decide +kernel)⟩
theorem lw_p54 : lw_okq (⟨"NumberedRingsModel", "mostByRule", "(II)I"⟩, 34) := ⟨⟨by decide +kernel, by decide +kernel⟩, List.mem_of_getElem? (i := 663) (by decide +kernel), List.mem_of_getElem? (i := 994) (by decide +kernel), List.mem_of_getElem? (i := 995) (by decide +kernel)⟩
theorem lw_p55 : lw_okq (⟨"NumberedRingsModel", "letsByRule", "()V"⟩, 34) := ⟨⟨by decide +kernel, by decide +kernel⟩, List.mem_of_getElem? (i := 663) (by decide +kernel), List.mem_of_getElem? (i := 998) (by decide +kernel), List.mem_of_getElem? (i := 999) (by decide +kernel)⟩
theorem lw_p56 : lw_okq (⟨"NumberedRingsModel", "leastAt", "(I)I"⟩, 34) := ⟨⟨by decide +kernel, by decide +kernel⟩, List.mem_of_getElem? (i := 663) (by decide +kernel), List.mem_of_getElem? (i := 1002) (by decide +kernel), List.mem_of_getElem? (i := 1003) (by decide +kernel)⟩
theorem lw_p57 : lw_okq (⟨"NumberedRingsModel", "slowAt", "(I)I"⟩, 34) := ⟨⟨by decide +kernel, by decide +kernel⟩, List.mem_of_getElem? (i := 663) (by decide +kernel), List.mem_of_getElem? (i := 1006) (by decide +kernel), List.mem_of_getElem? (i := 1007) (by decide +kernel)⟩
theorem lw_p58 : lw_okq (⟨"NumberedRingsModel", "candidates", "()I"⟩, 34) := ⟨⟨by decide +kernel, by decide +kernel⟩, List.mem_of_getElem? (i := 663) (by decide +kernel), List.mem_of_getElem? (i := 1030) (by decide +kernel), List.mem_of_getElem? (i := 1031) (by decide +kernel)⟩
theorem lw_p59 : lw_okq (⟨"NumberedRingsModel", "mostAlike", "(II)I"⟩, 34) := ⟨⟨by decide +kernel, by decide +kernel⟩, List.mem_of_getElem? (i := 663) (by decide +kernel), List.mem_of_getElem? (i := 1038) (by decide +kernel), List.mem_of_getElem? (i := 1039) (by decide +kernel)⟩
def lw_privs_4 : List (MethodName × Nat) := [(⟨"NumberedRingsModel", "laysRule", "(I)V"⟩, 34), (⟨"NumberedRingsModel", "saves", "(I)V"⟩, 34), (⟨"NumberedRingsModel", "doesWait", "(I)Z"⟩, 34), (⟨"NumberedRingsModel", "ticks", "()V"⟩, 34), (⟨"NumberedRingsModel", "claimsByRule", "(I)V"⟩, 34), (⟨"NumberedRingsModel", "leastOver", "()I"⟩, 34), (⟨"NumberedRingsModel", "mostByRule", "(II)I"⟩, 34), (⟨"NumberedRingsModel", "letsByRule", "()V"⟩, 34), (⟨"NumberedRingsModel", "leastAt", "(I)I"⟩, 34), (⟨"NumberedRingsModel", "slowAt", "(I)I"⟩, 34), (⟨"NumberedRingsModel", "candidates", "()I"⟩, 34), (⟨"NumberedRingsModel", "mostAlike", "(II)I"⟩, 34)]
theorem lw_r4 : ∀ q ∈ lw_privs_4, lw_okq q := List.forall_mem_cons.mpr ⟨lw_p48, List.forall_mem_cons.mpr ⟨lw_p49, List.forall_mem_cons.mpr ⟨lw_p50, List.forall_mem_cons.mpr ⟨lw_p51, List.forall_mem_cons.mpr ⟨lw_p52, List.forall_mem_cons.mpr ⟨lw_p53, List.forall_mem_cons.mpr ⟨lw_p54, List.forall_mem_cons.mpr ⟨lw_p55, List.forall_mem_cons.mpr ⟨lw_p56, List.forall_mem_cons.mpr ⟨lw_p57, List.forall_mem_cons.mpr ⟨lw_p58, List.forall_mem_cons.mpr ⟨lw_p59, fun _ h => absurd h List.not_mem_nil⟩⟩⟩⟩⟩⟩⟩⟩⟩⟩⟩⟩
def lw_privs : List (MethodName × Nat) := lw_privs_1 ++ (lw_privs_2 ++ (lw_privs_3 ++ (lw_privs_4)))
def lw_tbl : List Cond := k2_sels lw_privs ++ tables_1
theorem lw_privs_ok : ∀ q ∈ lw_privs, lw_okq q := by
  show ∀ q ∈ lw_privs_1 ++ (lw_privs_2 ++ (lw_privs_3 ++ (lw_privs_4))), lw_okq q
  exact List.forall_mem_append.mpr ⟨lw_r1, List.forall_mem_append.mpr ⟨lw_r2, List.forall_mem_append.mpr ⟨lw_r3, lw_r4⟩⟩⟩
def RX0 : String := "NumberedRings$Course"
def TX0 : u_T := fun k => match k with
  | 0 => ("NumberedRings$Course", "told", "LNumberedRings$Told;", true)
  | 1 => ("NumberedRings$Course", "then", "LNumberedRings$Standing;", true)
  | _ => ("NumberedRings$Course", "ticksWaited", "[I", true)
def tyX0 : Nat → FieldType := fun k => match k with
  | 0 => .object "NumberedRings$Told"
  | 1 => .object "NumberedRings$Standing"
  | _ => .array .int
abbrev wsX00 : List Cond := u_ws RX0 TX0 3
theorem nmX0 : ∀ a, a < 3 → ∀ b, b < 3 → a ≠ b → (TX0 a).2.1 ≠ (TX0 b).2.1 := by decide +kernel
theorem tyX0_ok : ∀ k, k < 3 → parseFieldDescriptor (TX0 k).2.2.1 = some (tyX0 k) := by decide +kernel
abbrev cX0_init : ByteArray := prog_2_method_1_code
def yX0_init : MethodName := ⟨RX0, "<init>", "(LNumberedRings$Told;)V"⟩
abbrev cX0_after : ByteArray := prog_2_method_2_code
def yX0_after : MethodName := ⟨RX0, "after", "(LNumberedRings$Standing;I)LNumberedRings$Standing;"⟩
abbrev cX0_start : ByteArray := prog_2_method_3_code
def yX0_start : MethodName := ⟨RX0, "start", "(LNumberedRings$Standing;)V"⟩
abbrev cX0_tick : ByteArray := prog_2_method_4_code
def yX0_tick : MethodName := ⟨RX0, "tick", "()V"⟩
abbrev cX0_takersSeen : ByteArray := prog_2_method_5_code
def yX0_takersSeen : MethodName := ⟨RX0, "takersSeen", "(LNumberedRings$Standing;LNumberedRings$Seen;)I"⟩
abbrev cX0_ticksThatPart : ByteArray := prog_2_method_6_code
def yX0_ticksThatPart : MethodName := ⟨RX0, "ticksThatPart", "(LNumberedRings$Standing;I)I"⟩
abbrev cX0_greatestGroup : ByteArray := prog_2_method_7_code
def yX0_greatestGroup : MethodName := ⟨RX0, "greatestGroup", "(I)I"⟩
def RX1 : String := "NumberedRings$Image"
def TX1 : u_T := fun k => match k with
  | 0 => ("NumberedRings$Image", "standing", "LNumberedRings$Standing;", true)
  | _ => ("NumberedRings$Image", "kept", "Z", false)
def tyX1 : Nat → FieldType := fun k => match k with
  | 0 => .object "NumberedRings$Standing"
  | _ => .boolean
abbrev wsX10 : List Cond := u_ws RX1 TX1 2
theorem nmX1 : ∀ a, a < 2 → ∀ b, b < 2 → a ≠ b → (TX1 a).2.1 ≠ (TX1 b).2.1 := by decide +kernel
theorem tyX1_ok : ∀ k, k < 2 → parseFieldDescriptor (TX1 k).2.2.1 = some (tyX1 k) := by decide +kernel
abbrev cX1_init : ByteArray := prog_3_method_1_code
def yX1_init : MethodName := ⟨RX1, "<init>", "(LNumberedRings$Told;)V"⟩
def RX2 : String := "NumberedRings$Past"
def TX2 : u_T := fun k => match k with
  | 0 => ("NumberedRings$Past", "standings", "[LNumberedRings$Standing;", true)
  | 1 => ("NumberedRings$Past", "closed", "[I", true)
  | 2 => ("NumberedRings$Past", "latest", "I", false)
  | _ => ("NumberedRings$Past", "known", "I", false)
def tyX2 : Nat → FieldType := fun k => match k with
  | 0 => .array (.object "NumberedRings$Standing")
  | 1 => .array .int
  | 2 => .int
  | _ => .int
abbrev wsX20 : List Cond := u_ws RX2 TX2 4
theorem nmX2 : ∀ a, a < 4 → ∀ b, b < 4 → a ≠ b → (TX2 a).2.1 ≠ (TX2 b).2.1 := by decide +kernel
theorem tyX2_ok : ∀ k, k < 4 → parseFieldDescriptor (TX2 k).2.2.1 = some (tyX2 k) := by decide +kernel
abbrev cX2_init : ByteArray := prog_4_method_1_code
def yX2_init : MethodName := ⟨RX2, "<init>", "(LNumberedRings$Told;)V"⟩
abbrev cX2_remember : ByteArray := prog_4_method_2_code
def yX2_remember : MethodName := ⟨RX2, "remember", "(LNumberedRings$Standing;I)V"⟩
abbrev cX2_restore : ByteArray := prog_4_method_3_code
def yX2_restore : MethodName := ⟨RX2, "restore", "(LNumberedRings$Standing;)Z"⟩
def RX3 : String := "NumberedRings$Seen"
def TX3 : u_T := fun k => match k with
  | 0 => ("NumberedRings$Seen", "ticks", "[I", true)
  | 1 => ("NumberedRings$Seen", "reached", "[I", true)
  | _ => ("NumberedRings$Seen", "size", "I", false)
def tyX3 : Nat → FieldType := fun k => match k with
  | 0 => .array .int
  | 1 => .array .int
  | _ => .int
abbrev wsX30 : List Cond := u_ws RX3 TX3 3
theorem nmX3 : ∀ a, a < 3 → ∀ b, b < 3 → a ≠ b → (TX3 a).2.1 ≠ (TX3 b).2.1 := by decide +kernel
theorem tyX3_ok : ∀ k, k < 3 → parseFieldDescriptor (TX3 k).2.2.1 = some (tyX3 k) := by decide +kernel
abbrev cX3_init : ByteArray := prog_5_method_1_code
def yX3_init : MethodName := ⟨RX3, "<init>", "()V"⟩
abbrev cX3_add : ByteArray := prog_5_method_2_code
def yX3_add : MethodName := ⟨RX3, "add", "(II)Z"⟩
abbrev cX3_lastTick : ByteArray := prog_5_method_3_code
def yX3_lastTick : MethodName := ⟨RX3, "lastTick", "()I"⟩
abbrev cX3_allows : ByteArray := prog_5_method_4_code
def yX3_allows : MethodName := ⟨RX3, "allows", "(II)Z"⟩
def RX4 : String := "NumberedRings$Standing"
def TX4 : u_T := fun k => match k with
  | 0 => ("NumberedRings$Standing", "told", "LNumberedRings$Told;", true)
  | 1 => ("NumberedRings$Standing", "events", "[I", true)
  | 2 => ("NumberedRings$Standing", "claimed", "I", false)
  | 3 => ("NumberedRings$Standing", "cursor", "I", false)
  | 4 => ("NumberedRings$Standing", "reached", "[I", true)
  | 5 => ("NumberedRings$Standing", "counts", "[I", true)
  | 6 => ("NumberedRings$Standing", "sums", "[I", true)
  | 7 => ("NumberedRings$Standing", "row", "[I", true)
  | 8 => ("NumberedRings$Standing", "wants", "[I", true)
  | _ => ("NumberedRings$Standing", "waiting", "I", false)
def tyX4 : Nat → FieldType := fun k => match k with
  | 0 => .object "NumberedRings$Told"
  | 1 => .array .int
  | 2 => .int
  | 3 => .int
  | 4 => .array .int
  | 5 => .array .int
  | 6 => .array .int
  | 7 => .array .int
  | 8 => .array .int
  | _ => .int
abbrev wsX40 : List Cond := u_ws RX4 TX4 10
theorem nmX4 : ∀ a, a < 10 → ∀ b, b < 10 → a ≠ b → (TX4 a).2.1 ≠ (TX4 b).2.1 := by decide +kernel
theorem tyX4_ok : ∀ k, k < 10 → parseFieldDescriptor (TX4 k).2.2.1 = some (tyX4 k) := by decide +kernel
abbrev cX4_init : ByteArray := prog_6_method_1_code
def yX4_init : MethodName := ⟨RX4, "<init>", "(LNumberedRings$Told;I)V"⟩
abbrev cX4_reset : ByteArray := prog_6_method_2_code
def yX4_reset : MethodName := ⟨RX4, "reset", "()V"⟩
abbrev cX4_copyFrom : ByteArray := prog_6_method_3_code
def yX4_copyFrom : MethodName := ⟨RX4, "copyFrom", "(LNumberedRings$Standing;)V"⟩
abbrev cX4_hasEvent : ByteArray := prog_6_method_4_code
def yX4_hasEvent : MethodName := ⟨RX4, "hasEvent", "(I)Z"⟩
abbrev cX4_makerOf : ByteArray := prog_6_method_5_code
def yX4_makerOf : MethodName := ⟨RX4, "makerOf", "(I)I"⟩
abbrev cX4_kindOf : ByteArray := prog_6_method_6_code
def yX4_kindOf : MethodName := ⟨RX4, "kindOf", "(I)I"⟩
abbrev cX4_valueOf : ByteArray := prog_6_method_7_code
def yX4_valueOf : MethodName := ⟨RX4, "valueOf", "(I)I"⟩
abbrev cX4_least : ByteArray := prog_6_method_8_code
def yX4_least : MethodName := ⟨RX4, "least", "()I"⟩
abbrev cX4_room : ByteArray := prog_6_method_9_code
def yX4_room : MethodName := ⟨RX4, "room", "()I"⟩
abbrev cX4_atMost : ByteArray := prog_6_method_10_code
def yX4_atMost : MethodName := ⟨RX4, "atMost", "(I)I"⟩
abbrev cX4_hasAhead : ByteArray := prog_6_method_11_code
def yX4_hasAhead : MethodName := ⟨RX4, "hasAhead", "(I)Z"⟩
abbrev cX4_slowest : ByteArray := prog_6_method_12_code
def yX4_slowest : MethodName := ⟨RX4, "slowest", "()I"⟩
abbrev cX4_slowestOf : ByteArray := prog_6_method_13_code
def yX4_slowestOf : MethodName := ⟨RX4, "slowestOf", "(I)I"⟩
abbrev cX4_wantedByAll : ByteArray := prog_6_method_14_code
def yX4_wantedByAll : MethodName := ⟨RX4, "wantedByAll", "()I"⟩
abbrev cX4_placeInRow : ByteArray := prog_6_method_15_code
def yX4_placeInRow : MethodName := ⟨RX4, "placeInRow", "(I)I"⟩
abbrev cX4_openOf : ByteArray := prog_6_method_16_code
def yX4_openOf : MethodName := ⟨RX4, "openOf", "(I)I"⟩
abbrev cX4_claimOrWait : ByteArray := prog_6_method_17_code
def yX4_claimOrWait : MethodName := ⟨RX4, "claimOrWait", "(II)I"⟩
abbrev cX4_claim : ByteArray := prog_6_method_18_code
def yX4_claim : MethodName := ⟨RX4, "claim", "(II)I"⟩
abbrev cX4_admit : ByteArray := prog_6_method_19_code
/-- its name as the Statement's own table has it -/
def yX4_admit : MethodName := match (tables_1_3 : List Jvm.Cond)[9]? with
  | some (Jvm.Cond.instanceMethod m) => m
  | _ => ⟨RX4, "", ""⟩
abbrev cX4_leaveRow : ByteArray := prog_6_method_20_code
def yX4_leaveRow : MethodName := ⟨RX4, "leaveRow", "(I)V"⟩
abbrev cX4_close : ByteArray := prog_6_method_21_code
def yX4_close : MethodName := ⟨RX4, "close", "(III)V"⟩
abbrev cX4_reopen : ByteArray := prog_6_method_22_code
def yX4_reopen : MethodName := ⟨RX4, "reopen", "(I)V"⟩
abbrev cX4_closeAllByRule : ByteArray := prog_6_method_23_code
def yX4_closeAllByRule : MethodName := ⟨RX4, "closeAllByRule", "()V"⟩
abbrev cX4_goOver : ByteArray := prog_6_method_24_code
def yX4_goOver : MethodName := ⟨RX4, "goOver", "(II)I"⟩
abbrev cX4_toBlame : ByteArray := prog_6_method_25_code
def yX4_toBlame : MethodName := ⟨RX4, "toBlame", "()I"⟩
abbrev cX4_takesToAdmitFirst : ByteArray := prog_6_method_26_code
def yX4_takesToAdmitFirst : MethodName := ⟨RX4, "takesToAdmitFirst", "()I"⟩
def RX5 : String := "NumberedRings$Text"
def TX5 : u_T := fun k => match k with
  | 0 => ("NumberedRings$Text", "letters", "[I", true)
  | 1 => ("NumberedRings$Text", "length", "I", false)
  | 2 => ("NumberedRings$Text", "kind", "I", false)
  | 3 => ("NumberedRings$Text", "start", "I", false)
  | 4 => ("NumberedRings$Text", "end", "I", false)
  | 5 => ("NumberedRings$Text", "number", "I", false)
  | 6 => ("NumberedRings$Text", "accepted", "I", false)
  | _ => ("NumberedRings$Text", "slotsTold", "Z", false)
def tyX5 : Nat → FieldType := fun k => match k with
  | 0 => .array .int
  | 1 => .int
  | 2 => .int
  | 3 => .int
  | 4 => .int
  | 5 => .int
  | 6 => .int
  | _ => .boolean
abbrev wsX50 : List Cond := u_ws RX5 TX5 8
theorem nmX5 : ∀ a, a < 8 → ∀ b, b < 8 → a ≠ b → (TX5 a).2.1 ≠ (TX5 b).2.1 := by decide +kernel
theorem tyX5_ok : ∀ k, k < 8 → parseFieldDescriptor (TX5 k).2.2.1 = some (tyX5 k) := by decide +kernel
abbrev cX5_init : ByteArray := prog_7_method_1_code
def yX5_init : MethodName := ⟨RX5, "<init>", "()V"⟩
abbrev cX5_append : ByteArray := prog_7_method_2_code
def yX5_append : MethodName := ⟨RX5, "append", "(I)Z"⟩
abbrev cX5_readInto : ByteArray := prog_7_method_3_code
def yX5_readInto : MethodName := ⟨RX5, "readInto", "(LNumberedRings$Told;)I"⟩
abbrev cX5_readSlots : ByteArray := prog_7_method_4_code
def yX5_readSlots : MethodName := ⟨RX5, "readSlots", "(LNumberedRings$Told;)Z"⟩
abbrev cX5_readMaker : ByteArray := prog_7_method_5_code
def yX5_readMaker : MethodName := ⟨RX5, "readMaker", "(LNumberedRings$Told;)Z"⟩
abbrev cX5_readTaker : ByteArray := prog_7_method_6_code
def yX5_readTaker : MethodName := ⟨RX5, "readTaker", "(LNumberedRings$Told;)Z"⟩
abbrev cX5_accept : ByteArray := prog_7_method_7_code
def yX5_accept : MethodName := ⟨RX5, "accept", "(II)Z"⟩
abbrev cX5_acceptSemicolon : ByteArray := prog_7_method_8_code
def yX5_acceptSemicolon : MethodName := ⟨RX5, "acceptSemicolon", "()Z"⟩
abbrev cX5_next : ByteArray := prog_7_method_9_code
def yX5_next : MethodName := ⟨RX5, "next", "()V"⟩
abbrev cX5_readWord : ByteArray := prog_7_method_10_code
def yX5_readWord : MethodName := ⟨RX5, "readWord", "()V"⟩
abbrev cX5_readNumber : ByteArray := prog_7_method_11_code
def yX5_readNumber : MethodName := ⟨RX5, "readNumber", "()V"⟩
abbrev cX5_isWord : ByteArray := prog_7_method_12_code
def yX5_isWord : MethodName := ⟨RX5, "isWord", "(Ljava/lang/String;)Z"⟩
abbrev cX5_isWordLetter : ByteArray := prog_7_method_13_code
def yX5_isWordLetter : MethodName := ⟨RX5, "isWordLetter", "(I)Z"⟩
abbrev cX5_isFigure : ByteArray := prog_7_method_14_code
def yX5_isFigure : MethodName := ⟨RX5, "isFigure", "(I)Z"⟩
def RX6 : String := "NumberedRings$Told"
def TX6 : u_T := fun k => match k with
  | 0 => ("NumberedRings$Told", "slots", "I", false)
  | 1 => ("NumberedRings$Told", "makers", "I", false)
  | 2 => ("NumberedRings$Told", "takers", "I", false)
  | 3 => ("NumberedRings$Told", "rates", "[I", true)
  | 4 => ("NumberedRings$Told", "speeds", "[I", true)
  | _ => ("NumberedRings$Told", "behind", "[I", true)
def tyX6 : Nat → FieldType := fun k => match k with
  | 0 => .int
  | 1 => .int
  | 2 => .int
  | 3 => .array .int
  | 4 => .array .int
  | _ => .array .int
abbrev wsX60 : List Cond := u_ws RX6 TX6 6
theorem nmX6 : ∀ a, a < 6 → ∀ b, b < 6 → a ≠ b → (TX6 a).2.1 ≠ (TX6 b).2.1 := by decide +kernel
theorem tyX6_ok : ∀ k, k < 6 → parseFieldDescriptor (TX6 k).2.2.1 = some (tyX6 k) := by decide +kernel
abbrev cX6_init : ByteArray := prog_8_method_1_code
def yX6_init : MethodName := ⟨RX6, "<init>", "()V"⟩
abbrev cX6_reset : ByteArray := prog_8_method_2_code
def yX6_reset : MethodName := ⟨RX6, "reset", "()V"⟩
abbrev cX6_copyFrom : ByteArray := prog_8_method_3_code
def yX6_copyFrom : MethodName := ⟨RX6, "copyFrom", "(LNumberedRings$Told;)V"⟩
abbrev cX6_hasMaker : ByteArray := prog_8_method_4_code
def yX6_hasMaker : MethodName := ⟨RX6, "hasMaker", "(I)Z"⟩
abbrev cX6_hasTaker : ByteArray := prog_8_method_5_code
def yX6_hasTaker : MethodName := ⟨RX6, "hasTaker", "(I)Z"⟩
abbrev cX6_addMaker : ByteArray := prog_8_method_6_code
def yX6_addMaker : MethodName := ⟨RX6, "addMaker", "(I)Z"⟩
abbrev cX6_addTaker : ByteArray := prog_8_method_7_code
def yX6_addTaker : MethodName := ⟨RX6, "addTaker", "(II)Z"⟩
def RX7 : String := "NumberedRings"
def TX7 : u_T := fun k => match k with
  | 0 => ("NumberedRings", "text", "LNumberedRings$Text;", true)
  | 1 => ("NumberedRings", "told", "LNumberedRings$Told;", true)
  | 2 => ("NumberedRings", "draft", "LNumberedRings$Told;", true)
  | 3 => ("NumberedRings", "now", "LNumberedRings$Standing;", true)
  | 4 => ("NumberedRings", "past", "LNumberedRings$Past;", true)
  | 5 => ("NumberedRings", "imageZero", "LNumberedRings$Image;", true)
  | 6 => ("NumberedRings", "imageOne", "LNumberedRings$Image;", true)
  | 7 => ("NumberedRings", "course", "LNumberedRings$Course;", true)
  | _ => ("NumberedRings", "seen", "LNumberedRings$Seen;", true)
def tyX7 : Nat → FieldType := fun k => match k with
  | 0 => .object "NumberedRings$Text"
  | 1 => .object "NumberedRings$Told"
  | 2 => .object "NumberedRings$Told"
  | 3 => .object "NumberedRings$Standing"
  | 4 => .object "NumberedRings$Past"
  | 5 => .object "NumberedRings$Image"
  | 6 => .object "NumberedRings$Image"
  | 7 => .object "NumberedRings$Course"
  | _ => .object "NumberedRings$Seen"
abbrev wsX70 : List Cond := u_ws RX7 TX7 9
theorem nmX7 : ∀ a, a < 9 → ∀ b, b < 9 → a ≠ b → (TX7 a).2.1 ≠ (TX7 b).2.1 := by decide +kernel
theorem tyX7_ok : ∀ k, k < 9 → parseFieldDescriptor (TX7 k).2.2.1 = some (tyX7 k) := by decide +kernel
abbrev cX7_init : ByteArray := prog_1_method_1_code
def yX7_init : MethodName := ⟨RX7, "<init>", "()V"⟩
abbrev cX7_type : ByteArray := prog_1_method_2_code
def yX7_type : MethodName := ⟨RX7, "type", "(I)I"⟩
abbrev cX7_clear : ByteArray := prog_1_method_3_code
def yX7_clear : MethodName := ⟨RX7, "clear", "()I"⟩
abbrev cX7_tells : ByteArray := prog_1_method_4_code
def yX7_tells : MethodName := ⟨RX7, "tells", "()I"⟩
abbrev cX7_claims : ByteArray := prog_1_method_5_code
def yX7_claims : MethodName := ⟨RX7, "claims", "(II)I"⟩
abbrev cX7_fills : ByteArray := prog_1_method_6_code
def yX7_fills : MethodName := ⟨RX7, "fills", "(II)I"⟩
abbrev cX7_gaps : ByteArray := prog_1_method_7_code
def yX7_gaps : MethodName := ⟨RX7, "gaps", "(I)I"⟩
abbrev cX7_closeOpen : ByteArray := prog_1_method_8_code
def yX7_closeOpen : MethodName := ⟨RX7, "closeOpen", "(III)I"⟩
abbrev cX7_takes : ByteArray := prog_1_method_9_code
def yX7_takes : MethodName := ⟨RX7, "takes", "(II)I"⟩
abbrev cX7_calls : ByteArray := prog_1_method_10_code
def yX7_calls : MethodName := ⟨RX7, "calls", "(I)I"⟩
abbrev cX7_undo : ByteArray := prog_1_method_11_code
def yX7_undo : MethodName := ⟨RX7, "undo", "()I"⟩
abbrev cX7_event : ByteArray := prog_1_method_12_code
def yX7_event : MethodName := ⟨RX7, "event", "(II)I"⟩
abbrev cX7_taker : ByteArray := prog_1_method_13_code
def yX7_taker : MethodName := ⟨RX7, "taker", "(II)I"⟩
abbrev cX7_maker : ByteArray := prog_1_method_14_code
def yX7_maker : MethodName := ⟨RX7, "maker", "(II)I"⟩
abbrev cX7_blamed : ByteArray := prog_1_method_15_code
def yX7_blamed : MethodName := ⟨RX7, "blamed", "()I"⟩
abbrev cX7_steps : ByteArray := prog_1_method_16_code
def yX7_steps : MethodName := ⟨RX7, "steps", "()I"⟩
abbrev cX7_rule : ByteArray := prog_1_method_17_code
def yX7_rule : MethodName := ⟨RX7, "rule", "(II)I"⟩
abbrev cX7_waited : ByteArray := prog_1_method_18_code
def yX7_waited : MethodName := ⟨RX7, "waited", "(II)I"⟩
abbrev cX7_done : ByteArray := prog_1_method_19_code
def yX7_done : MethodName := ⟨RX7, "done", "(II)I"⟩
abbrev cX7_isTicks : ByteArray := prog_1_method_20_code
def yX7_isTicks : MethodName := ⟨RX7, "isTicks", "(I)Z"⟩
abbrev cX7_sees : ByteArray := prog_1_method_21_code
def yX7_sees : MethodName := ⟨RX7, "sees", "(II)I"⟩
abbrev cX7_forget : ByteArray := prog_1_method_22_code
def yX7_forget : MethodName := ⟨RX7, "forget", "()I"⟩
abbrev cX7_which : ByteArray := prog_1_method_23_code
def yX7_which : MethodName := ⟨RX7, "which", "()I"⟩
abbrev cX7_look : ByteArray := prog_1_method_24_code
def yX7_look : MethodName := ⟨RX7, "look", "()I"⟩
abbrev cX7_keep : ByteArray := prog_1_method_25_code
def yX7_keep : MethodName := ⟨RX7, "keep", "(I)I"⟩
abbrev cX7_back : ByteArray := prog_1_method_26_code
def yX7_back : MethodName := ⟨RX7, "back", "(I)I"⟩
abbrev cX7_imageOf : ByteArray := prog_1_method_27_code
def yX7_imageOf : MethodName := ⟨RX7, "imageOf", "(I)LNumberedRings$Image;"⟩
abbrev cX7_count : ByteArray := prog_1_method_28_code
def yX7_count : MethodName := ⟨RX7, "count", "(I)I"⟩
def RX8 : String := "NumberedRingsModel"
def TX8 : u_T := fun k => match k with
  | 0 => ("NumberedRingsModel", "slots", "I", false)
  | 1 => ("NumberedRingsModel", "makers", "I", false)
  | 2 => ("NumberedRingsModel", "rates", "[I", true)
  | 3 => ("NumberedRingsModel", "takers", "I", false)
  | 4 => ("NumberedRingsModel", "speeds", "[I", true)
  | 5 => ("NumberedRingsModel", "behind", "[I", true)
  | 6 => ("NumberedRingsModel", "now", "[I", true)
  | 7 => ("NumberedRingsModel", "past", "[I", true)
  | 8 => ("NumberedRingsModel", "undos", "I", false)
  | 9 => ("NumberedRingsModel", "images", "[I", true)
  | 10 => ("NumberedRingsModel", "isKept", "[Z", true)
  | 11 => ("NumberedRingsModel", "seen", "I", false)
  | 12 => ("NumberedRingsModel", "seenTicks", "[I", true)
  | 13 => ("NumberedRingsModel", "seenDone", "[I", true)
  | 14 => ("NumberedRingsModel", "text", "[I", true)
  | 15 => ("NumberedRingsModel", "letters", "I", false)
  | 16 => ("NumberedRingsModel", "at", "I", false)
  | 17 => ("NumberedRingsModel", "mark", "I", false)
  | 18 => ("NumberedRingsModel", "hasSlots", "Z", false)
  | 19 => ("NumberedRingsModel", "newSlots", "I", false)
  | 20 => ("NumberedRingsModel", "newMakers", "I", false)
  | 21 => ("NumberedRingsModel", "newTakers", "I", false)
  | 22 => ("NumberedRingsModel", "newRates", "[I", true)
  | 23 => ("NumberedRingsModel", "newSpeeds", "[I", true)
  | 24 => ("NumberedRingsModel", "newBehind", "[I", true)
  | 25 => ("NumberedRingsModel", "claimedAt", "[I", true)
  | 26 => ("NumberedRingsModel", "waitingAt", "[I", true)
  | 27 => ("NumberedRingsModel", "doneAt", "[I", true)
  | 28 => ("NumberedRingsModel", "waitedAt", "[I", true)
  | 29 => ("NumberedRingsModel", "claimed", "I", false)
  | 30 => ("NumberedRingsModel", "waiting", "I", false)
  | 31 => ("NumberedRingsModel", "who", "[I", true)
  | 32 => ("NumberedRingsModel", "wants", "[I", true)
  | _ => ("NumberedRingsModel", "over", "[I", true)
def tyX8 : Nat → FieldType := fun k => match k with
  | 0 => .int
  | 1 => .int
  | 2 => .array .int
  | 3 => .int
  | 4 => .array .int
  | 5 => .array .int
  | 6 => .array .int
  | 7 => .array .int
  | 8 => .int
  | 9 => .array .int
  | 10 => .array .boolean
  | 11 => .int
  | 12 => .array .int
  | 13 => .array .int
  | 14 => .array .int
  | 15 => .int
  | 16 => .int
  | 17 => .int
  | 18 => .boolean
  | 19 => .int
  | 20 => .int
  | 21 => .int
  | 22 => .array .int
  | 23 => .array .int
  | 24 => .array .int
  | 25 => .array .int
  | 26 => .array .int
  | 27 => .array .int
  | 28 => .array .int
  | 29 => .int
  | 30 => .int
  | 31 => .array .int
  | 32 => .array .int
  | _ => .array .int
abbrev wsX80 : List Cond := u_ws RX8 TX8 34
theorem nmX8 : ∀ a, a < 34 → ∀ b, b < 34 → a ≠ b → (TX8 a).2.1 ≠ (TX8 b).2.1 := by decide +kernel
theorem tyX8_ok : ∀ k, k < 34 → parseFieldDescriptor (TX8 k).2.2.1 = some (tyX8 k) := by decide +kernel
abbrev cX8_init : ByteArray := prog_10_method_1_code
def yX8_init : MethodName := ⟨RX8, "<init>", "()V"⟩
abbrev cX8_within : ByteArray := prog_10_method_3_code
def yX8_within : MethodName := ⟨RX8, "within", "(III)Z"⟩
abbrev cX8_has : ByteArray := prog_10_method_4_code
def yX8_has : MethodName := ⟨RX8, "has", "(II)Z"⟩
abbrev cX8_skips : ByteArray := prog_10_method_5_code
def yX8_skips : MethodName := ⟨RX8, "skips", "()V"⟩
abbrev cX8_isAt : ByteArray := prog_10_method_6_code
def yX8_isAt : MethodName := ⟨RX8, "isAt", "(II)Z"⟩
abbrev cX8_passesEnd : ByteArray := prog_10_method_7_code
def yX8_passesEnd : MethodName := ⟨RX8, "passesEnd", "()Z"⟩
abbrev cX8_number : ByteArray := prog_10_method_8_code
def yX8_number : MethodName := ⟨RX8, "number", "(II)I"⟩
abbrev cX8_spells : ByteArray := prog_10_method_9_code
def yX8_spells : MethodName := ⟨RX8, "spells", "(IIIII)Z"⟩
abbrev cX8_wordPassed : ByteArray := prog_10_method_10_code
def yX8_wordPassed : MethodName := ⟨RX8, "wordPassed", "()I"⟩
abbrev cX8_readsSlots : ByteArray := prog_10_method_11_code
def yX8_readsSlots : MethodName := ⟨RX8, "readsSlots", "()Z"⟩
abbrev cX8_readsMaker : ByteArray := prog_10_method_12_code
def yX8_readsMaker : MethodName := ⟨RX8, "readsMaker", "()Z"⟩
abbrev cX8_readsTaker : ByteArray := prog_10_method_13_code
def yX8_readsTaker : MethodName := ⟨RX8, "readsTaker", "()Z"⟩
abbrev cX8_reads : ByteArray := prog_10_method_14_code
def yX8_reads : MethodName := ⟨RX8, "reads", "()I"⟩
abbrev cX8_type : ByteArray := prog_10_method_15_code
def yX8_type : MethodName := ⟨RX8, "type", "(I)I"⟩
abbrev cX8_clear : ByteArray := prog_10_method_16_code
def yX8_clear : MethodName := ⟨RX8, "clear", "()I"⟩
abbrev cX8_tells : ByteArray := prog_10_method_17_code
def yX8_tells : MethodName := ⟨RX8, "tells", "()I"⟩
abbrev cX8_isMaker : ByteArray := prog_10_method_18_code
def yX8_isMaker : MethodName := ⟨RX8, "isMaker", "(I)Z"⟩
abbrev cX8_isTaker : ByteArray := prog_10_method_19_code
def yX8_isTaker : MethodName := ⟨RX8, "isTaker", "(I)Z"⟩
abbrev cX8_isEvent : ByteArray := prog_10_method_20_code
def yX8_isEvent : MethodName := ⟨RX8, "isEvent", "(I)Z"⟩
abbrev cX8_kindOf : ByteArray := prog_10_method_21_code
def yX8_kindOf : MethodName := ⟨RX8, "kindOf", "(I)I"⟩
abbrev cX8_cursor : ByteArray := prog_10_method_22_code
def yX8_cursor : MethodName := ⟨RX8, "cursor", "()I"⟩
abbrev cX8_least : ByteArray := prog_10_method_23_code
def yX8_least : MethodName := ⟨RX8, "least", "()I"⟩
abbrev cX8_room : ByteArray := prog_10_method_24_code
def yX8_room : MethodName := ⟨RX8, "room", "()I"⟩
abbrev cX8_atMost : ByteArray := prog_10_method_25_code
def yX8_atMost : MethodName := ⟨RX8, "atMost", "(I)I"⟩
abbrev cX8_placeOf : ByteArray := prog_10_method_26_code
def yX8_placeOf : MethodName := ⟨RX8, "placeOf", "(I)I"⟩
abbrev cX8_claimsNow : ByteArray := prog_10_method_27_code
def yX8_claimsNow : MethodName := ⟨RX8, "claimsNow", "(II)V"⟩
abbrev cX8_leavesRow : ByteArray := prog_10_method_28_code
def yX8_leavesRow : MethodName := ⟨RX8, "leavesRow", "(I)V"⟩
abbrev cX8_lets : ByteArray := prog_10_method_29_code
def yX8_lets : MethodName := ⟨RX8, "lets", "()V"⟩
abbrev cX8_wanted : ByteArray := prog_10_method_30_code
def yX8_wanted : MethodName := ⟨RX8, "wanted", "()I"⟩
abbrev cX8_keeps : ByteArray := prog_10_method_31_code
def yX8_keeps : MethodName := ⟨RX8, "keeps", "()V"⟩
abbrev cX8_claims : ByteArray := prog_10_method_32_code
def yX8_claims : MethodName := ⟨RX8, "claims", "(II)I"⟩
abbrev cX8_becomes : ByteArray := prog_10_method_33_code
def yX8_becomes : MethodName := ⟨RX8, "becomes", "(III)I"⟩
abbrev cX8_fills : ByteArray := prog_10_method_34_code
def yX8_fills : MethodName := ⟨RX8, "fills", "(II)I"⟩
abbrev cX8_gaps : ByteArray := prog_10_method_35_code
def yX8_gaps : MethodName := ⟨RX8, "gaps", "(I)I"⟩
abbrev cX8_goesOver : ByteArray := prog_10_method_36_code
def yX8_goesOver : MethodName := ⟨RX8, "goesOver", "(II)V"⟩
abbrev cX8_takes : ByteArray := prog_10_method_37_code
def yX8_takes : MethodName := ⟨RX8, "takes", "(II)I"⟩
abbrev cX8_calls : ByteArray := prog_10_method_38_code
def yX8_calls : MethodName := ⟨RX8, "calls", "(I)I"⟩
abbrev cX8_undo : ByteArray := prog_10_method_39_code
def yX8_undo : MethodName := ⟨RX8, "undo", "()I"⟩
abbrev cX8_tellEvent : ByteArray := prog_10_method_40_code
def yX8_tellEvent : MethodName := ⟨RX8, "tellEvent", "(II)I"⟩
abbrev cX8_event : ByteArray := prog_10_method_41_code
def yX8_event : MethodName := ⟨RX8, "event", "(II)I"⟩
abbrev cX8_tellTaker : ByteArray := prog_10_method_42_code
def yX8_tellTaker : MethodName := ⟨RX8, "tellTaker", "(II)I"⟩
abbrev cX8_taker : ByteArray := prog_10_method_43_code
def yX8_taker : MethodName := ⟨RX8, "taker", "(II)I"⟩
abbrev cX8_openOf : ByteArray := prog_10_method_44_code
def yX8_openOf : MethodName := ⟨RX8, "openOf", "(I)I"⟩
abbrev cX8_tellMaker : ByteArray := prog_10_method_45_code
def yX8_tellMaker : MethodName := ⟨RX8, "tellMaker", "(II)I"⟩
abbrev cX8_maker : ByteArray := prog_10_method_46_code
def yX8_maker : MethodName := ⟨RX8, "maker", "(II)I"⟩
abbrev cX8_slowest : ByteArray := prog_10_method_47_code
def yX8_slowest : MethodName := ⟨RX8, "slowest", "(I)I"⟩
abbrev cX8_blamed : ByteArray := prog_10_method_48_code
def yX8_blamed : MethodName := ⟨RX8, "blamed", "()I"⟩
abbrev cX8_steps : ByteArray := prog_10_method_49_code
def yX8_steps : MethodName := ⟨RX8, "steps", "()I"⟩
abbrev cX8_leastOver : ByteArray := prog_10_method_50_code
def yX8_leastOver : MethodName := ⟨RX8, "leastOver", "()I"⟩
abbrev cX8_letsByRule : ByteArray := prog_10_method_51_code
def yX8_letsByRule : MethodName := ⟨RX8, "letsByRule", "()V"⟩
abbrev cX8_doesWait : ByteArray := prog_10_method_52_code
def yX8_doesWait : MethodName := ⟨RX8, "doesWait", "(I)Z"⟩
abbrev cX8_claimsByRule : ByteArray := prog_10_method_53_code
def yX8_claimsByRule : MethodName := ⟨RX8, "claimsByRule", "(I)V"⟩
abbrev cX8_mostByRule : ByteArray := prog_10_method_54_code
def yX8_mostByRule : MethodName := ⟨RX8, "mostByRule", "(II)I"⟩
abbrev cX8_ticks : ByteArray := prog_10_method_55_code
def yX8_ticks : MethodName := ⟨RX8, "ticks", "()V"⟩
abbrev cX8_saves : ByteArray := prog_10_method_56_code
def yX8_saves : MethodName := ⟨RX8, "saves", "(I)V"⟩
abbrev cX8_laysRule : ByteArray := prog_10_method_57_code
def yX8_laysRule : MethodName := ⟨RX8, "laysRule", "(I)V"⟩
abbrev cX8_slowAt : ByteArray := prog_10_method_58_code
def yX8_slowAt : MethodName := ⟨RX8, "slowAt", "(I)I"⟩
abbrev cX8_leastAt : ByteArray := prog_10_method_59_code
def yX8_leastAt : MethodName := ⟨RX8, "leastAt", "(I)I"⟩
abbrev cX8_isTicks : ByteArray := prog_10_method_60_code
def yX8_isTicks : MethodName := ⟨RX8, "isTicks", "(I)Z"⟩
abbrev cX8_tellRule : ByteArray := prog_10_method_61_code
def yX8_tellRule : MethodName := ⟨RX8, "tellRule", "(II)I"⟩
abbrev cX8_rule : ByteArray := prog_10_method_62_code
def yX8_rule : MethodName := ⟨RX8, "rule", "(II)I"⟩
abbrev cX8_waited : ByteArray := prog_10_method_63_code
def yX8_waited : MethodName := ⟨RX8, "waited", "(II)I"⟩
abbrev cX8_done : ByteArray := prog_10_method_64_code
def yX8_done : MethodName := ⟨RX8, "done", "(II)I"⟩
abbrev cX8_sees : ByteArray := prog_10_method_65_code
def yX8_sees : MethodName := ⟨RX8, "sees", "(II)I"⟩
abbrev cX8_forget : ByteArray := prog_10_method_66_code
def yX8_forget : MethodName := ⟨RX8, "forget", "()I"⟩
abbrev cX8_candidates : ByteArray := prog_10_method_67_code
def yX8_candidates : MethodName := ⟨RX8, "candidates", "()I"⟩
abbrev cX8_which : ByteArray := prog_10_method_68_code
def yX8_which : MethodName := ⟨RX8, "which", "()I"⟩
abbrev cX8_mostAlike : ByteArray := prog_10_method_69_code
def yX8_mostAlike : MethodName := ⟨RX8, "mostAlike", "(II)I"⟩
abbrev cX8_look : ByteArray := prog_10_method_70_code
def yX8_look : MethodName := ⟨RX8, "look", "()I"⟩
abbrev cX8_keep : ByteArray := prog_10_method_71_code
def yX8_keep : MethodName := ⟨RX8, "keep", "(I)I"⟩
abbrev cX8_back : ByteArray := prog_10_method_72_code
def yX8_back : MethodName := ⟨RX8, "back", "(I)I"⟩
abbrev cX8_count : ByteArray := prog_10_method_73_code
def yX8_count : MethodName := ⟨RX8, "count", "(I)I"⟩
def RJ6 : String := "java/lang/Integer"
abbrev cJ6_bitCount_0f7a4 : ByteArray := prog_11_method_49_code
def yJ6_bitCount_0f7a4 : MethodName := ⟨RJ6, "bitCount", "(I)I"⟩
def RJ9 : String := "java/lang/Math"
abbrev cJ9_max_7cf53 : ByteArray := prog_12_method_65_code
def yJ9_max_7cf53 : MethodName := ⟨RJ9, "max", "(II)I"⟩
abbrev cJ9_min_7cf53 : ByteArray := prog_12_method_69_code
def yJ9_min_7cf53 : MethodName := ⟨RJ9, "min", "(II)I"⟩
def RJ0 : String := "java/lang/String"
abbrev cJ0_length_8abf5 : ByteArray := prog_13_method_54_code
def yJ0_length_8abf5 : MethodName := ⟨RJ0, "length", "()I"⟩
abbrev cJ0_charAt_5068e : ByteArray := prog_13_method_56_code
def yJ0_charAt_5068e : MethodName := ⟨RJ0, "charAt", "(I)C"⟩
abbrev cJ0_coder_7d493 : ByteArray := prog_13_method_152_code
def yJ0_coder_7d493 : MethodName := ⟨RJ0, "coder", "()B"⟩
abbrev cJ0_isLatin1_aae02 : ByteArray := prog_13_method_154_code
def yJ0_isLatin1_aae02 : MethodName := ⟨RJ0, "isLatin1", "()Z"⟩
abbrev cJ0_checkIndex_df160 : ByteArray := prog_13_method_155_code
def yJ0_checkIndex_df160 : MethodName := ⟨RJ0, "checkIndex", "(II)V"⟩
def RJ1 : String := "java/lang/StringLatin1"
abbrev cJ1_charAt_3b067 : ByteArray := prog_14_method_2_code
def yJ1_charAt_3b067 : MethodName := ⟨RJ1, "charAt", "([BI)C"⟩
def RJ2 : String := "java/lang/StringUTF16"
def RJ10 : String := "java/lang/System"
def RJ3 : String := "jdk/internal/util/Preconditions"
abbrev cJ3_checkIndex_8e157 : ByteArray := prog_17_method_11_code
def yJ3_checkIndex_8e157 : MethodName := ⟨RJ3, "checkIndex", "(IILjava/util/function/BiFunction;)I"⟩
def RL : String := "NumberedRingsLaw"
abbrev cL_law : ByteArray := code
def yL_law : MethodName := ⟨RL, "law", "([I)Z"⟩
abbrev vwCl : List vw_C := [(RX0, TX0, 3), (RX1, TX1, 2), (RX2, TX2, 4), (RX3, TX3, 3), (RX4, TX4, 10), (RX5, TX5, 8), (RX6, TX6, 6), (RX7, TX7, 9), (RX8, TX8, 34)]
