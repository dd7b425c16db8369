section
-- ===== PART A: goes FIRST, ahead of the names: the tables' words, and 'selects' of the private methods out of them =====
/-- a private method of a class that the tables say can be made, by its rows of tables_1 -/
def lw_okq (q : MethodName × Nat) : Prop := (q.1.cls ≠ "java/lang/invoke/MethodHandle" ∧ q.1.cls ≠ "java/lang/invoke/VarHandle") ∧ Cond.instantiable q.1.cls q.2 ∈ tables_1 ∧ Cond.privateMethod q.1 ∈ tables_1 ∧ Cond.instanceMethod q.1 ∈ tables_1
theorem lw_p0 : lw_okq (⟨"HatHall$Net", "clearTable", "(I)V"⟩, 11) := ⟨⟨by decide +kernel, by decide +kernel⟩, List.mem_of_getElem? (i := 35) (by decide +kernel), List.mem_of_getElem? (i := 59) (by decide +kernel), List.mem_of_getElem? (i := 60) (by decide +kernel)⟩
theorem lw_p1 : lw_okq (⟨"HatHall$Net", "countViews", "(I)I"⟩, 11) := ⟨⟨by decide +kernel, by decide +kernel⟩, List.mem_of_getElem? (i := 35) (by decide +kernel), List.mem_of_getElem? (i := 63) (by decide +kernel), List.mem_of_getElem? (i := 64) (by decide +kernel)⟩
theorem lw_p2 : lw_okq (⟨"HatHall", "putBytes", "(I)V"⟩, 13) := ⟨⟨by decide +kernel, by decide +kernel⟩, List.mem_of_getElem? (i := 27) (by decide +kernel), List.mem_of_getElem? (i := 398) (by decide +kernel), List.mem_of_getElem? (i := 399) (by decide +kernel)⟩
theorem lw_p3 : lw_okq (⟨"HatHall$Formula", "join", "(I)I"⟩, 5) := ⟨⟨by decide +kernel, by decide +kernel⟩, List.mem_of_getElem? (i := 432) (by decide +kernel), List.mem_of_getElem? (i := 430) (by decide +kernel), List.mem_of_getElem? (i := 431) (by decide +kernel)⟩
theorem lw_p4 : lw_okq (⟨"HatHall$Formula", "look", "(ILHatHall$Net;ILHatHall$Scene;)I"⟩, 5) := ⟨⟨by decide +kernel, by decide +kernel⟩, List.mem_of_getElem? (i := 432) (by decide +kernel), List.mem_of_getElem? (i := 435) (by decide +kernel), List.mem_of_getElem? (i := 436) (by decide +kernel)⟩
theorem lw_p5 : lw_okq (⟨"HatHall$Ledger", "counts", "(I)Z"⟩, 2) := ⟨⟨by decide +kernel, by decide +kernel⟩, List.mem_of_getElem? (i := 180) (by decide +kernel), List.mem_of_getElem? (i := 473) (by decide +kernel), List.mem_of_getElem? (i := 474) (by decide +kernel)⟩
theorem lw_p6 : lw_okq (⟨"HatHall$Ledger", "isWon", "(ILHatHall$Judge;I)Z"⟩, 2) := ⟨⟨by decide +kernel, by decide +kernel⟩, List.mem_of_getElem? (i := 180) (by decide +kernel), List.mem_of_getElem? (i := 477) (by decide +kernel), List.mem_of_getElem? (i := 478) (by decide +kernel)⟩
theorem lw_p7 : lw_okq (⟨"HatHall$Net", "placeFrom", "(II)I"⟩, 11) := ⟨⟨by decide +kernel, by decide +kernel⟩, List.mem_of_getElem? (i := 35) (by decide +kernel), List.mem_of_getElem? (i := 508) (by decide +kernel), List.mem_of_getElem? (i := 509) (by decide +kernel)⟩
theorem lw_p8 : lw_okq (⟨"HatHall$Net", "suits", "(I)Z"⟩, 11) := ⟨⟨by decide +kernel, by decide +kernel⟩, List.mem_of_getElem? (i := 35) (by decide +kernel), List.mem_of_getElem? (i := 512) (by decide +kernel), List.mem_of_getElem? (i := 513) (by decide +kernel)⟩
theorem lw_p9 : lw_okq (⟨"HatHall$Net", "seenByAnyOf", "(I)I"⟩, 11) := ⟨⟨by decide +kernel, by decide +kernel⟩, List.mem_of_getElem? (i := 35) (by decide +kernel), List.mem_of_getElem? (i := 524) (by decide +kernel), List.mem_of_getElem? (i := 525) (by decide +kernel)⟩
theorem lw_p10 : lw_okq (⟨"HatHall$Cover", "noteNear", "()V"⟩, 5) := ⟨⟨by decide +kernel, by decide +kernel⟩, List.mem_of_getElem? (i := 292) (by decide +kernel), List.mem_of_getElem? (i := 540) (by decide +kernel), List.mem_of_getElem? (i := 541) (by decide +kernel)⟩
theorem lw_p11 : lw_okq (⟨"HatHall$Cover", "choose", "(II)Z"⟩, 5) := ⟨⟨by decide +kernel, by decide +kernel⟩, List.mem_of_getElem? (i := 292) (by decide +kernel), List.mem_of_getElem? (i := 547) (by decide +kernel), List.mem_of_getElem? (i := 548) (by decide +kernel)⟩
theorem lw_p12 : lw_okq (⟨"HatHall$Cover", "lastUseful", "(I)I"⟩, 5) := ⟨⟨by decide +kernel, by decide +kernel⟩, List.mem_of_getElem? (i := 292) (by decide +kernel), List.mem_of_getElem? (i := 552) (by decide +kernel), List.mem_of_getElem? (i := 553) (by decide +kernel)⟩
theorem lw_p13 : lw_okq (⟨"HatHall$Cover", "isChosen", "(I)Z"⟩, 5) := ⟨⟨by decide +kernel, by decide +kernel⟩, List.mem_of_getElem? (i := 292) (by decide +kernel), List.mem_of_getElem? (i := 564) (by decide +kernel), List.mem_of_getElem? (i := 565) (by decide +kernel)⟩
theorem lw_p14 : lw_okq (⟨"HatHall$Net", "orderByRounds", "()V"⟩, 11) := ⟨⟨by decide +kernel, by decide +kernel⟩, List.mem_of_getElem? (i := 35) (by decide +kernel), List.mem_of_getElem? (i := 591) (by decide +kernel), List.mem_of_getElem? (i := 592) (by decide +kernel)⟩
theorem lw_p15 : lw_okq (⟨"HatHall$Net", "earlierThan", "(I)I"⟩, 11) := ⟨⟨by decide +kernel, by decide +kernel⟩, List.mem_of_getElem? (i := 35) (by decide +kernel), List.mem_of_getElem? (i := 595) (by decide +kernel), List.mem_of_getElem? (i := 596) (by decide +kernel)⟩
def lw_privs_1 : List (MethodName × Nat) := [(⟨"HatHall$Net", "clearTable", "(I)V"⟩, 11), (⟨"HatHall$Net", "countViews", "(I)I"⟩, 11), (⟨"HatHall", "putBytes", "(I)V"⟩, 13), (⟨"HatHall$Formula", "join", "(I)I"⟩, 5), (⟨"HatHall$Formula", "look", "(ILHatHall$Net;ILHatHall$Scene;)I"⟩, 5), (⟨"HatHall$Ledger", "counts", "(I)Z"⟩, 2), (⟨"HatHall$Ledger", "isWon", "(ILHatHall$Judge;I)Z"⟩, 2), (⟨"HatHall$Net", "placeFrom", "(II)I"⟩, 11), (⟨"HatHall$Net", "suits", "(I)Z"⟩, 11), (⟨"HatHall$Net", "seenByAnyOf", "(I)I"⟩, 11), (⟨"HatHall$Cover", "noteNear", "()V"⟩, 5), (⟨"HatHall$Cover", "choose", "(II)Z"⟩, 5), (⟨"HatHall$Cover", "lastUseful", "(I)I"⟩, 5), (⟨"HatHall$Cover", "isChosen", "(I)Z"⟩, 5), (⟨"HatHall$Net", "orderByRounds", "()V"⟩, 11), (⟨"HatHall$Net", "earlierThan", "(I)I"⟩, 11)]
theorem lw_r1 : ∀ q ∈ lw_privs_1, lw_okq q := List.forall_mem_cons.mpr ⟨lw_p0, List.forall_mem_cons.mpr ⟨lw_p1, List.forall_mem_cons.mpr ⟨lw_p2, List.forall_mem_cons.mpr ⟨lw_p3, List.forall_mem_cons.mpr ⟨lw_p4, List.forall_mem_cons.mpr ⟨lw_p5, List.forall_mem_cons.mpr ⟨lw_p6, List.forall_mem_cons.mpr ⟨lw_p7, List.forall_mem_cons.mpr ⟨lw_p8, List.forall_mem_cons.mpr ⟨lw_p9, List.forall_mem_cons.mpr ⟨lw_p10, List.forall_mem_cons.mpr ⟨lw_p11, List.forall_mem_cons.mpr ⟨lw_p12, List.forall_mem_cons.mpr ⟨lw_p13, List.forall_mem_cons.mpr ⟨lw_p14, List.forall_mem_cons.mpr ⟨lw_p15, fun _ h => absurd h List.not_mem_nil⟩⟩⟩⟩⟩⟩⟩⟩⟩⟩⟩⟩⟩⟩⟩⟩
theorem lw_p16 : lw_okq (⟨"java/lang/Throwable", "fillInStackTrace", "(I)Ljava/lang/Throwable;"⟩, 6) := ⟨⟨by decide +kernel, by decide +kernel⟩, List.mem_of_getElem? (i := 667) (by decide +kernel), List.mem_of_getElem? (i := 665) (by decide +kernel), List.mem_of_getElem? (i := 666) (by decide +kernel)⟩
theorem lw_p17 : lw_okq (⟨"HatHall", "needWearer", "(I)V"⟩, 13) := ⟨⟨by decide +kernel, by decide +kernel⟩, List.mem_of_getElem? (i := 27) (by decide +kernel), List.mem_of_getElem? (i := 740) (by decide +kernel), List.mem_of_getElem? (i := 741) (by decide +kernel)⟩
theorem lw_p18 : lw_okq (⟨"HatHall$Reader", "next", "()V"⟩, 14) := ⟨⟨by decide +kernel, by decide +kernel⟩, List.mem_of_getElem? (i := 193) (by decide +kernel), List.mem_of_getElem? (i := 783) (by decide +kernel), List.mem_of_getElem? (i := 784) (by decide +kernel)⟩
theorem lw_p19 : lw_okq (⟨"HatHall$Reader", "scanWord", "()V"⟩, 14) := ⟨⟨by decide +kernel, by decide +kernel⟩, List.mem_of_getElem? (i := 193) (by decide +kernel), List.mem_of_getElem? (i := 790) (by decide +kernel), List.mem_of_getElem? (i := 791) (by decide +kernel)⟩
theorem lw_p20 : lw_okq (⟨"HatHall$Reader", "kindOfWord", "()I"⟩, 14) := ⟨⟨by decide +kernel, by decide +kernel⟩, List.mem_of_getElem? (i := 193) (by decide +kernel), List.mem_of_getElem? (i := 794) (by decide +kernel), List.mem_of_getElem? (i := 795) (by decide +kernel)⟩
theorem lw_p21 : lw_okq (⟨"HatHall$Reader", "scanNumber", "()V"⟩, 14) := ⟨⟨by decide +kernel, by decide +kernel⟩, List.mem_of_getElem? (i := 193) (by decide +kernel), List.mem_of_getElem? (i := 850) (by decide +kernel), List.mem_of_getElem? (i := 851) (by decide +kernel)⟩
theorem lw_p22 : lw_okq (⟨"HatHall$Reader", "stop", "(I)V"⟩, 14) := ⟨⟨by decide +kernel, by decide +kernel⟩, List.mem_of_getElem? (i := 193) (by decide +kernel), List.mem_of_getElem? (i := 857) (by decide +kernel), List.mem_of_getElem? (i := 858) (by decide +kernel)⟩
theorem lw_p23 : lw_okq (⟨"HatHall$Reader", "readRule", "()V"⟩, 14) := ⟨⟨by decide +kernel, by decide +kernel⟩, List.mem_of_getElem? (i := 193) (by decide +kernel), List.mem_of_getElem? (i := 861) (by decide +kernel), List.mem_of_getElem? (i := 862) (by decide +kernel)⟩
theorem lw_p24 : lw_okq (⟨"HatHall$Reader", "readWearer", "()I"⟩, 14) := ⟨⟨by decide +kernel, by decide +kernel⟩, List.mem_of_getElem? (i := 193) (by decide +kernel), List.mem_of_getElem? (i := 865) (by decide +kernel), List.mem_of_getElem? (i := 866) (by decide +kernel)⟩
theorem lw_p25 : lw_okq (⟨"HatHall$Reader", "readNumber", "()I"⟩, 14) := ⟨⟨by decide +kernel, by decide +kernel⟩, List.mem_of_getElem? (i := 193) (by decide +kernel), List.mem_of_getElem? (i := 869) (by decide +kernel), List.mem_of_getElem? (i := 870) (by decide +kernel)⟩
theorem lw_p26 : lw_okq (⟨"HatHall$Reader", "readOr", "(I)I"⟩, 14) := ⟨⟨by decide +kernel, by decide +kernel⟩, List.mem_of_getElem? (i := 193) (by decide +kernel), List.mem_of_getElem? (i := 873) (by decide +kernel), List.mem_of_getElem? (i := 874) (by decide +kernel)⟩
theorem lw_p27 : lw_okq (⟨"HatHall$Reader", "isNumber", "()Z"⟩, 14) := ⟨⟨by decide +kernel, by decide +kernel⟩, List.mem_of_getElem? (i := 193) (by decide +kernel), List.mem_of_getElem? (i := 877) (by decide +kernel), List.mem_of_getElem? (i := 878) (by decide +kernel)⟩
theorem lw_p28 : lw_okq (⟨"HatHall$Reader", "isWord", "()Z"⟩, 14) := ⟨⟨by decide +kernel, by decide +kernel⟩, List.mem_of_getElem? (i := 193) (by decide +kernel), List.mem_of_getElem? (i := 881) (by decide +kernel), List.mem_of_getElem? (i := 882) (by decide +kernel)⟩
theorem lw_p29 : lw_okq (⟨"HatHall$Reader", "readAnd", "(I)I"⟩, 14) := ⟨⟨by decide +kernel, by decide +kernel⟩, List.mem_of_getElem? (i := 193) (by decide +kernel), List.mem_of_getElem? (i := 885) (by decide +kernel), List.mem_of_getElem? (i := 886) (by decide +kernel)⟩
theorem lw_p30 : lw_okq (⟨"HatHall$Reader", "readNot", "(I)I"⟩, 14) := ⟨⟨by decide +kernel, by decide +kernel⟩, List.mem_of_getElem? (i := 193) (by decide +kernel), List.mem_of_getElem? (i := 889) (by decide +kernel), List.mem_of_getElem? (i := 890) (by decide +kernel)⟩
theorem lw_p31 : lw_okq (⟨"HatHall$Reader", "readTest", "(I)I"⟩, 14) := ⟨⟨by decide +kernel, by decide +kernel⟩, List.mem_of_getElem? (i := 193) (by decide +kernel), List.mem_of_getElem? (i := 893) (by decide +kernel), List.mem_of_getElem? (i := 894) (by decide +kernel)⟩
def lw_privs_2 : List (MethodName × Nat) := [(⟨"java/lang/Throwable", "fillInStackTrace", "(I)Ljava/lang/Throwable;"⟩, 6), (⟨"HatHall", "needWearer", "(I)V"⟩, 13), (⟨"HatHall$Reader", "next", "()V"⟩, 14), (⟨"HatHall$Reader", "scanWord", "()V"⟩, 14), (⟨"HatHall$Reader", "kindOfWord", "()I"⟩, 14), (⟨"HatHall$Reader", "scanNumber", "()V"⟩, 14), (⟨"HatHall$Reader", "stop", "(I)V"⟩, 14), (⟨"HatHall$Reader", "readRule", "()V"⟩, 14), (⟨"HatHall$Reader", "readWearer", "()I"⟩, 14), (⟨"HatHall$Reader", "readNumber", "()I"⟩, 14), (⟨"HatHall$Reader", "readOr", "(I)I"⟩, 14), (⟨"HatHall$Reader", "isNumber", "()Z"⟩, 14), (⟨"HatHall$Reader", "isWord", "()Z"⟩, 14), (⟨"HatHall$Reader", "readAnd", "(I)I"⟩, 14), (⟨"HatHall$Reader", "readNot", "(I)I"⟩, 14), (⟨"HatHall$Reader", "readTest", "(I)I"⟩, 14)]
theorem lw_r2 : ∀ q ∈ lw_privs_2, lw_okq q := List.forall_mem_cons.mpr ⟨lw_p16, List.forall_mem_cons.mpr ⟨lw_p17, List.forall_mem_cons.mpr ⟨lw_p18, List.forall_mem_cons.mpr ⟨lw_p19, List.forall_mem_cons.mpr ⟨lw_p20, List.forall_mem_cons.mpr ⟨lw_p21, List.forall_mem_cons.mpr ⟨lw_p22, List.forall_mem_cons.mpr ⟨lw_p23, List.forall_mem_cons.mpr ⟨lw_p24, List.forall_mem_cons.mpr ⟨lw_p25, List.forall_mem_cons.mpr ⟨lw_p26, List.forall_mem_cons.mpr ⟨lw_p27, List.forall_mem_cons.mpr ⟨lw_p28, List.forall_mem_cons.mpr ⟨lw_p29, List.forall_mem_cons.mpr ⟨lw_p30, List.forall_mem_cons.mpr ⟨lw_p31, fun _ h => absurd h List.not_mem_nil⟩⟩⟩⟩⟩⟩⟩⟩⟩⟩⟩⟩⟩⟩⟩⟩
theorem lw_p32 : lw_okq (⟨"HatHall$Reader", "readSum", "(I)I"⟩, 14) := ⟨⟨by decide +kernel, by decide +kernel⟩, List.mem_of_getElem? (i := 193) (by decide +kernel), List.mem_of_getElem? (i := 897) (by decide +kernel), List.mem_of_getElem? (i := 898) (by decide +kernel)⟩
theorem lw_p33 : lw_okq (⟨"HatHall$Reader", "readProduct", "(I)I"⟩, 14) := ⟨⟨by decide +kernel, by decide +kernel⟩, List.mem_of_getElem? (i := 193) (by decide +kernel), List.mem_of_getElem? (i := 901) (by decide +kernel), List.mem_of_getElem? (i := 902) (by decide +kernel)⟩
theorem lw_p34 : lw_okq (⟨"HatHall$Reader", "readPart", "(I)I"⟩, 14) := ⟨⟨by decide +kernel, by decide +kernel⟩, List.mem_of_getElem? (i := 193) (by decide +kernel), List.mem_of_getElem? (i := 905) (by decide +kernel), List.mem_of_getElem? (i := 906) (by decide +kernel)⟩
theorem lw_p35 : lw_okq (⟨"HatHall$Reader", "expect", "(I)V"⟩, 14) := ⟨⟨by decide +kernel, by decide +kernel⟩, List.mem_of_getElem? (i := 193) (by decide +kernel), List.mem_of_getElem? (i := 909) (by decide +kernel), List.mem_of_getElem? (i := 910) (by decide +kernel)⟩
theorem lw_p36 : lw_okq (⟨"HatHall$Reader", "add", "(III)I"⟩, 14) := ⟨⟨by decide +kernel, by decide +kernel⟩, List.mem_of_getElem? (i := 193) (by decide +kernel), List.mem_of_getElem? (i := 913) (by decide +kernel), List.mem_of_getElem? (i := 914) (by decide +kernel)⟩
theorem lw_p37 : lw_okq (⟨"HatHall", "needRow", "(I)V"⟩, 13) := ⟨⟨by decide +kernel, by decide +kernel⟩, List.mem_of_getElem? (i := 27) (by decide +kernel), List.mem_of_getElem? (i := 972) (by decide +kernel), List.mem_of_getElem? (i := 973) (by decide +kernel)⟩
theorem lw_p38 : lw_okq (⟨"HatHall$Scene", "changesGuess", "(LHatHall$Net;II)Z"⟩, 2) := ⟨⟨by decide +kernel, by decide +kernel⟩, List.mem_of_getElem? (i := 139) (by decide +kernel), List.mem_of_getElem? (i := 1039) (by decide +kernel), List.mem_of_getElem? (i := 1040) (by decide +kernel)⟩
theorem lw_p39 : lw_okq (⟨"HatHall", "needTablesAtOnce", "()V"⟩, 13) := ⟨⟨by decide +kernel, by decide +kernel⟩, List.mem_of_getElem? (i := 27) (by decide +kernel), List.mem_of_getElem? (i := 1060) (by decide +kernel), List.mem_of_getElem? (i := 1061) (by decide +kernel)⟩
theorem lw_p40 : lw_okq (⟨"HatHall$Search", "rowNotRight", "(LHatHall$Net;LHatHall$Scene;I)I"⟩, 4) := ⟨⟨by decide +kernel, by decide +kernel⟩, List.mem_of_getElem? (i := 246) (by decide +kernel), List.mem_of_getElem? (i := 1072) (by decide +kernel), List.mem_of_getElem? (i := 1073) (by decide +kernel)⟩
theorem lw_p41 : lw_okq (⟨"HatHall$Search", "someoneIsRight", "(LHatHall$Net;LHatHall$Scene;)Z"⟩, 4) := ⟨⟨by decide +kernel, by decide +kernel⟩, List.mem_of_getElem? (i := 246) (by decide +kernel), List.mem_of_getElem? (i := 1077) (by decide +kernel), List.mem_of_getElem? (i := 1078) (by decide +kernel)⟩
theorem lw_p42 : lw_okq (⟨"HatHall$Search", "cellOf", "(LHatHall$Net;LHatHall$Scene;I)I"⟩, 4) := ⟨⟨by decide +kernel, by decide +kernel⟩, List.mem_of_getElem? (i := 246) (by decide +kernel), List.mem_of_getElem? (i := 1081) (by decide +kernel), List.mem_of_getElem? (i := 1082) (by decide +kernel)⟩
theorem lw_p43 : lw_okq (⟨"HatHall$Search", "unsettledWearer", "(LHatHall$Net;LHatHall$Scene;I)I"⟩, 4) := ⟨⟨by decide +kernel, by decide +kernel⟩, List.mem_of_getElem? (i := 246) (by decide +kernel), List.mem_of_getElem? (i := 1090) (by decide +kernel), List.mem_of_getElem? (i := 1091) (by decide +kernel)⟩
theorem lw_p44 : lw_okq (⟨"HatHall$Sums", "noteNeeds", "(LHatHall$Net;LHatHall$Judge;LHatHall$Scene;)I"⟩, 5) := ⟨⟨by decide +kernel, by decide +kernel⟩, List.mem_of_getElem? (i := 267) (by decide +kernel), List.mem_of_getElem? (i := 1112) (by decide +kernel), List.mem_of_getElem? (i := 1113) (by decide +kernel)⟩
theorem lw_p45 : lw_okq (⟨"HatHall$Sums", "needsOf", "(LHatHall$Net;LHatHall$Scene;)I"⟩, 5) := ⟨⟨by decide +kernel, by decide +kernel⟩, List.mem_of_getElem? (i := 267) (by decide +kernel), List.mem_of_getElem? (i := 1118) (by decide +kernel), List.mem_of_getElem? (i := 1119) (by decide +kernel)⟩
theorem lw_p46 : lw_okq (⟨"HatHall$Sums", "rowsWonByTried", "(LHatHall$Net;I)I"⟩, 5) := ⟨⟨by decide +kernel, by decide +kernel⟩, List.mem_of_getElem? (i := 267) (by decide +kernel), List.mem_of_getElem? (i := 1126) (by decide +kernel), List.mem_of_getElem? (i := 1127) (by decide +kernel)⟩
theorem lw_p47 : lw_okq (⟨"HatHall$Sums", "advance", "(LHatHall$Net;)V"⟩, 5) := ⟨⟨by decide +kernel, by decide +kernel⟩, List.mem_of_getElem? (i := 267) (by decide +kernel), List.mem_of_getElem? (i := 1132) (by decide +kernel), List.mem_of_getElem? (i := 1133) (by decide +kernel)⟩
def lw_privs_3 : List (MethodName × Nat) := [(⟨"HatHall$Reader", "readSum", "(I)I"⟩, 14), (⟨"HatHall$Reader", "readProduct", "(I)I"⟩, 14), (⟨"HatHall$Reader", "readPart", "(I)I"⟩, 14), (⟨"HatHall$Reader", "expect", "(I)V"⟩, 14), (⟨"HatHall$Reader", "add", "(III)I"⟩, 14), (⟨"HatHall", "needRow", "(I)V"⟩, 13), (⟨"HatHall$Scene", "changesGuess", "(LHatHall$Net;II)Z"⟩, 2), (⟨"HatHall", "needTablesAtOnce", "()V"⟩, 13), (⟨"HatHall$Search", "rowNotRight", "(LHatHall$Net;LHatHall$Scene;I)I"⟩, 4), (⟨"HatHall$Search", "someoneIsRight", "(LHatHall$Net;LHatHall$Scene;)Z"⟩, 4), (⟨"HatHall$Search", "cellOf", "(LHatHall$Net;LHatHall$Scene;I)I"⟩, 4), (⟨"HatHall$Search", "unsettledWearer", "(LHatHall$Net;LHatHall$Scene;I)I"⟩, 4), (⟨"HatHall$Sums", "noteNeeds", "(LHatHall$Net;LHatHall$Judge;LHatHall$Scene;)I"⟩, 5), (⟨"HatHall$Sums", "needsOf", "(LHatHall$Net;LHatHall$Scene;)I"⟩, 5), (⟨"HatHall$Sums", "rowsWonByTried", "(LHatHall$Net;I)I"⟩, 5), (⟨"HatHall$Sums", "advance", "(LHatHall$Net;)V"⟩, 5)]
theorem lw_r3 : ∀ q ∈ lw_privs_3, lw_okq q := List.forall_mem_cons.mpr ⟨lw_p32, List.forall_mem_cons.mpr ⟨lw_p33, List.forall_mem_cons.mpr ⟨lw_p34, List.forall_mem_cons.mpr ⟨lw_p35, List.forall_mem_cons.mpr ⟨lw_p36, List.forall_mem_cons.mpr ⟨lw_p37, List.forall_mem_cons.mpr ⟨lw_p38, List.forall_mem_cons.mpr ⟨lw_p39, List.forall_mem_cons.mpr ⟨lw_p40, List.forall_mem_cons.mpr ⟨lw_p41, List.forall_mem_cons.mpr ⟨lw_p42, List.forall_mem_cons.mpr ⟨lw_p43, List.forall_mem_cons.mpr ⟨lw_p44, List.forall_mem_cons.mpr ⟨lw_p45, List.forall_mem_cons.mpr ⟨lw_p46, List.forall_mem_cons.mpr ⟨lw_p47, fun _ h => absurd h List.not_mem_nil⟩⟩⟩⟩⟩⟩⟩⟩⟩⟩⟩⟩⟩⟩⟩⟩
theorem lw_p48 : lw_okq (⟨"HatHall$Mender", "noteGains", "(LHatHall$Net;LHatHall$Judge;)V"⟩, 3) := ⟨⟨by decide +kernel, by decide +kernel⟩, List.mem_of_getElem? (i := 316) (by decide +kernel), List.mem_of_getElem? (i := 1181) (by decide +kernel), List.mem_of_getElem? (i := 1182) (by decide +kernel)⟩
theorem lw_p49 : lw_okq (⟨"HatHall$Mender", "takeBest", "(LHatHall$Net;)Z"⟩, 3) := ⟨⟨by decide +kernel, by decide +kernel⟩, List.mem_of_getElem? (i := 316) (by decide +kernel), List.mem_of_getElem? (i := 1202) (by decide +kernel), List.mem_of_getElem? (i := 1203) (by decide +kernel)⟩
theorem lw_p50 : lw_okq (⟨"HatHallModel", "anew", "(II)V"⟩, 75) := ⟨⟨by decide +kernel, by decide +kernel⟩, List.mem_of_getElem? (i := 1219) (by decide +kernel), List.mem_of_getElem? (i := 1227) (by decide +kernel), List.mem_of_getElem? (i := 1228) (by decide +kernel)⟩
theorem lw_p51 : lw_okq (⟨"HatHallModel", "all", "()I"⟩, 75) := ⟨⟨by decide +kernel, by decide +kernel⟩, List.mem_of_getElem? (i := 1219) (by decide +kernel), List.mem_of_getElem? (i := 1231) (by decide +kernel), List.mem_of_getElem? (i := 1232) (by decide +kernel)⟩
theorem lw_p52 : lw_okq (⟨"HatHallModel", "blank", "(I)V"⟩, 75) := ⟨⟨by decide +kernel, by decide +kernel⟩, List.mem_of_getElem? (i := 1219) (by decide +kernel), List.mem_of_getElem? (i := 1235) (by decide +kernel), List.mem_of_getElem? (i := 1236) (by decide +kernel)⟩
theorem lw_p53 : lw_okq (⟨"HatHallModel", "viewsOf", "(I)I"⟩, 75) := ⟨⟨by decide +kernel, by decide +kernel⟩, List.mem_of_getElem? (i := 1219) (by decide +kernel), List.mem_of_getElem? (i := 1239) (by decide +kernel), List.mem_of_getElem? (i := 1240) (by decide +kernel)⟩
theorem lw_p54 : lw_okq (⟨"HatHallModel", "hears", "(I)I"⟩, 75) := ⟨⟨by decide +kernel, by decide +kernel⟩, List.mem_of_getElem? (i := 1219) (by decide +kernel), List.mem_of_getElem? (i := 1246) (by decide +kernel), List.mem_of_getElem? (i := 1247) (by decide +kernel)⟩
theorem lw_p55 : lw_okq (⟨"HatHallModel", "isWearer", "(I)Z"⟩, 75) := ⟨⟨by decide +kernel, by decide +kernel⟩, List.mem_of_getElem? (i := 1219) (by decide +kernel), List.mem_of_getElem? (i := 1491) (by decide +kernel), List.mem_of_getElem? (i := 1492) (by decide +kernel)⟩
theorem lw_p56 : lw_okq (⟨"HatHallModel", "right", "(ZI)Z"⟩, 75) := ⟨⟨by decide +kernel, by decide +kernel⟩, List.mem_of_getElem? (i := 1219) (by decide +kernel), List.mem_of_getElem? (i := 1495) (by decide +kernel), List.mem_of_getElem? (i := 1496) (by decide +kernel)⟩
theorem lw_p57 : lw_okq (⟨"HatHallModel", "lays", "(I)V"⟩, 75) := ⟨⟨by decide +kernel, by decide +kernel⟩, List.mem_of_getElem? (i := 1219) (by decide +kernel), List.mem_of_getElem? (i := 1515) (by decide +kernel), List.mem_of_getElem? (i := 1516) (by decide +kernel)⟩
theorem lw_p58 : lw_okq (⟨"HatHallModel", "goes", "()V"⟩, 75) := ⟨⟨by decide +kernel, by decide +kernel⟩, List.mem_of_getElem? (i := 1219) (by decide +kernel), List.mem_of_getElem? (i := 1523) (by decide +kernel), List.mem_of_getElem? (i := 1524) (by decide +kernel)⟩
theorem lw_p59 : lw_okq (⟨"HatHallModel", "byteAt", "(I)I"⟩, 75) := ⟨⟨by decide +kernel, by decide +kernel⟩, List.mem_of_getElem? (i := 1219) (by decide +kernel), List.mem_of_getElem? (i := 1527) (by decide +kernel), List.mem_of_getElem? (i := 1528) (by decide +kernel)⟩
theorem lw_p60 : lw_okq (⟨"HatHallModel", "isGood", "()Z"⟩, 75) := ⟨⟨by decide +kernel, by decide +kernel⟩, List.mem_of_getElem? (i := 1219) (by decide +kernel), List.mem_of_getElem? (i := 1537) (by decide +kernel), List.mem_of_getElem? (i := 1538) (by decide +kernel)⟩
theorem lw_p61 : lw_okq (⟨"HatHallModel", "rule", "()V"⟩, 75) := ⟨⟨by decide +kernel, by decide +kernel⟩, List.mem_of_getElem? (i := 1219) (by decide +kernel), List.mem_of_getElem? (i := 1541) (by decide +kernel), List.mem_of_getElem? (i := 1542) (by decide +kernel)⟩
theorem lw_p62 : lw_okq (⟨"HatHallModel", "knownWord", "()I"⟩, 75) := ⟨⟨by decide +kernel, by decide +kernel⟩, List.mem_of_getElem? (i := 1219) (by decide +kernel), List.mem_of_getElem? (i := 1545) (by decide +kernel), List.mem_of_getElem? (i := 1546) (by decide +kernel)⟩
theorem lw_p63 : lw_okq (⟨"HatHallModel", "wrong", "(I)V"⟩, 75) := ⟨⟨by decide +kernel, by decide +kernel⟩, List.mem_of_getElem? (i := 1219) (by decide +kernel), List.mem_of_getElem? (i := 1555) (by decide +kernel), List.mem_of_getElem? (i := 1556) (by decide +kernel)⟩
def lw_privs_4 : List (MethodName × Nat) := [(⟨"HatHall$Mender", "noteGains", "(LHatHall$Net;LHatHall$Judge;)V"⟩, 3), (⟨"HatHall$Mender", "takeBest", "(LHatHall$Net;)Z"⟩, 3), (⟨"HatHallModel", "anew", "(II)V"⟩, 75), (⟨"HatHallModel", "all", "()I"⟩, 75), (⟨"HatHallModel", "blank", "(I)V"⟩, 75), (⟨"HatHallModel", "viewsOf", "(I)I"⟩, 75), (⟨"HatHallModel", "hears", "(I)I"⟩, 75), (⟨"HatHallModel", "isWearer", "(I)Z"⟩, 75), (⟨"HatHallModel", "right", "(ZI)Z"⟩, 75), (⟨"HatHallModel", "lays", "(I)V"⟩, 75), (⟨"HatHallModel", "goes", "()V"⟩, 75), (⟨"HatHallModel", "byteAt", "(I)I"⟩, 75), (⟨"HatHallModel", "isGood", "()Z"⟩, 75), (⟨"HatHallModel", "rule", "()V"⟩, 75), (⟨"HatHallModel", "knownWord", "()I"⟩, 75), (⟨"HatHallModel", "wrong", "(I)V"⟩, 75)]
theorem lw_r4 : ∀ q ∈ lw_privs_4, lw_okq q := List.forall_mem_cons.mpr ⟨lw_p48, List.forall_mem_cons.mpr ⟨lw_p49, List.forall_mem_cons.mpr ⟨lw_p50, List.forall_mem_cons.mpr ⟨lw_p51, List.forall_mem_cons.mpr ⟨lw_p52, List.forall_mem_cons.mpr ⟨lw_p53, List.forall_mem_cons.mpr ⟨lw_p54, List.forall_mem_cons.mpr ⟨lw_p55, List.forall_mem_cons.mpr ⟨lw_p56, List.forall_mem_cons.mpr ⟨lw_p57, List.forall_mem_cons.mpr ⟨lw_p58, List.forall_mem_cons.mpr ⟨lw_p59, List.forall_mem_cons.mpr ⟨lw_p60, List.forall_mem_cons.mpr ⟨lw_p61, List.forall_mem_cons.mpr ⟨lw_p62, List.forall_mem_cons.mpr ⟨lw_p63, fun _ h => absurd h List.not_mem_nil⟩⟩⟩⟩⟩⟩⟩⟩⟩⟩⟩⟩⟩⟩⟩⟩
theorem lw_p64 : lw_okq (⟨"HatHallModel", "wearer", "()I"⟩, 75) := ⟨⟨by decide +kernel, by decide +kernel⟩, List.mem_of_getElem? (i := 1219) (by decide +kernel), List.mem_of_getElem? (i := 1559) (by decide +kernel), List.mem_of_getElem? (i := 1560) (by decide +kernel)⟩
theorem lw_p65 : lw_okq (⟨"HatHallModel", "expression", "()I"⟩, 75) := ⟨⟨by decide +kernel, by decide +kernel⟩, List.mem_of_getElem? (i := 1219) (by decide +kernel), List.mem_of_getElem? (i := 1563) (by decide +kernel), List.mem_of_getElem? (i := 1564) (by decide +kernel)⟩
theorem lw_p66 : lw_okq (⟨"HatHallModel", "begins", "()V"⟩, 75) := ⟨⟨by decide +kernel, by decide +kernel⟩, List.mem_of_getElem? (i := 1219) (by decide +kernel), List.mem_of_getElem? (i := 1567) (by decide +kernel), List.mem_of_getElem? (i := 1568) (by decide +kernel)⟩
theorem lw_p67 : lw_okq (⟨"HatHallModel", "isSign", "(I)Z"⟩, 75) := ⟨⟨by decide +kernel, by decide +kernel⟩, List.mem_of_getElem? (i := 1219) (by decide +kernel), List.mem_of_getElem? (i := 1571) (by decide +kernel), List.mem_of_getElem? (i := 1572) (by decide +kernel)⟩
theorem lw_p68 : lw_okq (⟨"HatHallModel", "operand", "(Z)V"⟩, 75) := ⟨⟨by decide +kernel, by decide +kernel⟩, List.mem_of_getElem? (i := 1219) (by decide +kernel), List.mem_of_getElem? (i := 1575) (by decide +kernel), List.mem_of_getElem? (i := 1576) (by decide +kernel)⟩
theorem lw_p69 : lw_okq (⟨"HatHallModel", "waitsFor", "(I)V"⟩, 75) := ⟨⟨by decide +kernel, by decide +kernel⟩, List.mem_of_getElem? (i := 1219) (by decide +kernel), List.mem_of_getElem? (i := 1579) (by decide +kernel), List.mem_of_getElem? (i := 1580) (by decide +kernel)⟩
theorem lw_p70 : lw_okq (⟨"HatHallModel", "part", "()V"⟩, 75) := ⟨⟨by decide +kernel, by decide +kernel⟩, List.mem_of_getElem? (i := 1219) (by decide +kernel), List.mem_of_getElem? (i := 1583) (by decide +kernel), List.mem_of_getElem? (i := 1584) (by decide +kernel)⟩
theorem lw_p71 : lw_okq (⟨"HatHallModel", "puts", "(I)V"⟩, 75) := ⟨⟨by decide +kernel, by decide +kernel⟩, List.mem_of_getElem? (i := 1219) (by decide +kernel), List.mem_of_getElem? (i := 1587) (by decide +kernel), List.mem_of_getElem? (i := 1588) (by decide +kernel)⟩
theorem lw_p72 : lw_okq (⟨"HatHallModel", "drops", "(I)V"⟩, 75) := ⟨⟨by decide +kernel, by decide +kernel⟩, List.mem_of_getElem? (i := 1219) (by decide +kernel), List.mem_of_getElem? (i := 1591) (by decide +kernel), List.mem_of_getElem? (i := 1592) (by decide +kernel)⟩
theorem lw_p73 : lw_okq (⟨"HatHallModel", "copies", "(III)I"⟩, 75) := ⟨⟨by decide +kernel, by decide +kernel⟩, List.mem_of_getElem? (i := 1219) (by decide +kernel), List.mem_of_getElem? (i := 1598) (by decide +kernel), List.mem_of_getElem? (i := 1599) (by decide +kernel)⟩
theorem lw_p74 : lw_okq (⟨"HatHallModel", "isRow", "(I)Z"⟩, 75) := ⟨⟨by decide +kernel, by decide +kernel⟩, List.mem_of_getElem? (i := 1219) (by decide +kernel), List.mem_of_getElem? (i := 1622) (by decide +kernel), List.mem_of_getElem? (i := 1623) (by decide +kernel)⟩
theorem lw_p75 : lw_okq (⟨"HatHallModel", "worksAll", "()V"⟩, 75) := ⟨⟨by decide +kernel, by decide +kernel⟩, List.mem_of_getElem? (i := 1219) (by decide +kernel), List.mem_of_getElem? (i := 1626) (by decide +kernel), List.mem_of_getElem? (i := 1627) (by decide +kernel)⟩
theorem lw_p76 : lw_okq (⟨"HatHallModel", "worksRow", "(I)V"⟩, 75) := ⟨⟨by decide +kernel, by decide +kernel⟩, List.mem_of_getElem? (i := 1219) (by decide +kernel), List.mem_of_getElem? (i := 1630) (by decide +kernel), List.mem_of_getElem? (i := 1631) (by decide +kernel)⟩
theorem lw_p77 : lw_okq (⟨"HatHallModel", "wears", "(I)V"⟩, 75) := ⟨⟨by decide +kernel, by decide +kernel⟩, List.mem_of_getElem? (i := 1219) (by decide +kernel), List.mem_of_getElem? (i := 1634) (by decide +kernel), List.mem_of_getElem? (i := 1635) (by decide +kernel)⟩
theorem lw_p78 : lw_okq (⟨"HatHallModel", "guesses", "(I)I"⟩, 75) := ⟨⟨by decide +kernel, by decide +kernel⟩, List.mem_of_getElem? (i := 1219) (by decide +kernel), List.mem_of_getElem? (i := 1638) (by decide +kernel), List.mem_of_getElem? (i := 1639) (by decide +kernel)⟩
theorem lw_p79 : lw_okq (⟨"HatHallModel", "viewOf", "(I)I"⟩, 75) := ⟨⟨by decide +kernel, by decide +kernel⟩, List.mem_of_getElem? (i := 1219) (by decide +kernel), List.mem_of_getElem? (i := 1642) (by decide +kernel), List.mem_of_getElem? (i := 1643) (by decide +kernel)⟩
def lw_privs_5 : List (MethodName × Nat) := [(⟨"HatHallModel", "wearer", "()I"⟩, 75), (⟨"HatHallModel", "expression", "()I"⟩, 75), (⟨"HatHallModel", "begins", "()V"⟩, 75), (⟨"HatHallModel", "isSign", "(I)Z"⟩, 75), (⟨"HatHallModel", "operand", "(Z)V"⟩, 75), (⟨"HatHallModel", "waitsFor", "(I)V"⟩, 75), (⟨"HatHallModel", "part", "()V"⟩, 75), (⟨"HatHallModel", "puts", "(I)V"⟩, 75), (⟨"HatHallModel", "drops", "(I)V"⟩, 75), (⟨"HatHallModel", "copies", "(III)I"⟩, 75), (⟨"HatHallModel", "isRow", "(I)Z"⟩, 75), (⟨"HatHallModel", "worksAll", "()V"⟩, 75), (⟨"HatHallModel", "worksRow", "(I)V"⟩, 75), (⟨"HatHallModel", "wears", "(I)V"⟩, 75), (⟨"HatHallModel", "guesses", "(I)I"⟩, 75), (⟨"HatHallModel", "viewOf", "(I)I"⟩, 75)]
theorem lw_r5 : ∀ q ∈ lw_privs_5, lw_okq q := List.forall_mem_cons.mpr ⟨lw_p64, List.forall_mem_cons.mpr ⟨lw_p65, List.forall_mem_cons.mpr ⟨lw_p66, List.forall_mem_cons.mpr ⟨lw_p67, List.forall_mem_cons.mpr ⟨lw_p68, List.forall_mem_cons.mpr ⟨lw_p69, List.forall_mem_cons.mpr ⟨lw_p70, List.forall_mem_cons.mpr ⟨lw_p71, List.forall_mem_cons.mpr ⟨lw_p72, List.forall_mem_cons.mpr ⟨lw_p73, List.forall_mem_cons.mpr ⟨lw_p74, List.forall_mem_cons.mpr ⟨lw_p75, List.forall_mem_cons.mpr ⟨lw_p76, List.forall_mem_cons.mpr ⟨lw_p77, List.forall_mem_cons.mpr ⟨lw_p78, List.forall_mem_cons.mpr ⟨lw_p79, fun _ h => absurd h List.not_mem_nil⟩⟩⟩⟩⟩⟩⟩⟩⟩⟩⟩⟩⟩⟩⟩⟩
theorem lw_p80 : lw_okq (⟨"HatHallModel", "worth", "(II)I"⟩, 75) := ⟨⟨by decide +kernel, by decide +kernel⟩, List.mem_of_getElem? (i := 1219) (by decide +kernel), List.mem_of_getElem? (i := 1646) (by decide +kernel), List.mem_of_getElem? (i := 1647) (by decide +kernel)⟩
theorem lw_p81 : lw_okq (⟨"HatHallModel", "valueOf", "(II)I"⟩, 75) := ⟨⟨by decide +kernel, by decide +kernel⟩, List.mem_of_getElem? (i := 1219) (by decide +kernel), List.mem_of_getElem? (i := 1650) (by decide +kernel), List.mem_of_getElem? (i := 1651) (by decide +kernel)⟩
theorem lw_p82 : lw_okq (⟨"HatHallModel", "sum", "([II)I"⟩, 75) := ⟨⟨by decide +kernel, by decide +kernel⟩, List.mem_of_getElem? (i := 1219) (by decide +kernel), List.mem_of_getElem? (i := 1654) (by decide +kernel), List.mem_of_getElem? (i := 1655) (by decide +kernel)⟩
theorem lw_p83 : lw_okq (⟨"HatHallModel", "counts", "(I)Z"⟩, 75) := ⟨⟨by decide +kernel, by decide +kernel⟩, List.mem_of_getElem? (i := 1219) (by decide +kernel), List.mem_of_getElem? (i := 1665) (by decide +kernel), List.mem_of_getElem? (i := 1666) (by decide +kernel)⟩
theorem lw_p84 : lw_okq (⟨"HatHallModel", "many", "(II)I"⟩, 75) := ⟨⟨by decide +kernel, by decide +kernel⟩, List.mem_of_getElem? (i := 1219) (by decide +kernel), List.mem_of_getElem? (i := 1669) (by decide +kernel), List.mem_of_getElem? (i := 1670) (by decide +kernel)⟩
theorem lw_p85 : lw_okq (⟨"HatHallModel", "isWon", "(II)Z"⟩, 75) := ⟨⟨by decide +kernel, by decide +kernel⟩, List.mem_of_getElem? (i := 1219) (by decide +kernel), List.mem_of_getElem? (i := 1673) (by decide +kernel), List.mem_of_getElem? (i := 1674) (by decide +kernel)⟩
theorem lw_p86 : lw_okq (⟨"HatHallModel", "weight", "(I)J"⟩, 75) := ⟨⟨by decide +kernel, by decide +kernel⟩, List.mem_of_getElem? (i := 1219) (by decide +kernel), List.mem_of_getElem? (i := 1681) (by decide +kernel), List.mem_of_getElem? (i := 1682) (by decide +kernel)⟩
theorem lw_p87 : lw_okq (⟨"HatHallModel", "worstRow", "()I"⟩, 75) := ⟨⟨by decide +kernel, by decide +kernel⟩, List.mem_of_getElem? (i := 1219) (by decide +kernel), List.mem_of_getElem? (i := 1701) (by decide +kernel), List.mem_of_getElem? (i := 1702) (by decide +kernel)⟩
theorem lw_p88 : lw_okq (⟨"HatHallModel", "laysOut", "(I)V"⟩, 75) := ⟨⟨by decide +kernel, by decide +kernel⟩, List.mem_of_getElem? (i := 1219) (by decide +kernel), List.mem_of_getElem? (i := 1709) (by decide +kernel), List.mem_of_getElem? (i := 1710) (by decide +kernel)⟩
theorem lw_p89 : lw_okq (⟨"HatHallModel", "isAlike", "()Z"⟩, 75) := ⟨⟨by decide +kernel, by decide +kernel⟩, List.mem_of_getElem? (i := 1219) (by decide +kernel), List.mem_of_getElem? (i := 1721) (by decide +kernel), List.mem_of_getElem? (i := 1722) (by decide +kernel)⟩
theorem lw_p90 : lw_okq (⟨"HatHallModel", "turns", "()Z"⟩, 75) := ⟨⟨by decide +kernel, by decide +kernel⟩, List.mem_of_getElem? (i := 1219) (by decide +kernel), List.mem_of_getElem? (i := 1725) (by decide +kernel), List.mem_of_getElem? (i := 1726) (by decide +kernel)⟩
theorem lw_p91 : lw_okq (⟨"HatHallModel", "swaps", "(II)V"⟩, 75) := ⟨⟨by decide +kernel, by decide +kernel⟩, List.mem_of_getElem? (i := 1219) (by decide +kernel), List.mem_of_getElem? (i := 1729) (by decide +kernel), List.mem_of_getElem? (i := 1730) (by decide +kernel)⟩
theorem lw_p92 : lw_okq (⟨"HatHallModel", "areAtOnce", "()Z"⟩, 75) := ⟨⟨by decide +kernel, by decide +kernel⟩, List.mem_of_getElem? (i := 1219) (by decide +kernel), List.mem_of_getElem? (i := 1741) (by decide +kernel), List.mem_of_getElem? (i := 1742) (by decide +kernel)⟩
theorem lw_p93 : lw_okq (⟨"HatHallModel", "views", "()V"⟩, 75) := ⟨⟨by decide +kernel, by decide +kernel⟩, List.mem_of_getElem? (i := 1219) (by decide +kernel), List.mem_of_getElem? (i := 1745) (by decide +kernel), List.mem_of_getElem? (i := 1746) (by decide +kernel)⟩
theorem lw_p94 : lw_okq (⟨"HatHallModel", "isSomeRight", "(I)Z"⟩, 75) := ⟨⟨by decide +kernel, by decide +kernel⟩, List.mem_of_getElem? (i := 1219) (by decide +kernel), List.mem_of_getElem? (i := 1749) (by decide +kernel), List.mem_of_getElem? (i := 1750) (by decide +kernel)⟩
theorem lw_p95 : lw_okq (⟨"HatHallModel", "isWonBy", "(I)Z"⟩, 75) := ⟨⟨by decide +kernel, by decide +kernel⟩, List.mem_of_getElem? (i := 1219) (by decide +kernel), List.mem_of_getElem? (i := 1764) (by decide +kernel), List.mem_of_getElem? (i := 1765) (by decide +kernel)⟩
def lw_privs_6 : List (MethodName × Nat) := [(⟨"HatHallModel", "worth", "(II)I"⟩, 75), (⟨"HatHallModel", "valueOf", "(II)I"⟩, 75), (⟨"HatHallModel", "sum", "([II)I"⟩, 75), (⟨"HatHallModel", "counts", "(I)Z"⟩, 75), (⟨"HatHallModel", "many", "(II)I"⟩, 75), (⟨"HatHallModel", "isWon", "(II)Z"⟩, 75), (⟨"HatHallModel", "weight", "(I)J"⟩, 75), (⟨"HatHallModel", "worstRow", "()I"⟩, 75), (⟨"HatHallModel", "laysOut", "(I)V"⟩, 75), (⟨"HatHallModel", "isAlike", "()Z"⟩, 75), (⟨"HatHallModel", "turns", "()Z"⟩, 75), (⟨"HatHallModel", "swaps", "(II)V"⟩, 75), (⟨"HatHallModel", "areAtOnce", "()Z"⟩, 75), (⟨"HatHallModel", "views", "()V"⟩, 75), (⟨"HatHallModel", "isSomeRight", "(I)Z"⟩, 75), (⟨"HatHallModel", "isWonBy", "(I)Z"⟩, 75)]
theorem lw_r6 : ∀ q ∈ lw_privs_6, lw_okq q := List.forall_mem_cons.mpr ⟨lw_p80, List.forall_mem_cons.mpr ⟨lw_p81, List.forall_mem_cons.mpr ⟨lw_p82, List.forall_mem_cons.mpr ⟨lw_p83, List.forall_mem_cons.mpr ⟨lw_p84, List.forall_mem_cons.mpr ⟨lw_p85, List.forall_mem_cons.mpr ⟨lw_p86, List.forall_mem_cons.mpr ⟨lw_p87, List.forall_mem_cons.mpr ⟨lw_p88, List.forall_mem_cons.mpr ⟨lw_p89, List.forall_mem_cons.mpr ⟨lw_p90, List.forall_mem_cons.mpr ⟨lw_p91, List.forall_mem_cons.mpr ⟨lw_p92, List.forall_mem_cons.mpr ⟨lw_p93, List.forall_mem_cons.mpr ⟨lw_p94, List.forall_mem_cons.mpr ⟨lw_p95, fun _ h => absurd h List.not_mem_nil⟩⟩⟩⟩⟩⟩⟩⟩⟩⟩⟩⟩⟩⟩⟩⟩
theorem lw_p96 : lw_okq (⟨"HatHallModel", "balls", "()V"⟩, 75) := ⟨⟨by decide +kernel, by decide +kernel⟩, List.mem_of_getElem? (i := 1219) (by decide +kernel), List.mem_of_getElem? (i := 1776) (by decide +kernel), List.mem_of_getElem? (i := 1777) (by decide +kernel)⟩
theorem lw_p97 : lw_okq (⟨"HatHallModel", "covers", "(I)Z"⟩, 75) := ⟨⟨by decide +kernel, by decide +kernel⟩, List.mem_of_getElem? (i := 1219) (by decide +kernel), List.mem_of_getElem? (i := 1783) (by decide +kernel), List.mem_of_getElem? (i := 1784) (by decide +kernel)⟩
theorem lw_p98 : lw_okq (⟨"HatHallModel", "latest", "(I)I"⟩, 75) := ⟨⟨by decide +kernel, by decide +kernel⟩, List.mem_of_getElem? (i := 1219) (by decide +kernel), List.mem_of_getElem? (i := 1787) (by decide +kernel), List.mem_of_getElem? (i := 1788) (by decide +kernel)⟩
theorem lw_p99 : lw_okq (⟨"HatHallModel", "isGiven", "(I)Z"⟩, 75) := ⟨⟨by decide +kernel, by decide +kernel⟩, List.mem_of_getElem? (i := 1219) (by decide +kernel), List.mem_of_getElem? (i := 1791) (by decide +kernel), List.mem_of_getElem? (i := 1792) (by decide +kernel)⟩
theorem lw_p100 : lw_okq (⟨"HatHallModel", "says", "(IIII)V"⟩, 75) := ⟨⟨by decide +kernel, by decide +kernel⟩, List.mem_of_getElem? (i := 1219) (by decide +kernel), List.mem_of_getElem? (i := 1803) (by decide +kernel), List.mem_of_getElem? (i := 1804) (by decide +kernel)⟩
theorem lw_p101 : lw_okq (⟨"HatHallModel", "weighs", "(I)V"⟩, 75) := ⟨⟨by decide +kernel, by decide +kernel⟩, List.mem_of_getElem? (i := 1219) (by decide +kernel), List.mem_of_getElem? (i := 1811) (by decide +kernel), List.mem_of_getElem? (i := 1812) (by decide +kernel)⟩
theorem lw_p102 : lw_okq (⟨"HatHallModel", "isWonIf", "(III)Z"⟩, 75) := ⟨⟨by decide +kernel, by decide +kernel⟩, List.mem_of_getElem? (i := 1219) (by decide +kernel), List.mem_of_getElem? (i := 1815) (by decide +kernel), List.mem_of_getElem? (i := 1816) (by decide +kernel)⟩
def lw_privs_7 : List (MethodName × Nat) := [(⟨"HatHallModel", "balls", "()V"⟩, 75), (⟨"HatHallModel", "covers", "(I)Z"⟩, 75), (⟨"HatHallModel", "latest", "(I)I"⟩, 75), (⟨"HatHallModel", "isGiven", "(I)Z"⟩, 75), (⟨"HatHallModel", "says", "(IIII)V"⟩, 75), (⟨"HatHallModel", "weighs", "(I)V"⟩, 75), (⟨"HatHallModel", "isWonIf", "(III)Z"⟩, 75)]
theorem lw_r7 : ∀ q ∈ lw_privs_7, lw_okq q := List.forall_mem_cons.mpr ⟨lw_p96, List.forall_mem_cons.mpr ⟨lw_p97, List.forall_mem_cons.mpr ⟨lw_p98, List.forall_mem_cons.mpr ⟨lw_p99, List.forall_mem_cons.mpr ⟨lw_p100, List.forall_mem_cons.mpr ⟨lw_p101, List.forall_mem_cons.mpr ⟨lw_p102, fun _ h => absurd h List.not_mem_nil⟩⟩⟩⟩⟩⟩⟩
def lw_privs : List (MethodName × Nat) := lw_privs_1 ++ (lw_privs_2 ++ (lw_privs_3 ++ (lw_privs_4 ++ (lw_privs_5 ++ (lw_privs_6 ++ (lw_privs_7))))))
def lw_tbl : List Cond := k2_sels lw_privs ++ tables_1
theorem lw_privs_ok : ∀ q ∈ lw_privs, lw_okq q := by
  show ∀ q ∈ lw_privs_1 ++ (lw_privs_2 ++ (lw_privs_3 ++ (lw_privs_4 ++ (lw_privs_5 ++ (lw_privs_6 ++ (lw_privs_7)))))), lw_okq q
  exact List.forall_mem_append.mpr ⟨lw_r1, List.forall_mem_append.mpr ⟨lw_r2, List.forall_mem_append.mpr ⟨lw_r3, List.forall_mem_append.mpr ⟨lw_r4, List.forall_mem_append.mpr ⟨lw_r5, List.forall_mem_append.mpr ⟨lw_r6, lw_r7⟩⟩⟩⟩⟩⟩
end
section
/-! ===== BEGIN words of one list among another's, by their places ===== -/
theorem goodIn_r {big : List Cond} (ws : List Cond) (ps : List Nat) (hp : ws = ps.filterMap (fun i => big[i]?)) (h : ws.all goodWord = true) : GoodIn big ws := by
  intro w hw
  have h1 := List.all_eq_true.mp h w hw
  rw [hp] at hw
  obtain ⟨i, -, hi⟩ := List.mem_filterMap.mp hw
  have hm : w ∈ big := by first | exact List.mem_of_getElem? hi | exact List.getElem?_mem hi
  exact ⟨hm, good_of_word h1⟩
theorem goodIn_app {big a b : List Cond} (ha : GoodIn big a) (hb : GoodIn big b) : GoodIn big (a ++ b) := fun w h => (List.mem_append.mp h).elim (ha w) (hb w)
theorem goodIn_ca {big a b : List Cond} {c : Cond} (ha : GoodIn big (c :: a)) (hb : GoodIn big b) : GoodIn big (c :: (a ++ b)) := fun w h => (List.mem_cons.mp h).elim (fun e => ha w (List.mem_cons.mpr (Or.inl e))) (fun h => (List.mem_append.mp h).elim (fun h => ha w (List.mem_cons.mpr (Or.inr h))) (hb w))
theorem goodIn_sub {big ws : List Cond} (hm : ∀ w ∈ ws, w ∈ big) (h : ws.all goodWord = true) : GoodIn big ws := fun w hw => ⟨hm w hw, good_of_word (List.all_eq_true.mp h w hw)⟩
/-! ===== END ===== -/

/-! ===== BEGIN exceptions that leave a method, and their catching by the caller (launches without stack traces) ===== -/
section VXA
/-! The laws vx_back, vx_callV, vx_callS, vx_callSW, vx_throw0, vx_throwS follow proofs of the library, with one case more: JvmDerived/Free/Laws.lean (Back.of_free), Shelf42/LK1.lean (callV, callS), Shelf/KitTraced.lean (throwNew0V, throwNewS). -/
/-- where a method has thrown q: the class by its name, the cell, what was written, the world -/
def vx_T (XC : String → State → State → Prop) (st : State) (q : Addr) (t : State) (mc ms : Nat) (free : Addr → Prop) : Prop :=
  ∃ (E : String) (ce : Cell) (L : List Loc), XC E st t ∧ t.heap[q]? = some ce ∧ ce.vm = .none ∧ st.vm.findClass E = some ce.cls ∧ st.WarmedH t.vm ∧ st.sameButNew ({ t with vm := st.vm } : State) L mc ms ∧ ∀ z ∈ L, free z.base
def vx_Q (Qc : Array Value → State → Outcome → State → Prop) (XC : String → State → State → Prop) (mc ms : Nat) (free : Addr → Prop) : Array Value → State → Outcome → State → Prop := fun a st o t =>
  (Qc a st o t ∧ ∃ L, FrameEnd st o t L mc ms ∧ ∀ q ∈ L, free q.base) ∨ ∃ q, o = .threw q ∧ vx_T XC st q t mc ms free
/-- a callee that returns or throws -/
def vx_Met (l : Launch) (y : MethodName) (ws : List Cond) (rm : Room) (Pc : Array Value → State → Prop) (Qc : Array Value → State → Outcome → State → Prop) (XC : String → State → State → Prop) (mc ms : Nat) (free : Addr → Prop) : Prop :=
  MetFree l y (headSpec ws rm) Pc (fun _ _ _ _ _ => True) (vx_Q Qc XC mc ms free)
def vx_Post (XC : String → State → State → Prop) (mc ms : Nat) (free : Addr → Prop) : Pt → Array Value → Addr → Pt → Prop := fun A a q B =>
  ∃ (g : JFrame) (mk : MethodId) (t : State) (L : List Loc) (E : String) (ce : Cell), B.U.heap = t.heap ∧ B.U.vm = t.vm ∧ XC E (A.U.calling g mk a) t ∧ t.heap[q]? = some ce ∧ ce.vm = .none ∧ A.U.vm.findClass E = some ce.cls ∧ B.locs = A.locs ++ L ∧ (∀ z ∈ L, free z.base) ∧ B.cells = A.cells + mc ∧ B.slots = A.slots + ms
def vx_Back (l : Launch) (R : Room) (p : Program) (e : Env) (below : List Frame) (s : State) (sargs : Array Value) (y : MethodName) (len W9 : Nat)
    (Pre : Pt → Array Value → Prop) (Post : Pt → Array Value → Option Value → Pt → Prop) (PostX : Pt → Array Value → Addr → Pt → Prop) : Prop :=
  ∀ (m : MethodId) (meth : Method) (c : Code) (A : Pt) (g : JFrame) (ig : Instr) (mk : MethodId) (a : Array Value),
    Stand p l e R s m sargs below meth c A.U A.locs A.cells A.slots → g.method = m → g.locals.size = c.maxLocals → decode c.code g.pc = .ok (ig, len) →
    2 * g.monitorRoom + (g.stack.map fun v => v.category).sum ≤ W9 → A.U.methodNamed? y = some mk → Pre A a →
    (∃ (v : Option Value) (B : Pt), Stand p l e R s m sargs below meth c B.U B.locs B.cells B.slots ∧ Post A a v B ∧
      Steps p.tables e below (doInvoke e (A.U.setTop g) [] mk a).1 (B.U.setTop { g with pc := g.pc + len, stack := v.toList ++ g.stack })) ∨
    (∃ (q : Addr) (B : Pt), Stand p l e R s m sargs below meth c B.U B.locs B.cells B.slots ∧ PostX A a q B ∧
      Steps p.tables e below (doInvoke e (A.U.setTop g) [] mk a).1 ((B.U.setTop g).pushFrame (.throwing q)))
section Payer
variable {l : Launch} {R : Room} {p : Program} {e : Env} {below : List Frame} {s : State} {sargs : Array Value} {y : MethodName} {len W9 : Nat}
theorem vx_back {ws : List Cond} {rm : Room} {Pc : Array Value → State → Prop} {Qc : Array Value → State → Outcome → State → Prop} {XC : String → State → State → Prop} {mc ms : Nat} {free : Addr → Prop} {bytes : ByteArray} {maxL : Nat} {ret : Option FieldType}
    (hM : vx_Met l y ws rm Pc Qc XC mc ms free) (hblind : FrameBlind Pc) (hrc : rm.cells = mc) (hrs : rm.slots = ms)
    (hframes : rm.frames + 1 ≤ R.frames) (hlocals : W9 + (maxL + 11) + rm.locals ≤ R.locals)
    (hws : ∀ w ∈ ws, ∀ a' U, s.WarmedH U.vm → w.before a' U = true) (hcode : Cond.code y bytes maxL ret ∈ ws) (hinit : ∀ a' U, s.WarmedH U.vm → (Cond.initialized y.cls).before a' U = true) :
    vx_Back l R p e below s sargs y len W9 (PreOf R mc ms Pc) (PostOf Qc mc ms free) (vx_Post XC mc ms free) := by
  intro m meth c A g ig mk a X hg hsize hdg hW hn hp
  have h1 : (headSpec ws rm).pre.before a A.U = true := atoms_intro fun w hw => hws w hw _ _ X.warmed
  have h2 : (Cond.code y bytes maxL ret).before a A.U = true := hws _ hcode _ _ X.warmed
  have h3 : (Cond.initialized y.cls).before a A.U = true := hinit _ _ X.warmed
  have h4 : A.cells + (headSpec ws rm).room.cells ≤ R.cells := by rw [show (headSpec ws rm).room.cells = mc from hrc]; exact hp.1
  have h5 : A.slots + (headSpec ws rm).room.slots ≤ R.slots := by rw [show (headSpec ws rm).room.slots = ms from hrs]; exact hp.2.1
  have hPc : Pc a (A.U.calling g mk a) := hblind _ _ _ _ hp.2.2
  obtain ⟨U, Ls, c0, s0⟩ := A
  dsimp only [Pt.U, Pt.locs, Pt.cells, Pt.slots] at h1 h2 h3 h4 h5 X hn hPc ⊢
  obtain ⟨methY, cY, hmY, hcY, -, hlY, -, -, -, -⟩ := Cond.code_spec hn h2
  obtain ⟨kY, hkY, -⟩ := className_of_methodNamed hn
  have hinitY : kY.init = .initialized := Cond.initialized_spec (findClass_of_methodNamed hn) hkY h3
  have h : At U g.method c below := by rw [hg]; exact X.here
  have hlocals9 : W9 + (maxL + 11) + (headSpec ws rm).room.locals ≤ R.locals := hlocals
  have happ : (headSpec ws rm).appliesLoose y e.platform (U.calling g mk a) = true :=
    Spec.appliesLoose_calling (g := g) h hdg hn hkY hinitY
      (X.room_calling (g := g) (R' := (headSpec ws rm).room) hsize hmY hcY hframes (by rw [hlY]; omega) h4 h5) h1
  obtain ⟨mid, hmid⟩ := h.above
  have hfr : (U.setTop g).frames = (.java g :: mid) ++ below := by rw [State.frames_setTop' g h.top, hmid]; rfl
  obtain ⟨o, s₂, hsteps, -, hend, hq⟩ := Steps.callFree hM p X.admits X.cas X.clock (acts := []) hfr happ hPc trivial
  have hq' : vx_Q Qc XC mc ms free a (U.calling g mk a) o s₂ := hq
  rw [State.frames_setTop' g h.top] at hend
  obtain ⟨g₀, hg0⟩ := Option.isSome_iff_exists.mp h.top
  obtain ⟨r, hr⟩ := State.topJava?_eq_some.mp hg0
  have hr' : (({ U with heap := s₂.heap, slotsUsed := s₂.slotsUsed } : State).setVm s₂.vm).frames = .java g₀ :: r := hr
  rcases hq' with ⟨hqc, L, hfe, hL⟩ | ⟨q, rfl, E, ce, L, hx, hce, hcv, hcl, hW₂, hsm, hL⟩
  · obtain ⟨⟨v, rfl⟩, hW₂, e2, q2, q3, q4, q5, q6⟩ := id hfe
    have e3 : s₂ = ({ (U.calling g mk a).setFrames s₂.frames with heap := s₂.heap, slotsUsed := s₂.slotsUsed } : State).setVm s₂.vm := by
      have : s₂ = ({ s₂ with vm := (U.calling g mk a).vm } : State).setVm s₂.vm := rfl
      rw [e2] at this
      exact this
    obtain ⟨c₂, i₂, len₂, hc₂, hd₂, hf₂⟩ := hend
    have hW' : U.WarmedH s₂.vm := hW₂
    have hcc : c₂ = c := by
      have h1 : s₂.code? g.method = U.code? g.method := by
        rw [State.code?_eq, State.code?_eq, hW'.alike.method?]
      exact Option.some.inj (hc₂.symm.trans (h1.trans h.code))
    subst hcc
    have hlen : len₂ = len := by rw [hdg] at hd₂; cases hd₂; rfl
    subst hlen
    have hs₂ : s₂ = (({ U with heap := s₂.heap, slotsUsed := s₂.slotsUsed } : State).setVm s₂.vm).setTop { g with pc := g.pc + len₂, stack := v.toList ++ g.stack } := by
      refine e3.trans ?_
      rw [hf₂, State.calling_eq h.top, State.setFrames_setFrames, State.setTop_of_frames _ hr', hr]
      rfl
    have hsame : U.sameButNew ({ U with heap := s₂.heap, slotsUsed := s₂.slotsUsed } : State) L mc ms := by
      refine ⟨?_, q2, q3, q4, q5, q6⟩
      obtain ⟨t, ht, -⟩ := State.frames_cons hr
      show ({ U with heap := s₂.heap, slotsUsed := s₂.slotsUsed } : State) = { U.setFrames U.frames with heap := s₂.heap, slotsUsed := s₂.slotsUsed }
      rw [State.setFrames_self ht]
    subst hg
    refine Or.inl ⟨v, ⟨(({ U with heap := s₂.heap, slotsUsed := s₂.slotsUsed } : State).setVm s₂.vm), Ls ++ L, c0 + mc, s0 + ms⟩,
      ⟨X.admits, X.cas, X.clock, X.frames, X.room, X.hears, X.method, X.code, (X.here.setHeapUsed s₂.heap s₂.slotsUsed).setVm hW'.alike, X.tail, State.WarmedH.trans X.warmed hW', X.limits, X.bytes, X.same.trans (hsame.setVm s.vm)⟩,
      ⟨g, mk, s₂, L, rfl, rfl, hqc, rfl, hL, rfl, rfl⟩, ?_⟩
    show Steps p.tables e below _ ((({ U with heap := s₂.heap, slotsUsed := s₂.slotsUsed } : State).setVm s₂.vm).setTop { g with pc := g.pc + len₂, stack := v.toList ++ g.stack })
    rw [← hs₂]
    exact hsteps
  · obtain ⟨e2, q2, q3, q4, q5, q6⟩ := id hsm
    have e3 : s₂ = ({ (U.calling g mk a).setFrames s₂.frames with heap := s₂.heap, slotsUsed := s₂.slotsUsed } : State).setVm s₂.vm := by
      have : s₂ = ({ s₂ with vm := (U.calling g mk a).vm } : State).setVm s₂.vm := rfl
      rw [e2] at this
      exact this
    have hf₂ : s₂.frames = .throwing q :: .java g :: U.frames.tail := hend
    have hW' : U.WarmedH s₂.vm := hW₂
    have hs₂ : s₂ = ((({ U with heap := s₂.heap, slotsUsed := s₂.slotsUsed } : State).setVm s₂.vm).setTop g).pushFrame (.throwing q) := by
      refine e3.trans ?_
      rw [hf₂, State.calling_eq h.top, State.setFrames_setFrames, State.pushFrame, State.frames_setTop _ hr', State.setTop_of_frames _ hr', State.setFrames_setFrames, hr]
      rfl
    have hsame : U.sameButNew ({ U with heap := s₂.heap, slotsUsed := s₂.slotsUsed } : State) L mc ms := by
      refine ⟨?_, q2, q3, q4, q5, q6⟩
      obtain ⟨t, ht, -⟩ := State.frames_cons hr
      show ({ U with heap := s₂.heap, slotsUsed := s₂.slotsUsed } : State) = { U.setFrames U.frames with heap := s₂.heap, slotsUsed := s₂.slotsUsed }
      rw [State.setFrames_self ht]
    subst hg
    refine Or.inr ⟨q, ⟨(({ U with heap := s₂.heap, slotsUsed := s₂.slotsUsed } : State).setVm s₂.vm), Ls ++ L, c0 + mc, s0 + ms⟩,
      ⟨X.admits, X.cas, X.clock, X.frames, X.room, X.hears, X.method, X.code, (X.here.setHeapUsed s₂.heap s₂.slotsUsed).setVm hW'.alike, X.tail, State.WarmedH.trans X.warmed hW', X.limits, X.bytes, X.same.trans (hsame.setVm s.vm)⟩,
      ⟨g, mk, s₂, L, E, ce, rfl, rfl, hx, hce, hcv, hcl, rfl, hL, rfl, rfl⟩, ?_⟩
    show Steps p.tables e below _ (((({ U with heap := s₂.heap, slotsUsed := s₂.slotsUsed } : State).setVm s₂.vm).setTop g).pushFrame (.throwing q))
    rw [← hs₂]
    exact hsteps
end Payer
section Calls
variable {p : Program} {l : Launch} {e : Env} {R : Room} {s : State} {m : MethodId} {args : Array Value} {below : List Frame} {meth : Method} {c : Code} {T : State} {locs : List Loc} {cells slots : Nat}
theorem vx_callV (X : Stand p l e R s m args below meth c T locs cells slots) (hexec : p.tables.exec = Jvm.exec) {own C : String} {index : Nat} {y : MethodName} {bytes : ByteArray} {maxL : Nat} {ret : Option FieldType}
    (hown : s.vm.findClass own = some m.cls) (hlink : (Cond.methodLink own index y).before args s = true) (hinst : (Cond.instanceMethod y).before args s = true) (hsel : (Cond.selects C y y).before args s = true)
    (hcode : (Cond.code y bytes maxL ret).before args s = true) (hy : y.cls ≠ "java/lang/invoke/MethodHandle" ∧ y.cls ≠ "java/lang/invoke/VarHandle")
    {W9 : Nat} {Pre : Pt → Array Value → Prop} {Post : Pt → Array Value → Option Value → Pt → Prop} {PostX : Pt → Array Value → Addr → Pt → Prop} (hK : vx_Back l R p e below s args y 3 W9 Pre Post PostX)
    {b : Addr} {cellB : Cell} (hcell : T.heap[b]? = some cellB) (hobj : cellB.vm.isStatics = false) (hcls : s.vm.findClass C = some cellB.cls)
    {g : JFrame} (hg : g.method = m) (hsize : g.locals.size = c.maxLocals) {argsL rest : List Value} (hlen : ∀ sig, parseMethodDescriptor y.desc = some sig → argsL.length = sig.parameters.length)
    (hstack : g.stack = argsL.reverse ++ .ref b :: rest) (hW : 2 * g.monitorRoom + (rest.map fun v => v.category).sum ≤ W9) (hdg : decode c.code g.pc = .ok (.invokevirtual index, 3))
    (hpre : ∀ vm₁, s.WarmedH vm₁ → Pre ⟨T.setVm vm₁, locs, cells, slots⟩ (Value.ref b :: argsL).toArray) :
    (∃ (v : Option Value) (vm₁ : Vm) (B : Pt), s.WarmedH vm₁ ∧ Stand p l e R s m args below meth c B.U B.locs B.cells B.slots ∧ Post ⟨T.setVm vm₁, locs, cells, slots⟩ (Value.ref b :: argsL).toArray v B ∧
      ∀ target, Steps p.tables e below (B.U.setTop { g with pc := g.pc + 3, stack := v.toList ++ rest }) target → Steps p.tables e below (T.setTop g) target) ∨
    (∃ (q : Addr) (vm₁ : Vm) (B : Pt), s.WarmedH vm₁ ∧ Stand p l e R s m args below meth c B.U B.locs B.cells B.slots ∧ PostX ⟨T.setVm vm₁, locs, cells, slots⟩ (Value.ref b :: argsL).toArray q B ∧
      Steps p.tables e below (T.setTop g) ((B.U.setTop { g with stack := rest }).pushFrame (.throwing q))) := by
  obtain ⟨mk, methM, hnamed, hmethM, hstM, habM⟩ := Cond.instanceMethod_spec hinst
  obtain ⟨methM', cM, hmethM', -, -, -, -, -, -, hsigM⟩ := Cond.code_spec hnamed hcode
  cases hmethM.symm.trans hmethM'
  obtain ⟨c2, r2, m2, q1, q2, q3, q4, kP, hkP, hkPi⟩ := Cond.selects_spec hsel
  cases hcls.symm.trans q1
  cases (State.methodFound?_of_named hnamed hy).symm.trans q2
  cases hnamed.symm.trans q3
  have hselP : selectMethod e.platform s.vm cellB.cls mk = .method mk := by rw [Launch.admits_selectMethod X.admits]; exact q4
  obtain ⟨vm₁, X₁, hstep₁⟩ := X.invokevirtual hexec hown hlink hnamed hmethM hstM hkP hkPi hy (a := b) (cell := cellB) hcell
    (fun z h => by rw [h] at hobj; cases hobj) hselP hmethM habM hkP hkPi (g := g) hg (argsL := argsL) (rest := rest) (hlen _ hsigM) hstack hdg
  rcases hK m meth c ⟨T.setVm vm₁, locs, cells, slots⟩ { g with stack := rest } (.invokevirtual index) mk (Value.ref b :: argsL).toArray X₁ hg hsize hdg hW (X₁.named hnamed) (hpre vm₁ X₁.warmed) with ⟨v, B, X', hpost, hsteps⟩ | ⟨q, B, X', hpost, hsteps⟩
  · exact Or.inl ⟨v, vm₁, B, X₁.warmed, X', hpost, fun target h => hstep₁ _ fun acts => by rw [doInvoke_state]; exact hsteps.trans h⟩
  · exact Or.inr ⟨q, vm₁, B, X₁.warmed, X', hpost, hstep₁ _ fun acts => by rw [doInvoke_state]; exact hsteps⟩
theorem vx_callS (X : Stand p l e R s m args below meth c T locs cells slots) (hexec : p.tables.exec = Jvm.exec) {own : String} {index : Nat} {y : MethodName} {bytes : ByteArray} {maxL : Nat} {ret : Option FieldType}
    (hown : s.vm.findClass own = some m.cls) (hlink : (Cond.methodLink own index y).before args s = true) (hstat : (Cond.static y).before args s = true) (hinit : (Cond.initialized y.cls).before args s = true)
    (hcode : (Cond.code y bytes maxL ret).before args s = true) (hy : y.cls ≠ "java/lang/invoke/MethodHandle" ∧ y.cls ≠ "java/lang/invoke/VarHandle")
    {W9 : Nat} {Pre : Pt → Array Value → Prop} {Post : Pt → Array Value → Option Value → Pt → Prop} {PostX : Pt → Array Value → Addr → Pt → Prop} (hK : vx_Back l R p e below s args y 3 W9 Pre Post PostX)
    {g : JFrame} (hg : g.method = m) (hsize : g.locals.size = c.maxLocals) {argsL rest : List Value} (hlen : ∀ sig, parseMethodDescriptor y.desc = some sig → argsL.length = sig.parameters.length)
    (hstack : g.stack = argsL.reverse ++ rest) (hW : 2 * g.monitorRoom + (rest.map fun v => v.category).sum ≤ W9) (hdg : decode c.code g.pc = .ok (.invokestatic index, 3))
    (hpre : ∀ vm₁, s.WarmedH vm₁ → Pre ⟨T.setVm vm₁, locs, cells, slots⟩ argsL.toArray) :
    (∃ (v : Option Value) (vm₁ : Vm) (B : Pt), s.WarmedH vm₁ ∧ Stand p l e R s m args below meth c B.U B.locs B.cells B.slots ∧ Post ⟨T.setVm vm₁, locs, cells, slots⟩ argsL.toArray v B ∧
      ∀ target, Steps p.tables e below (B.U.setTop { g with pc := g.pc + 3, stack := v.toList ++ rest }) target → Steps p.tables e below (T.setTop g) target) ∨
    (∃ (q : Addr) (vm₁ : Vm) (B : Pt), s.WarmedH vm₁ ∧ Stand p l e R s m args below meth c B.U B.locs B.cells B.slots ∧ PostX ⟨T.setVm vm₁, locs, cells, slots⟩ argsL.toArray q B ∧
      Steps p.tables e below (T.setTop g) ((B.U.setTop { g with stack := rest }).pushFrame (.throwing q))) := by
  obtain ⟨mk, hnamed⟩ := Cond.code_named hcode
  obtain ⟨methM, cM, hmethM, -, -, -, -, -, -, hsigM⟩ := Cond.code_spec hnamed hcode
  have hstatic : methM.isStatic = true := Cond.static_spec hnamed hmethM hstat
  obtain ⟨kP, hkP, -⟩ := className_of_methodNamed hnamed
  have hinitP : kP.init = .initialized := Cond.initialized_spec (findClass_of_methodNamed hnamed) hkP hinit
  obtain ⟨vm₁, X₁, hstep₁⟩ := X.invokestatic hexec hown hlink hnamed hmethM hstatic hkP hinitP hy (g := g) hg (argsL := argsL) (rest := rest) (hlen _ hsigM) hstack hdg
  rcases hK m meth c ⟨T.setVm vm₁, locs, cells, slots⟩ { g with stack := rest } (.invokestatic index) mk argsL.toArray X₁ hg hsize hdg hW (X₁.named hnamed) (hpre vm₁ X₁.warmed) with ⟨v, B, X', hpost, hsteps⟩ | ⟨q, B, X', hpost, hsteps⟩
  · exact Or.inl ⟨v, vm₁, B, X₁.warmed, X', hpost, fun target h => hstep₁ _ fun acts => by rw [doInvoke_state]; exact hsteps.trans h⟩
  · exact Or.inr ⟨q, vm₁, B, X₁.warmed, X', hpost, hstep₁ _ fun acts => by rw [doInvoke_state]; exact hsteps⟩
end Calls
theorem vx_cls {s : State} {T : State} {vm₁ : Vm} {E : String} {k : ClassId} (hW : s.WarmedH vm₁) (h : (T.setVm vm₁).vm.findClass E = some k) : s.vm.findClass E = some k := by
  have h1 : vm₁.findClass E = some k := h
  rw [hW.alike.findClass] at h1
  exact h1
/-- the method's frame g, with q thrown over it -/
def vx_W (p : Program) (l : Launch) (e : Env) (R : Room) (s : State) (m : MethodId) (args : Array Value) (below : List Frame) (meth : Method) (c : Code) (H : Heap) (locs : List Loc) (cells slots : Nat) (Q : State → Prop) (g : JFrame) (q : Addr) : Prop :=
  ∀ T : State, T.heap = H → Stand p l e R s m args below meth c T locs cells slots → ∃ t, Steps p.tables e below ((T.setTop g).pushFrame (.throwing q)) t ∧ Q t
def vx_Run (p : Program) (l : Launch) (e : Env) (R : Room) (s : State) (m : MethodId) (args : Array Value) (below : List Frame) (meth : Method) (c : Code) (H : Heap) (locs : List Loc) (cells slots mc ms : Nat) (g : JFrame) (rest : List Value) (Qa : State → Outcome → State → Prop) (XC : String → State → State → Prop) (free : Addr → Prop) : Prop :=
  ∀ T : State, T.heap = H → Stand p l e R s m args below meth c T locs cells slots →
    (∃ (v : Option Value) (st₀ t T' : State) (L : List Loc), st₀.heap = H ∧ Stand p l e R s m args below meth c T' (locs ++ L) (cells + mc) (slots + ms) ∧ (∀ q ∈ L, free q.base) ∧ T'.heap = t.heap ∧ T'.vm = t.vm ∧ Qa st₀ (.returned v) t ∧
      Goes p e below T g T' { g with pc := g.pc + 3, stack := v.toList ++ rest }) ∨
    (∃ (q : Addr) (st₀ t T' : State) (L : List Loc) (E : String) (ce : Cell), st₀.heap = H ∧ Stand p l e R s m args below meth c T' (locs ++ L) (cells + mc) (slots + ms) ∧ (∀ z ∈ L, free z.base) ∧ T'.heap = t.heap ∧ T'.vm = t.vm ∧ XC E st₀ t ∧ t.heap[q]? = some ce ∧ ce.vm = .none ∧ s.vm.findClass E = some ce.cls ∧
      Steps p.tables e below (T.setTop g) ((T'.setTop { g with stack := rest }).pushFrame (.throwing q)))
def vx_X {S : Type} (px : S → Prop) (B : String → S → State → Prop) (A : Nat → Prop) : String → State → State → Prop := fun E st t => ∃ u : S, px u ∧ B E u t ∧ va_F A st t
section Runs
variable {p : Program} {l : Launch} {e : Env} {R : Room} {s : State} {m : MethodId} {args : Array Value} {below : List Frame} {meth : Method} {c : Code} {H : Heap} {locs : List Loc} {cells slots : Nat}
variable {y : MethodName} {bytes cc : ByteArray} {maxL nL mc ms n index : Nat} {ret : Option FieldType} {ws : List Cond} {rm : Room} {Pc : Array Value → State → Prop} {Qc : Array Value → State → Outcome → State → Prop} {XC : String → State → State → Prop} {free : Addr → Prop} {Ts : List Cond} {own C : String} {b : Addr} {As rest : List Value} {g : JFrame}
theorem vx_callBack (cb : CallB R s args own index y bytes maxL ret ws rm mc ms n) (hM : vx_Met l y ws rm Pc Qc XC mc ms free) (hbl : FrameBlind Pc) : vx_Back l R p e below s args y 3 8 (PreOf R mc ms Pc) (PostOf Qc mc ms free) (vx_Post XC mc ms free) := by
  obtain ⟨hrc, hrs, hfr, hlo, hws, hcw, -, hini, -⟩ := cb
  exact vx_back (bytes := bytes) (maxL := maxL) (ret := ret) hM hbl hrc hrs hfr hlo hws hcw (fun a' U hW => word_at hW (Or.inl (by first | rfl | simp [Cond.onTables, Cond.keeps, Cond.steady])) hini)
theorem vx_runV (S : CallFix p m c cc nL s args Ts own) (hM : vx_Met l y ws rm Pc Qc XC mc ms free) (cw : CallW R s args own C index y bytes maxL ret ws rm mc ms n) (hp : PreV s H C b Pc As)
    (hg : g.method = m) (hn : As.length = n) (hsize : g.locals.size = nL) (hstack : g.stack = As.reverse ++ .ref b :: rest) (hW : 2 * g.monitorRoom + (rest.map fun v => v.category).sum ≤ 8) (hdg : decode cc g.pc = .ok (.invokevirtual index, 3)) (hf : cells + mc ≤ R.cells ∧ slots + ms ≤ R.slots) :
    vx_Run p l e R s m args below meth c H locs cells slots mc ms g rest (Qc (Value.ref b :: As).toArray) XC free := by
  have hK : vx_Back l R p e below s args y 3 8 (PreOf R mc ms Pc) (PostOf Qc mc ms free) (vx_Post XC mc ms free) := vx_callBack cw.1 hM hp.1
  obtain ⟨⟨-, -, -, -, -, -, hcode, -, hy, hlen, hl⟩, hin, hse⟩ := cw
  obtain ⟨hx, hb, hml, ho, -⟩ := S
  obtain ⟨-, ⟨cellB, hcB, hoB, hclB⟩, hPc⟩ := hp
  intro T hT X
  rcases vx_callV X hx (C := C) (bytes := bytes) (maxL := maxL) (ret := ret) ho hl hin hse hcode hy hK (by rw [hT]; exact hcB) hoB hclB hg (hsize.trans hml.symm) (argsL := As) (rest := rest) (fun sig h => hn.trans (hlen sig h)) hstack hW (by rw [hb]; exact hdg)
    (fun vm₁ hW₁ => ⟨hf.1, hf.2, hPc (T.setVm vm₁) hT hW₁⟩) with ⟨v, vm₁, ⟨U', l2, c2, s2⟩, hW₁, X', ⟨g', mk, t, L, e1, e2, hq, h1, hL, h2, h3⟩, st⟩ | ⟨q, vm₁, ⟨U', l2, c2, s2⟩, hW₁, X', ⟨g', mk, t, L, E, ce, e1, e2, hq, hce, hcv, hcl, h1, hL, h2, h3⟩, st⟩
  · dsimp only [Pt.U, Pt.locs, Pt.cells, Pt.slots] at X' e1 e2 h1 h2 h3 st
    subst h1; subst h2; subst h3
    exact Or.inl ⟨v, (T.setVm vm₁).calling g' mk (Value.ref b :: As).toArray, t, U', L, hT, X', hL, e1, e2, hq, st⟩
  · dsimp only [Pt.U, Pt.locs, Pt.cells, Pt.slots] at X' e1 e2 h1 h2 h3 st hcl
    subst h1; subst h2; subst h3
    exact Or.inr ⟨q, (T.setVm vm₁).calling g' mk (Value.ref b :: As).toArray, t, U', L, E, ce, hT, X', hL, e1, e2, hq, hce, hcv, vx_cls hW₁ hcl, st⟩
theorem vx_runS (S : CallFix p m c cc nL s args Ts own) (hM : vx_Met l y ws rm Pc Qc XC mc ms free) (cw : CallB R s args own index y bytes maxL ret ws rm mc ms n ∧ (Cond.static y).before args s = true) (hp : PreS s H Pc As)
    (hg : g.method = m) (hn : As.length = n) (hsize : g.locals.size = nL) (hstack : g.stack = As.reverse ++ rest) (hW : 2 * g.monitorRoom + (rest.map fun v => v.category).sum ≤ 8) (hdg : decode cc g.pc = .ok (.invokestatic index, 3)) (hf : cells + mc ≤ R.cells ∧ slots + ms ≤ R.slots) :
    vx_Run p l e R s m args below meth c H locs cells slots mc ms g rest (Qc As.toArray) XC free := by
  have hK : vx_Back l R p e below s args y 3 8 (PreOf R mc ms Pc) (PostOf Qc mc ms free) (vx_Post XC mc ms free) := vx_callBack cw.1 hM hp.1
  obtain ⟨⟨-, -, -, -, -, -, hcode, hini, hy, hlen, hl⟩, hstt⟩ := cw
  obtain ⟨hx, hb, hml, ho, -⟩ := S
  intro T hT X
  rcases vx_callS X hx (bytes := bytes) (maxL := maxL) (ret := ret) ho hl hstt hini hcode hy hK hg (hsize.trans hml.symm) (argsL := As) (rest := rest) (fun sig h => hn.trans (hlen sig h)) hstack hW (by rw [hb]; exact hdg)
    (fun vm₁ hW₁ => ⟨hf.1, hf.2, hp.2 (T.setVm vm₁) hT hW₁⟩) with ⟨v, vm₁, ⟨U', l2, c2, s2⟩, hW₁, X', ⟨g', mk, t, L, e1, e2, hq, h1, hL, h2, h3⟩, st⟩ | ⟨q, vm₁, ⟨U', l2, c2, s2⟩, hW₁, X', ⟨g', mk, t, L, E, ce, e1, e2, hq, hce, hcv, hcl, h1, hL, h2, h3⟩, st⟩
  · dsimp only [Pt.U, Pt.locs, Pt.cells, Pt.slots] at X' e1 e2 h1 h2 h3 st
    subst h1; subst h2; subst h3
    exact Or.inl ⟨v, (T.setVm vm₁).calling g' mk As.toArray, t, U', L, hT, X', hL, e1, e2, hq, st⟩
  · dsimp only [Pt.U, Pt.locs, Pt.cells, Pt.slots] at X' e1 e2 h1 h2 h3 st hcl
    subst h1; subst h2; subst h3
    exact Or.inr ⟨q, (T.setVm vm₁).calling g' mk As.toArray, t, U', L, E, ce, hT, X', hL, e1, e2, hq, hce, hcv, vx_cls hW₁ hcl, st⟩
end Runs
section Rows
variable {p : Program} {l : Launch} {e : Env} {R : Room} {s : State} {m : MethodId} {args : Array Value} {below : List Frame} {meth : Method} {c : Code} {H : Heap} {locs : List Loc} {cells slots : Nat} {Q : State → Prop}
variable {mc ms : Nat} {free : Addr → Prop} {A0 A1 : Nat → Prop} {H0 : Heap} {a : Array Value} {pc : Nat} {ls : Array Slot} {st0 rest : List Value}
theorem vx_keep {st₀ t T' : State} {L : List Loc} (h0 : st₀.heap = H) (e1 : T'.heap = t.heap) (hS : va_S A0 H0 H locs) (hA : ∀ q, q < H.size → A1 q → A0 q) (hf : ∀ q, free q → A0 q) (hL : ∀ q ∈ L, free q.base) (hF : va_F A1 st₀ t) :
    H.size ≤ T'.heap.size ∧ (∀ q : Nat, q < H.size → ¬ A1 q → T'.heap[q]? = H[q]?) ∧ va_S A0 H0 T'.heap (locs ++ L) := by
  obtain ⟨hz, hk⟩ := hF
  rw [h0] at hz hk
  exact ⟨by rw [e1]; exact hz, fun q h1 h2 => by rw [e1]; exact hk q h1 h2,
    ⟨Nat.le_trans hS.1 (by rw [e1]; exact hz), fun q h1 h2 => by rw [e1, hk q (Nat.lt_of_lt_of_le h1 hS.1) (fun z => h2 (hA q (Nat.lt_of_lt_of_le h1 hS.1) z))]; exact hS.2.1 q h1 h2, fun q hq => by
      rcases List.mem_append.mp hq with h | h
      · exact hS.2.2 q h
      · exact hf _ (hL q h)⟩⟩
theorem vx_calli {S SX : Type} {post : Int32 → S → Prop} {px : SX → Prop} {B : S → State → Prop} {BX : String → SX → State → Prop} {AX : Nat → Prop} (hr : vx_Run p l e R s m args below meth c H locs cells slots mc ms (F0 m pc ls st0) rest (va_Qi post B A1 a) (vx_X px BX AX) free) (hS : va_S A0 H0 H locs) (hA : ∀ q, q < H.size → A1 q → A0 q) (hf : ∀ q, free q → A0 q) (hAX : ∀ q, q < H.size → AX q → A0 q)
    (kx : ∀ (E : String) (ce : Cell) (q9 : Addr) (u : SX) (t : State) (H1 : Heap) (locs1 : List Loc), t.heap = H1 → s.vm.Alike t.vm → px u → BX E u t → H.size ≤ H1.size → (∀ q : Nat, q < H.size → ¬ AX q → H1[q]? = H[q]?) → va_S A0 H0 H1 locs1 → H1[q9]? = some ce → ce.vm = .none → s.vm.findClass E = some ce.cls → vx_W p l e R s m args below meth c H1 locs1 (cells + mc) (slots + ms) Q (F0 m pc ls rest) q9)
    (kk : ∀ (r : Int32) (u : S) (t : State) (H1 : Heap) (locs1 : List Loc), t.heap = H1 → s.vm.Alike t.vm → post r u → B u t → H.size ≤ H1.size → (∀ q : Nat, q < H.size → ¬ A1 q → H1[q]? = H[q]?) → va_S A0 H0 H1 locs1 → W p l e R s m args below meth c H1 locs1 (cells + mc) (slots + ms) Q (F0 m (pc + 3) ls (.int r :: rest))) : W p l e R s m args below meth c H locs cells slots Q (F0 m pc ls st0) := by
  intro T hT X
  rcases hr T hT X with ⟨v, st₀, t, T', L, h0, X', hL, e1, e2, ⟨⟨r, u, hv, hp, hb⟩, hF⟩, st⟩ | ⟨q, st₀, t, T', L, E, ce, h0, X', hL, e1, e2, ⟨u, hp, hb, hF⟩, hce, hcv, hcl, st⟩
  · cases hv
    obtain ⟨k1, k2, k3⟩ := vx_keep h0 e1 hS hA hf hL hF
    obtain ⟨t2, a1, b1⟩ := kk r u t T'.heap (locs ++ L) e1.symm (by rw [← e2]; exact X'.warmed.alike) hp hb k1 k2 k3 T' rfl X'
    exact ⟨t2, st t2 a1, b1⟩
  · obtain ⟨k1, k2, k3⟩ := vx_keep h0 e1 hS hAX hf hL hF
    obtain ⟨t2, a1, b1⟩ := kx E ce q u t T'.heap (locs ++ L) e1.symm (by rw [← e2]; exact X'.warmed.alike) hp hb k1 k2 k3 (by rw [e1]; exact hce) hcv hcl T' rfl X'
    exact ⟨t2, st.trans a1, b1⟩
theorem vx_calll {S SX : Type} {post : Int64 → S → Prop} {px : SX → Prop} {B : S → State → Prop} {BX : String → SX → State → Prop} {AX : Nat → Prop} (hr : vx_Run p l e R s m args below meth c H locs cells slots mc ms (F0 m pc ls st0) rest (va_Ql post B A1 a) (vx_X px BX AX) free) (hS : va_S A0 H0 H locs) (hA : ∀ q, q < H.size → A1 q → A0 q) (hf : ∀ q, free q → A0 q) (hAX : ∀ q, q < H.size → AX q → A0 q)
    (kx : ∀ (E : String) (ce : Cell) (q9 : Addr) (u : SX) (t : State) (H1 : Heap) (locs1 : List Loc), t.heap = H1 → s.vm.Alike t.vm → px u → BX E u t → H.size ≤ H1.size → (∀ q : Nat, q < H.size → ¬ AX q → H1[q]? = H[q]?) → va_S A0 H0 H1 locs1 → H1[q9]? = some ce → ce.vm = .none → s.vm.findClass E = some ce.cls → vx_W p l e R s m args below meth c H1 locs1 (cells + mc) (slots + ms) Q (F0 m pc ls rest) q9)
    (kk : ∀ (r : Int64) (u : S) (t : State) (H1 : Heap) (locs1 : List Loc), t.heap = H1 → s.vm.Alike t.vm → post r u → B u t → H.size ≤ H1.size → (∀ q : Nat, q < H.size → ¬ A1 q → H1[q]? = H[q]?) → va_S A0 H0 H1 locs1 → W p l e R s m args below meth c H1 locs1 (cells + mc) (slots + ms) Q (F0 m (pc + 3) ls (.long r :: rest))) : W p l e R s m args below meth c H locs cells slots Q (F0 m pc ls st0) := by
  intro T hT X
  rcases hr T hT X with ⟨v, st₀, t, T', L, h0, X', hL, e1, e2, ⟨⟨r, u, hv, hp, hb⟩, hF⟩, st⟩ | ⟨q, st₀, t, T', L, E, ce, h0, X', hL, e1, e2, ⟨u, hp, hb, hF⟩, hce, hcv, hcl, st⟩
  · cases hv
    obtain ⟨k1, k2, k3⟩ := vx_keep h0 e1 hS hA hf hL hF
    obtain ⟨t2, a1, b1⟩ := kk r u t T'.heap (locs ++ L) e1.symm (by rw [← e2]; exact X'.warmed.alike) hp hb k1 k2 k3 T' rfl X'
    exact ⟨t2, st t2 a1, b1⟩
  · obtain ⟨k1, k2, k3⟩ := vx_keep h0 e1 hS hAX hf hL hF
    obtain ⟨t2, a1, b1⟩ := kx E ce q u t T'.heap (locs ++ L) e1.symm (by rw [← e2]; exact X'.warmed.alike) hp hb k1 k2 k3 (by rw [e1]; exact hce) hcv hcl T' rfl X'
    exact ⟨t2, st.trans a1, b1⟩
theorem vx_callf {S SX : Type} {post : UInt32 → S → Prop} {px : SX → Prop} {B : S → State → Prop} {BX : String → SX → State → Prop} {AX : Nat → Prop} (hr : vx_Run p l e R s m args below meth c H locs cells slots mc ms (F0 m pc ls st0) rest (va_Qf post B A1 a) (vx_X px BX AX) free) (hS : va_S A0 H0 H locs) (hA : ∀ q, q < H.size → A1 q → A0 q) (hf : ∀ q, free q → A0 q) (hAX : ∀ q, q < H.size → AX q → A0 q)
    (kx : ∀ (E : String) (ce : Cell) (q9 : Addr) (u : SX) (t : State) (H1 : Heap) (locs1 : List Loc), t.heap = H1 → s.vm.Alike t.vm → px u → BX E u t → H.size ≤ H1.size → (∀ q : Nat, q < H.size → ¬ AX q → H1[q]? = H[q]?) → va_S A0 H0 H1 locs1 → H1[q9]? = some ce → ce.vm = .none → s.vm.findClass E = some ce.cls → vx_W p l e R s m args below meth c H1 locs1 (cells + mc) (slots + ms) Q (F0 m pc ls rest) q9)
    (kk : ∀ (r : UInt32) (u : S) (t : State) (H1 : Heap) (locs1 : List Loc), t.heap = H1 → s.vm.Alike t.vm → post r u → B u t → H.size ≤ H1.size → (∀ q : Nat, q < H.size → ¬ A1 q → H1[q]? = H[q]?) → va_S A0 H0 H1 locs1 → W p l e R s m args below meth c H1 locs1 (cells + mc) (slots + ms) Q (F0 m (pc + 3) ls (.float r :: rest))) : W p l e R s m args below meth c H locs cells slots Q (F0 m pc ls st0) := by
  intro T hT X
  rcases hr T hT X with ⟨v, st₀, t, T', L, h0, X', hL, e1, e2, ⟨⟨r, u, hv, hp, hb⟩, hF⟩, st⟩ | ⟨q, st₀, t, T', L, E, ce, h0, X', hL, e1, e2, ⟨u, hp, hb, hF⟩, hce, hcv, hcl, st⟩
  · cases hv
    obtain ⟨k1, k2, k3⟩ := vx_keep h0 e1 hS hA hf hL hF
    obtain ⟨t2, a1, b1⟩ := kk r u t T'.heap (locs ++ L) e1.symm (by rw [← e2]; exact X'.warmed.alike) hp hb k1 k2 k3 T' rfl X'
    exact ⟨t2, st t2 a1, b1⟩
  · obtain ⟨k1, k2, k3⟩ := vx_keep h0 e1 hS hAX hf hL hF
    obtain ⟨t2, a1, b1⟩ := kx E ce q u t T'.heap (locs ++ L) e1.symm (by rw [← e2]; exact X'.warmed.alike) hp hb k1 k2 k3 (by rw [e1]; exact hce) hcv hcl T' rfl X'
    exact ⟨t2, st.trans a1, b1⟩
theorem vx_calld {S SX : Type} {post : UInt64 → S → Prop} {px : SX → Prop} {B : S → State → Prop} {BX : String → SX → State → Prop} {AX : Nat → Prop} (hr : vx_Run p l e R s m args below meth c H locs cells slots mc ms (F0 m pc ls st0) rest (va_Qd post B A1 a) (vx_X px BX AX) free) (hS : va_S A0 H0 H locs) (hA : ∀ q, q < H.size → A1 q → A0 q) (hf : ∀ q, free q → A0 q) (hAX : ∀ q, q < H.size → AX q → A0 q)
    (kx : ∀ (E : String) (ce : Cell) (q9 : Addr) (u : SX) (t : State) (H1 : Heap) (locs1 : List Loc), t.heap = H1 → s.vm.Alike t.vm → px u → BX E u t → H.size ≤ H1.size → (∀ q : Nat, q < H.size → ¬ AX q → H1[q]? = H[q]?) → va_S A0 H0 H1 locs1 → H1[q9]? = some ce → ce.vm = .none → s.vm.findClass E = some ce.cls → vx_W p l e R s m args below meth c H1 locs1 (cells + mc) (slots + ms) Q (F0 m pc ls rest) q9)
    (kk : ∀ (r : UInt64) (u : S) (t : State) (H1 : Heap) (locs1 : List Loc), t.heap = H1 → s.vm.Alike t.vm → post r u → B u t → H.size ≤ H1.size → (∀ q : Nat, q < H.size → ¬ A1 q → H1[q]? = H[q]?) → va_S A0 H0 H1 locs1 → W p l e R s m args below meth c H1 locs1 (cells + mc) (slots + ms) Q (F0 m (pc + 3) ls (.double r :: rest))) : W p l e R s m args below meth c H locs cells slots Q (F0 m pc ls st0) := by
  intro T hT X
  rcases hr T hT X with ⟨v, st₀, t, T', L, h0, X', hL, e1, e2, ⟨⟨r, u, hv, hp, hb⟩, hF⟩, st⟩ | ⟨q, st₀, t, T', L, E, ce, h0, X', hL, e1, e2, ⟨u, hp, hb, hF⟩, hce, hcv, hcl, st⟩
  · cases hv
    obtain ⟨k1, k2, k3⟩ := vx_keep h0 e1 hS hA hf hL hF
    obtain ⟨t2, a1, b1⟩ := kk r u t T'.heap (locs ++ L) e1.symm (by rw [← e2]; exact X'.warmed.alike) hp hb k1 k2 k3 T' rfl X'
    exact ⟨t2, st t2 a1, b1⟩
  · obtain ⟨k1, k2, k3⟩ := vx_keep h0 e1 hS hAX hf hL hF
    obtain ⟨t2, a1, b1⟩ := kx E ce q u t T'.heap (locs ++ L) e1.symm (by rw [← e2]; exact X'.warmed.alike) hp hb k1 k2 k3 (by rw [e1]; exact hce) hcv hcl T' rfl X'
    exact ⟨t2, st.trans a1, b1⟩
theorem vx_callv {S SX : Type} {post : S → Prop} {px : SX → Prop} {B : S → State → Prop} {BX : String → SX → State → Prop} {AX : Nat → Prop} (hr : vx_Run p l e R s m args below meth c H locs cells slots mc ms (F0 m pc ls st0) rest (va_Qv post B A1 a) (vx_X px BX AX) free) (hS : va_S A0 H0 H locs) (hA : ∀ q, q < H.size → A1 q → A0 q) (hf : ∀ q, free q → A0 q) (hAX : ∀ q, q < H.size → AX q → A0 q)
    (kx : ∀ (E : String) (ce : Cell) (q9 : Addr) (u : SX) (t : State) (H1 : Heap) (locs1 : List Loc), t.heap = H1 → s.vm.Alike t.vm → px u → BX E u t → H.size ≤ H1.size → (∀ q : Nat, q < H.size → ¬ AX q → H1[q]? = H[q]?) → va_S A0 H0 H1 locs1 → H1[q9]? = some ce → ce.vm = .none → s.vm.findClass E = some ce.cls → vx_W p l e R s m args below meth c H1 locs1 (cells + mc) (slots + ms) Q (F0 m pc ls rest) q9)
    (kk : ∀ (u : S) (t : State) (H1 : Heap) (locs1 : List Loc), t.heap = H1 → s.vm.Alike t.vm → post u → B u t → H.size ≤ H1.size → (∀ q : Nat, q < H.size → ¬ A1 q → H1[q]? = H[q]?) → va_S A0 H0 H1 locs1 → W p l e R s m args below meth c H1 locs1 (cells + mc) (slots + ms) Q (F0 m (pc + 3) ls (rest))) : W p l e R s m args below meth c H locs cells slots Q (F0 m pc ls st0) := by
  intro T hT X
  rcases hr T hT X with ⟨v, st₀, t, T', L, h0, X', hL, e1, e2, ⟨⟨u, hv, hp, hb⟩, hF⟩, st⟩ | ⟨q, st₀, t, T', L, E, ce, h0, X', hL, e1, e2, ⟨u, hp, hb, hF⟩, hce, hcv, hcl, st⟩
  · cases hv
    obtain ⟨k1, k2, k3⟩ := vx_keep h0 e1 hS hA hf hL hF
    obtain ⟨t2, a1, b1⟩ := kk u t T'.heap (locs ++ L) e1.symm (by rw [← e2]; exact X'.warmed.alike) hp hb k1 k2 k3 T' rfl X'
    exact ⟨t2, st t2 a1, b1⟩
  · obtain ⟨k1, k2, k3⟩ := vx_keep h0 e1 hS hAX hf hL hF
    obtain ⟨t2, a1, b1⟩ := kx E ce q u t T'.heap (locs ++ L) e1.symm (by rw [← e2]; exact X'.warmed.alike) hp hb k1 k2 k3 (by rw [e1]; exact hce) hcv hcl T' rfl X'
    exact ⟨t2, st.trans a1, b1⟩
end Rows
section Ends
variable {p : Program} {l : Launch} {e : Env} {R : Room} {s : State} {m : MethodId} {args : Array Value} {below : List Frame} {meth : Method} {c : Code} {H : Heap} {locs : List Loc} {cells slots : Nat} {Q : State → Prop}
variable {mc ms : Nat} {free : Addr → Prop} {A0 A1 : Nat → Prop} {H0 : Heap} {a : Array Value} {ls : Array Slot} {st0 rest : List Value}
variable {Qc : Array Value → State → Outcome → State → Prop} {XC : String → State → State → Prop}
/-- what a body that may throw owes at its end -/
def vx_MQ (below : List Frame) (Qc : Array Value → State → Outcome → State → Prop) (XC : String → State → State → Prop) (a : Array Value) (s : State) (mc ms : Nat) (free : Addr → Prop) : State → Prop := fun t =>
  ∃ o, t.status = .running ∧ Ended t below o ∧ vx_Q Qc XC mc ms free a s o t
theorem vx_ret {g : JFrame} {mc ms : Nat} (k : W p l e R s m args below meth c H locs cells slots (MQ below Qc args s mc ms free) g) : W p l e R s m args below meth c H locs cells slots (vx_MQ below Qc XC args s mc ms free) g := by
  intro T hT X
  obtain ⟨t, a1, o, b1, b2, b3, b4⟩ := k T hT X
  exact ⟨t, a1, o, b1, b2, Or.inl ⟨b3, b4⟩⟩
/-- not caught here: it goes on to the caller -/
theorem vx_widen {g : JFrame} {q : Addr} {k n : Nat} (h1 : cells ≤ k) (h2 : slots ≤ n) (kk : vx_W p l e R s m args below meth c H locs k n Q g q) : vx_W p l e R s m args below meth c H locs cells slots Q g q := fun T hT X => kk T hT (stand_widen X h1 h2)
theorem vx_out {pc : Nat} {E : String} {ce : Cell} {q : Addr} {mc ms : Nat} (hout : ∀ x ∈ c.exceptionTable.toList, covers x pc = false) (hlocks : meth.locks = false) (hcell : H[q]? = some ce) (hv : ce.vm = .none) (hcl : s.vm.findClass E = some ce.cls)
    (hx : ∀ t : State, t.heap = H → s.vm.Alike t.vm → XC E s t) (hf : ∀ z ∈ locs, free z.base) (hc : cells ≤ mc) (hs : slots ≤ ms) :
    vx_W p l e R s m args below meth c H locs cells slots (vx_MQ below Qc XC args s mc ms free) (F0 m pc ls rest) q := by
  intro T hT X
  obtain ⟨st1, hrun, hend, hW, hsm⟩ := X.leaveThrown q (g := F0 m pc ls rest) rfl rfl rfl hout hlocks
  have hcell9 : (T.setFrames (.throwing q :: below)).heap[q]? = some ce := by
    show T.heap[q]? = some ce
    rw [hT]; exact hcell
  exact ⟨_, st1, .threw q, hrun, hend, Or.inr ⟨q, rfl, E, ce, locs, hx _ hT hW.alike, hcell9, hv, hcl, hW, hsm.mono hc hs, hf⟩⟩
theorem vx_frame {U : State} {k n : Nat} (h : s.sameButNew ({ U with vm := s.vm } : State) locs k n) : s.heap.size ≤ U.heap.size ∧ ∀ q : Nat, q < s.heap.size → (∀ z ∈ locs, z.base ≠ q) → U.heap[q]? = s.heap[q]? := by
  obtain ⟨-, h2, -, -, -, h6⟩ := h
  refine ⟨h2, fun q hq hz => ?_⟩
  obtain ⟨c9, e1, e2, e3, e4⟩ := h6 q _ (Array.getElem?_eq_getElem hq)
  have hs : c9.slots = (s.heap[q]).slots := Array.ext_getElem? fun i => e4 i fun hm => hz _ hm rfl
  have h9 : c9 = s.heap[q] := by
    rw [hs] at e2
    exact e2
  have e5 : U.heap[q]? = some c9 := e1
  rw [e5, h9, Array.getElem?_eq_getElem hq]
/-- the words of a throw but the four that speak of the heap -/
def vx_no (w : Cond) : Bool := decide (w ≠ .isRef (.static Bundle.tN "UNASSIGNED_STACK" Bundle.steD)) && decide (w ≠ .isRef (.static Bundle.tN "SUPPRESSED_SENTINEL" Bundle.listD)) && decide (w ≠ .laysStatic Bundle.tN "UNASSIGNED_STACK" Bundle.steD) && decide (w ≠ .laysStatic Bundle.tN "SUPPRESSED_SENTINEL" Bundle.listD)
def vx_at0 (own : String) (ic : Nat) (X : String) (names : List String) : List Cond := (Bundle.ownAtoms0 own ic X names).filter vx_no
def vx_atS (own : String) (ic : Nat) (X : String) (names : List String) : List Cond := (Bundle.ownAtoms own ic X names).filter vx_no
/-- a word that the tables alone decide, or a good one -/
def vx_ot (w : Cond) : Bool := w.onTables || goodWord w
theorem vx_ot_at {args a' : Array Value} {s U : State} {w : Cond} (hW : s.WarmedH U.vm) (hvm : s.vm = U.vm) (hg : vx_ot w = true) (h : w.before args s = true) : w.before a' U = true := by
  simp only [vx_ot, Bool.or_eq_true] at hg
  rcases hg with hg | hg
  · exact va_tabs hg hvm h
  · exact word_at hW (good_of_word hg) h
/-- a list's words: the good ones out of the method's own list, the others by premises of their own -/
theorem vx_hat {args : Array Value} {s : State} {L B : List Cond} (h1 : ∀ w ∈ L.filter goodWord, w.before args s = true) (h2 : ∀ w ∈ L.filter (fun w => !goodWord w), w ∈ B) (h3 : ∀ w ∈ B, w.before args s = true) : ∀ w ∈ L, w.before args s = true := by
  intro w hw
  by_cases g : goodWord w = true
  · exact h1 w (List.mem_filter.mpr ⟨hw, g⟩)
  · refine h3 w (h2 w (List.mem_filter.mpr ⟨hw, ?_⟩))
    show (!goodWord w) = true
    cases hgw : goodWord w
    · rfl
    · exact absurd hgw g
theorem vx_c {args : Array Value} {s : State} {w : Cond} {B : List Cond} (h : w.before args s = true) (t : ∀ w ∈ B, w.before args s = true) : ∀ w' ∈ w :: B, w'.before args s = true := fun w' h' => (List.mem_cons.mp h').elim (fun e => by rw [e]; exact h) (t w')
theorem vx_n {args : Array Value} {s : State} : ∀ w ∈ ([] : List Cond), w.before args s = true := fun _ h => nomatch h
theorem vx_own {args : Array Value} {s : State} {L : List Cond} (h1 : ∀ w ∈ L.filter vx_no, w.before args s = true)
    (hU : (Cond.isRef (.static Bundle.tN "UNASSIGNED_STACK" Bundle.steD)).before args s = true) (hN : (Cond.isRef (.static Bundle.tN "SUPPRESSED_SENTINEL" Bundle.listD)).before args s = true)
    (lU : (Cond.laysStatic Bundle.tN "UNASSIGNED_STACK" Bundle.steD).before args s = true) (lN : (Cond.laysStatic Bundle.tN "SUPPRESSED_SENTINEL" Bundle.listD).before args s = true) : ∀ w ∈ L, w.before args s = true := by
  intro w hw
  by_cases e1 : w = .isRef (.static Bundle.tN "UNASSIGNED_STACK" Bundle.steD)
  · rw [e1]; exact hU
  · by_cases e2 : w = .isRef (.static Bundle.tN "SUPPRESSED_SENTINEL" Bundle.listD)
    · rw [e2]; exact hN
    · by_cases e3 : w = .laysStatic Bundle.tN "UNASSIGNED_STACK" Bundle.steD
      · rw [e3]; exact lU
      · by_cases e4 : w = .laysStatic Bundle.tN "SUPPRESSED_SENTINEL" Bundle.listD
        · rw [e4]; exact lN
        · exact h1 w (List.mem_filter.mpr ⟨hw, by unfold vx_no; rw [decide_eq_true e1, decide_eq_true e2, decide_eq_true e3, decide_eq_true e4]; rfl⟩)
/-- where a static field lies, its class's statics cell in H -/
def vx_L (C n d : String) (A : Nat → Prop) (U : State) (H : Heap) : Prop := ∃ (c : ClassId) (k : Class) (i : Nat) (f : Field) (a : Nat) (cell : Cell), U.vm.findClass C = some c ∧ U.fieldFound? C n d = some (c, k, i, f) ∧ f.isStatic = true ∧ k.statics = some a ∧ H[a]? = some cell ∧ cell.vm.isStatics = true ∧ cell.cls = c ∧ f.slot < cell.slots.size ∧ k.staticTypes[f.slot]? = some f.type ∧ ¬ A a
theorem vx_L.moved {C n d : String} {A : Nat → Prop} {u U : State} {H : Heap} (hvm : u.vm.Alike U.vm) (h : vx_L C n d A u H) : vx_L C n d A U H := by
  obtain ⟨c, k, i, f, a, cell, h1, h2, h3, h4, h5, h6, h7, h8, h9, h10⟩ := h
  obtain ⟨k', hi', he⟩ := State.fieldFound?_setVm hvm h2
  exact ⟨c, k', i, f, a, cell, by rw [hvm.findClass]; exact h1, hi', h3, by rw [he]; exact h4, h5, h6, h7, h8, by rw [he]; exact h9, h10⟩
theorem vx_L.kept {C n d : String} {A : Nat → Prop} {U : State} {H H1 : Heap} (h : vx_L C n d A U H) (hq : ∀ a : Nat, a < H.size → ¬ A a → H1[a]? = H[a]?) : vx_L C n d A U H1 := by
  obtain ⟨c, k, i, f, a, cell, h1, h2, h3, h4, h5, h6, h7, h8, h9, h10⟩ := h
  exact ⟨c, k, i, f, a, cell, h1, h2, h3, h4, by rw [hq a (Array.getElem?_eq_some_iff.mp h5).1 h10]; exact h5, h6, h7, h8, h9, h10⟩
theorem vx_L.narrow {C n d : String} {A B : Nat → Prop} {U : State} {H : Heap} (h : vx_L C n d A U H) (hAB : ∀ q, B q → A q) : vx_L C n d B U H := by
  obtain ⟨c, k, i, f, a, cell, h1, h2, h3, h4, h5, h6, h7, h8, h9, h10⟩ := h
  exact ⟨c, k, i, f, a, cell, h1, h2, h3, h4, h5, h6, h7, h8, h9, fun z => h10 (hAB _ z)⟩
theorem vx_L.word {C n d : String} {A : Nat → Prop} {s : State} {args : Array Value} (h : vx_L C n d A s s.heap) : (Cond.laysStatic C n d).before args s = true := by
  obtain ⟨c, k, i, f, a, cell, h1, h2, h3, h4, h5, h6, h7, h8, h9, -⟩ := h
  show (Cond.laysStatic C n d).holds args s none s [] = true
  exact Cond.laysStatic_of h1 h2 h3 h4 h5 h6 h7 h8 h9
/-- .. and what it holds: null or some reference -/
def vx_Zq (C n d : String) (A : Nat → Prop) (U : State) (H : Heap) : Prop := va_Zq C n d A U H ∧ vx_L C n d A U H
theorem vx_Zq.moved {C n d : String} {A : Nat → Prop} {u U : State} {H : Heap} (hvm : u.vm.Alike U.vm) (h : vx_Zq C n d A u H) : vx_Zq C n d A U H := ⟨va_Zq.moved hvm h.1, vx_L.moved hvm h.2⟩
theorem vx_Zq.kept {C n d : String} {A : Nat → Prop} {U : State} {H H1 : Heap} (h : vx_Zq C n d A U H) (hq : ∀ a : Nat, a < H.size → ¬ A a → H1[a]? = H[a]?) : vx_Zq C n d A U H1 := ⟨va_Zq.kept h.1 hq, vx_L.kept h.2 hq⟩
theorem vx_Zq.narrow {C n d : String} {A B : Nat → Prop} {U : State} {H : Heap} (h : vx_Zq C n d A U H) (hAB : ∀ q, B q → A q) : vx_Zq C n d B U H := ⟨va_Zq.narrow h.1 hAB, vx_L.narrow h.2 hAB⟩
theorem vx_Zqof {args : Array Value} {s : State} {C n d : String} {A : Nat → Prop} (hl : (Cond.laysStatic C n d).before args s = true) (hini : (Cond.initialized C).before args s = true) (h : (Cond.isRef (.static C n d)).before args s = true) (hA : ∀ a : Nat, a < s.heap.size → ¬ A a) : vx_Zq C n d A s s.heap := by
  refine ⟨va_Zqof hl hini h hA, ?_⟩
  obtain ⟨c, k, i, f, a, cell, h1, h2, h3, h4, h5, h6, h7, h8, h9⟩ := Cond.laysStatic_spec hl
  exact ⟨c, k, i, f, a, cell, h1, h2, h3, h4, h5, h6, h7, h8, h9, hA a (Array.getElem?_eq_some_iff.mp h5).1⟩
theorem vx_isRef {C n d : String} {v : Value} {A : Nat → Prop} {s : State} {args : Array Value} (h : va_Z C n d v A s s.heap) (hv : v.isRef = true) : (Cond.isRef (.static C n d)).before args s = true := by
  obtain ⟨cf, kf, fi, f, a, cell, h1, h2, h3, h4, h5, h6, h7, -⟩ := h
  have he : (Term.static C n d).eval args s none [] s = some v := by
    simp [Term.eval, State.fieldNamed?, h1, h2, h4, h5, h6, h7]
  simp only [Cond.before, Cond.holds, Cond.value, he]
  cases v <;> simp_all [Value.isRef]
theorem vx_isRefq {C n d : String} {A : Nat → Prop} {s : State} {args : Array Value} (h : va_Zq C n d A s s.heap) : (Cond.isRef (.static C n d)).before args s = true := by
  rcases h with h | ⟨t, h⟩
  · exact vx_isRef h rfl
  · exact vx_isRef h rfl
/-- the same frame, seen from here: as if the method were called anew in this heap -/
theorem vx_rebase {T : State} (X : Stand p l e R s m args below meth c T locs cells slots) {R' : Room} (hf : R'.frames ≤ R.frames) (hl : R'.locals ≤ R.locals) (hc : cells + R'.cells ≤ R.cells) (hs : slots + R'.slots ≤ R.slots) :
    Stand p l e R' ((T.setVm s.vm).setFrames (.invoking m args :: below)) m args below meth c T [] 0 0 := by
  have htop : (T.setVm s.vm).topJava?.isSome := X.here.top
  have hF : ((T.setVm s.vm).setFrames (.invoking m args :: below)).frames = .invoking m args :: below := State.frames_setFrames _ (State.cur_lt_of_top htop)
  obtain ⟨g₀, hg0⟩ := Option.isSome_iff_exists.mp htop
  obtain ⟨r, hr⟩ := State.topJava?_eq_some.mp hg0
  have hl9 : e.platform.stackLimits (T.setVm s.vm).me = e.platform.stackLimits s.me := X.limits
  have hb9 : (T.setVm s.vm).me.stackBytes = s.me.stackBytes := X.bytes
  refine ⟨X.admits, X.cas, X.clock, hF, ?_, X.hears, X.method, X.code, X.here, X.tail, X.warmed, ?_, ?_, ?_⟩
  · have h := X.room
    have hU : ((T.setVm s.vm).setFrames (.invoking m args :: below)).localsInUse = s.localsInUse := by
      rw [State.localsInUse_invoking hF (meth := meth) (c := c) X.method X.code, State.localsInUse_invoking X.frames X.method X.code]
    simp only [State.hasRoom, Bool.and_eq_true, decide_eq_true_eq] at h ⊢
    obtain ⟨⟨⟨⟨h1, h2, h3, h4, h5, h6⟩, h7⟩, h8⟩, h9⟩ := h
    rw [X.frames, List.length_cons] at h2 h3
    have q1 := X.heapSize
    have q2 := X.used
    simp only [hF, hU, List.length_cons, State.stackLimits_setFrames, State.stackBytes_setFrames, hl9, hb9]
    refine ⟨⟨⟨⟨by omega, by omega, by omega, by omega, by omega, h6⟩, ?_⟩, ?_⟩, X.book⟩
    · show T.heap.size + R'.cells ≤ e.platform.maxCells
      omega
    · show T.slotsUsed + R'.slots ≤ e.platform.maxSlots
      omega
  · rw [State.stackLimits_setFrames]; rfl
  · rw [State.stackBytes_setFrames]; rfl
  · refine ⟨?_, Nat.le_refl _, Nat.le_refl _, ?_, ?_, fun a c9 h9 => ⟨c9, h9, rfl, rfl, fun _ _ => rfl⟩⟩
    · obtain ⟨t, ht, -⟩ := State.frames_cons hr
      show T.setVm s.vm = { ((T.setVm s.vm).setFrames (.invoking m args :: below)).setFrames (T.setVm s.vm).frames with heap := T.heap, slotsUsed := T.slotsUsed }
      rw [State.setFrames_setFrames, State.setFrames_self ht]
      rfl
    · show T.slotsUsed = T.slotsUsed + ((T.heap.toList.drop T.heap.size).map (·.slots.size)).sum
      rw [List.drop_eq_nil_of_le (Nat.le_of_eq Array.length_toList)]
      rfl
    · show ((T.heap.toList.drop T.heap.size).map (·.slots.size)).sum ≤ 0
      rw [List.drop_eq_nil_of_le (Nat.le_of_eq Array.length_toList)]
      exact Nat.le_refl _
/-- 'throw new E()': new; dup; invokespecial; athrow -/
theorem vx_throw0 {cc : ByteArray} {pc : Nat} (hexec : p.tables.exec = Jvm.exec) (hb : c.code = cc) (hl : l.stackTraces = false) {own cls : String} {names : List String} {ik ic mc ms : Nat} {A : Nat → Prop}
    (hown : s.vm.findClass own = some m.cls) (hcls : Bundle.fit cls = true) (hnames : ∀ n ∈ names, Bundle.fit n = true)
    (hk : (Cond.classLink own ik cls).before args s = true) (hini : (Cond.initialized cls).before args s = true) (hat : ∀ w ∈ vx_at0 own ic cls names, w.before args s = true)
    (hgood : ∀ w ∈ Cond.classLink own ik cls :: Cond.initialized cls :: vx_at0 own ic cls names, vx_ot w = true)
    (hU : vx_Zq Bundle.tN "UNASSIGNED_STACK" Bundle.steD A s s.heap) (hN : vx_Zq Bundle.tN "SUPPRESSED_SENTINEL" Bundle.listD A s s.heap) (hS : va_S A s.heap H locs) (hsize : ls.size = c.maxLocals)
    (d0 : decode cc pc = .ok (.new ik, 3)) (d3 : decode cc (pc + 3) = .ok (.dup, 1)) (d4 : decode cc (pc + 4) = .ok (.invokespecial ic, 3)) (d7 : decode cc (pc + 7) = .ok (.athrow, 1))
    (hout : ∀ x ∈ c.exceptionTable.toList, covers x (pc + 7) = false)
    (hRframes : names.length + 3 < R.frames) (hRlocals : (rest.map fun v => v.category).sum + (13 * (names.length + 1) + 42) ≤ R.locals) (hRcells : cells + 1 ≤ R.cells) (hRslots : slots + 6 ≤ R.slots) (hlocks : meth.locks = false)
    (hx : ∀ t : State, s.vm.Alike t.vm → H.size ≤ t.heap.size → (∀ q : Nat, q < H.size → t.heap[q]? = H[q]?) → XC cls s t)
    (hf : ∀ z ∈ locs, free z.base) (hc : cells + 1 ≤ mc) (hs : slots + 6 ≤ ms) :
    W p l e R s m args below meth c H locs cells slots (vx_MQ below Qc XC args s mc ms free) (F0 m pc ls rest) := by
  intro T hT X
  have htr : e.platform.stackTraces = false := (show e.platform.stackTraces = l.stackTraces by rw [X.admits.platform]).trans hl
  have Y := vx_rebase X (R' := { frames := R.frames, locals := R.locals, cells := 1, slots := 6 }) (Nat.le_refl _) (Nat.le_refl _) hRcells hRslots
  obtain ⟨s', hA⟩ : ∃ z, z = (T.setVm s.vm).setFrames (.invoking m args :: below) := ⟨_, rfl⟩
  rw [← hA] at Y
  have hvm : s'.vm = s.vm := by rw [hA]; rfl
  have hhp : s'.heap = H := by rw [hA]; exact hT
  have hW0 : s.WarmedH s'.vm := by rw [hvm]; exact State.WarmedH.refl s
  have hat' : ∀ w ∈ vx_at0 own ic cls names, w.before args s' = true := fun w hw => vx_ot_at hW0 hvm.symm (hgood w (List.mem_cons_of_mem _ (List.mem_cons_of_mem _ hw))) (hat w hw)
  have hk' : (Cond.classLink own ik cls).before args s' = true := vx_ot_at hW0 hvm.symm (hgood _ List.mem_cons_self) hk
  have hini' : (Cond.initialized cls).before args s' = true := vx_ot_at hW0 hvm.symm (hgood _ (List.mem_cons_of_mem _ List.mem_cons_self)) hini
  have hU' : vx_Zq Bundle.tN "UNASSIGNED_STACK" Bundle.steD A s' s'.heap := by rw [hhp]; exact vx_Zq.moved hW0.alike (hU.kept hS.2.1)
  have hN' : vx_Zq Bundle.tN "SUPPRESSED_SENTINEL" Bundle.listD A s' s'.heap := by rw [hhp]; exact vx_Zq.moved hW0.alike (hN.kept hS.2.1)
  have h : ∀ w ∈ Bundle.ownAtoms0 own ic cls names, w.before args s' = true := vx_own hat' (vx_isRefq hU'.1) (vx_isRefq hN'.1) hU'.2.word hN'.2.word
  have hown' : s'.vm.findClass own = some m.cls := by rw [hvm]; exact hown
  have hins : (Cond.instantiable cls 6).before args s' = true := h _ (by simp [Bundle.ownAtoms0])
  obtain ⟨vm₁, cX, kX, hfX, hkX, -, -, X₁, st1⟩ := Y.newCold hexec (own := own) (C := cls) (index := ik) (n := 6) hown' hk' hins hini'
    (g := F0 m pc ls rest) rfl (by rw [hb]; exact d0) (Nat.le_refl _) (Nat.le_refl _)
  generalize hT1 : (T.setVm vm₁).pushCell { cls := cX, slots := kX.instanceTypes.map defaultValue, vm := .none } = T1 at X₁ st1
  have hcat : (Value.ref T.heap.size).category = 1 := rfl
  have hcellA : T1.heap[T.heap.size]? = some (freshCell cX kX) := by rw [← hT1]; exact State.heap_pushCell_size _ _
  have d3' : decode c.code (pc + 3) = .ok (.dup, 1) := by rw [hb]; exact d3
  obtain ⟨U, hsteps, hrun, hend, hW, hsame, ce, hce, hO⟩ := X₁.ctorThrow0 hexec htr (own := own) (cls := cls) (names := names) (ic := ic) hown' hcls hnames h (fun x hx => nomatch hx) hfX hkX hcellA (by rw [hhp, hT]; exact Nat.le_refl _)
    (g := { method := m, pc := pc + 4, locals := ls, stack := .ref T.heap.size :: .ref T.heap.size :: rest, locked := none }) rfl hsize rfl rfl (rest := rest) rfl
    (by rw [hb]; exact d4) (by rw [hb]; exact d7) hout hRframes (by simp only [List.map_cons, List.sum_cons, hcat]; omega) hlocks
  obtain ⟨f1, f2⟩ := vx_frame hsame
  rw [hhp] at f1 f2
  have hWs : s.WarmedH U.vm := State.WarmedH.trans hW0 hW
  have hcl : s.vm.findClass cls = some ce.cls := by
    have h9 := hO.cls
    rw [hvm] at h9
    exact h9
  have hall : s.sameButNew ({ U with vm := s.vm } : State) locs mc ms := by
    subst hA
    obtain ⟨e1, e2⟩ := hsame
    rw [State.setFrames_setFrames] at e1
    have h2 : (T.setVm s.vm).sameButNew ({ U with vm := s.vm } : State) [] (0 + 1) (0 + 6) := ⟨e1, e2⟩
    have h3 := X.same.trans h2
    rw [List.append_nil] at h3
    exact h3.mono hc hs
  refine ⟨U, ?_, .threw T.heap.size, hrun, hend, Or.inr ⟨T.heap.size, rfl, cls, ce, locs, hx U hWs.alike f1 (fun q hq => f2 q hq (fun z hz => nomatch hz)), hce, hO.vm, hcl, hWs, hall, hf⟩⟩
  refine st1 _ ?_
  show Steps p.tables e below (T1.setTop { method := m, pc := pc + 3, locals := ls, stack := .ref T.heap.size :: rest, locked := none }) _
  jvm_step X₁.here [X₁.here.top, hexec, d3', Value.category]
  exact hsteps
/-- 'throw new E("text")': new; dup; ldc; invokespecial; athrow -/
theorem vx_throwS {cc : ByteArray} {pc : Nat} (hexec : p.tables.exec = Jvm.exec) (hb : c.code = cc) (hl : l.stackTraces = false) {own cls text : String} {names : List String} {ik is ic mc ms sa : Nat} {A : Nat → Prop}
    (hown : s.vm.findClass own = some m.cls) (hcls : Bundle.fit cls = true) (hnames : ∀ n ∈ names, Bundle.fit n = true)
    (hk : (Cond.classLink own ik cls).before args s = true) (hini : (Cond.initialized cls).before args s = true) (hstr : vk_R own is text sa s) (hat : ∀ w ∈ vx_atS own ic cls names, w.before args s = true)
    (hgood : ∀ w ∈ Cond.classLink own ik cls :: Cond.initialized cls :: vx_atS own ic cls names, vx_ot w = true)
    (hU : vx_Zq Bundle.tN "UNASSIGNED_STACK" Bundle.steD A s s.heap) (hN : vx_Zq Bundle.tN "SUPPRESSED_SENTINEL" Bundle.listD A s s.heap) (hS : va_S A s.heap H locs) (hsize : ls.size = c.maxLocals)
    (d0 : decode cc pc = .ok (.new ik, 3)) (d3 : decode cc (pc + 3) = .ok (.dup, 1)) (d4 : decode cc (pc + 4) = .ok (.ldc is, 2)) (d6 : decode cc (pc + 6) = .ok (.invokespecial ic, 3)) (d9 : decode cc (pc + 9) = .ok (.athrow, 1))
    (hout : ∀ x ∈ c.exceptionTable.toList, covers x (pc + 9) = false)
    (hRframes : names.length + 3 < R.frames) (hRlocals : (rest.map fun v => v.category).sum + (13 * (names.length + 1) + 43) ≤ R.locals) (hRcells : cells + 1 ≤ R.cells) (hRslots : slots + 6 ≤ R.slots) (hlocks : meth.locks = false)
    (hx : ∀ t : State, s.vm.Alike t.vm → H.size ≤ t.heap.size → (∀ q : Nat, q < H.size → t.heap[q]? = H[q]?) → XC cls s t)
    (hf : ∀ z ∈ locs, free z.base) (hc : cells + 1 ≤ mc) (hs : slots + 6 ≤ ms) :
    W p l e R s m args below meth c H locs cells slots (vx_MQ below Qc XC args s mc ms free) (F0 m pc ls rest) := by
  intro T hT X
  have htr : e.platform.stackTraces = false := (show e.platform.stackTraces = l.stackTraces by rw [X.admits.platform]).trans hl
  have Y := vx_rebase X (R' := { frames := R.frames, locals := R.locals, cells := 1, slots := 6 }) (Nat.le_refl _) (Nat.le_refl _) hRcells hRslots
  obtain ⟨s', hA⟩ : ∃ z, z = (T.setVm s.vm).setFrames (.invoking m args :: below) := ⟨_, rfl⟩
  rw [← hA] at Y
  have hvm : s'.vm = s.vm := by rw [hA]; rfl
  have hhp : s'.heap = H := by rw [hA]; exact hT
  have hW0 : s.WarmedH s'.vm := by rw [hvm]; exact State.WarmedH.refl s
  have hat' : ∀ w ∈ vx_atS own ic cls names, w.before args s' = true := fun w hw => vx_ot_at hW0 hvm.symm (hgood w (List.mem_cons_of_mem _ (List.mem_cons_of_mem _ hw))) (hat w hw)
  have hk' : (Cond.classLink own ik cls).before args s' = true := vx_ot_at hW0 hvm.symm (hgood _ List.mem_cons_self) hk
  have hini' : (Cond.initialized cls).before args s' = true := vx_ot_at hW0 hvm.symm (hgood _ (List.mem_cons_of_mem _ List.mem_cons_self)) hini
  have hU' : vx_Zq Bundle.tN "UNASSIGNED_STACK" Bundle.steD A s' s'.heap := by rw [hhp]; exact vx_Zq.moved hW0.alike (hU.kept hS.2.1)
  have hN' : vx_Zq Bundle.tN "SUPPRESSED_SENTINEL" Bundle.listD A s' s'.heap := by rw [hhp]; exact vx_Zq.moved hW0.alike (hN.kept hS.2.1)
  have h : ∀ w ∈ Bundle.ownAtoms own ic cls names, w.before args s' = true := vx_own hat' (vx_isRefq hU'.1) (vx_isRefq hN'.1) hU'.2.word hN'.2.word
  have hown' : s'.vm.findClass own = some m.cls := by rw [hvm]; exact hown
  have hins : (Cond.instantiable cls 6).before args s' = true := h _ (by simp [Bundle.ownAtoms])
  obtain ⟨vm₁, cX, kX, hfX, hkX, -, -, X₁, st1⟩ := Y.newCold hexec (own := own) (C := cls) (index := ik) (n := 6) hown' hk' hins hini'
    (g := F0 m pc ls rest) rfl (by rw [hb]; exact d0) (Nat.le_refl _) (Nat.le_refl _)
  generalize hT1 : (T.setVm vm₁).pushCell { cls := cX, slots := kX.instanceTypes.map defaultValue, vm := .none } = T1 at X₁ st1
  have hcat : (Value.ref T.heap.size).category = 1 := rfl
  have hcellA : T1.heap[T.heap.size]? = some (freshCell cX kX) := by rw [← hT1]; exact State.heap_pushCell_size _ _
  have d3' : decode c.code (pc + 3) = .ok (.dup, 1) := by rw [hb]; exact d3
  have d4' : decode c.code (pc + 4) = .ok (.ldc is, 2) := by rw [hb]; exact d4
  have hstr' : vk_R own is text sa s' := vk_R.warm hW0 hstr
  obtain ⟨U, hsteps, hrun, hend, hW, hsame, ce, hce, hO⟩ := X₁.ctorThrowS hexec htr (own := own) (cls := cls) (names := names) (ic := ic) hown' hcls hnames h (fun x hx => nomatch hx) hfX hkX hcellA (by rw [hhp, hT]; exact Nat.le_refl _) (msg := .ref sa) rfl
    (g := { method := m, pc := pc + 6, locals := ls, stack := .ref sa :: .ref T.heap.size :: .ref T.heap.size :: rest, locked := none }) rfl hsize rfl rfl (rest := rest) rfl
    (by rw [hb]; exact d6) (by rw [hb]; exact d9) hout hRframes (by simp only [List.map_cons, List.sum_cons, hcat]; omega) hlocks
  obtain ⟨f1, f2⟩ := vx_frame hsame
  rw [hhp] at f1 f2
  have hWs : s.WarmedH U.vm := State.WarmedH.trans hW0 hW
  have hcl : s.vm.findClass cls = some ce.cls := by
    have h9 := hO.cls
    rw [hvm] at h9
    exact h9
  have hall : s.sameButNew ({ U with vm := s.vm } : State) locs mc ms := by
    subst hA
    obtain ⟨e1, e2⟩ := hsame
    rw [State.setFrames_setFrames] at e1
    have h2 : (T.setVm s.vm).sameButNew ({ U with vm := s.vm } : State) [] (0 + 1) (0 + 6) := ⟨e1, e2⟩
    have h3 := X.same.trans h2
    rw [List.append_nil] at h3
    exact h3.mono hc hs
  refine ⟨U, ?_, .threw T.heap.size, hrun, hend, Or.inr ⟨T.heap.size, rfl, cls, ce, locs, hx U hWs.alike f1 (fun q hq => f2 q hq (fun z hz => nomatch hz)), hce, hO.vm, hcl, hWs, hall, hf⟩⟩
  refine st1 _ ?_
  show Steps p.tables e below (T1.setTop { method := m, pc := pc + 3, locals := ls, stack := .ref T.heap.size :: rest, locked := none }) _
  jvm_step X₁.here [X₁.here.top, hexec, d3', Value.category]
  exact X₁.ldcString hexec (own := own) (text := text) (index := is) (a := sa) hown' hstr'.1 hstr'.2
    (g := { method := m, pc := pc + 4, locals := ls, stack := .ref T.heap.size :: .ref T.heap.size :: rest, locked := none }) rfl d4' _ hsteps
/-- 'throw new E("text")', the text by a wide index -/
theorem vx_throwSW {cc : ByteArray} {pc : Nat} (hexec : p.tables.exec = Jvm.exec) (hb : c.code = cc) (hl : l.stackTraces = false) {own cls text : String} {names : List String} {ik is ic mc ms sa : Nat} {A : Nat → Prop}
    (hown : s.vm.findClass own = some m.cls) (hcls : Bundle.fit cls = true) (hnames : ∀ n ∈ names, Bundle.fit n = true)
    (hk : (Cond.classLink own ik cls).before args s = true) (hini : (Cond.initialized cls).before args s = true) (hstr : vk_R own is text sa s) (hat : ∀ w ∈ vx_atS own ic cls names, w.before args s = true)
    (hgood : ∀ w ∈ Cond.classLink own ik cls :: Cond.initialized cls :: vx_atS own ic cls names, vx_ot w = true)
    (hU : vx_Zq Bundle.tN "UNASSIGNED_STACK" Bundle.steD A s s.heap) (hN : vx_Zq Bundle.tN "SUPPRESSED_SENTINEL" Bundle.listD A s s.heap) (hS : va_S A s.heap H locs) (hsize : ls.size = c.maxLocals)
    (d0 : decode cc pc = .ok (.new ik, 3)) (d3 : decode cc (pc + 3) = .ok (.dup, 1)) (d4 : decode cc (pc + 4) = .ok (.ldc_w is, 3)) (d7 : decode cc (pc + 7) = .ok (.invokespecial ic, 3)) (d10 : decode cc (pc + 10) = .ok (.athrow, 1))
    (hout : ∀ x ∈ c.exceptionTable.toList, covers x (pc + 10) = false)
    (hRframes : names.length + 3 < R.frames) (hRlocals : (rest.map fun v => v.category).sum + (13 * (names.length + 1) + 43) ≤ R.locals) (hRcells : cells + 1 ≤ R.cells) (hRslots : slots + 6 ≤ R.slots) (hlocks : meth.locks = false)
    (hx : ∀ t : State, s.vm.Alike t.vm → H.size ≤ t.heap.size → (∀ q : Nat, q < H.size → t.heap[q]? = H[q]?) → XC cls s t)
    (hf : ∀ z ∈ locs, free z.base) (hc : cells + 1 ≤ mc) (hs : slots + 6 ≤ ms) :
    W p l e R s m args below meth c H locs cells slots (vx_MQ below Qc XC args s mc ms free) (F0 m pc ls rest) := by
  intro T hT X
  have htr : e.platform.stackTraces = false := (show e.platform.stackTraces = l.stackTraces by rw [X.admits.platform]).trans hl
  have Y := vx_rebase X (R' := { frames := R.frames, locals := R.locals, cells := 1, slots := 6 }) (Nat.le_refl _) (Nat.le_refl _) hRcells hRslots
  obtain ⟨s', hA⟩ : ∃ z, z = (T.setVm s.vm).setFrames (.invoking m args :: below) := ⟨_, rfl⟩
  rw [← hA] at Y
  have hvm : s'.vm = s.vm := by rw [hA]; rfl
  have hhp : s'.heap = H := by rw [hA]; exact hT
  have hW0 : s.WarmedH s'.vm := by rw [hvm]; exact State.WarmedH.refl s
  have hat' : ∀ w ∈ vx_atS own ic cls names, w.before args s' = true := fun w hw => vx_ot_at hW0 hvm.symm (hgood w (List.mem_cons_of_mem _ (List.mem_cons_of_mem _ hw))) (hat w hw)
  have hk' : (Cond.classLink own ik cls).before args s' = true := vx_ot_at hW0 hvm.symm (hgood _ List.mem_cons_self) hk
  have hini' : (Cond.initialized cls).before args s' = true := vx_ot_at hW0 hvm.symm (hgood _ (List.mem_cons_of_mem _ List.mem_cons_self)) hini
  have hU' : vx_Zq Bundle.tN "UNASSIGNED_STACK" Bundle.steD A s' s'.heap := by rw [hhp]; exact vx_Zq.moved hW0.alike (hU.kept hS.2.1)
  have hN' : vx_Zq Bundle.tN "SUPPRESSED_SENTINEL" Bundle.listD A s' s'.heap := by rw [hhp]; exact vx_Zq.moved hW0.alike (hN.kept hS.2.1)
  have h : ∀ w ∈ Bundle.ownAtoms own ic cls names, w.before args s' = true := vx_own hat' (vx_isRefq hU'.1) (vx_isRefq hN'.1) hU'.2.word hN'.2.word
  have hown' : s'.vm.findClass own = some m.cls := by rw [hvm]; exact hown
  have hins : (Cond.instantiable cls 6).before args s' = true := h _ (by simp [Bundle.ownAtoms])
  obtain ⟨vm₁, cX, kX, hfX, hkX, -, -, X₁, st1⟩ := Y.newCold hexec (own := own) (C := cls) (index := ik) (n := 6) hown' hk' hins hini'
    (g := F0 m pc ls rest) rfl (by rw [hb]; exact d0) (Nat.le_refl _) (Nat.le_refl _)
  generalize hT1 : (T.setVm vm₁).pushCell { cls := cX, slots := kX.instanceTypes.map defaultValue, vm := .none } = T1 at X₁ st1
  have hcat : (Value.ref T.heap.size).category = 1 := rfl
  have hcellA : T1.heap[T.heap.size]? = some (freshCell cX kX) := by rw [← hT1]; exact State.heap_pushCell_size _ _
  have d3' : decode c.code (pc + 3) = .ok (.dup, 1) := by rw [hb]; exact d3
  have d4' : decode c.code (pc + 4) = .ok (.ldc_w is, 3) := by rw [hb]; exact d4
  have hstr' : vk_R own is text sa s' := vk_R.warm hW0 hstr
  obtain ⟨U, hsteps, hrun, hend, hW, hsame, ce, hce, hO⟩ := X₁.ctorThrowS hexec htr (own := own) (cls := cls) (names := names) (ic := ic) hown' hcls hnames h (fun x hx => nomatch hx) hfX hkX hcellA (by rw [hhp, hT]; exact Nat.le_refl _) (msg := .ref sa) rfl
    (g := { method := m, pc := pc + 7, locals := ls, stack := .ref sa :: .ref T.heap.size :: .ref T.heap.size :: rest, locked := none }) rfl hsize rfl rfl (rest := rest) rfl
    (by rw [hb]; exact d7) (by rw [hb]; exact d10) hout hRframes (by simp only [List.map_cons, List.sum_cons, hcat]; omega) hlocks
  obtain ⟨f1, f2⟩ := vx_frame hsame
  rw [hhp] at f1 f2
  have hWs : s.WarmedH U.vm := State.WarmedH.trans hW0 hW
  have hcl : s.vm.findClass cls = some ce.cls := by
    have h9 := hO.cls
    rw [hvm] at h9
    exact h9
  have hall : s.sameButNew ({ U with vm := s.vm } : State) locs mc ms := by
    subst hA
    obtain ⟨e1, e2⟩ := hsame
    rw [State.setFrames_setFrames] at e1
    have h2 : (T.setVm s.vm).sameButNew ({ U with vm := s.vm } : State) [] (0 + 1) (0 + 6) := ⟨e1, e2⟩
    have h3 := X.same.trans h2
    rw [List.append_nil] at h3
    exact h3.mono hc hs
  refine ⟨U, ?_, .threw T.heap.size, hrun, hend, Or.inr ⟨T.heap.size, rfl, cls, ce, locs, hx U hWs.alike f1 (fun q hq => f2 q hq (fun z hz => nomatch hz)), hce, hO.vm, hcl, hWs, hall, hf⟩⟩
  refine st1 _ ?_
  show Steps p.tables e below (T1.setTop { method := m, pc := pc + 3, locals := ls, stack := .ref T.heap.size :: rest, locked := none }) _
  jvm_step X₁.here [X₁.here.top, hexec, d3', Value.category]
  exact X₁.ldcStringW hexec (own := own) (text := text) (index := is) (a := sa) hown' hstr'.1 hstr'.2
    (g := { method := m, pc := pc + 4, locals := ls, stack := .ref T.heap.size :: .ref T.heap.size :: rest, locked := none }) rfl d4' _ hsteps
end Ends
section Bodies
variable {l : Launch}
theorem vx_ofW {y : MethodName} {ws ws' : List Cond} {rm : Room} {Pc : Array Value → State → Prop} {Qc : Array Value → State → Outcome → State → Prop} {XC : String → State → State → Prop} {mc ms : Nat} {free : Addr → Prop} {cc : ByteArray} {maxL : Nat} {ret : Option FieldType}
    (hy : plainName y.cls = true) (hw : ws = Cond.code y cc maxL ret :: ws')
    (body : ∀ p e s m args below meth c s₁, BodyLoose p l y (headSpec ws rm) cc maxL ret e s m args below meth c s₁ → c.maxLocals = maxL → (∀ x ∈ c.exceptionTable.toList, False) → Pc args s →
      W p l e (headSpec ws rm).room s m args below meth c s.heap [] 0 0 (vx_MQ below Qc XC args s mc ms free) (entryFrame m args maxL)) : vx_Met l y ws rm Pc Qc XC mc ms free := by
  refine MetFree.of_bodyS (code := cc) (maxLocals := maxL) (ret := ret) hy ?_ ?_
  · intro args s m h hn
    obtain ⟨meth, c, h1, h2, h3, h4, h5, h6, -, -⟩ := Cond.code_spec hn (atoms_spec (ws := ws) h _ (by rw [hw]; exact List.mem_cons_self))
    exact ⟨meth, c, h1, h2, h3, h4, h5, h6⟩
  · intro p e s m args below meth c s₁ B hml hP _
    have hh0 : s₁.heap = s.heap := by rw [B.state]; rfl
    have ht : ∀ x ∈ c.exceptionTable.toList, False := by
      obtain ⟨meth9, c9, h1, h2, -, -, -, -, h7, -⟩ := Cond.code_spec B.named (atoms_spec (ws := ws) B.pre _ (by rw [hw]; exact List.mem_cons_self))
      cases Option.some.inj (h1.symm.trans B.method)
      cases Option.some.inj (h2.symm.trans (Stand.of_body B).code)
      intro x hx
      rw [Array.isEmpty_iff.mp h7] at hx
      cases hx
    obtain ⟨t, a1, o, b1, b2, b3⟩ := body p e s m args below meth c s₁ B hml ht hP s₁ hh0 (Stand.of_body B)
    exact ⟨t, o, a1, b1, b2, b3⟩
/-- the table of a body with handlers -/
theorem vx_table {p : Program} {x y : MethodName} {S : Spec} {cc bytes : ByteArray} {maxL maxL' : Nat} {ret ret' : Option FieldType} {e : Env} {s s₁ : State} {m : MethodId} {args : Array Value} {below : List Frame} {meth : Method} {c : Code} {hh : List (Nat × Nat × Nat × Nat)}
    (B : BodyLoose p l y S cc maxL ret e s m args below meth c s₁) (h : (Cond.codeWith y bytes maxL' ret' hh).before args s = true) : c.exceptionTable.toList = tableOf hh := by
  obtain ⟨m9, meth9, c9, hn9, h1, h2, -, -, h6, -⟩ := Cond.codeWith_spec h
  cases Option.some.inj (hn9.symm.trans B.named)
  cases Option.some.inj (h1.symm.trans B.method)
  cases Option.some.inj (h2.symm.trans (Stand.of_body B).code)
  rw [← h6, table_eq]
end Bodies
end VXA
/-! ===== END ===== -/
/-! ===== BEGIN a static call of a method with an exception table ===== -/
section VXS
variable {p : Program} {l : Launch} {e : Env} {R : Room} {s : State} {m : MethodId} {args : Array Value} {below : List Frame} {meth : Method} {c : Code} {T : State} {H : Heap} {locs : List Loc} {cells slots : Nat}
abbrev vx_CSW (R : Room) (s : State) (args : Array Value) (own : String) (index : Nat) (y : MethodName) (bytes : ByteArray) (maxL : Nat) (ret : Option FieldType) (hh : List (Nat × Nat × Nat × Nat)) (ws : List Cond) (rm : Room) (mc ms n : Nat) : Prop :=
  (rm.cells = mc ∧ rm.slots = ms ∧ rm.frames + 1 ≤ R.frames ∧ 8 + (maxL + 11) + rm.locals ≤ R.locals ∧ (∀ w ∈ ws, ∀ (a' : Array Value) (U : State), s.WarmedH U.vm → w.before a' U = true) ∧ Cond.codeWith y bytes maxL ret hh ∈ ws) ∧
  (Cond.codeWith y bytes maxL ret hh).before args s = true ∧ (Cond.initialized y.cls).before args s = true ∧ (y.cls ≠ "java/lang/invoke/MethodHandle" ∧ y.cls ≠ "java/lang/invoke/VarHandle") ∧
  (∀ sig, parseMethodDescriptor y.desc = some sig → n = sig.parameters.length) ∧ (Cond.methodLink own index y).before args s = true ∧ (Cond.static y).before args s = true
theorem vx_cwSW {own : String} {index maxL mc ms : Nat} {y : MethodName} {bytes : ByteArray} {ret : Option FieldType} {hh : List (Nat × Nat × Nat × Nat)} {Ts ws ws' : List Cond} {rm : Room} (n : Nat) (ht : ∀ w ∈ Ts, w.before args s = true) (hT : GoodIn Ts (va_wsS own index y ws)) (hw : ws = Cond.codeWith y bytes maxL ret hh :: ws') (hrc : rm.cells = mc) (hrs : rm.slots = ms)
    (hd : y.cls ≠ "java/lang/invoke/MethodHandle" ∧ y.cls ≠ "java/lang/invoke/VarHandle" ∧ (parseMethodDescriptor y.desc).map (fun d => d.parameters.length) = some n) (hR : rm.frames + 1 ≤ R.frames ∧ 8 + (maxL + 11) + rm.locals ≤ R.locals) :
    vx_CSW R s args own index y bytes maxL ret hh ws rm mc ms n := by
  have ok : ∀ w ∈ va_wsS own index y ws, w.before args s = true := fun w h => ht w (hT w h).1
  have hG : GoodIn Ts ws := fun w h => hT w (by unfold va_wsS; exact List.mem_append_right _ h)
  have hc : Cond.codeWith y bytes maxL ret hh ∈ ws := by rw [hw]; exact List.mem_cons_self
  refine ⟨⟨hrc, hrs, hR.1, hR.2, pay_in ht hG, hc⟩, ht _ (hG _ hc).1, ok _ (by simp [va_wsS]), ⟨hd.1, hd.2.1⟩, fun sig h => ?_, ok _ (by simp [va_wsS]), ok _ (by simp [va_wsS])⟩
  have h2 := hd.2.2
  rw [h] at h2
  exact (Option.some.inj h2).symm
theorem vx_callSW (X : Stand p l e R s m args below meth c T locs cells slots) (hexec : p.tables.exec = Jvm.exec) {own : String} {index : Nat} {y : MethodName} {bytes : ByteArray} {maxL : Nat} {ret : Option FieldType} {hh : List (Nat × Nat × Nat × Nat)}
    (hown : s.vm.findClass own = some m.cls) (hlink : (Cond.methodLink own index y).before args s = true) (hstat : (Cond.static y).before args s = true) (hinit : (Cond.initialized y.cls).before args s = true)
    (hcode : (Cond.codeWith y bytes maxL ret hh).before args s = true) (hy : y.cls ≠ "java/lang/invoke/MethodHandle" ∧ y.cls ≠ "java/lang/invoke/VarHandle")
    {W9 : Nat} {Pre : Pt → Array Value → Prop} {Post : Pt → Array Value → Option Value → Pt → Prop} (hK : Back l R p e below s args y 3 W9 Pre Post)
    {g : JFrame} (hg : g.method = m) (hsize : g.locals.size = c.maxLocals) {argsL rest : List Value} (hlen : ∀ sig, parseMethodDescriptor y.desc = some sig → argsL.length = sig.parameters.length)
    (hstack : g.stack = argsL.reverse ++ rest) (hW : 2 * g.monitorRoom + (rest.map fun v => v.category).sum ≤ W9) (hdg : decode c.code g.pc = .ok (.invokestatic index, 3))
    (hpre : ∀ vm₁, s.WarmedH vm₁ → Pre ⟨T.setVm vm₁, locs, cells, slots⟩ argsL.toArray) :
    ∃ (v : Option Value) (vm₁ : Vm) (B : Pt), s.WarmedH vm₁ ∧ Stand p l e R s m args below meth c B.U B.locs B.cells B.slots ∧ Post ⟨T.setVm vm₁, locs, cells, slots⟩ argsL.toArray v B ∧
      ∀ target, Steps p.tables e below (B.U.setTop { g with pc := g.pc + 3, stack := v.toList ++ rest }) target → Steps p.tables e below (T.setTop g) target := by
  obtain ⟨mk, methM, cM, hnamed, hmethM, -, -, -, -, -, -, hsigM⟩ := Cond.codeWith_spec hcode
  have hstatic : methM.isStatic = true := Cond.static_spec hnamed hmethM hstat
  obtain ⟨kP, hkP, -⟩ := className_of_methodNamed hnamed
  have hinitP : kP.init = .initialized := Cond.initialized_spec (findClass_of_methodNamed hnamed) hkP hinit
  obtain ⟨vm₁, X₁, hstep₁⟩ := X.invokestatic hexec hown hlink hnamed hmethM hstatic hkP hinitP hy (g := g) hg (argsL := argsL) (rest := rest) (hlen _ hsigM) hstack hdg
  obtain ⟨v, B, X', hpost, hsteps⟩ := hK m meth c ⟨T.setVm vm₁, locs, cells, slots⟩ { g with stack := rest } (.invokestatic index) mk argsL.toArray X₁ hg hsize hdg hW (X₁.named hnamed) (hpre vm₁ X₁.warmed)
  exact ⟨v, vm₁, B, X₁.warmed, X', hpost, fun target h => hstep₁ _ fun acts => by rw [doInvoke_state]; exact hsteps.trans h⟩
theorem vx_runSW {y : MethodName} {bytes cc : ByteArray} {maxL nL mc ms n index : Nat} {ret : Option FieldType} {hh : List (Nat × Nat × Nat × Nat)} {ws : List Cond} {rm : Room} {Pc : Array Value → State → Prop} {Qc : Array Value → State → Outcome → State → Prop} {free : Addr → Prop} {Ts : List Cond} {own : String} {As rest : List Value} {g : JFrame}
    (S : CallFix p m c cc nL s args Ts own) (hM : Met l y ws rm Pc Qc mc ms free) (cw : vx_CSW R s args own index y bytes maxL ret hh ws rm mc ms n) (hp : PreS s H Pc As)
    (hg : g.method = m) (hn : As.length = n) (hsize : g.locals.size = nL) (hstack : g.stack = As.reverse ++ rest) (hW : 2 * g.monitorRoom + (rest.map fun v => v.category).sum ≤ 8) (hdg : decode cc g.pc = .ok (.invokestatic index, 3)) (hf : cells + mc ≤ R.cells ∧ slots + ms ≤ R.slots) :
    va_Run p l e R s m args below meth c H locs cells slots mc ms g rest (Qc As.toArray) (free) := by
  obtain ⟨⟨hrc, hrs, hfr, hlo, hws, hcw⟩, hcode, hini, hy, hlen, hl, hstt⟩ := cw
  have hK : Back l R p e below s args y 3 8 (PreOf R mc ms Pc) (PostOf Qc mc ms free) := va_backW (hh := hh) (bytes := bytes) (maxL := maxL) (ret := ret) hM hp.1 hrc hrs hfr hlo hws hcw (fun a' U hW => word_at hW (Or.inl (by first | rfl | simp [Cond.onTables, Cond.keeps, Cond.steady])) hini)
  obtain ⟨hx, hb, hml, ho, -⟩ := S
  intro T hT X
  obtain ⟨v, vm₁, ⟨U', l2, c2, s2⟩, hW₁, X', ⟨g', mk, t, L, e1, e2, hq, h1, hL, h2, h3⟩, st⟩ := vx_callSW X hx (hh := hh) (bytes := bytes) (maxL := maxL) (ret := ret) ho hl hstt hini hcode hy hK hg (hsize.trans hml.symm) (argsL := As) (rest := rest) (fun sig h => hn.trans (hlen sig h)) hstack hW (by rw [hb]; exact hdg)
    (fun vm₁ hW₁ => ⟨hf.1, hf.2, hp.2 (T.setVm vm₁) hT hW₁⟩)
  dsimp only [Pt.U, Pt.locs, Pt.cells, Pt.slots] at X' e1 e2 h1 h2 h3 st
  subst h1; subst h2; subst h3
  exact ⟨v, (T.setVm vm₁).calling g' mk As.toArray, t, U', L, hT, X', hL, e1, e2, hq, st⟩
/-- a thing of a world lies in the heap -/
theorem vx_lt {D : va_G} {cl : List vw_C} {ws : va_W} {H1 : Heap} (h : va_P D cl ws H1) {k : Nat} {q : Nat × va_E} (hk : ws[k]? = some q) : q.1 < H1.size := (h k q hk).lt
end VXS
/-! ===== END ===== -/
/-! ===== BEGIN methods with a table of their own: called by a name, returning or throwing ===== -/
section VXH
/-! vx_backW, vx_callVX, vx_callSX, vx_callVW, vx_runVW, vx_runVX, vx_runSX, vx_ofWH follow the same proofs as their sisters above (Free/Laws.lean, Shelf42/LK1.lean); vx_outP calls Shelf42/NT130.lean (outThrough). -/
section
variable {l : Launch} {R : Room} {p : Program} {e : Env} {below : List Frame} {s : State} {sargs : Array Value} {y : MethodName} {len W9 : Nat}
theorem vx_backW {ws : List Cond} {rm : Room} {Pc : Array Value → State → Prop} {Qc : Array Value → State → Outcome → State → Prop} {XC : String → State → State → Prop} {mc ms : Nat} {free : Addr → Prop} {bytes : ByteArray} {maxL : Nat} {ret : Option FieldType} {hh : List (Nat × Nat × Nat × Nat)}
    (hM : vx_Met l y ws rm Pc Qc XC mc ms free) (hblind : FrameBlind Pc) (hrc : rm.cells = mc) (hrs : rm.slots = ms)
    (hframes : rm.frames + 1 ≤ R.frames) (hlocals : W9 + (maxL + 11) + rm.locals ≤ R.locals)
    (hws : ∀ w ∈ ws, ∀ a' U, s.WarmedH U.vm → w.before a' U = true) (hcode : Cond.codeWith y bytes maxL ret hh ∈ ws) (hinit : ∀ a' U, s.WarmedH U.vm → (Cond.initialized y.cls).before a' U = true) :
    vx_Back l R p e below s sargs y len W9 (PreOf R mc ms Pc) (PostOf Qc mc ms free) (vx_Post XC mc ms free) := by
  intro m meth c A g ig mk a X hg hsize hdg hW hn hp
  have h1 : (headSpec ws rm).pre.before a A.U = true := atoms_intro fun w hw => hws w hw _ _ X.warmed
  have h2 : (Cond.codeWith y bytes maxL ret hh).before a A.U = true := hws _ hcode _ _ X.warmed
  have h3 : (Cond.initialized y.cls).before a A.U = true := hinit _ _ X.warmed
  have h4 : A.cells + (headSpec ws rm).room.cells ≤ R.cells := by rw [show (headSpec ws rm).room.cells = mc from hrc]; exact hp.1
  have h5 : A.slots + (headSpec ws rm).room.slots ≤ R.slots := by rw [show (headSpec ws rm).room.slots = ms from hrs]; exact hp.2.1
  have hPc : Pc a (A.U.calling g mk a) := hblind _ _ _ _ hp.2.2
  obtain ⟨U, Ls, c0, s0⟩ := A
  dsimp only [Pt.U, Pt.locs, Pt.cells, Pt.slots] at h1 h2 h3 h4 h5 X hn hPc ⊢
  obtain ⟨m9, methY, cY, hn9, hmY, hcY, -, hlY, -⟩ := Cond.codeWith_spec h2
  cases Option.some.inj (hn9.symm.trans hn)
  obtain ⟨kY, hkY, -⟩ := className_of_methodNamed hn
  have hinitY : kY.init = .initialized := Cond.initialized_spec (findClass_of_methodNamed hn) hkY h3
  have h : At U g.method c below := by rw [hg]; exact X.here
  have hlocals9 : W9 + (maxL + 11) + (headSpec ws rm).room.locals ≤ R.locals := hlocals
  have happ : (headSpec ws rm).appliesLoose y e.platform (U.calling g mk a) = true :=
    Spec.appliesLoose_calling (g := g) h hdg hn hkY hinitY
      (X.room_calling (g := g) (R' := (headSpec ws rm).room) hsize hmY hcY hframes (by rw [hlY]; omega) h4 h5) h1
  obtain ⟨mid, hmid⟩ := h.above
  have hfr : (U.setTop g).frames = (.java g :: mid) ++ below := by rw [State.frames_setTop' g h.top, hmid]; rfl
  obtain ⟨o, s₂, hsteps, -, hend, hq⟩ := Steps.callFree hM p X.admits X.cas X.clock (acts := []) hfr happ hPc trivial
  have hq' : vx_Q Qc XC mc ms free a (U.calling g mk a) o s₂ := hq
  rw [State.frames_setTop' g h.top] at hend
  obtain ⟨g₀, hg0⟩ := Option.isSome_iff_exists.mp h.top
  obtain ⟨r, hr⟩ := State.topJava?_eq_some.mp hg0
  have hr' : (({ U with heap := s₂.heap, slotsUsed := s₂.slotsUsed } : State).setVm s₂.vm).frames = .java g₀ :: r := hr
  rcases hq' with ⟨hqc, L, hfe, hL⟩ | ⟨q, rfl, E, ce, L, hx, hce, hcv, hcl, hW₂, hsm, hL⟩
  · obtain ⟨⟨v, rfl⟩, hW₂, e2, q2, q3, q4, q5, q6⟩ := id hfe
    have e3 : s₂ = ({ (U.calling g mk a).setFrames s₂.frames with heap := s₂.heap, slotsUsed := s₂.slotsUsed } : State).setVm s₂.vm := by
      have : s₂ = ({ s₂ with vm := (U.calling g mk a).vm } : State).setVm s₂.vm := rfl
      rw [e2] at this
      exact this
    obtain ⟨c₂, i₂, len₂, hc₂, hd₂, hf₂⟩ := hend
    have hW' : U.WarmedH s₂.vm := hW₂
    have hcc : c₂ = c := by
      have h1 : s₂.code? g.method = U.code? g.method := by
        rw [State.code?_eq, State.code?_eq, hW'.alike.method?]
      exact Option.some.inj (hc₂.symm.trans (h1.trans h.code))
    subst hcc
    have hlen : len₂ = len := by rw [hdg] at hd₂; cases hd₂; rfl
    subst hlen
    have hs₂ : s₂ = (({ U with heap := s₂.heap, slotsUsed := s₂.slotsUsed } : State).setVm s₂.vm).setTop { g with pc := g.pc + len₂, stack := v.toList ++ g.stack } := by
      refine e3.trans ?_
      rw [hf₂, State.calling_eq h.top, State.setFrames_setFrames, State.setTop_of_frames _ hr', hr]
      rfl
    have hsame : U.sameButNew ({ U with heap := s₂.heap, slotsUsed := s₂.slotsUsed } : State) L mc ms := by
      refine ⟨?_, q2, q3, q4, q5, q6⟩
      obtain ⟨t, ht, -⟩ := State.frames_cons hr
      show ({ U with heap := s₂.heap, slotsUsed := s₂.slotsUsed } : State) = { U.setFrames U.frames with heap := s₂.heap, slotsUsed := s₂.slotsUsed }
      rw [State.setFrames_self ht]
    subst hg
    refine Or.inl ⟨v, ⟨(({ U with heap := s₂.heap, slotsUsed := s₂.slotsUsed } : State).setVm s₂.vm), Ls ++ L, c0 + mc, s0 + ms⟩,
      ⟨X.admits, X.cas, X.clock, X.frames, X.room, X.hears, X.method, X.code, (X.here.setHeapUsed s₂.heap s₂.slotsUsed).setVm hW'.alike, X.tail, State.WarmedH.trans X.warmed hW', X.limits, X.bytes, X.same.trans (hsame.setVm s.vm)⟩,
      ⟨g, mk, s₂, L, rfl, rfl, hqc, rfl, hL, rfl, rfl⟩, ?_⟩
    show Steps p.tables e below _ ((({ U with heap := s₂.heap, slotsUsed := s₂.slotsUsed } : State).setVm s₂.vm).setTop { g with pc := g.pc + len₂, stack := v.toList ++ g.stack })
    rw [← hs₂]
    exact hsteps
  · obtain ⟨e2, q2, q3, q4, q5, q6⟩ := id hsm
    have e3 : s₂ = ({ (U.calling g mk a).setFrames s₂.frames with heap := s₂.heap, slotsUsed := s₂.slotsUsed } : State).setVm s₂.vm := by
      have : s₂ = ({ s₂ with vm := (U.calling g mk a).vm } : State).setVm s₂.vm := rfl
      rw [e2] at this
      exact this
    have hf₂ : s₂.frames = .throwing q :: .java g :: U.frames.tail := hend
    have hW' : U.WarmedH s₂.vm := hW₂
    have hs₂ : s₂ = ((({ U with heap := s₂.heap, slotsUsed := s₂.slotsUsed } : State).setVm s₂.vm).setTop g).pushFrame (.throwing q) := by
      refine e3.trans ?_
      rw [hf₂, State.calling_eq h.top, State.setFrames_setFrames, State.pushFrame, State.frames_setTop _ hr', State.setTop_of_frames _ hr', State.setFrames_setFrames, hr]
      rfl
    have hsame : U.sameButNew ({ U with heap := s₂.heap, slotsUsed := s₂.slotsUsed } : State) L mc ms := by
      refine ⟨?_, q2, q3, q4, q5, q6⟩
      obtain ⟨t, ht, -⟩ := State.frames_cons hr
      show ({ U with heap := s₂.heap, slotsUsed := s₂.slotsUsed } : State) = { U.setFrames U.frames with heap := s₂.heap, slotsUsed := s₂.slotsUsed }
      rw [State.setFrames_self ht]
    subst hg
    refine Or.inr ⟨q, ⟨(({ U with heap := s₂.heap, slotsUsed := s₂.slotsUsed } : State).setVm s₂.vm), Ls ++ L, c0 + mc, s0 + ms⟩,
      ⟨X.admits, X.cas, X.clock, X.frames, X.room, X.hears, X.method, X.code, (X.here.setHeapUsed s₂.heap s₂.slotsUsed).setVm hW'.alike, X.tail, State.WarmedH.trans X.warmed hW', X.limits, X.bytes, X.same.trans (hsame.setVm s.vm)⟩,
      ⟨g, mk, s₂, L, E, ce, rfl, rfl, hx, hce, hcv, hcl, rfl, hL, rfl, rfl⟩, ?_⟩
    show Steps p.tables e below _ (((({ U with heap := s₂.heap, slotsUsed := s₂.slotsUsed } : State).setVm s₂.vm).setTop g).pushFrame (.throwing q))
    rw [← hs₂]
    exact hsteps
end
variable {p : Program} {l : Launch} {e : Env} {R : Room} {s : State} {m : MethodId} {args : Array Value} {below : List Frame} {meth : Method} {c : Code} {T : State} {H : Heap} {locs : List Loc} {cells slots : Nat}
theorem vx_callVX (X : Stand p l e R s m args below meth c T locs cells slots) (hexec : p.tables.exec = Jvm.exec) {own C : String} {index : Nat} {y : MethodName} {bytes : ByteArray} {maxL : Nat} {ret : Option FieldType} {hh : List (Nat × Nat × Nat × Nat)}
    (hown : s.vm.findClass own = some m.cls) (hlink : (Cond.methodLink own index y).before args s = true) (hinst : (Cond.instanceMethod y).before args s = true) (hsel : (Cond.selects C y y).before args s = true)
    (hcode : (Cond.codeWith y bytes maxL ret hh).before args s = true) (hy : y.cls ≠ "java/lang/invoke/MethodHandle" ∧ y.cls ≠ "java/lang/invoke/VarHandle")
    {W9 : Nat} {Pre : Pt → Array Value → Prop} {Post : Pt → Array Value → Option Value → Pt → Prop} {PostX : Pt → Array Value → Addr → Pt → Prop} (hK : vx_Back l R p e below s args y 3 W9 Pre Post PostX)
    {b : Addr} {cellB : Cell} (hcell : T.heap[b]? = some cellB) (hobj : cellB.vm.isStatics = false) (hcls : s.vm.findClass C = some cellB.cls)
    {g : JFrame} (hg : g.method = m) (hsize : g.locals.size = c.maxLocals) {argsL rest : List Value} (hlen : ∀ sig, parseMethodDescriptor y.desc = some sig → argsL.length = sig.parameters.length)
    (hstack : g.stack = argsL.reverse ++ .ref b :: rest) (hW : 2 * g.monitorRoom + (rest.map fun v => v.category).sum ≤ W9) (hdg : decode c.code g.pc = .ok (.invokevirtual index, 3))
    (hpre : ∀ vm₁, s.WarmedH vm₁ → Pre ⟨T.setVm vm₁, locs, cells, slots⟩ (Value.ref b :: argsL).toArray) :
    (∃ (v : Option Value) (vm₁ : Vm) (B : Pt), s.WarmedH vm₁ ∧ Stand p l e R s m args below meth c B.U B.locs B.cells B.slots ∧ Post ⟨T.setVm vm₁, locs, cells, slots⟩ (Value.ref b :: argsL).toArray v B ∧
      ∀ target, Steps p.tables e below (B.U.setTop { g with pc := g.pc + 3, stack := v.toList ++ rest }) target → Steps p.tables e below (T.setTop g) target) ∨
    (∃ (q : Addr) (vm₁ : Vm) (B : Pt), s.WarmedH vm₁ ∧ Stand p l e R s m args below meth c B.U B.locs B.cells B.slots ∧ PostX ⟨T.setVm vm₁, locs, cells, slots⟩ (Value.ref b :: argsL).toArray q B ∧
      Steps p.tables e below (T.setTop g) ((B.U.setTop { g with stack := rest }).pushFrame (.throwing q))) := by
  obtain ⟨mk, methM, hnamed, hmethM, hstM, habM⟩ := Cond.instanceMethod_spec hinst
  obtain ⟨m8, methM', cM, hn8, hmethM', -, -, -, -, -, -, hsigM⟩ := Cond.codeWith_spec hcode
  cases Option.some.inj (hn8.symm.trans hnamed)
  cases hmethM.symm.trans hmethM'
  obtain ⟨c2, r2, m2, q1, q2, q3, q4, kP, hkP, hkPi⟩ := Cond.selects_spec hsel
  cases hcls.symm.trans q1
  cases (State.methodFound?_of_named hnamed hy).symm.trans q2
  cases hnamed.symm.trans q3
  have hselP : selectMethod e.platform s.vm cellB.cls mk = .method mk := by rw [Launch.admits_selectMethod X.admits]; exact q4
  obtain ⟨vm₁, X₁, hstep₁⟩ := X.invokevirtual hexec hown hlink hnamed hmethM hstM hkP hkPi hy (a := b) (cell := cellB) hcell
    (fun z h => by rw [h] at hobj; cases hobj) hselP hmethM habM hkP hkPi (g := g) hg (argsL := argsL) (rest := rest) (hlen _ hsigM) hstack hdg
  rcases hK m meth c ⟨T.setVm vm₁, locs, cells, slots⟩ { g with stack := rest } (.invokevirtual index) mk (Value.ref b :: argsL).toArray X₁ hg hsize hdg hW (X₁.named hnamed) (hpre vm₁ X₁.warmed) with ⟨v, B, X', hpost, hsteps⟩ | ⟨q, B, X', hpost, hsteps⟩
  · exact Or.inl ⟨v, vm₁, B, X₁.warmed, X', hpost, fun target h => hstep₁ _ fun acts => by rw [doInvoke_state]; exact hsteps.trans h⟩
  · exact Or.inr ⟨q, vm₁, B, X₁.warmed, X', hpost, hstep₁ _ fun acts => by rw [doInvoke_state]; exact hsteps⟩
theorem vx_callSX (X : Stand p l e R s m args below meth c T locs cells slots) (hexec : p.tables.exec = Jvm.exec) {own : String} {index : Nat} {y : MethodName} {bytes : ByteArray} {maxL : Nat} {ret : Option FieldType} {hh : List (Nat × Nat × Nat × Nat)}
    (hown : s.vm.findClass own = some m.cls) (hlink : (Cond.methodLink own index y).before args s = true) (hstat : (Cond.static y).before args s = true) (hinit : (Cond.initialized y.cls).before args s = true)
    (hcode : (Cond.codeWith y bytes maxL ret hh).before args s = true) (hy : y.cls ≠ "java/lang/invoke/MethodHandle" ∧ y.cls ≠ "java/lang/invoke/VarHandle")
    {W9 : Nat} {Pre : Pt → Array Value → Prop} {Post : Pt → Array Value → Option Value → Pt → Prop} {PostX : Pt → Array Value → Addr → Pt → Prop} (hK : vx_Back l R p e below s args y 3 W9 Pre Post PostX)
    {g : JFrame} (hg : g.method = m) (hsize : g.locals.size = c.maxLocals) {argsL rest : List Value} (hlen : ∀ sig, parseMethodDescriptor y.desc = some sig → argsL.length = sig.parameters.length)
    (hstack : g.stack = argsL.reverse ++ rest) (hW : 2 * g.monitorRoom + (rest.map fun v => v.category).sum ≤ W9) (hdg : decode c.code g.pc = .ok (.invokestatic index, 3))
    (hpre : ∀ vm₁, s.WarmedH vm₁ → Pre ⟨T.setVm vm₁, locs, cells, slots⟩ argsL.toArray) :
    (∃ (v : Option Value) (vm₁ : Vm) (B : Pt), s.WarmedH vm₁ ∧ Stand p l e R s m args below meth c B.U B.locs B.cells B.slots ∧ Post ⟨T.setVm vm₁, locs, cells, slots⟩ argsL.toArray v B ∧
      ∀ target, Steps p.tables e below (B.U.setTop { g with pc := g.pc + 3, stack := v.toList ++ rest }) target → Steps p.tables e below (T.setTop g) target) ∨
    (∃ (q : Addr) (vm₁ : Vm) (B : Pt), s.WarmedH vm₁ ∧ Stand p l e R s m args below meth c B.U B.locs B.cells B.slots ∧ PostX ⟨T.setVm vm₁, locs, cells, slots⟩ argsL.toArray q B ∧
      Steps p.tables e below (T.setTop g) ((B.U.setTop { g with stack := rest }).pushFrame (.throwing q))) := by
  obtain ⟨mk, methM, cM, hnamed, hmethM, -, -, -, -, -, -, hsigM⟩ := Cond.codeWith_spec hcode
  have hstatic : methM.isStatic = true := Cond.static_spec hnamed hmethM hstat
  obtain ⟨kP, hkP, -⟩ := className_of_methodNamed hnamed
  have hinitP : kP.init = .initialized := Cond.initialized_spec (findClass_of_methodNamed hnamed) hkP hinit
  obtain ⟨vm₁, X₁, hstep₁⟩ := X.invokestatic hexec hown hlink hnamed hmethM hstatic hkP hinitP hy (g := g) hg (argsL := argsL) (rest := rest) (hlen _ hsigM) hstack hdg
  rcases hK m meth c ⟨T.setVm vm₁, locs, cells, slots⟩ { g with stack := rest } (.invokestatic index) mk argsL.toArray X₁ hg hsize hdg hW (X₁.named hnamed) (hpre vm₁ X₁.warmed) with ⟨v, B, X', hpost, hsteps⟩ | ⟨q, B, X', hpost, hsteps⟩
  · exact Or.inl ⟨v, vm₁, B, X₁.warmed, X', hpost, fun target h => hstep₁ _ fun acts => by rw [doInvoke_state]; exact hsteps.trans h⟩
  · exact Or.inr ⟨q, vm₁, B, X₁.warmed, X', hpost, hstep₁ _ fun acts => by rw [doInvoke_state]; exact hsteps⟩
theorem vx_callVW (X : Stand p l e R s m args below meth c T locs cells slots) (hexec : p.tables.exec = Jvm.exec) {own C : String} {index : Nat} {y : MethodName} {bytes : ByteArray} {maxL : Nat} {ret : Option FieldType} {hh : List (Nat × Nat × Nat × Nat)}
    (hown : s.vm.findClass own = some m.cls) (hlink : (Cond.methodLink own index y).before args s = true) (hinst : (Cond.instanceMethod y).before args s = true) (hsel : (Cond.selects C y y).before args s = true)
    (hcode : (Cond.codeWith y bytes maxL ret hh).before args s = true) (hy : y.cls ≠ "java/lang/invoke/MethodHandle" ∧ y.cls ≠ "java/lang/invoke/VarHandle")
    {W9 : Nat} {Pre : Pt → Array Value → Prop} {Post : Pt → Array Value → Option Value → Pt → Prop} (hK : Back l R p e below s args y 3 W9 Pre Post)
    {b : Addr} {cellB : Cell} (hcell : T.heap[b]? = some cellB) (hobj : cellB.vm.isStatics = false) (hcls : s.vm.findClass C = some cellB.cls)
    {g : JFrame} (hg : g.method = m) (hsize : g.locals.size = c.maxLocals) {argsL rest : List Value} (hlen : ∀ sig, parseMethodDescriptor y.desc = some sig → argsL.length = sig.parameters.length)
    (hstack : g.stack = argsL.reverse ++ .ref b :: rest) (hW : 2 * g.monitorRoom + (rest.map fun v => v.category).sum ≤ W9) (hdg : decode c.code g.pc = .ok (.invokevirtual index, 3))
    (hpre : ∀ vm₁, s.WarmedH vm₁ → Pre ⟨T.setVm vm₁, locs, cells, slots⟩ (Value.ref b :: argsL).toArray) :
    ∃ (v : Option Value) (vm₁ : Vm) (B : Pt), s.WarmedH vm₁ ∧ Stand p l e R s m args below meth c B.U B.locs B.cells B.slots ∧ Post ⟨T.setVm vm₁, locs, cells, slots⟩ (Value.ref b :: argsL).toArray v B ∧
      ∀ target, Steps p.tables e below (B.U.setTop { g with pc := g.pc + 3, stack := v.toList ++ rest }) target → Steps p.tables e below (T.setTop g) target := by
  obtain ⟨mk, methM, hnamed, hmethM, hstM, habM⟩ := Cond.instanceMethod_spec hinst
  obtain ⟨m8, methM', cM, hn8, hmethM', -, -, -, -, -, -, hsigM⟩ := Cond.codeWith_spec hcode
  cases Option.some.inj (hn8.symm.trans hnamed)
  cases hmethM.symm.trans hmethM'
  obtain ⟨c2, r2, m2, q1, q2, q3, q4, kP, hkP, hkPi⟩ := Cond.selects_spec hsel
  cases hcls.symm.trans q1
  cases (State.methodFound?_of_named hnamed hy).symm.trans q2
  cases hnamed.symm.trans q3
  have hselP : selectMethod e.platform s.vm cellB.cls mk = .method mk := by rw [Launch.admits_selectMethod X.admits]; exact q4
  obtain ⟨vm₁, X₁, hstep₁⟩ := X.invokevirtual hexec hown hlink hnamed hmethM hstM hkP hkPi hy (a := b) (cell := cellB) hcell
    (fun z h => by rw [h] at hobj; cases hobj) hselP hmethM habM hkP hkPi (g := g) hg (argsL := argsL) (rest := rest) (hlen _ hsigM) hstack hdg
  obtain ⟨v, B, X', hpost, hsteps⟩ := hK m meth c ⟨T.setVm vm₁, locs, cells, slots⟩ { g with stack := rest } (.invokevirtual index) mk (Value.ref b :: argsL).toArray X₁ hg hsize hdg hW (X₁.named hnamed) (hpre vm₁ X₁.warmed)
  exact ⟨v, vm₁, B, X₁.warmed, X', hpost, fun target h => hstep₁ _ fun acts => by rw [doInvoke_state]; exact hsteps.trans h⟩
abbrev vx_CVW (R : Room) (s : State) (args : Array Value) (own C : String) (index : Nat) (y : MethodName) (bytes : ByteArray) (maxL : Nat) (ret : Option FieldType) (hh : List (Nat × Nat × Nat × Nat)) (ws : List Cond) (rm : Room) (mc ms n : Nat) : Prop :=
  (rm.cells = mc ∧ rm.slots = ms ∧ rm.frames + 1 ≤ R.frames ∧ 8 + (maxL + 11) + rm.locals ≤ R.locals ∧ (∀ w ∈ ws, ∀ (a' : Array Value) (U : State), s.WarmedH U.vm → w.before a' U = true) ∧ Cond.codeWith y bytes maxL ret hh ∈ ws) ∧
  (Cond.codeWith y bytes maxL ret hh).before args s = true ∧ (Cond.initialized y.cls).before args s = true ∧ (y.cls ≠ "java/lang/invoke/MethodHandle" ∧ y.cls ≠ "java/lang/invoke/VarHandle") ∧
  (∀ sig, parseMethodDescriptor y.desc = some sig → n = sig.parameters.length) ∧ (Cond.methodLink own index y).before args s = true ∧ (Cond.instanceMethod y).before args s = true ∧ (Cond.selects C y y).before args s = true
theorem vx_cwVW {own C : String} {index maxL mc ms : Nat} {y : MethodName} {bytes : ByteArray} {ret : Option FieldType} {hh : List (Nat × Nat × Nat × Nat)} {Ts ws ws' : List Cond} {rm : Room} (n : Nat) (ht : ∀ w ∈ Ts, w.before args s = true) (hT : GoodIn Ts (wsV own index C y ws)) (hw : ws = Cond.codeWith y bytes maxL ret hh :: ws') (hrc : rm.cells = mc) (hrs : rm.slots = ms)
    (hd : y.cls = C ∧ y.cls ≠ "java/lang/invoke/MethodHandle" ∧ y.cls ≠ "java/lang/invoke/VarHandle" ∧ (parseMethodDescriptor y.desc).map (fun d => d.parameters.length) = some n) (hR : rm.frames + 1 ≤ R.frames ∧ 8 + (maxL + 11) + rm.locals ≤ R.locals) :
    vx_CVW R s args own C index y bytes maxL ret hh ws rm mc ms n := by
  obtain ⟨hC, hd⟩ := hd
  subst hC
  have ok : ∀ w ∈ wsV own index y.cls y ws, w.before args s = true := fun w h => ht w (hT w h).1
  have hG : GoodIn Ts ws := fun w h => hT w (by unfold wsV; exact List.mem_append_right _ h)
  have hc : Cond.codeWith y bytes maxL ret hh ∈ ws := by rw [hw]; exact List.mem_cons_self
  refine ⟨⟨hrc, hrs, hR.1, hR.2, pay_in ht hG, hc⟩, ht _ (hG _ hc).1, ok _ (by simp [wsV]), ⟨hd.1, hd.2.1⟩, fun sig h => ?_, ok _ (by simp [wsV]), ok _ (by simp [wsV]), ok _ (by simp [wsV])⟩
  have h2 := hd.2.2
  rw [h] at h2
  exact (Option.some.inj h2).symm
theorem vx_runVW {y : MethodName} {bytes cc : ByteArray} {maxL nL mc ms n index : Nat} {ret : Option FieldType} {hh : List (Nat × Nat × Nat × Nat)} {ws : List Cond} {rm : Room} {Pc : Array Value → State → Prop} {Qc : Array Value → State → Outcome → State → Prop} {free : Addr → Prop} {Ts : List Cond} {own C : String} {b : Addr} {As rest : List Value} {g : JFrame}
    (S : CallFix p m c cc nL s args Ts own) (hM : Met l y ws rm Pc Qc mc ms free) (cw : vx_CVW R s args own C index y bytes maxL ret hh ws rm mc ms n) (hp : PreV s H C b Pc As)
    (hg : g.method = m) (hn : As.length = n) (hsize : g.locals.size = nL) (hstack : g.stack = As.reverse ++ .ref b :: rest) (hW : 2 * g.monitorRoom + (rest.map fun v => v.category).sum ≤ 8) (hdg : decode cc g.pc = .ok (.invokevirtual index, 3)) (hf : cells + mc ≤ R.cells ∧ slots + ms ≤ R.slots) :
    va_Run p l e R s m args below meth c H locs cells slots mc ms g rest (Qc (Value.ref b :: As).toArray) free := by
  obtain ⟨⟨hrc, hrs, hfr, hlo, hws, hcw⟩, hcode, hini, hy, hlen, hl, hin, hse⟩ := cw
  have hK : Back l R p e below s args y 3 8 (PreOf R mc ms Pc) (PostOf Qc mc ms free) := va_backW (hh := hh) (bytes := bytes) (maxL := maxL) (ret := ret) hM hp.1 hrc hrs hfr hlo hws hcw (fun a' U hW => word_at hW (Or.inl (by first | rfl | simp [Cond.onTables, Cond.keeps, Cond.steady])) hini)
  obtain ⟨hx, hb, hml, ho, -⟩ := S
  obtain ⟨-, ⟨cellB, hcB, hoB, hclB⟩, hPc⟩ := hp
  intro T hT X
  obtain ⟨v, vm₁, ⟨U', l2, c2, s2⟩, hW₁, X', ⟨g', mk, t, L, e1, e2, hq, h1, hL, h2, h3⟩, st⟩ := vx_callVW X hx (C := C) (hh := hh) (bytes := bytes) (maxL := maxL) (ret := ret) ho hl hin hse hcode hy hK (by rw [hT]; exact hcB) hoB hclB hg (hsize.trans hml.symm) (argsL := As) (rest := rest) (fun sig h => hn.trans (hlen sig h)) hstack hW (by rw [hb]; exact hdg)
    (fun vm₁ hW₁ => ⟨hf.1, hf.2, hPc (T.setVm vm₁) hT hW₁⟩)
  dsimp only [Pt.U, Pt.locs, Pt.cells, Pt.slots] at X' e1 e2 h1 h2 h3 st
  subst h1; subst h2; subst h3
  exact ⟨v, (T.setVm vm₁).calling g' mk (Value.ref b :: As).toArray, t, U', L, hT, X', hL, e1, e2, hq, st⟩
section
variable {y : MethodName} {bytes cc : ByteArray} {maxL nL mc ms n index : Nat} {ret : Option FieldType} {ws : List Cond} {rm : Room} {Pc : Array Value → State → Prop} {Qc : Array Value → State → Outcome → State → Prop} {XC : String → State → State → Prop} {free : Addr → Prop} {Ts : List Cond} {own C : String} {b : Addr} {As rest : List Value} {g : JFrame}
theorem vx_runVX {hh : List (Nat × Nat × Nat × Nat)} (S : CallFix p m c cc nL s args Ts own) (hM : vx_Met l y ws rm Pc Qc XC mc ms free) (cw : vx_CVW R s args own C index y bytes maxL ret hh ws rm mc ms n) (hp : PreV s H C b Pc As)
    (hg : g.method = m) (hn : As.length = n) (hsize : g.locals.size = nL) (hstack : g.stack = As.reverse ++ .ref b :: rest) (hW : 2 * g.monitorRoom + (rest.map fun v => v.category).sum ≤ 8) (hdg : decode cc g.pc = .ok (.invokevirtual index, 3)) (hf : cells + mc ≤ R.cells ∧ slots + ms ≤ R.slots) :
    vx_Run p l e R s m args below meth c H locs cells slots mc ms g rest (Qc (Value.ref b :: As).toArray) XC free := by
  obtain ⟨⟨hrc, hrs, hfr, hlo, hws, hcw⟩, hcode, hini, hy, hlen, hl, hin, hse⟩ := cw
  have hK : vx_Back l R p e below s args y 3 8 (PreOf R mc ms Pc) (PostOf Qc mc ms free) (vx_Post XC mc ms free) := vx_backW (hh := hh) (bytes := bytes) (maxL := maxL) (ret := ret) hM hp.1 hrc hrs hfr hlo hws hcw (fun a' U hW => word_at hW (Or.inl (by first | rfl | simp [Cond.onTables, Cond.keeps, Cond.steady])) hini)
  obtain ⟨hx, hb, hml, ho, -⟩ := S
  obtain ⟨-, ⟨cellB, hcB, hoB, hclB⟩, hPc⟩ := hp
  intro T hT X
  rcases vx_callVX X hx (C := C) (hh := hh) (bytes := bytes) (maxL := maxL) (ret := ret) ho hl hin hse hcode hy hK (by rw [hT]; exact hcB) hoB hclB hg (hsize.trans hml.symm) (argsL := As) (rest := rest) (fun sig h => hn.trans (hlen sig h)) hstack hW (by rw [hb]; exact hdg)
    (fun vm₁ hW₁ => ⟨hf.1, hf.2, hPc (T.setVm vm₁) hT hW₁⟩) with ⟨v, vm₁, ⟨U', l2, c2, s2⟩, hW₁, X', ⟨g', mk, t, L, e1, e2, hq, h1, hL, h2, h3⟩, st⟩ | ⟨q, vm₁, ⟨U', l2, c2, s2⟩, hW₁, X', ⟨g', mk, t, L, E, ce, e1, e2, hq, hce, hcv, hcl, h1, hL, h2, h3⟩, st⟩
  · dsimp only [Pt.U, Pt.locs, Pt.cells, Pt.slots] at X' e1 e2 h1 h2 h3 st
    subst h1; subst h2; subst h3
    exact Or.inl ⟨v, (T.setVm vm₁).calling g' mk (Value.ref b :: As).toArray, t, U', L, hT, X', hL, e1, e2, hq, st⟩
  · dsimp only [Pt.U, Pt.locs, Pt.cells, Pt.slots] at X' e1 e2 h1 h2 h3 st hcl
    subst h1; subst h2; subst h3
    exact Or.inr ⟨q, (T.setVm vm₁).calling g' mk (Value.ref b :: As).toArray, t, U', L, E, ce, hT, X', hL, e1, e2, hq, hce, hcv, vx_cls hW₁ hcl, st⟩
theorem vx_runSX {hh : List (Nat × Nat × Nat × Nat)} (S : CallFix p m c cc nL s args Ts own) (hM : vx_Met l y ws rm Pc Qc XC mc ms free) (cw : vx_CSW R s args own index y bytes maxL ret hh ws rm mc ms n) (hp : PreS s H Pc As)
    (hg : g.method = m) (hn : As.length = n) (hsize : g.locals.size = nL) (hstack : g.stack = As.reverse ++ rest) (hW : 2 * g.monitorRoom + (rest.map fun v => v.category).sum ≤ 8) (hdg : decode cc g.pc = .ok (.invokestatic index, 3)) (hf : cells + mc ≤ R.cells ∧ slots + ms ≤ R.slots) :
    vx_Run p l e R s m args below meth c H locs cells slots mc ms g rest (Qc As.toArray) XC free := by
  obtain ⟨⟨hrc, hrs, hfr, hlo, hws, hcw⟩, hcode, hini, hy, hlen, hl, hstt⟩ := cw
  have hK : vx_Back l R p e below s args y 3 8 (PreOf R mc ms Pc) (PostOf Qc mc ms free) (vx_Post XC mc ms free) := vx_backW (hh := hh) (bytes := bytes) (maxL := maxL) (ret := ret) hM hp.1 hrc hrs hfr hlo hws hcw (fun a' U hW => word_at hW (Or.inl (by first | rfl | simp [Cond.onTables, Cond.keeps, Cond.steady])) hini)
  obtain ⟨hx, hb, hml, ho, -⟩ := S
  intro T hT X
  rcases vx_callSX X hx (hh := hh) (bytes := bytes) (maxL := maxL) (ret := ret) ho hl hstt hini hcode hy hK hg (hsize.trans hml.symm) (argsL := As) (rest := rest) (fun sig h => hn.trans (hlen sig h)) hstack hW (by rw [hb]; exact hdg)
    (fun vm₁ hW₁ => ⟨hf.1, hf.2, hp.2 (T.setVm vm₁) hT hW₁⟩) with ⟨v, vm₁, ⟨U', l2, c2, s2⟩, hW₁, X', ⟨g', mk, t, L, e1, e2, hq, h1, hL, h2, h3⟩, st⟩ | ⟨q, vm₁, ⟨U', l2, c2, s2⟩, hW₁, X', ⟨g', mk, t, L, E, ce, e1, e2, hq, hce, hcv, hcl, h1, hL, h2, h3⟩, st⟩
  · dsimp only [Pt.U, Pt.locs, Pt.cells, Pt.slots] at X' e1 e2 h1 h2 h3 st
    subst h1; subst h2; subst h3
    exact Or.inl ⟨v, (T.setVm vm₁).calling g' mk As.toArray, t, U', L, hT, X', hL, e1, e2, hq, st⟩
  · dsimp only [Pt.U, Pt.locs, Pt.cells, Pt.slots] at X' e1 e2 h1 h2 h3 st hcl
    subst h1; subst h2; subst h3
    exact Or.inr ⟨q, (T.setVm vm₁).calling g' mk As.toArray, t, U', L, E, ce, hT, X', hL, e1, e2, hq, hce, hcv, vx_cls hW₁ hcl, st⟩
end
end VXH
theorem vx_ofWH {l : Launch} {y : MethodName} {ws ws' : List Cond} {rm : Room} {Pc : Array Value → State → Prop} {Qc : Array Value → State → Outcome → State → Prop} {XC : String → State → State → Prop} {mc ms : Nat} {free : Addr → Prop} {cc : ByteArray} {maxL : Nat} {ret : Option FieldType} {hh : List (Nat × Nat × Nat × Nat)}
    (hy : plainName y.cls = true) (hw : ws = Cond.codeWith y cc maxL ret hh :: ws')
    (body : ∀ p e s m args below meth c s₁, BodyLoose p l y (headSpec ws rm) cc maxL ret e s m args below meth c s₁ → c.maxLocals = maxL → Pc args s →
      W p l e (headSpec ws rm).room s m args below meth c s.heap [] 0 0 (vx_MQ below Qc XC args s mc ms free) (entryFrame m args maxL)) : vx_Met l y ws rm Pc Qc XC mc ms free := by
  refine MetFree.of_bodyS (code := cc) (maxLocals := maxL) (ret := ret) hy ?_ ?_
  · intro args s m h hn
    obtain ⟨m9, meth, c, hn9, h1, h2, h3, h4, -, h5, h6, -⟩ := Cond.codeWith_spec (atoms_spec (ws := ws) h _ (by rw [hw]; exact List.mem_cons_self))
    cases hn.symm.trans hn9
    exact ⟨meth, c, h1, h2, h3, h4, h5, h6⟩
  · intro p e s m args below meth c s₁ B hml hP _
    have hh0 : s₁.heap = s.heap := by rw [B.state]; rfl
    obtain ⟨t, a1, o, b1, b2, b3⟩ := body p e s m args below meth c s₁ B hml hP s₁ hh0 (Stand.of_body B)
    exact ⟨t, o, a1, b1, b2, b3⟩
/-! ===== END ===== -/
end
section
def RX0 : String := "HatHall$Cover"
def TX0 : u_T := fun k => match k with
  | 0 => ("HatHall$Cover", "many", "I", false)
  | 1 => ("HatHall$Cover", "chosen", "[I", true)
  | 2 => ("HatHall$Cover", "n", "I", false)
  | 3 => ("HatHall$Cover", "near", "[I", true)
  | _ => ("HatHall$Cover", "greatestNear", "[I", true)
def tyX0 : Nat → FieldType := fun k => match k with
  | 0 => .int
  | 1 => .array .int
  | 2 => .int
  | 3 => .array .int
  | _ => .array .int
abbrev wsX00 : List Cond := u_ws RX0 TX0 5
theorem nmX0 : ∀ a, a < 5 → ∀ b, b < 5 → a ≠ b → (TX0 a).2.1 ≠ (TX0 b).2.1 := by decide +kernel
theorem tyX0_ok : ∀ k, k < 5 → parseFieldDescriptor (TX0 k).2.2.1 = some (tyX0 k) := by decide +kernel
abbrev cX0_init : ByteArray := prog_2_method_1_code
def yX0_init : MethodName := ⟨RX0, "<init>", "()V"⟩
abbrev cX0_seek : ByteArray := prog_2_method_2_code
def yX0_seek : MethodName := ⟨RX0, "seek", "(I)V"⟩
abbrev cX0_noteNear : ByteArray := prog_2_method_3_code
def yX0_noteNear : MethodName := ⟨RX0, "noteNear", "()V"⟩
abbrev cX0_choose : ByteArray := prog_2_method_4_code
def yX0_choose : MethodName := ⟨RX0, "choose", "(II)Z"⟩
abbrev cX0_lastUseful : ByteArray := prog_2_method_5_code
def yX0_lastUseful : MethodName := ⟨RX0, "lastUseful", "(I)I"⟩
abbrev cX0_settle : ByteArray := prog_2_method_6_code
def yX0_settle : MethodName := ⟨RX0, "settle", "(LHatHall$Net;)V"⟩
abbrev cX0_isChosen : ByteArray := prog_2_method_7_code
def yX0_isChosen : MethodName := ⟨RX0, "isChosen", "(I)Z"⟩
abbrev cX0_guessBetween : ByteArray := prog_2_method_8_code
def yX0_guessBetween : MethodName := ⟨RX0, "guessBetween", "(ZZ)I"⟩
def RX1 : String := "HatHall$Formula"
def TX1 : u_T := fun k => match k with
  | 0 => ("HatHall$Formula", "kinds", "[I", true)
  | 1 => ("HatHall$Formula", "left", "[I", true)
  | 2 => ("HatHall$Formula", "right", "[I", true)
  | 3 => ("HatHall$Formula", "values", "[I", true)
  | _ => ("HatHall$Formula", "passParts", "I", true)
def tyX1 : Nat → FieldType := fun k => match k with
  | 0 => .array .int
  | 1 => .array .int
  | 2 => .array .int
  | 3 => .array .int
  | _ => .int
abbrev wsX10 : List Cond := u_ws RX1 TX1 5
theorem nmX1 : ∀ a, a < 5 → ∀ b, b < 5 → a ≠ b → (TX1 a).2.1 ≠ (TX1 b).2.1 := by decide +kernel
theorem tyX1_ok : ∀ k, k < 5 → parseFieldDescriptor (TX1 k).2.2.1 = some (tyX1 k) := by decide +kernel
abbrev cX1_init : ByteArray := prog_3_method_1_code
def yX1_init : MethodName := ⟨RX1, "<init>", "([I[I[II)V"⟩
abbrev cX1_ofFirstInLine : ByteArray := prog_3_method_2_code
def yX1_ofFirstInLine : MethodName := ⟨RX1, "ofFirstInLine", "()LHatHall$Formula;"⟩
abbrev cX1_ofNextInLine : ByteArray := prog_3_method_3_code
def yX1_ofNextInLine : MethodName := ⟨RX1, "ofNextInLine", "()LHatHall$Formula;"⟩
abbrev cX1_guess : ByteArray := prog_3_method_4_code
def yX1_guess : MethodName := ⟨RX1, "guess", "(LHatHall$Net;ILHatHall$Scene;)I"⟩
abbrev cX1_look : ByteArray := prog_3_method_5_code
def yX1_look : MethodName := ⟨RX1, "look", "(ILHatHall$Net;ILHatHall$Scene;)I"⟩
abbrev cX1_sumOf : ByteArray := prog_3_method_6_code
def yX1_sumOf : MethodName := ⟨RX1, "sumOf", "([II)I"⟩
abbrev cX1_join : ByteArray := prog_3_method_7_code
def yX1_join : MethodName := ⟨RX1, "join", "(I)I"⟩
def RX2 : String := "HatHall$Judge"
def TX2 : u_T := fun k => match k with
  | 0 => ("HatHall$Judge", "heap", "[I", true)
  | 1 => ("HatHall$Judge", "law", "I", false)
  | 2 => ("HatHall$Judge", "k", "I", false)
  | _ => ("HatHall$Judge", "left", "[I", true)
def tyX2 : Nat → FieldType := fun k => match k with
  | 0 => .array .int
  | 1 => .int
  | 2 => .int
  | _ => .array .int
abbrev wsX20 : List Cond := u_ws RX2 TX2 4
theorem nmX2 : ∀ a, a < 4 → ∀ b, b < 4 → a ≠ b → (TX2 a).2.1 ≠ (TX2 b).2.1 := by decide +kernel
theorem tyX2_ok : ∀ k, k < 4 → parseFieldDescriptor (TX2 k).2.2.1 = some (tyX2 k) := by decide +kernel
abbrev cX2_init : ByteArray := prog_4_method_1_code
def yX2_init : MethodName := ⟨RX2, "<init>", "()V"⟩
abbrev cX2_weigh : ByteArray := prog_4_method_2_code
def yX2_weigh : MethodName := ⟨RX2, "weigh", "(LHatHall$Scene;I)J"⟩
abbrev cX2_isWon : ByteArray := prog_4_method_3_code
def yX2_isWon : MethodName := ⟨RX2, "isWon", "(III)Z"⟩
def RX3 : String := "HatHall$Ledger"
def TX3 : u_T := fun k => match k with
  | 0 => ("HatHall$Ledger", "marks", "[I", true)
  | _ => ("HatHall$Ledger", "fresh", "Z", false)
def tyX3 : Nat → FieldType := fun k => match k with
  | 0 => .array .int
  | _ => .boolean
abbrev wsX30 : List Cond := u_ws RX3 TX3 2
theorem nmX3 : ∀ a, a < 2 → ∀ b, b < 2 → a ≠ b → (TX3 a).2.1 ≠ (TX3 b).2.1 := by decide +kernel
theorem tyX3_ok : ∀ k, k < 2 → parseFieldDescriptor (TX3 k).2.2.1 = some (tyX3 k) := by decide +kernel
abbrev cX3_init : ByteArray := prog_5_method_1_code
def yX3_init : MethodName := ⟨RX3, "<init>", "()V"⟩
abbrev cX3_spoil : ByteArray := prog_5_method_2_code
def yX3_spoil : MethodName := ⟨RX3, "spoil", "()V"⟩
abbrev cX3_fill : ByteArray := prog_5_method_3_code
def yX3_fill : MethodName := ⟨RX3, "fill", "(LHatHall$Net;LHatHall$Judge;LHatHall$Scene;)V"⟩
abbrev cX3_counts : ByteArray := prog_5_method_4_code
def yX3_counts : MethodName := ⟨RX3, "counts", "(I)Z"⟩
abbrev cX3_isWon : ByteArray := prog_5_method_5_code
def yX3_isWon : MethodName := ⟨RX3, "isWon", "(ILHatHall$Judge;I)Z"⟩
abbrev cX3_wrongIn : ByteArray := prog_5_method_6_code
def yX3_wrongIn : MethodName := ⟨RX3, "wrongIn", "(I)I"⟩
abbrev cX3_countRows : ByteArray := prog_5_method_7_code
def yX3_countRows : MethodName := ⟨RX3, "countRows", "(LHatHall$Net;LHatHall$Judge;Z)I"⟩
abbrev cX3_sumWeights : ByteArray := prog_5_method_8_code
def yX3_sumWeights : MethodName := ⟨RX3, "sumWeights", "(LHatHall$Net;LHatHall$Judge;LHatHall$Scene;Z)J"⟩
abbrev cX3_rowBeaten : ByteArray := prog_5_method_9_code
def yX3_rowBeaten : MethodName := ⟨RX3, "rowBeaten", "(LHatHall$Net;LHatHall$Judge;I)I"⟩
abbrev cX3_rowsWithRight : ByteArray := prog_5_method_10_code
def yX3_rowsWithRight : MethodName := ⟨RX3, "rowsWithRight", "(LHatHall$Net;I)I"⟩
abbrev cX3_rowsRightFor : ByteArray := prog_5_method_11_code
def yX3_rowsRightFor : MethodName := ⟨RX3, "rowsRightFor", "(LHatHall$Net;I)I"⟩
abbrev cX3_worstRow : ByteArray := prog_5_method_12_code
def yX3_worstRow : MethodName := ⟨RX3, "worstRow", "(LHatHall$Net;)I"⟩
def RX4 : String := "HatHall$Mender"
def TX4 : u_T := fun k => match k with
  | 0 => ("HatHall$Mender", "gains", "[I", true)
  | 1 => ("HatHall$Mender", "played", "LHatHall$Scene;", true)
  | _ => ("HatHall$Mender", "changed", "LHatHall$Scene;", true)
def tyX4 : Nat → FieldType := fun k => match k with
  | 0 => .array .int
  | 1 => .object "HatHall$Scene"
  | _ => .object "HatHall$Scene"
abbrev wsX40 : List Cond := u_ws RX4 TX4 3
theorem nmX4 : ∀ a, a < 3 → ∀ b, b < 3 → a ≠ b → (TX4 a).2.1 ≠ (TX4 b).2.1 := by decide +kernel
theorem tyX4_ok : ∀ k, k < 3 → parseFieldDescriptor (TX4 k).2.2.1 = some (tyX4 k) := by decide +kernel
abbrev cX4_init : ByteArray := prog_6_method_1_code
def yX4_init : MethodName := ⟨RX4, "<init>", "()V"⟩
abbrev cX4_mendOne : ByteArray := prog_6_method_2_code
def yX4_mendOne : MethodName := ⟨RX4, "mendOne", "(LHatHall$Net;LHatHall$Judge;)Z"⟩
abbrev cX4_noteGains : ByteArray := prog_6_method_3_code
def yX4_noteGains : MethodName := ⟨RX4, "noteGains", "(LHatHall$Net;LHatHall$Judge;)V"⟩
abbrev cX4_isWon : ByteArray := prog_6_method_4_code
def yX4_isWon : MethodName := ⟨RX4, "isWon", "(LHatHall$Scene;LHatHall$Net;LHatHall$Judge;)Z"⟩
abbrev cX4_takeBest : ByteArray := prog_6_method_5_code
def yX4_takeBest : MethodName := ⟨RX4, "takeBest", "(LHatHall$Net;)Z"⟩
def RX5 : String := "HatHall$Net"
def TX5 : u_T := fun k => match k with
  | 0 => ("HatHall$Net", "n", "I", false)
  | 1 => ("HatHall$Net", "q", "I", false)
  | 2 => ("HatHall$Net", "rows", "I", false)
  | 3 => ("HatHall$Net", "looks", "[I", true)
  | 4 => ("HatHall$Net", "rounds", "[I", true)
  | 5 => ("HatHall$Net", "hears", "[I", true)
  | 6 => ("HatHall$Net", "views", "[I", true)
  | 7 => ("HatHall$Net", "order", "[I", true)
  | 8 => ("HatHall$Net", "texts", "[LHatHall$Formula;", true)
  | 9 => ("HatHall$Net", "tables", "[B", true)
  | _ => ("HatHall$Net", "placed", "[I", true)
def tyX5 : Nat → FieldType := fun k => match k with
  | 0 => .int
  | 1 => .int
  | 2 => .int
  | 3 => .array .int
  | 4 => .array .int
  | 5 => .array .int
  | 6 => .array .int
  | 7 => .array .int
  | 8 => .array (.object "HatHall$Formula")
  | 9 => .array .byte
  | _ => .array .int
abbrev wsX50 : List Cond := u_ws RX5 TX5 11
theorem nmX5 : ∀ a, a < 11 → ∀ b, b < 11 → a ≠ b → (TX5 a).2.1 ≠ (TX5 b).2.1 := by decide +kernel
theorem tyX5_ok : ∀ k, k < 11 → parseFieldDescriptor (TX5 k).2.2.1 = some (tyX5 k) := by decide +kernel
abbrev cX5_init : ByteArray := prog_7_method_1_code
def yX5_init : MethodName := ⟨RX5, "<init>", "()V"⟩
abbrev cX5_fits : ByteArray := prog_7_method_2_code
def yX5_fits : MethodName := ⟨RX5, "fits", "(II)Z"⟩
abbrev cX5_open : ByteArray := prog_7_method_3_code
def yX5_open : MethodName := ⟨RX5, "open", "(II)V"⟩
abbrev cX5_lookAtAllAtOnce : ByteArray := prog_7_method_4_code
def yX5_lookAtAllAtOnce : MethodName := ⟨RX5, "lookAtAllAtOnce", "()V"⟩
abbrev cX5_copy : ByteArray := prog_7_method_5_code
def yX5_copy : MethodName := ⟨RX5, "copy", "(LHatHall$Net;)V"⟩
abbrev cX5_othersOf : ByteArray := prog_7_method_6_code
def yX5_othersOf : MethodName := ⟨RX5, "othersOf", "(I)I"⟩
abbrev cX5_lookAt : ByteArray := prog_7_method_7_code
def yX5_lookAt : MethodName := ⟨RX5, "lookAt", "(II)V"⟩
abbrev cX5_guessIn : ByteArray := prog_7_method_8_code
def yX5_guessIn : MethodName := ⟨RX5, "guessIn", "(II)V"⟩
abbrev cX5_earlierThan : ByteArray := prog_7_method_9_code
def yX5_earlierThan : MethodName := ⟨RX5, "earlierThan", "(I)I"⟩
abbrev cX5_orderByRounds : ByteArray := prog_7_method_10_code
def yX5_orderByRounds : MethodName := ⟨RX5, "orderByRounds", "()V"⟩
abbrev cX5_countViews : ByteArray := prog_7_method_11_code
def yX5_countViews : MethodName := ⟨RX5, "countViews", "(I)I"⟩
abbrev cX5_clearTable : ByteArray := prog_7_method_12_code
def yX5_clearTable : MethodName := ⟨RX5, "clearTable", "(I)V"⟩
abbrev cX5_startTable : ByteArray := prog_7_method_13_code
def yX5_startTable : MethodName := ⟨RX5, "startTable", "(I)V"⟩
abbrev cX5_hasTable : ByteArray := prog_7_method_14_code
def yX5_hasTable : MethodName := ⟨RX5, "hasTable", "(I)Z"⟩
abbrev cX5_kindOfRule : ByteArray := prog_7_method_15_code
def yX5_kindOfRule : MethodName := ⟨RX5, "kindOfRule", "(I)I"⟩
abbrev cX5_guessAt : ByteArray := prog_7_method_16_code
def yX5_guessAt : MethodName := ⟨RX5, "guessAt", "(II)I"⟩
abbrev cX5_setGuess : ByteArray := prog_7_method_17_code
def yX5_setGuess : MethodName := ⟨RX5, "setGuess", "(III)V"⟩
abbrev cX5_follow : ByteArray := prog_7_method_18_code
def yX5_follow : MethodName := ⟨RX5, "follow", "([LHatHall$Formula;)V"⟩
abbrev cX5_countTexts : ByteArray := prog_7_method_19_code
def yX5_countTexts : MethodName := ⟨RX5, "countTexts", "()I"⟩
abbrev cX5_viewsInTables : ByteArray := prog_7_method_20_code
def yX5_viewsInTables : MethodName := ⟨RX5, "viewsInTables", "()I"⟩
abbrev cX5_standInLine : ByteArray := prog_7_method_21_code
def yX5_standInLine : MethodName := ⟨RX5, "standInLine", "()V"⟩
abbrev cX5_drawTables : ByteArray := prog_7_method_22_code
def yX5_drawTables : MethodName := ⟨RX5, "drawTables", "(I)I"⟩
abbrev cX5_shortestRing : ByteArray := prog_7_method_23_code
def yX5_shortestRing : MethodName := ⟨RX5, "shortestRing", "()I"⟩
abbrev cX5_seenByAnyOf : ByteArray := prog_7_method_24_code
def yX5_seenByAnyOf : MethodName := ⟨RX5, "seenByAnyOf", "(I)I"⟩
abbrev cX5_countPlacings : ByteArray := prog_7_method_25_code
def yX5_countPlacings : MethodName := ⟨RX5, "countPlacings", "()I"⟩
abbrev cX5_placeFrom : ByteArray := prog_7_method_26_code
def yX5_placeFrom : MethodName := ⟨RX5, "placeFrom", "(II)I"⟩
abbrev cX5_suits : ByteArray := prog_7_method_27_code
def yX5_suits : MethodName := ⟨RX5, "suits", "(I)Z"⟩
def RX6 : String := "HatHall$Reader"
def TX6 : u_T := fun k => match k with
  | 0 => ("HatHall$Reader", "fault", "I", false)
  | 1 => ("HatHall$Reader", "place", "I", false)
  | 2 => ("HatHall$Reader", "made", "[LHatHall$Formula;", true)
  | 3 => ("HatHall$Reader", "text", "[I", false)
  | 4 => ("HatHall$Reader", "length", "I", false)
  | 5 => ("HatHall$Reader", "wearers", "I", false)
  | 6 => ("HatHall$Reader", "at", "I", false)
  | 7 => ("HatHall$Reader", "start", "I", false)
  | 8 => ("HatHall$Reader", "kind", "I", false)
  | 9 => ("HatHall$Reader", "value", "I", false)
  | 10 => ("HatHall$Reader", "kinds", "[I", true)
  | 11 => ("HatHall$Reader", "left", "[I", true)
  | 12 => ("HatHall$Reader", "right", "[I", true)
  | _ => ("HatHall$Reader", "parts", "I", false)
def tyX6 : Nat → FieldType := fun k => match k with
  | 0 => .int
  | 1 => .int
  | 2 => .array (.object "HatHall$Formula")
  | 3 => .array .int
  | 4 => .int
  | 5 => .int
  | 6 => .int
  | 7 => .int
  | 8 => .int
  | 9 => .int
  | 10 => .array .int
  | 11 => .array .int
  | 12 => .array .int
  | _ => .int
abbrev wsX60 : List Cond := u_ws RX6 TX6 14
theorem nmX6 : ∀ a, a < 14 → ∀ b, b < 14 → a ≠ b → (TX6 a).2.1 ≠ (TX6 b).2.1 := by decide +kernel
theorem tyX6_ok : ∀ k, k < 14 → parseFieldDescriptor (TX6 k).2.2.1 = some (tyX6 k) := by decide +kernel
abbrev cX6_init : ByteArray := prog_8_method_1_code
def yX6_init : MethodName := ⟨RX6, "<init>", "()V"⟩
abbrev cX6_read : ByteArray := prog_8_method_2_code
def yX6_read : MethodName := ⟨RX6, "read", "([III)V"⟩
abbrev cX6_readRule : ByteArray := prog_8_method_3_code
def yX6_readRule : MethodName := ⟨RX6, "readRule", "()V"⟩
abbrev cX6_readOr : ByteArray := prog_8_method_4_code
def yX6_readOr : MethodName := ⟨RX6, "readOr", "(I)I"⟩
abbrev cX6_readAnd : ByteArray := prog_8_method_5_code
def yX6_readAnd : MethodName := ⟨RX6, "readAnd", "(I)I"⟩
abbrev cX6_readNot : ByteArray := prog_8_method_6_code
def yX6_readNot : MethodName := ⟨RX6, "readNot", "(I)I"⟩
abbrev cX6_readTest : ByteArray := prog_8_method_7_code
def yX6_readTest : MethodName := ⟨RX6, "readTest", "(I)I"⟩
abbrev cX6_readSum : ByteArray := prog_8_method_8_code
def yX6_readSum : MethodName := ⟨RX6, "readSum", "(I)I"⟩
abbrev cX6_readProduct : ByteArray := prog_8_method_9_code
def yX6_readProduct : MethodName := ⟨RX6, "readProduct", "(I)I"⟩
abbrev cX6_readPart : ByteArray := prog_8_method_10_code
def yX6_readPart : MethodName := ⟨RX6, "readPart", "(I)I"⟩
abbrev cX6_readNumber : ByteArray := prog_8_method_11_code
def yX6_readNumber : MethodName := ⟨RX6, "readNumber", "()I"⟩
abbrev cX6_readWearer : ByteArray := prog_8_method_12_code
def yX6_readWearer : MethodName := ⟨RX6, "readWearer", "()I"⟩
abbrev cX6_add : ByteArray := prog_8_method_13_code
def yX6_add : MethodName := ⟨RX6, "add", "(III)I"⟩
abbrev cX6_expect : ByteArray := prog_8_method_14_code
def yX6_expect : MethodName := ⟨RX6, "expect", "(I)V"⟩
abbrev cX6_stop : ByteArray := prog_8_method_15_code
def yX6_stop : MethodName := ⟨RX6, "stop", "(I)V"⟩
abbrev cX6_isNumber : ByteArray := prog_8_method_16_code
def yX6_isNumber : MethodName := ⟨RX6, "isNumber", "()Z"⟩
abbrev cX6_isWord : ByteArray := prog_8_method_17_code
def yX6_isWord : MethodName := ⟨RX6, "isWord", "()Z"⟩
abbrev cX6_next : ByteArray := prog_8_method_18_code
def yX6_next : MethodName := ⟨RX6, "next", "()V"⟩
abbrev cX6_scanWord : ByteArray := prog_8_method_19_code
def yX6_scanWord : MethodName := ⟨RX6, "scanWord", "()V"⟩
abbrev cX6_scanNumber : ByteArray := prog_8_method_20_code
def yX6_scanNumber : MethodName := ⟨RX6, "scanNumber", "()V"⟩
abbrev cX6_isLetter : ByteArray := prog_8_method_21_code
def yX6_isLetter : MethodName := ⟨RX6, "isLetter", "(I)Z"⟩
abbrev cX6_isDigit : ByteArray := prog_8_method_22_code
def yX6_isDigit : MethodName := ⟨RX6, "isDigit", "(I)Z"⟩
abbrev cX6_isSign : ByteArray := prog_8_method_23_code
def yX6_isSign : MethodName := ⟨RX6, "isSign", "(I)Z"⟩
abbrev cX6_kindOfWord : ByteArray := prog_8_method_24_code
def yX6_kindOfWord : MethodName := ⟨RX6, "kindOfWord", "()I"⟩
def RX7 : String := "HatHall$Scene"
def TX7 : u_T := fun k => match k with
  | 0 => ("HatHall$Scene", "hats", "[I", true)
  | _ => ("HatHall$Scene", "guesses", "[I", true)
def tyX7 : Nat → FieldType := fun k => match k with
  | 0 => .array .int
  | _ => .array .int
abbrev wsX70 : List Cond := u_ws RX7 TX7 2
theorem nmX7 : ∀ a, a < 2 → ∀ b, b < 2 → a ≠ b → (TX7 a).2.1 ≠ (TX7 b).2.1 := by decide +kernel
theorem tyX7_ok : ∀ k, k < 2 → parseFieldDescriptor (TX7 k).2.2.1 = some (tyX7 k) := by decide +kernel
abbrev cX7_init : ByteArray := prog_9_method_1_code
def yX7_init : MethodName := ⟨RX7, "<init>", "()V"⟩
abbrev cX7_copy : ByteArray := prog_9_method_2_code
def yX7_copy : MethodName := ⟨RX7, "copy", "(LHatHall$Scene;)V"⟩
abbrev cX7_dress : ByteArray := prog_9_method_3_code
def yX7_dress : MethodName := ⟨RX7, "dress", "(LHatHall$Net;I)V"⟩
abbrev cX7_dressNext : ByteArray := prog_9_method_4_code
def yX7_dressNext : MethodName := ⟨RX7, "dressNext", "(LHatHall$Net;)V"⟩
abbrev cX7_guessAll : ByteArray := prog_9_method_5_code
def yX7_guessAll : MethodName := ⟨RX7, "guessAll", "(LHatHall$Net;)V"⟩
abbrev cX7_play : ByteArray := prog_9_method_6_code
def yX7_play : MethodName := ⟨RX7, "play", "(LHatHall$Net;I)V"⟩
abbrev cX7_guessAnew : ByteArray := prog_9_method_7_code
def yX7_guessAnew : MethodName := ⟨RX7, "guessAnew", "(LHatHall$Net;II)V"⟩
abbrev cX7_guessOf : ByteArray := prog_9_method_8_code
def yX7_guessOf : MethodName := ⟨RX7, "guessOf", "(LHatHall$Net;I)I"⟩
abbrev cX7_viewOf : ByteArray := prog_9_method_9_code
def yX7_viewOf : MethodName := ⟨RX7, "viewOf", "(LHatHall$Net;I)I"⟩
abbrev cX7_rightOnes : ByteArray := prog_9_method_10_code
def yX7_rightOnes : MethodName := ⟨RX7, "rightOnes", "(LHatHall$Net;)I"⟩
abbrev cX7_wrongOnes : ByteArray := prog_9_method_11_code
def yX7_wrongOnes : MethodName := ⟨RX7, "wrongOnes", "(LHatHall$Net;)I"⟩
abbrev cX7_looksThatMatter : ByteArray := prog_9_method_12_code
def yX7_looksThatMatter : MethodName := ⟨RX7, "looksThatMatter", "(LHatHall$Net;II)I"⟩
abbrev cX7_changesGuess : ByteArray := prog_9_method_13_code
def yX7_changesGuess : MethodName := ⟨RX7, "changesGuess", "(LHatHall$Net;II)Z"⟩
def RX8 : String := "HatHall$Search"
def TX8 : u_T := fun k => match k with
  | 0 => ("HatHall$Search", "made", "I", false)
  | 1 => ("HatHall$Search", "settled", "[B", true)
  | 2 => ("HatHall$Search", "rowsDone", "[S", true)
  | _ => ("HatHall$Search", "wearersDone", "[B", true)
def tyX8 : Nat → FieldType := fun k => match k with
  | 0 => .int
  | 1 => .array .byte
  | 2 => .array .short
  | _ => .array .byte
abbrev wsX80 : List Cond := u_ws RX8 TX8 4
theorem nmX8 : ∀ a, a < 4 → ∀ b, b < 4 → a ≠ b → (TX8 a).2.1 ≠ (TX8 b).2.1 := by decide +kernel
theorem tyX8_ok : ∀ k, k < 4 → parseFieldDescriptor (TX8 k).2.2.1 = some (tyX8 k) := by decide +kernel
abbrev cX8_init : ByteArray := prog_10_method_1_code
def yX8_init : MethodName := ⟨RX8, "<init>", "()V"⟩
abbrev cX8_seek : ByteArray := prog_10_method_2_code
def yX8_seek : MethodName := ⟨RX8, "seek", "(LHatHall$Net;LHatHall$Scene;I)I"⟩
abbrev cX8_rowNotRight : ByteArray := prog_10_method_3_code
def yX8_rowNotRight : MethodName := ⟨RX8, "rowNotRight", "(LHatHall$Net;LHatHall$Scene;I)I"⟩
abbrev cX8_someoneIsRight : ByteArray := prog_10_method_4_code
def yX8_someoneIsRight : MethodName := ⟨RX8, "someoneIsRight", "(LHatHall$Net;LHatHall$Scene;)Z"⟩
abbrev cX8_unsettledWearer : ByteArray := prog_10_method_5_code
def yX8_unsettledWearer : MethodName := ⟨RX8, "unsettledWearer", "(LHatHall$Net;LHatHall$Scene;I)I"⟩
abbrev cX8_cellOf : ByteArray := prog_10_method_6_code
def yX8_cellOf : MethodName := ⟨RX8, "cellOf", "(LHatHall$Net;LHatHall$Scene;I)I"⟩
abbrev cX8_settle : ByteArray := prog_10_method_7_code
def yX8_settle : MethodName := ⟨RX8, "settle", "(LHatHall$Net;)V"⟩
def RX9 : String := "HatHall$Sums"
def TX9 : u_T := fun k => match k with
  | 0 => ("HatHall$Sums", "best", "[I", true)
  | 1 => ("HatHall$Sums", "wearers", "I", false)
  | 2 => ("HatHall$Sums", "tried", "[I", true)
  | 3 => ("HatHall$Sums", "needs", "[I", true)
  | _ => ("HatHall$Sums", "wonByRight", "[Z", true)
def tyX9 : Nat → FieldType := fun k => match k with
  | 0 => .array .int
  | 1 => .int
  | 2 => .array .int
  | 3 => .array .int
  | _ => .array .boolean
abbrev wsX90 : List Cond := u_ws RX9 TX9 5
theorem nmX9 : ∀ a, a < 5 → ∀ b, b < 5 → a ≠ b → (TX9 a).2.1 ≠ (TX9 b).2.1 := by decide +kernel
theorem tyX9_ok : ∀ k, k < 5 → parseFieldDescriptor (TX9 k).2.2.1 = some (tyX9 k) := by decide +kernel
abbrev cX9_init : ByteArray := prog_11_method_1_code
def yX9_init : MethodName := ⟨RX9, "<init>", "()V"⟩
abbrev cX9_seek : ByteArray := prog_11_method_2_code
def yX9_seek : MethodName := ⟨RX9, "seek", "(LHatHall$Net;LHatHall$Judge;LHatHall$Scene;)I"⟩
abbrev cX9_noteNeeds : ByteArray := prog_11_method_3_code
def yX9_noteNeeds : MethodName := ⟨RX9, "noteNeeds", "(LHatHall$Net;LHatHall$Judge;LHatHall$Scene;)I"⟩
abbrev cX9_needsOf : ByteArray := prog_11_method_4_code
def yX9_needsOf : MethodName := ⟨RX9, "needsOf", "(LHatHall$Net;LHatHall$Scene;)I"⟩
abbrev cX9_rowsWonByTried : ByteArray := prog_11_method_5_code
def yX9_rowsWonByTried : MethodName := ⟨RX9, "rowsWonByTried", "(LHatHall$Net;I)I"⟩
abbrev cX9_advance : ByteArray := prog_11_method_6_code
def yX9_advance : MethodName := ⟨RX9, "advance", "(LHatHall$Net;)V"⟩
abbrev cX9_settle : ByteArray := prog_11_method_7_code
def yX9_settle : MethodName := ⟨RX9, "settle", "(LHatHall$Net;)V"⟩
abbrev cX9_sumOfDigits : ByteArray := prog_11_method_8_code
def yX9_sumOfDigits : MethodName := ⟨RX9, "sumOfDigits", "(II)I"⟩
def RX10 : String := "HatHall"
def TX10 : u_T := fun k => match k with
  | 0 => ("HatHall", "net", "LHatHall$Net;", true)
  | 1 => ("HatHall", "trial", "LHatHall$Net;", true)
  | 2 => ("HatHall", "slots", "[LHatHall$Net;", true)
  | 3 => ("HatHall", "scene", "LHatHall$Scene;", true)
  | 4 => ("HatHall", "judge", "LHatHall$Judge;", true)
  | 5 => ("HatHall", "ledger", "LHatHall$Ledger;", true)
  | 6 => ("HatHall", "reader", "LHatHall$Reader;", true)
  | 7 => ("HatHall", "tape", "[I", true)
  | 8 => ("HatHall", "taped", "I", false)
  | 9 => ("HatHall", "search", "LHatHall$Search;", true)
  | 10 => ("HatHall", "sums", "LHatHall$Sums;", true)
  | 11 => ("HatHall", "cover", "LHatHall$Cover;", true)
  | _ => ("HatHall", "mender", "LHatHall$Mender;", true)
def tyX10 : Nat → FieldType := fun k => match k with
  | 0 => .object "HatHall$Net"
  | 1 => .object "HatHall$Net"
  | 2 => .array (.object "HatHall$Net")
  | 3 => .object "HatHall$Scene"
  | 4 => .object "HatHall$Judge"
  | 5 => .object "HatHall$Ledger"
  | 6 => .object "HatHall$Reader"
  | 7 => .array .int
  | 8 => .int
  | 9 => .object "HatHall$Search"
  | 10 => .object "HatHall$Sums"
  | 11 => .object "HatHall$Cover"
  | _ => .object "HatHall$Mender"
abbrev wsX100 : List Cond := u_ws RX10 TX10 13
theorem nmX10 : ∀ a, a < 13 → ∀ b, b < 13 → a ≠ b → (TX10 a).2.1 ≠ (TX10 b).2.1 := by decide +kernel
theorem tyX10_ok : ∀ k, k < 13 → parseFieldDescriptor (TX10 k).2.2.1 = some (tyX10 k) := by decide +kernel
abbrev cX10_init : ByteArray := prog_1_method_1_code
def yX10_init : MethodName := ⟨RX10, "<init>", "()V"⟩
abbrev cX10_hall : ByteArray := prog_1_method_2_code
def yX10_hall : MethodName := ⟨RX10, "hall", "(II)Z"⟩
abbrev cX10_looks : ByteArray := prog_1_method_3_code
def yX10_looks : MethodName := ⟨RX10, "looks", "(II)Z"⟩
abbrev cX10_round : ByteArray := prog_1_method_4_code
def yX10_round : MethodName := ⟨RX10, "round", "(II)Z"⟩
abbrev cX10_heap : ByteArray := prog_1_method_5_code
def yX10_heap : MethodName := ⟨RX10, "heap", "(II)Z"⟩
abbrev cX10_law : ByteArray := prog_1_method_6_code
def yX10_law : MethodName := ⟨RX10, "law", "(II)Z"⟩
abbrev cX10_feed : ByteArray := prog_1_method_7_code
def yX10_feed : MethodName := ⟨RX10, "feed", "(IIIII)I"⟩
abbrev cX10_rules : ByteArray := prog_1_method_8_code
def yX10_rules : MethodName := ⟨RX10, "rules", "(I)I"⟩
abbrev cX10_fault : ByteArray := prog_1_method_9_code
def yX10_fault : MethodName := ⟨RX10, "fault", "()I"⟩
abbrev cX10_about : ByteArray := prog_1_method_10_code
def yX10_about : MethodName := ⟨RX10, "about", "(II)I"⟩
abbrev cX10_tell : ByteArray := prog_1_method_11_code
def yX10_tell : MethodName := ⟨RX10, "tell", "(III)Z"⟩
abbrev cX10_cell : ByteArray := prog_1_method_12_code
def yX10_cell : MethodName := ⟨RX10, "cell", "(II)I"⟩
abbrev cX10_in : ByteArray := prog_1_method_13_code
def yX10_in : MethodName := ⟨RX10, "in", "(III)I"⟩
abbrev cX10_row : ByteArray := prog_1_method_14_code
def yX10_row : MethodName := ⟨RX10, "row", "(II)I"⟩
abbrev cX10_won : ByteArray := prog_1_method_15_code
def yX10_won : MethodName := ⟨RX10, "won", "(I)J"⟩
abbrev cX10_beaten : ByteArray := prog_1_method_16_code
def yX10_beaten : MethodName := ⟨RX10, "beaten", "(I)I"⟩
abbrev cX10_tally : ByteArray := prog_1_method_17_code
def yX10_tally : MethodName := ⟨RX10, "tally", "(I)I"⟩
abbrev cX10_rightOf : ByteArray := prog_1_method_18_code
def yX10_rightOf : MethodName := ⟨RX10, "rightOf", "(I)I"⟩
abbrev cX10_worst : ByteArray := prog_1_method_19_code
def yX10_worst : MethodName := ⟨RX10, "worst", "(I)I"⟩
abbrev cX10_idle : ByteArray := prog_1_method_20_code
def yX10_idle : MethodName := ⟨RX10, "idle", "(I)I"⟩
abbrev cX10_otherwise : ByteArray := prog_1_method_21_code
def yX10_otherwise : MethodName := ⟨RX10, "otherwise", "(II)I"⟩
abbrev cX10_alike : ByteArray := prog_1_method_22_code
def yX10_alike : MethodName := ⟨RX10, "alike", "()I"⟩
abbrev cX10_ring : ByteArray := prog_1_method_23_code
def yX10_ring : MethodName := ⟨RX10, "ring", "()I"⟩
abbrev cX10_search : ByteArray := prog_1_method_24_code
def yX10_search : MethodName := ⟨RX10, "search", "(I)I"⟩
abbrev cX10_steps : ByteArray := prog_1_method_25_code
def yX10_steps : MethodName := ⟨RX10, "steps", "()I"⟩
abbrev cX10_sums : ByteArray := prog_1_method_26_code
def yX10_sums : MethodName := ⟨RX10, "sums", "()I"⟩
abbrev cX10_constant : ByteArray := prog_1_method_27_code
def yX10_constant : MethodName := ⟨RX10, "constant", "(I)I"⟩
abbrev cX10_cover : ByteArray := prog_1_method_28_code
def yX10_cover : MethodName := ⟨RX10, "cover", "()I"⟩
abbrev cX10_given : ByteArray := prog_1_method_29_code
def yX10_given : MethodName := ⟨RX10, "given", "(I)I"⟩
abbrev cX10_line : ByteArray := prog_1_method_30_code
def yX10_line : MethodName := ⟨RX10, "line", "()I"⟩
abbrev cX10_mend : ByteArray := prog_1_method_31_code
def yX10_mend : MethodName := ⟨RX10, "mend", "(I)I"⟩
abbrev cX10_draw : ByteArray := prog_1_method_32_code
def yX10_draw : MethodName := ⟨RX10, "draw", "(I)I"⟩
abbrev cX10_keep : ByteArray := prog_1_method_33_code
def yX10_keep : MethodName := ⟨RX10, "keep", "(I)Z"⟩
abbrev cX10_take : ByteArray := prog_1_method_34_code
def yX10_take : MethodName := ⟨RX10, "take", "(I)Z"⟩
abbrev cX10_count : ByteArray := prog_1_method_35_code
def yX10_count : MethodName := ⟨RX10, "count", "(I)I"⟩
abbrev cX10_needWearer : ByteArray := prog_1_method_36_code
def yX10_needWearer : MethodName := ⟨RX10, "needWearer", "(I)V"⟩
abbrev cX10_needRow : ByteArray := prog_1_method_37_code
def yX10_needRow : MethodName := ⟨RX10, "needRow", "(I)V"⟩
abbrev cX10_needTablesAtOnce : ByteArray := prog_1_method_38_code
def yX10_needTablesAtOnce : MethodName := ⟨RX10, "needTablesAtOnce", "()V"⟩
abbrev cX10_putBytes : ByteArray := prog_1_method_39_code
def yX10_putBytes : MethodName := ⟨RX10, "putBytes", "(I)V"⟩
def RX11 : String := "HatHallModel"
def TX11 : u_T := fun k => match k with
  | 0 => ("HatHallModel", "thrown", "I", false)
  | 1 => ("HatHallModel", "n", "I", false)
  | 2 => ("HatHallModel", "q", "I", false)
  | 3 => ("HatHallModel", "rowsAll", "I", false)
  | 4 => ("HatHallModel", "law", "I", false)
  | 5 => ("HatHallModel", "lawMany", "I", false)
  | 6 => ("HatHallModel", "heap", "[I", true)
  | 7 => ("HatHallModel", "looks", "[I", true)
  | 8 => ("HatHallModel", "round", "[I", true)
  | 9 => ("HatHallModel", "kind", "[I", true)
  | 10 => ("HatHallModel", "table", "[I", true)
  | 11 => ("HatHallModel", "code", "[I", true)
  | 12 => ("HatHallModel", "passAt", "[I", true)
  | 13 => ("HatHallModel", "guessAt", "[I", true)
  | 14 => ("HatHallModel", "heard", "[I", true)
  | 15 => ("HatHallModel", "tape", "[I", true)
  | 16 => ("HatHallModel", "taped", "I", false)
  | 17 => ("HatHallModel", "faultKind", "I", false)
  | 18 => ("HatHallModel", "faultPlace", "I", false)
  | 19 => ("HatHallModel", "size", "I", false)
  | 20 => ("HatHallModel", "next", "I", false)
  | 21 => ("HatHallModel", "sort", "I", false)
  | 22 => ("HatHallModel", "place", "I", false)
  | 23 => ("HatHallModel", "long0", "I", false)
  | 24 => ("HatHallModel", "value", "I", false)
  | 25 => ("HatHallModel", "sign", "I", false)
  | 26 => ("HatHallModel", "word", "J", false)
  | 27 => ("HatHallModel", "rulesRead", "I", false)
  | 28 => ("HatHallModel", "top", "I", false)
  | 29 => ("HatHallModel", "waiting", "I", false)
  | 30 => ("HatHallModel", "depth", "I", false)
  | 31 => ("HatHallModel", "ruleOf", "[I", true)
  | 32 => ("HatHallModel", "rulePass", "[I", true)
  | 33 => ("HatHallModel", "ruleGuess", "[I", true)
  | 34 => ("HatHallModel", "read", "[I", true)
  | 35 => ("HatHallModel", "waits", "[I", true)
  | 36 => ("HatHallModel", "tested", "[Z", true)
  | 37 => ("HatHallModel", "hat", "[I", true)
  | 38 => ("HatHallModel", "guess", "[I", true)
  | 39 => ("HatHallModel", "pile", "[I", true)
  | 40 => ("HatHallModel", "isWorked", "Z", false)
  | 41 => ("HatHallModel", "rightIn", "[I", true)
  | 42 => ("HatHallModel", "wrongIn", "[I", true)
  | 43 => ("HatHallModel", "guessIn", "[I", true)
  | 44 => ("HatHallModel", "turn", "[I", true)
  | 45 => ("HatHallModel", "settled", "[I", true)
  | 46 => ("HatHallModel", "viewIn", "[I", true)
  | 47 => ("HatHallModel", "doneRow", "[I", true)
  | 48 => ("HatHallModel", "doneWearer", "[I", true)
  | 49 => ("HatHallModel", "stepsMade", "I", false)
  | 50 => ("HatHallModel", "summed", "I", false)
  | 51 => ("HatHallModel", "constant", "[I", true)
  | 52 => ("HatHallModel", "trying", "[I", true)
  | 53 => ("HatHallModel", "seenIn", "[I", true)
  | 54 => ("HatHallModel", "givenMany", "I", false)
  | 55 => ("HatHallModel", "given", "[I", true)
  | 56 => ("HatHallModel", "ball", "[I", true)
  | 57 => ("HatHallModel", "lastOf", "[I", true)
  | 58 => ("HatHallModel", "coverOf", "[I", true)
  | 59 => ("HatHallModel", "foundMany", "[I", true)
  | 60 => ("HatHallModel", "found", "[I", true)
  | 61 => ("HatHallModel", "more", "[I", true)
  | 62 => ("HatHallModel", "bestMore", "I", false)
  | 63 => ("HatHallModel", "bestWearer", "I", false)
  | 64 => ("HatHallModel", "bestView", "I", false)
  | 65 => ("HatHallModel", "bestGuess", "I", false)
  | 66 => ("HatHallModel", "slotN", "[I", true)
  | 67 => ("HatHallModel", "slotQ", "[I", true)
  | 68 => ("HatHallModel", "slotLooks", "[I", true)
  | 69 => ("HatHallModel", "slotRound", "[I", true)
  | 70 => ("HatHallModel", "slotKind", "[I", true)
  | 71 => ("HatHallModel", "slotTable", "[I", true)
  | 72 => ("HatHallModel", "slotCode", "[I", true)
  | 73 => ("HatHallModel", "slotPass", "[I", true)
  | _ => ("HatHallModel", "slotGuess", "[I", true)
def tyX11 : Nat → FieldType := fun k => match k with
  | 0 => .int
  | 1 => .int
  | 2 => .int
  | 3 => .int
  | 4 => .int
  | 5 => .int
  | 6 => .array .int
  | 7 => .array .int
  | 8 => .array .int
  | 9 => .array .int
  | 10 => .array .int
  | 11 => .array .int
  | 12 => .array .int
  | 13 => .array .int
  | 14 => .array .int
  | 15 => .array .int
  | 16 => .int
  | 17 => .int
  | 18 => .int
  | 19 => .int
  | 20 => .int
  | 21 => .int
  | 22 => .int
  | 23 => .int
  | 24 => .int
  | 25 => .int
  | 26 => .long
  | 27 => .int
  | 28 => .int
  | 29 => .int
  | 30 => .int
  | 31 => .array .int
  | 32 => .array .int
  | 33 => .array .int
  | 34 => .array .int
  | 35 => .array .int
  | 36 => .array .boolean
  | 37 => .array .int
  | 38 => .array .int
  | 39 => .array .int
  | 40 => .boolean
  | 41 => .array .int
  | 42 => .array .int
  | 43 => .array .int
  | 44 => .array .int
  | 45 => .array .int
  | 46 => .array .int
  | 47 => .array .int
  | 48 => .array .int
  | 49 => .int
  | 50 => .int
  | 51 => .array .int
  | 52 => .array .int
  | 53 => .array .int
  | 54 => .int
  | 55 => .array .int
  | 56 => .array .int
  | 57 => .array .int
  | 58 => .array .int
  | 59 => .array .int
  | 60 => .array .int
  | 61 => .array .int
  | 62 => .int
  | 63 => .int
  | 64 => .int
  | 65 => .int
  | 66 => .array .int
  | 67 => .array .int
  | 68 => .array .int
  | 69 => .array .int
  | 70 => .array .int
  | 71 => .array .int
  | 72 => .array .int
  | 73 => .array .int
  | _ => .array .int
abbrev wsX110 : List Cond := u_ws RX11 TX11 75
theorem nmX11 : ∀ a, a < 75 → ∀ b, b < 75 → a ≠ b → (TX11 a).2.1 ≠ (TX11 b).2.1 := by decide +kernel
theorem tyX11_ok : ∀ k, k < 75 → parseFieldDescriptor (TX11 k).2.2.1 = some (tyX11 k) := by decide +kernel
abbrev cX11_init : ByteArray := prog_13_method_1_code
def yX11_init : MethodName := ⟨RX11, "<init>", "()V"⟩
abbrev cX11_thrown : ByteArray := prog_13_method_2_code
def yX11_thrown : MethodName := ⟨RX11, "thrown", "()I"⟩
abbrev cX11_right : ByteArray := prog_13_method_3_code
def yX11_right : MethodName := ⟨RX11, "right", "(ZI)Z"⟩
abbrev cX11_within : ByteArray := prog_13_method_4_code
def yX11_within : MethodName := ⟨RX11, "within", "(III)Z"⟩
abbrev cX11_bits : ByteArray := prog_13_method_5_code
def yX11_bits : MethodName := ⟨RX11, "bits", "(I)I"⟩
abbrev cX11_all : ByteArray := prog_13_method_6_code
def yX11_all : MethodName := ⟨RX11, "all", "()I"⟩
abbrev cX11_hears : ByteArray := prog_13_method_7_code
def yX11_hears : MethodName := ⟨RX11, "hears", "(I)I"⟩
abbrev cX11_viewsOf : ByteArray := prog_13_method_8_code
def yX11_viewsOf : MethodName := ⟨RX11, "viewsOf", "(I)I"⟩
abbrev cX11_blank : ByteArray := prog_13_method_9_code
def yX11_blank : MethodName := ⟨RX11, "blank", "(I)V"⟩
abbrev cX11_anew : ByteArray := prog_13_method_10_code
def yX11_anew : MethodName := ⟨RX11, "anew", "(II)V"⟩
abbrev cX11_hall : ByteArray := prog_13_method_11_code
def yX11_hall : MethodName := ⟨RX11, "hall", "(II)Z"⟩
abbrev cX11_isWearer : ByteArray := prog_13_method_12_code
def yX11_isWearer : MethodName := ⟨RX11, "isWearer", "(I)Z"⟩
abbrev cX11_looks : ByteArray := prog_13_method_13_code
def yX11_looks : MethodName := ⟨RX11, "looks", "(II)Z"⟩
abbrev cX11_round : ByteArray := prog_13_method_14_code
def yX11_round : MethodName := ⟨RX11, "round", "(II)Z"⟩
abbrev cX11_heap : ByteArray := prog_13_method_15_code
def yX11_heap : MethodName := ⟨RX11, "heap", "(II)Z"⟩
abbrev cX11_law : ByteArray := prog_13_method_16_code
def yX11_law : MethodName := ⟨RX11, "law", "(II)Z"⟩
abbrev cX11_feed : ByteArray := prog_13_method_17_code
def yX11_feed : MethodName := ⟨RX11, "feed", "(IIIII)I"⟩
abbrev cX11_lays : ByteArray := prog_13_method_18_code
def yX11_lays : MethodName := ⟨RX11, "lays", "(I)V"⟩
abbrev cX11_byteAt : ByteArray := prog_13_method_19_code
def yX11_byteAt : MethodName := ⟨RX11, "byteAt", "(I)I"⟩
abbrev cX11_isLetter : ByteArray := prog_13_method_20_code
def yX11_isLetter : MethodName := ⟨RX11, "isLetter", "(I)Z"⟩
abbrev cX11_isDigit : ByteArray := prog_13_method_21_code
def yX11_isDigit : MethodName := ⟨RX11, "isDigit", "(I)Z"⟩
abbrev cX11_goes : ByteArray := prog_13_method_22_code
def yX11_goes : MethodName := ⟨RX11, "goes", "()V"⟩
abbrev cX11_spelled : ByteArray := prog_13_method_23_code
def yX11_spelled : MethodName := ⟨RX11, "spelled", "(IIIIII)J"⟩
abbrev cX11_letters : ByteArray := prog_13_method_24_code
def yX11_letters : MethodName := ⟨RX11, "letters", "(I)J"⟩
abbrev cX11_knownWord : ByteArray := prog_13_method_25_code
def yX11_knownWord : MethodName := ⟨RX11, "knownWord", "()I"⟩
abbrev cX11_wrong : ByteArray := prog_13_method_26_code
def yX11_wrong : MethodName := ⟨RX11, "wrong", "(I)V"⟩
abbrev cX11_isGood : ByteArray := prog_13_method_27_code
def yX11_isGood : MethodName := ⟨RX11, "isGood", "()Z"⟩
abbrev cX11_isSign : ByteArray := prog_13_method_28_code
def yX11_isSign : MethodName := ⟨RX11, "isSign", "(I)Z"⟩
abbrev cX11_puts : ByteArray := prog_13_method_29_code
def yX11_puts : MethodName := ⟨RX11, "puts", "(I)V"⟩
abbrev cX11_strength : ByteArray := prog_13_method_30_code
def yX11_strength : MethodName := ⟨RX11, "strength", "(I)I"⟩
abbrev cX11_drops : ByteArray := prog_13_method_31_code
def yX11_drops : MethodName := ⟨RX11, "drops", "(I)V"⟩
abbrev cX11_waitsFor : ByteArray := prog_13_method_32_code
def yX11_waitsFor : MethodName := ⟨RX11, "waitsFor", "(I)V"⟩
abbrev cX11_wearer : ByteArray := prog_13_method_33_code
def yX11_wearer : MethodName := ⟨RX11, "wearer", "()I"⟩
abbrev cX11_part : ByteArray := prog_13_method_34_code
def yX11_part : MethodName := ⟨RX11, "part", "()V"⟩
abbrev cX11_begins : ByteArray := prog_13_method_35_code
def yX11_begins : MethodName := ⟨RX11, "begins", "()V"⟩
abbrev cX11_operand : ByteArray := prog_13_method_36_code
def yX11_operand : MethodName := ⟨RX11, "operand", "(Z)V"⟩
abbrev cX11_expression : ByteArray := prog_13_method_37_code
def yX11_expression : MethodName := ⟨RX11, "expression", "()I"⟩
abbrev cX11_rule : ByteArray := prog_13_method_38_code
def yX11_rule : MethodName := ⟨RX11, "rule", "()V"⟩
abbrev cX11_copies : ByteArray := prog_13_method_39_code
def yX11_copies : MethodName := ⟨RX11, "copies", "(III)I"⟩
abbrev cX11_rules : ByteArray := prog_13_method_40_code
def yX11_rules : MethodName := ⟨RX11, "rules", "(I)I"⟩
abbrev cX11_fault : ByteArray := prog_13_method_41_code
def yX11_fault : MethodName := ⟨RX11, "fault", "()I"⟩
abbrev cX11_wears : ByteArray := prog_13_method_42_code
def yX11_wears : MethodName := ⟨RX11, "wears", "(I)V"⟩
abbrev cX11_sum : ByteArray := prog_13_method_43_code
def yX11_sum : MethodName := ⟨RX11, "sum", "([II)I"⟩
abbrev cX11_valueOf : ByteArray := prog_13_method_44_code
def yX11_valueOf : MethodName := ⟨RX11, "valueOf", "(II)I"⟩
abbrev cX11_works : ByteArray := prog_13_method_45_code
def yX11_works : MethodName := ⟨RX11, "works", "(III)I"⟩
abbrev cX11_worth : ByteArray := prog_13_method_46_code
def yX11_worth : MethodName := ⟨RX11, "worth", "(II)I"⟩
abbrev cX11_viewOf : ByteArray := prog_13_method_47_code
def yX11_viewOf : MethodName := ⟨RX11, "viewOf", "(I)I"⟩
abbrev cX11_guesses : ByteArray := prog_13_method_48_code
def yX11_guesses : MethodName := ⟨RX11, "guesses", "(I)I"⟩
abbrev cX11_worksRow : ByteArray := prog_13_method_49_code
def yX11_worksRow : MethodName := ⟨RX11, "worksRow", "(I)V"⟩
abbrev cX11_worksAll : ByteArray := prog_13_method_50_code
def yX11_worksAll : MethodName := ⟨RX11, "worksAll", "()V"⟩
abbrev cX11_counts : ByteArray := prog_13_method_51_code
def yX11_counts : MethodName := ⟨RX11, "counts", "(I)Z"⟩
abbrev cX11_many : ByteArray := prog_13_method_52_code
def yX11_many : MethodName := ⟨RX11, "many", "(II)I"⟩
abbrev cX11_isWon : ByteArray := prog_13_method_53_code
def yX11_isWon : MethodName := ⟨RX11, "isWon", "(II)Z"⟩
abbrev cX11_about : ByteArray := prog_13_method_54_code
def yX11_about : MethodName := ⟨RX11, "about", "(II)I"⟩
abbrev cX11_tell : ByteArray := prog_13_method_55_code
def yX11_tell : MethodName := ⟨RX11, "tell", "(III)Z"⟩
abbrev cX11_cell : ByteArray := prog_13_method_56_code
def yX11_cell : MethodName := ⟨RX11, "cell", "(II)I"⟩
abbrev cX11_isRow : ByteArray := prog_13_method_57_code
def yX11_isRow : MethodName := ⟨RX11, "isRow", "(I)Z"⟩
abbrev cX11_in : ByteArray := prog_13_method_58_code
def yX11_in : MethodName := ⟨RX11, "in", "(III)I"⟩
abbrev cX11_row : ByteArray := prog_13_method_59_code
def yX11_row : MethodName := ⟨RX11, "row", "(II)I"⟩
abbrev cX11_weight : ByteArray := prog_13_method_60_code
def yX11_weight : MethodName := ⟨RX11, "weight", "(I)J"⟩
abbrev cX11_won : ByteArray := prog_13_method_61_code
def yX11_won : MethodName := ⟨RX11, "won", "(I)J"⟩
abbrev cX11_beaten : ByteArray := prog_13_method_62_code
def yX11_beaten : MethodName := ⟨RX11, "beaten", "(I)I"⟩
abbrev cX11_tally : ByteArray := prog_13_method_63_code
def yX11_tally : MethodName := ⟨RX11, "tally", "(I)I"⟩
abbrev cX11_rightOf : ByteArray := prog_13_method_64_code
def yX11_rightOf : MethodName := ⟨RX11, "rightOf", "(I)I"⟩
abbrev cX11_worstRow : ByteArray := prog_13_method_65_code
def yX11_worstRow : MethodName := ⟨RX11, "worstRow", "()I"⟩
abbrev cX11_worst : ByteArray := prog_13_method_66_code
def yX11_worst : MethodName := ⟨RX11, "worst", "(I)I"⟩
abbrev cX11_laysOut : ByteArray := prog_13_method_67_code
def yX11_laysOut : MethodName := ⟨RX11, "laysOut", "(I)V"⟩
abbrev cX11_idle : ByteArray := prog_13_method_68_code
def yX11_idle : MethodName := ⟨RX11, "idle", "(I)I"⟩
abbrev cX11_otherwise : ByteArray := prog_13_method_69_code
def yX11_otherwise : MethodName := ⟨RX11, "otherwise", "(II)I"⟩
abbrev cX11_turns : ByteArray := prog_13_method_70_code
def yX11_turns : MethodName := ⟨RX11, "turns", "()Z"⟩
abbrev cX11_swaps : ByteArray := prog_13_method_71_code
def yX11_swaps : MethodName := ⟨RX11, "swaps", "(II)V"⟩
abbrev cX11_isAlike : ByteArray := prog_13_method_72_code
def yX11_isAlike : MethodName := ⟨RX11, "isAlike", "()Z"⟩
abbrev cX11_alike : ByteArray := prog_13_method_73_code
def yX11_alike : MethodName := ⟨RX11, "alike", "()I"⟩
abbrev cX11_ring : ByteArray := prog_13_method_74_code
def yX11_ring : MethodName := ⟨RX11, "ring", "()I"⟩
abbrev cX11_areAtOnce : ByteArray := prog_13_method_75_code
def yX11_areAtOnce : MethodName := ⟨RX11, "areAtOnce", "()Z"⟩
abbrev cX11_views : ByteArray := prog_13_method_76_code
def yX11_views : MethodName := ⟨RX11, "views", "()V"⟩
abbrev cX11_hatIn : ByteArray := prog_13_method_77_code
def yX11_hatIn : MethodName := ⟨RX11, "hatIn", "(III)I"⟩
abbrev cX11_isSomeRight : ByteArray := prog_13_method_78_code
def yX11_isSomeRight : MethodName := ⟨RX11, "isSomeRight", "(I)Z"⟩
abbrev cX11_search : ByteArray := prog_13_method_79_code
def yX11_search : MethodName := ⟨RX11, "search", "(I)I"⟩
abbrev cX11_steps : ByteArray := prog_13_method_80_code
def yX11_steps : MethodName := ⟨RX11, "steps", "()I"⟩
abbrev cX11_sums : ByteArray := prog_13_method_81_code
def yX11_sums : MethodName := ⟨RX11, "sums", "()I"⟩
abbrev cX11_isWonBy : ByteArray := prog_13_method_82_code
def yX11_isWonBy : MethodName := ⟨RX11, "isWonBy", "(I)Z"⟩
abbrev cX11_constant : ByteArray := prog_13_method_83_code
def yX11_constant : MethodName := ⟨RX11, "constant", "(I)I"⟩
abbrev cX11_balls : ByteArray := prog_13_method_84_code
def yX11_balls : MethodName := ⟨RX11, "balls", "()V"⟩
abbrev cX11_last : ByteArray := prog_13_method_85_code
def yX11_last : MethodName := ⟨RX11, "last", "(I)I"⟩
abbrev cX11_latest : ByteArray := prog_13_method_86_code
def yX11_latest : MethodName := ⟨RX11, "latest", "(I)I"⟩
abbrev cX11_covers : ByteArray := prog_13_method_87_code
def yX11_covers : MethodName := ⟨RX11, "covers", "(I)Z"⟩
abbrev cX11_isGiven : ByteArray := prog_13_method_88_code
def yX11_isGiven : MethodName := ⟨RX11, "isGiven", "(I)Z"⟩
abbrev cX11_cover : ByteArray := prog_13_method_89_code
def yX11_cover : MethodName := ⟨RX11, "cover", "()I"⟩
abbrev cX11_given : ByteArray := prog_13_method_90_code
def yX11_given : MethodName := ⟨RX11, "given", "(I)I"⟩
abbrev cX11_says : ByteArray := prog_13_method_91_code
def yX11_says : MethodName := ⟨RX11, "says", "(IIII)V"⟩
abbrev cX11_line : ByteArray := prog_13_method_92_code
def yX11_line : MethodName := ⟨RX11, "line", "()I"⟩
abbrev cX11_isWonIf : ByteArray := prog_13_method_93_code
def yX11_isWonIf : MethodName := ⟨RX11, "isWonIf", "(III)Z"⟩
abbrev cX11_weighs : ByteArray := prog_13_method_94_code
def yX11_weighs : MethodName := ⟨RX11, "weighs", "(I)V"⟩
abbrev cX11_mend : ByteArray := prog_13_method_95_code
def yX11_mend : MethodName := ⟨RX11, "mend", "(I)I"⟩
abbrev cX11_draw : ByteArray := prog_13_method_96_code
def yX11_draw : MethodName := ⟨RX11, "draw", "(I)I"⟩
abbrev cX11_keep : ByteArray := prog_13_method_97_code
def yX11_keep : MethodName := ⟨RX11, "keep", "(I)Z"⟩
abbrev cX11_take : ByteArray := prog_13_method_98_code
def yX11_take : MethodName := ⟨RX11, "take", "(I)Z"⟩
abbrev cX11_count : ByteArray := prog_13_method_99_code
def yX11_count : MethodName := ⟨RX11, "count", "(I)I"⟩
def RJx8e188 : String := "java/lang/Cloneable"
def RJ6 : String := "java/lang/Integer"
def TJ6 : u_T := fun k => match k with
  | _ => ("", "", "", false)
def tyJ6 : Nat → FieldType := fun k => match k with
  | _ => .int
abbrev wsJ60 : List Cond := u_ws RJ6 TJ6 0
theorem nmJ6 : ∀ a, a < 0 → ∀ b, b < 0 → a ≠ b → (TJ6 a).2.1 ≠ (TJ6 b).2.1 := by decide +kernel
theorem tyJ6_ok : ∀ k, k < 0 → parseFieldDescriptor (TJ6 k).2.2.1 = some (tyJ6 k) := by decide +kernel
abbrev cJ6_bitCount_0f7a4 : ByteArray := prog_17_method_49_code
def yJ6_bitCount_0f7a4 : MethodName := ⟨RJ6, "bitCount", "(I)I"⟩
def RJ9 : String := "java/lang/Math"
def TJ9 : u_T := fun k => match k with
  | _ => ("", "", "", false)
def tyJ9 : Nat → FieldType := fun k => match k with
  | _ => .int
abbrev wsJ90 : List Cond := u_ws RJ9 TJ9 0
theorem nmJ9 : ∀ a, a < 0 → ∀ b, b < 0 → a ≠ b → (TJ9 a).2.1 ≠ (TJ9 b).2.1 := by decide +kernel
theorem tyJ9_ok : ∀ k, k < 0 → parseFieldDescriptor (TJ9 k).2.2.1 = some (tyJ9 k) := by decide +kernel
abbrev cJ9_floorMod_7cf53 : ByteArray := prog_18_method_50_code
def yJ9_floorMod_7cf53 : MethodName := ⟨RJ9, "floorMod", "(II)I"⟩
abbrev cJ9_max_7cf53 : ByteArray := prog_18_method_65_code
def yJ9_max_7cf53 : MethodName := ⟨RJ9, "max", "(II)I"⟩
abbrev cJ9_min_7cf53 : ByteArray := prog_18_method_69_code
def yJ9_min_7cf53 : MethodName := ⟨RJ9, "min", "(II)I"⟩
def RJ0 : String := "java/lang/String"
def TJ0 : u_T := fun k => match k with
  | _ => ("", "", "", false)
def tyJ0 : Nat → FieldType := fun k => match k with
  | _ => .int
abbrev wsJ00 : List Cond := u_ws RJ0 TJ0 0
theorem nmJ0 : ∀ a, a < 0 → ∀ b, b < 0 → a ≠ b → (TJ0 a).2.1 ≠ (TJ0 b).2.1 := by decide +kernel
theorem tyJ0_ok : ∀ k, k < 0 → parseFieldDescriptor (TJ0 k).2.2.1 = some (tyJ0 k) := by decide +kernel
abbrev cJ0_length_8abf5 : ByteArray := prog_20_method_54_code
def yJ0_length_8abf5 : MethodName := ⟨RJ0, "length", "()I"⟩
abbrev cJ0_charAt_5068e : ByteArray := prog_20_method_56_code
def yJ0_charAt_5068e : MethodName := ⟨RJ0, "charAt", "(I)C"⟩
abbrev cJ0_coder_7d493 : ByteArray := prog_20_method_152_code
def yJ0_coder_7d493 : MethodName := ⟨RJ0, "coder", "()B"⟩
abbrev cJ0_isLatin1_aae02 : ByteArray := prog_20_method_154_code
def yJ0_isLatin1_aae02 : MethodName := ⟨RJ0, "isLatin1", "()Z"⟩
abbrev cJ0_checkIndex_df160 : ByteArray := prog_20_method_155_code
def yJ0_checkIndex_df160 : MethodName := ⟨RJ0, "checkIndex", "(II)V"⟩
def RJ1 : String := "java/lang/StringLatin1"
def TJ1 : u_T := fun k => match k with
  | _ => ("", "", "", false)
def tyJ1 : Nat → FieldType := fun k => match k with
  | _ => .int
abbrev wsJ10 : List Cond := u_ws RJ1 TJ1 0
theorem nmJ1 : ∀ a, a < 0 → ∀ b, b < 0 → a ≠ b → (TJ1 a).2.1 ≠ (TJ1 b).2.1 := by decide +kernel
theorem tyJ1_ok : ∀ k, k < 0 → parseFieldDescriptor (TJ1 k).2.2.1 = some (tyJ1 k) := by decide +kernel
abbrev cJ1_charAt_3b067 : ByteArray := prog_21_method_2_code
def yJ1_charAt_3b067 : MethodName := ⟨RJ1, "charAt", "([BI)C"⟩
def RJ2 : String := "java/lang/StringUTF16"
def TJ2 : u_T := fun k => match k with
  | _ => ("", "", "", false)
def tyJ2 : Nat → FieldType := fun k => match k with
  | _ => .int
abbrev wsJ20 : List Cond := u_ws RJ2 TJ2 0
theorem nmJ2 : ∀ a, a < 0 → ∀ b, b < 0 → a ≠ b → (TJ2 a).2.1 ≠ (TJ2 b).2.1 := by decide +kernel
theorem tyJ2_ok : ∀ k, k < 0 → parseFieldDescriptor (TJ2 k).2.2.1 = some (tyJ2 k) := by decide +kernel
abbrev cJ2_getChar_3b067 : ByteArray := prog_22_method_5_code
def yJ2_getChar_3b067 : MethodName := ⟨RJ2, "getChar", "([BI)C"⟩
abbrev cJ2_length_9d52b : ByteArray := prog_22_method_6_code
def yJ2_length_9d52b : MethodName := ⟨RJ2, "length", "([B)I"⟩
abbrev cJ2_charAt_3b067 : ByteArray := prog_22_method_83_code
def yJ2_charAt_3b067 : MethodName := ⟨RJ2, "charAt", "([BI)C"⟩
abbrev cJ2_checkIndex_2214a : ByteArray := prog_22_method_91_code
def yJ2_checkIndex_2214a : MethodName := ⟨RJ2, "checkIndex", "(I[B)V"⟩
def RJ10 : String := "java/lang/System"
def TJ10 : u_T := fun k => match k with
  | _ => ("", "", "", false)
def tyJ10 : Nat → FieldType := fun k => match k with
  | _ => .int
abbrev wsJ100 : List Cond := u_ws RJ10 TJ10 0
theorem nmJ10 : ∀ a, a < 0 → ∀ b, b < 0 → a ≠ b → (TJ10 a).2.1 ≠ (TJ10 b).2.1 := by decide +kernel
theorem tyJ10_ok : ∀ k, k < 0 → parseFieldDescriptor (TJ10 k).2.2.1 = some (tyJ10 k) := by decide +kernel
def RJ7 : String := "java/util/Arrays"
def TJ7 : u_T := fun k => match k with
  | _ => ("", "", "", false)
def tyJ7 : Nat → FieldType := fun k => match k with
  | _ => .int
abbrev wsJ70 : List Cond := u_ws RJ7 TJ7 0
theorem nmJ7 : ∀ a, a < 0 → ∀ b, b < 0 → a ≠ b → (TJ7 a).2.1 ≠ (TJ7 b).2.1 := by decide +kernel
theorem tyJ7_ok : ∀ k, k < 0 → parseFieldDescriptor (TJ7 k).2.2.1 = some (tyJ7 k) := by decide +kernel
abbrev cJ7_fill_53178 : ByteArray := prog_25_method_103_code
def yJ7_fill_53178 : MethodName := ⟨RJ7, "fill", "([II)V"⟩
abbrev cJ7_fill_031fb : ByteArray := prog_25_method_109_code
def yJ7_fill_031fb : MethodName := ⟨RJ7, "fill", "([BB)V"⟩
abbrev cJ7_copyOf_59c91 : ByteArray := prog_25_method_123_code
def yJ7_copyOf_59c91 : MethodName := ⟨RJ7, "copyOf", "([II)[I"⟩
def RJ3 : String := "jdk/internal/util/Preconditions"
def TJ3 : u_T := fun k => match k with
  | _ => ("", "", "", false)
def tyJ3 : Nat → FieldType := fun k => match k with
  | _ => .int
abbrev wsJ30 : List Cond := u_ws RJ3 TJ3 0
theorem nmJ3 : ∀ a, a < 0 → ∀ b, b < 0 → a ≠ b → (TJ3 a).2.1 ≠ (TJ3 b).2.1 := by decide +kernel
theorem tyJ3_ok : ∀ k, k < 0 → parseFieldDescriptor (TJ3 k).2.2.1 = some (tyJ3 k) := by decide +kernel
abbrev cJ3_checkIndex_8e157 : ByteArray := prog_27_method_11_code
def yJ3_checkIndex_8e157 : MethodName := ⟨RJ3, "checkIndex", "(IILjava/util/function/BiFunction;)I"⟩
def RL : String := "HatHallLaw"
abbrev cL_looks : ByteArray := method_3_code
def yL_looks : MethodName := ⟨RL, "looks", "(LHatHall;II[J)I"⟩
abbrev cL_round : ByteArray := method_4_code
def yL_round : MethodName := ⟨RL, "round", "(LHatHall;II[J)I"⟩
abbrev cL_rules : ByteArray := method_5_code
def yL_rules : MethodName := ⟨RL, "rules", "(LHatHall;I[J)I"⟩
abbrev cL_about : ByteArray := method_6_code
def yL_about : MethodName := ⟨RL, "about", "(LHatHall;II[J)I"⟩
abbrev cL_tell : ByteArray := method_7_code
def yL_tell : MethodName := ⟨RL, "tell", "(LHatHall;III[J)I"⟩
abbrev cL_cell : ByteArray := method_8_code
def yL_cell : MethodName := ⟨RL, "cell", "(LHatHall;II[J)I"⟩
abbrev cL_in : ByteArray := method_9_code
def yL_in : MethodName := ⟨RL, "in", "(LHatHall;III[J)I"⟩
abbrev cL_row : ByteArray := method_10_code
def yL_row : MethodName := ⟨RL, "row", "(LHatHall;II[J)I"⟩
abbrev cL_won : ByteArray := method_11_code
def yL_won : MethodName := ⟨RL, "won", "(LHatHall;I[J)I"⟩
abbrev cL_rightOf : ByteArray := method_12_code
def yL_rightOf : MethodName := ⟨RL, "rightOf", "(LHatHall;I[J)I"⟩
abbrev cL_worst : ByteArray := method_13_code
def yL_worst : MethodName := ⟨RL, "worst", "(LHatHall;I[J)I"⟩
abbrev cL_idle : ByteArray := method_14_code
def yL_idle : MethodName := ⟨RL, "idle", "(LHatHall;I[J)I"⟩
abbrev cL_otherwise : ByteArray := method_15_code
def yL_otherwise : MethodName := ⟨RL, "otherwise", "(LHatHall;II[J)I"⟩
abbrev cL_search : ByteArray := method_16_code
def yL_search : MethodName := ⟨RL, "search", "(LHatHall;I[J)I"⟩
abbrev cL_sums : ByteArray := method_17_code
def yL_sums : MethodName := ⟨RL, "sums", "(LHatHall;[J)I"⟩
abbrev cL_constant : ByteArray := method_18_code
def yL_constant : MethodName := ⟨RL, "constant", "(LHatHall;I[J)I"⟩
abbrev cL_given : ByteArray := method_19_code
def yL_given : MethodName := ⟨RL, "given", "(LHatHall;I[J)I"⟩
abbrev cL_mend : ByteArray := method_20_code
def yL_mend : MethodName := ⟨RL, "mend", "(LHatHall;I[J)I"⟩
abbrev cL_count : ByteArray := method_21_code
def yL_count : MethodName := ⟨RL, "count", "(LHatHall;I[J)I"⟩
abbrev cL_law : ByteArray := code
def yL_law : MethodName := ⟨RL, "law", "([I)Z"⟩
end
section
def tb : List Cond := lw_tbl.filter goodWord
theorem tb_in {w : Cond} (i : Nat) (h : lw_tbl[i]? = some w) (g : goodWord w = true) : w ∈ tb := List.mem_filter.mpr ⟨List.mem_of_getElem? h, g⟩
theorem kw0 : Cond.selects "HatHall$Net" yX5_clearTable yX5_clearTable ∈ tb := tb_in 0 (by decide +kernel) (by decide +kernel)
theorem kw1 : Cond.selects "HatHall$Net" yX5_countViews yX5_countViews ∈ tb := tb_in 1 (by decide +kernel) (by decide +kernel)
theorem kw2 : Cond.selects "HatHall" yX10_putBytes yX10_putBytes ∈ tb := tb_in 2 (by decide +kernel) (by decide +kernel)
theorem kw3 : Cond.selects "HatHall$Formula" yX1_join yX1_join ∈ tb := tb_in 3 (by decide +kernel) (by decide +kernel)
theorem kw4 : Cond.selects "HatHall$Formula" yX1_look yX1_look ∈ tb := tb_in 4 (by decide +kernel) (by decide +kernel)
theorem kw5 : Cond.selects "HatHall$Ledger" yX3_counts yX3_counts ∈ tb := tb_in 5 (by decide +kernel) (by decide +kernel)
theorem kw6 : Cond.selects "HatHall$Ledger" yX3_isWon yX3_isWon ∈ tb := tb_in 6 (by decide +kernel) (by decide +kernel)
theorem kw7 : Cond.selects "HatHall$Net" yX5_placeFrom yX5_placeFrom ∈ tb := tb_in 7 (by decide +kernel) (by decide +kernel)
theorem kw8 : Cond.selects "HatHall$Net" yX5_suits yX5_suits ∈ tb := tb_in 8 (by decide +kernel) (by decide +kernel)
theorem kw9 : Cond.selects "HatHall$Net" yX5_seenByAnyOf yX5_seenByAnyOf ∈ tb := tb_in 9 (by decide +kernel) (by decide +kernel)
theorem kw10 : Cond.selects "HatHall$Cover" yX0_noteNear yX0_noteNear ∈ tb := tb_in 10 (by decide +kernel) (by decide +kernel)
theorem kw11 : Cond.selects "HatHall$Cover" yX0_choose yX0_choose ∈ tb := tb_in 11 (by decide +kernel) (by decide +kernel)
theorem kw12 : Cond.selects "HatHall$Cover" yX0_lastUseful yX0_lastUseful ∈ tb := tb_in 12 (by decide +kernel) (by decide +kernel)
theorem kw13 : Cond.selects "HatHall$Cover" yX0_isChosen yX0_isChosen ∈ tb := tb_in 13 (by decide +kernel) (by decide +kernel)
theorem kw14 : Cond.selects "HatHall$Net" yX5_orderByRounds yX5_orderByRounds ∈ tb := tb_in 14 (by decide +kernel) (by decide +kernel)
theorem kw15 : Cond.selects "HatHall$Net" yX5_earlierThan yX5_earlierThan ∈ tb := tb_in 15 (by decide +kernel) (by decide +kernel)
theorem kw16 : Cond.selects "java/lang/Throwable" ⟨"java/lang/Throwable", "fillInStackTrace", "(I)Ljava/lang/Throwable;"⟩ ⟨"java/lang/Throwable", "fillInStackTrace", "(I)Ljava/lang/Throwable;"⟩ ∈ tb := tb_in 16 (by decide +kernel) (by decide +kernel)
theorem kw17 : Cond.selects "HatHall" yX10_needWearer yX10_needWearer ∈ tb := tb_in 17 (by decide +kernel) (by decide +kernel)
theorem kw18 : Cond.selects "HatHall$Reader" yX6_next yX6_next ∈ tb := tb_in 18 (by decide +kernel) (by decide +kernel)
theorem kw19 : Cond.selects "HatHall$Reader" yX6_scanWord yX6_scanWord ∈ tb := tb_in 19 (by decide +kernel) (by decide +kernel)
theorem kw20 : Cond.selects "HatHall$Reader" yX6_kindOfWord yX6_kindOfWord ∈ tb := tb_in 20 (by decide +kernel) (by decide +kernel)
theorem kw21 : Cond.selects "HatHall$Reader" yX6_scanNumber yX6_scanNumber ∈ tb := tb_in 21 (by decide +kernel) (by decide +kernel)
theorem kw22 : Cond.selects "HatHall$Reader" yX6_stop yX6_stop ∈ tb := tb_in 22 (by decide +kernel) (by decide +kernel)
theorem kw23 : Cond.selects "HatHall$Reader" yX6_readRule yX6_readRule ∈ tb := tb_in 23 (by decide +kernel) (by decide +kernel)
theorem kw24 : Cond.selects "HatHall$Reader" yX6_readWearer yX6_readWearer ∈ tb := tb_in 24 (by decide +kernel) (by decide +kernel)
theorem kw25 : Cond.selects "HatHall$Reader" yX6_readNumber yX6_readNumber ∈ tb := tb_in 25 (by decide +kernel) (by decide +kernel)
theorem kw26 : Cond.selects "HatHall$Reader" yX6_readOr yX6_readOr ∈ tb := tb_in 26 (by decide +kernel) (by decide +kernel)
theorem kw27 : Cond.selects "HatHall$Reader" yX6_isNumber yX6_isNumber ∈ tb := tb_in 27 (by decide +kernel) (by decide +kernel)
theorem kw28 : Cond.selects "HatHall$Reader" yX6_isWord yX6_isWord ∈ tb := tb_in 28 (by decide +kernel) (by decide +kernel)
theorem kw29 : Cond.selects "HatHall$Reader" yX6_readAnd yX6_readAnd ∈ tb := tb_in 29 (by decide +kernel) (by decide +kernel)
theorem kw30 : Cond.selects "HatHall$Reader" yX6_readNot yX6_readNot ∈ tb := tb_in 30 (by decide +kernel) (by decide +kernel)
theorem kw31 : Cond.selects "HatHall$Reader" yX6_readTest yX6_readTest ∈ tb := tb_in 31 (by decide +kernel) (by decide +kernel)
theorem kw32 : Cond.selects "HatHall$Reader" yX6_readSum yX6_readSum ∈ tb := tb_in 32 (by decide +kernel) (by decide +kernel)
theorem kw33 : Cond.selects "HatHall$Reader" yX6_readProduct yX6_readProduct ∈ tb := tb_in 33 (by decide +kernel) (by decide +kernel)
theorem kw34 : Cond.selects "HatHall$Reader" yX6_readPart yX6_readPart ∈ tb := tb_in 34 (by decide +kernel) (by decide +kernel)
theorem kw35 : Cond.selects "HatHall$Reader" yX6_expect yX6_expect ∈ tb := tb_in 35 (by decide +kernel) (by decide +kernel)
theorem kw36 : Cond.selects "HatHall$Reader" yX6_add yX6_add ∈ tb := tb_in 36 (by decide +kernel) (by decide +kernel)
theorem kw37 : Cond.selects "HatHall" yX10_needRow yX10_needRow ∈ tb := tb_in 37 (by decide +kernel) (by decide +kernel)
theorem kw38 : Cond.selects "HatHall$Scene" yX7_changesGuess yX7_changesGuess ∈ tb := tb_in 38 (by decide +kernel) (by decide +kernel)
theorem kw39 : Cond.selects "HatHall" yX10_needTablesAtOnce yX10_needTablesAtOnce ∈ tb := tb_in 39 (by decide +kernel) (by decide +kernel)
theorem kw40 : Cond.selects "HatHall$Search" yX8_rowNotRight yX8_rowNotRight ∈ tb := tb_in 40 (by decide +kernel) (by decide +kernel)
theorem kw41 : Cond.selects "HatHall$Search" yX8_someoneIsRight yX8_someoneIsRight ∈ tb := tb_in 41 (by decide +kernel) (by decide +kernel)
theorem kw42 : Cond.selects "HatHall$Search" yX8_cellOf yX8_cellOf ∈ tb := tb_in 42 (by decide +kernel) (by decide +kernel)
theorem kw43 : Cond.selects "HatHall$Search" yX8_unsettledWearer yX8_unsettledWearer ∈ tb := tb_in 43 (by decide +kernel) (by decide +kernel)
theorem kw44 : Cond.selects "HatHall$Sums" yX9_noteNeeds yX9_noteNeeds ∈ tb := tb_in 44 (by decide +kernel) (by decide +kernel)
theorem kw45 : Cond.selects "HatHall$Sums" yX9_needsOf yX9_needsOf ∈ tb := tb_in 45 (by decide +kernel) (by decide +kernel)
theorem kw46 : Cond.selects "HatHall$Sums" yX9_rowsWonByTried yX9_rowsWonByTried ∈ tb := tb_in 46 (by decide +kernel) (by decide +kernel)
theorem kw47 : Cond.selects "HatHall$Sums" yX9_advance yX9_advance ∈ tb := tb_in 47 (by decide +kernel) (by decide +kernel)
theorem kw48 : Cond.selects "HatHall$Mender" yX4_noteGains yX4_noteGains ∈ tb := tb_in 48 (by decide +kernel) (by decide +kernel)
theorem kw49 : Cond.selects "HatHall$Mender" yX4_takeBest yX4_takeBest ∈ tb := tb_in 49 (by decide +kernel) (by decide +kernel)
theorem kw50 : Cond.selects "HatHallModel" yX11_anew yX11_anew ∈ tb := tb_in 50 (by decide +kernel) (by decide +kernel)
theorem kw51 : Cond.selects "HatHallModel" yX11_all yX11_all ∈ tb := tb_in 51 (by decide +kernel) (by decide +kernel)
theorem kw52 : Cond.selects "HatHallModel" yX11_blank yX11_blank ∈ tb := tb_in 52 (by decide +kernel) (by decide +kernel)
theorem kw53 : Cond.selects "HatHallModel" yX11_viewsOf yX11_viewsOf ∈ tb := tb_in 53 (by decide +kernel) (by decide +kernel)
theorem kw54 : Cond.selects "HatHallModel" yX11_hears yX11_hears ∈ tb := tb_in 54 (by decide +kernel) (by decide +kernel)
theorem kw55 : Cond.selects "HatHallModel" yX11_isWearer yX11_isWearer ∈ tb := tb_in 55 (by decide +kernel) (by decide +kernel)
theorem kw56 : Cond.selects "HatHallModel" yX11_right yX11_right ∈ tb := tb_in 56 (by decide +kernel) (by decide +kernel)
theorem kw57 : Cond.selects "HatHallModel" yX11_lays yX11_lays ∈ tb := tb_in 57 (by decide +kernel) (by decide +kernel)
theorem kw58 : Cond.selects "HatHallModel" yX11_goes yX11_goes ∈ tb := tb_in 58 (by decide +kernel) (by decide +kernel)
theorem kw59 : Cond.selects "HatHallModel" yX11_byteAt yX11_byteAt ∈ tb := tb_in 59 (by decide +kernel) (by decide +kernel)
theorem kw60 : Cond.selects "HatHallModel" yX11_isGood yX11_isGood ∈ tb := tb_in 60 (by decide +kernel) (by decide +kernel)
theorem kw61 : Cond.selects "HatHallModel" yX11_rule yX11_rule ∈ tb := tb_in 61 (by decide +kernel) (by decide +kernel)
theorem kw62 : Cond.selects "HatHallModel" yX11_knownWord yX11_knownWord ∈ tb := tb_in 62 (by decide +kernel) (by decide +kernel)
theorem kw63 : Cond.selects "HatHallModel" yX11_wrong yX11_wrong ∈ tb := tb_in 63 (by decide +kernel) (by decide +kernel)
theorem kw64 : Cond.selects "HatHallModel" yX11_wearer yX11_wearer ∈ tb := tb_in 64 (by decide +kernel) (by decide +kernel)
theorem kw65 : Cond.selects "HatHallModel" yX11_expression yX11_expression ∈ tb := tb_in 65 (by decide +kernel) (by decide +kernel)
theorem kw66 : Cond.selects "HatHallModel" yX11_begins yX11_begins ∈ tb := tb_in 66 (by decide +kernel) (by decide +kernel)
theorem kw67 : Cond.selects "HatHallModel" yX11_isSign yX11_isSign ∈ tb := tb_in 67 (by decide +kernel) (by decide +kernel)
theorem kw68 : Cond.selects "HatHallModel" yX11_operand yX11_operand ∈ tb := tb_in 68 (by decide +kernel) (by decide +kernel)
theorem kw69 : Cond.selects "HatHallModel" yX11_waitsFor yX11_waitsFor ∈ tb := tb_in 69 (by decide +kernel) (by decide +kernel)
theorem kw70 : Cond.selects "HatHallModel" yX11_part yX11_part ∈ tb := tb_in 70 (by decide +kernel) (by decide +kernel)
theorem kw71 : Cond.selects "HatHallModel" yX11_puts yX11_puts ∈ tb := tb_in 71 (by decide +kernel) (by decide +kernel)
theorem kw72 : Cond.selects "HatHallModel" yX11_drops yX11_drops ∈ tb := tb_in 72 (by decide +kernel) (by decide +kernel)
theorem kw73 : Cond.selects "HatHallModel" yX11_copies yX11_copies ∈ tb := tb_in 73 (by decide +kernel) (by decide +kernel)
theorem kw74 : Cond.selects "HatHallModel" yX11_isRow yX11_isRow ∈ tb := tb_in 74 (by decide +kernel) (by decide +kernel)
theorem kw75 : Cond.selects "HatHallModel" yX11_worksAll yX11_worksAll ∈ tb := tb_in 75 (by decide +kernel) (by decide +kernel)
theorem kw76 : Cond.selects "HatHallModel" yX11_worksRow yX11_worksRow ∈ tb := tb_in 76 (by decide +kernel) (by decide +kernel)
theorem kw77 : Cond.selects "HatHallModel" yX11_wears yX11_wears ∈ tb := tb_in 77 (by decide +kernel) (by decide +kernel)
theorem kw78 : Cond.selects "HatHallModel" yX11_guesses yX11_guesses ∈ tb := tb_in 78 (by decide +kernel) (by decide +kernel)
theorem kw79 : Cond.selects "HatHallModel" yX11_viewOf yX11_viewOf ∈ tb := tb_in 79 (by decide +kernel) (by decide +kernel)
theorem kw80 : Cond.selects "HatHallModel" yX11_worth yX11_worth ∈ tb := tb_in 80 (by decide +kernel) (by decide +kernel)
theorem kw81 : Cond.selects "HatHallModel" yX11_valueOf yX11_valueOf ∈ tb := tb_in 81 (by decide +kernel) (by decide +kernel)
theorem kw82 : Cond.selects "HatHallModel" yX11_sum yX11_sum ∈ tb := tb_in 82 (by decide +kernel) (by decide +kernel)
theorem kw83 : Cond.selects "HatHallModel" yX11_counts yX11_counts ∈ tb := tb_in 83 (by decide +kernel) (by decide +kernel)
theorem kw84 : Cond.selects "HatHallModel" yX11_many yX11_many ∈ tb := tb_in 84 (by decide +kernel) (by decide +kernel)
theorem kw85 : Cond.selects "HatHallModel" yX11_isWon yX11_isWon ∈ tb := tb_in 85 (by decide +kernel) (by decide +kernel)
theorem kw86 : Cond.selects "HatHallModel" yX11_weight yX11_weight ∈ tb := tb_in 86 (by decide +kernel) (by decide +kernel)
theorem kw87 : Cond.selects "HatHallModel" yX11_worstRow yX11_worstRow ∈ tb := tb_in 87 (by decide +kernel) (by decide +kernel)
theorem kw88 : Cond.selects "HatHallModel" yX11_laysOut yX11_laysOut ∈ tb := tb_in 88 (by decide +kernel) (by decide +kernel)
theorem kw89 : Cond.selects "HatHallModel" yX11_isAlike yX11_isAlike ∈ tb := tb_in 89 (by decide +kernel) (by decide +kernel)
theorem kw90 : Cond.selects "HatHallModel" yX11_turns yX11_turns ∈ tb := tb_in 90 (by decide +kernel) (by decide +kernel)
theorem kw91 : Cond.selects "HatHallModel" yX11_swaps yX11_swaps ∈ tb := tb_in 91 (by decide +kernel) (by decide +kernel)
theorem kw92 : Cond.selects "HatHallModel" yX11_areAtOnce yX11_areAtOnce ∈ tb := tb_in 92 (by decide +kernel) (by decide +kernel)
theorem kw93 : Cond.selects "HatHallModel" yX11_views yX11_views ∈ tb := tb_in 93 (by decide +kernel) (by decide +kernel)
theorem kw94 : Cond.selects "HatHallModel" yX11_isSomeRight yX11_isSomeRight ∈ tb := tb_in 94 (by decide +kernel) (by decide +kernel)
theorem kw95 : Cond.selects "HatHallModel" yX11_isWonBy yX11_isWonBy ∈ tb := tb_in 95 (by decide +kernel) (by decide +kernel)
theorem kw96 : Cond.selects "HatHallModel" yX11_balls yX11_balls ∈ tb := tb_in 96 (by decide +kernel) (by decide +kernel)
theorem kw97 : Cond.selects "HatHallModel" yX11_covers yX11_covers ∈ tb := tb_in 97 (by decide +kernel) (by decide +kernel)
theorem kw98 : Cond.selects "HatHallModel" yX11_latest yX11_latest ∈ tb := tb_in 98 (by decide +kernel) (by decide +kernel)
theorem kw99 : Cond.selects "HatHallModel" yX11_isGiven yX11_isGiven ∈ tb := tb_in 99 (by decide +kernel) (by decide +kernel)
theorem kw100 : Cond.selects "HatHallModel" yX11_says yX11_says ∈ tb := tb_in 100 (by decide +kernel) (by decide +kernel)
theorem kw101 : Cond.selects "HatHallModel" yX11_weighs yX11_weighs ∈ tb := tb_in 101 (by decide +kernel) (by decide +kernel)
theorem kw102 : Cond.selects "HatHallModel" yX11_isWonIf yX11_isWonIf ∈ tb := tb_in 102 (by decide +kernel) (by decide +kernel)
theorem kw103 : Cond.initialized "HatHallLaw" ∈ tb := tb_in 103 (by decide +kernel) (by decide +kernel)
theorem kw104 : Cond.initialized "HatHall" ∈ tb := tb_in 104 (by decide +kernel) (by decide +kernel)
theorem kw105 : Cond.initialized "HatHall$Net" ∈ tb := tb_in 105 (by decide +kernel) (by decide +kernel)
theorem kw106 : Cond.initialized "HatHall$Scene" ∈ tb := tb_in 106 (by decide +kernel) (by decide +kernel)
theorem kw107 : Cond.initialized "HatHall$Judge" ∈ tb := tb_in 107 (by decide +kernel) (by decide +kernel)
theorem kw108 : Cond.initialized "HatHall$Ledger" ∈ tb := tb_in 108 (by decide +kernel) (by decide +kernel)
theorem kw109 : Cond.initialized "HatHall$Reader" ∈ tb := tb_in 109 (by decide +kernel) (by decide +kernel)
theorem kw110 : Cond.initialized "HatHall$Search" ∈ tb := tb_in 110 (by decide +kernel) (by decide +kernel)
theorem kw111 : Cond.initialized "HatHall$Sums" ∈ tb := tb_in 111 (by decide +kernel) (by decide +kernel)
theorem kw112 : Cond.initialized "HatHall$Cover" ∈ tb := tb_in 112 (by decide +kernel) (by decide +kernel)
theorem kw113 : Cond.initialized "HatHall$Mender" ∈ tb := tb_in 113 (by decide +kernel) (by decide +kernel)
theorem kw114 : Cond.initialized "HatHallModel" ∈ tb := tb_in 114 (by decide +kernel) (by decide +kernel)
theorem kw115 : Cond.initialized "java/lang/Throwable" ∈ tb := tb_in 115 (by decide +kernel) (by decide +kernel)
theorem kw116 : Cond.initialized "java/lang/Exception" ∈ tb := tb_in 116 (by decide +kernel) (by decide +kernel)
theorem kw117 : Cond.initialized "java/lang/RuntimeException" ∈ tb := tb_in 117 (by decide +kernel) (by decide +kernel)
theorem kw118 : Cond.initialized "java/util/NoSuchElementException" ∈ tb := tb_in 118 (by decide +kernel) (by decide +kernel)
theorem kw119 : Cond.initialized "java/lang/IllegalArgumentException" ∈ tb := tb_in 119 (by decide +kernel) (by decide +kernel)
theorem kw120 : Cond.initialized "java/lang/String" ∈ tb := tb_in 120 (by decide +kernel) (by decide +kernel)
theorem kw121 : Cond.initialized "java/lang/StringLatin1" ∈ tb := tb_in 121 (by decide +kernel) (by decide +kernel)
theorem kw122 : Cond.initialized "jdk/internal/util/Preconditions" ∈ tb := tb_in 122 (by decide +kernel) (by decide +kernel)
theorem kw123 : Cond.initialized "java/lang/StringUTF16" ∈ tb := tb_in 123 (by decide +kernel) (by decide +kernel)
theorem kw124 : Cond.initialized "HatHall$Formula" ∈ tb := tb_in 124 (by decide +kernel) (by decide +kernel)
theorem kw125 : Cond.initialized "java/util/Arrays" ∈ tb := tb_in 125 (by decide +kernel) (by decide +kernel)
theorem kw126 : Cond.initialized "java/lang/Math" ∈ tb := tb_in 126 (by decide +kernel) (by decide +kernel)
theorem kw127 : Cond.initialized "java/lang/System" ∈ tb := tb_in 127 (by decide +kernel) (by decide +kernel)
theorem kw128 : Cond.initialized "java/lang/Integer" ∈ tb := tb_in 128 (by decide +kernel) (by decide +kernel)
theorem kw129 : Cond.classLink "HatHallLaw" 8 "HatHall" ∈ tb := tb_in 129 (by decide +kernel) (by decide +kernel)
theorem kw130 : Cond.instantiable "HatHall" 13 ∈ tb := tb_in 130 (by decide +kernel) (by decide +kernel)
theorem kw131 : Cond.methodLink "HatHallLaw" 77 yX10_init ∈ tb := tb_in 131 (by decide +kernel) (by decide +kernel)
theorem kw132 : Cond.instanceMethod yX10_init ∈ tb := tb_in 132 (by decide +kernel) (by decide +kernel)
theorem kw133 : Cond.code yX10_init cX10_init 1 none ∈ tb := tb_in 133 (by decide +kernel) (by decide +kernel)
theorem kw134 : Cond.methodLink "HatHall" 1 ⟨"java/lang/Object", "<init>", "()V"⟩ ∈ tb := tb_in 134 (by decide +kernel) (by decide +kernel)
theorem kw135 : Cond.instanceMethod ⟨"java/lang/Object", "<init>", "()V"⟩ ∈ tb := tb_in 135 (by decide +kernel) (by decide +kernel)
theorem kw136 : Cond.code ⟨"java/lang/Object", "<init>", "()V"⟩ object_method_1_code 1 none ∈ tb := tb_in 136 (by decide +kernel) (by decide +kernel)
theorem kw137 : Cond.classLink "HatHall" 7 "HatHall$Net" ∈ tb := tb_in 137 (by decide +kernel) (by decide +kernel)
theorem kw138 : Cond.instantiable "HatHall$Net" 11 ∈ tb := tb_in 138 (by decide +kernel) (by decide +kernel)
theorem kw139 : Cond.methodLink "HatHall" 9 yX5_init ∈ tb := tb_in 139 (by decide +kernel) (by decide +kernel)
theorem kw140 : Cond.instanceMethod yX5_init ∈ tb := tb_in 140 (by decide +kernel) (by decide +kernel)
theorem kw141 : Cond.code yX5_init cX5_init 1 none ∈ tb := tb_in 141 (by decide +kernel) (by decide +kernel)
theorem kw142 : Cond.methodLink "HatHall$Net" 3 ⟨"java/lang/Object", "<init>", "()V"⟩ ∈ tb := tb_in 142 (by decide +kernel) (by decide +kernel)
theorem kw143 : Cond.classLink "HatHall$Net" 27 "HatHall$Formula" ∈ tb := tb_in 143 (by decide +kernel) (by decide +kernel)
theorem kw145 : Cond.methodLink "HatHall$Net" 40 yX5_open ∈ tb := tb_in 145 (by decide +kernel) (by decide +kernel)
theorem kw146 : Cond.instanceMethod yX5_open ∈ tb := tb_in 146 (by decide +kernel) (by decide +kernel)
theorem kw147 : Cond.selects "HatHall$Net" yX5_open yX5_open ∈ tb := tb_in 147 (by decide +kernel) (by decide +kernel)
theorem kw148 : Cond.code yX5_open cX5_open 4 none ∈ tb := tb_in 148 (by decide +kernel) (by decide +kernel)
theorem kw149 : Cond.methodLink "HatHall$Net" 54 yX5_lookAtAllAtOnce ∈ tb := tb_in 149 (by decide +kernel) (by decide +kernel)
theorem kw150 : Cond.instanceMethod yX5_lookAtAllAtOnce ∈ tb := tb_in 150 (by decide +kernel) (by decide +kernel)
theorem kw151 : Cond.selects "HatHall$Net" yX5_lookAtAllAtOnce yX5_lookAtAllAtOnce ∈ tb := tb_in 151 (by decide +kernel) (by decide +kernel)
theorem kw152 : Cond.code yX5_lookAtAllAtOnce cX5_lookAtAllAtOnce 2 none ∈ tb := tb_in 152 (by decide +kernel) (by decide +kernel)
theorem kw153 : Cond.methodLink "HatHall$Net" 57 yX5_othersOf ∈ tb := tb_in 153 (by decide +kernel) (by decide +kernel)
theorem kw154 : Cond.instanceMethod yX5_othersOf ∈ tb := tb_in 154 (by decide +kernel) (by decide +kernel)
theorem kw155 : Cond.selects "HatHall$Net" yX5_othersOf yX5_othersOf ∈ tb := tb_in 155 (by decide +kernel) (by decide +kernel)
theorem kw156 : Cond.code yX5_othersOf cX5_othersOf 2 (some .int) ∈ tb := tb_in 156 (by decide +kernel) (by decide +kernel)
theorem kw157 : Cond.methodLink "HatHall$Net" 61 yX5_startTable ∈ tb := tb_in 157 (by decide +kernel) (by decide +kernel)
theorem kw158 : Cond.instanceMethod yX5_startTable ∈ tb := tb_in 158 (by decide +kernel) (by decide +kernel)
theorem kw159 : Cond.selects "HatHall$Net" yX5_startTable yX5_startTable ∈ tb := tb_in 159 (by decide +kernel) (by decide +kernel)
theorem kw160 : Cond.code yX5_startTable cX5_startTable 2 none ∈ tb := tb_in 160 (by decide +kernel) (by decide +kernel)
theorem kw161 : Cond.methodLink "HatHall$Net" 71 yX5_clearTable ∈ tb := tb_in 161 (by decide +kernel) (by decide +kernel)
theorem kw163 : Cond.instanceMethod yX5_clearTable ∈ tb := tb_in 163 (by decide +kernel) (by decide +kernel)
theorem kw164 : Cond.code yX5_clearTable cX5_clearTable 3 none ∈ tb := tb_in 164 (by decide +kernel) (by decide +kernel)
theorem kw165 : Cond.methodLink "HatHall$Net" 80 yX5_countViews ∈ tb := tb_in 165 (by decide +kernel) (by decide +kernel)
theorem kw167 : Cond.instanceMethod yX5_countViews ∈ tb := tb_in 167 (by decide +kernel) (by decide +kernel)
theorem kw168 : Cond.code yX5_countViews cX5_countViews 4 (some .int) ∈ tb := tb_in 168 (by decide +kernel) (by decide +kernel)
theorem kw169 : Cond.fieldLink "HatHall$Sums" 33 "HatHall$Net" "n" "I" ∈ tb := tb_in 169 (by decide +kernel) (by decide +kernel)
theorem kw170 : Cond.fieldLink "HatHall$Mender" 41 "HatHall$Net" "n" "I" ∈ tb := tb_in 170 (by decide +kernel) (by decide +kernel)
theorem kw171 : Cond.fieldLink "HatHall$Net" 44 "HatHall$Net" "n" "I" ∈ tb := tb_in 171 (by decide +kernel) (by decide +kernel)
theorem kw172 : Cond.fieldLink "HatHall$Scene" 24 "HatHall$Net" "n" "I" ∈ tb := tb_in 172 (by decide +kernel) (by decide +kernel)
theorem kw173 : Cond.fieldLink "HatHall$Ledger" 35 "HatHall$Net" "n" "I" ∈ tb := tb_in 173 (by decide +kernel) (by decide +kernel)
theorem kw174 : Cond.fieldLink "HatHall$Search" 65 "HatHall$Net" "n" "I" ∈ tb := tb_in 174 (by decide +kernel) (by decide +kernel)
theorem kw175 : Cond.fieldLink "HatHall$Formula" 52 "HatHall$Net" "n" "I" ∈ tb := tb_in 175 (by decide +kernel) (by decide +kernel)
theorem kw176 : Cond.fieldLink "HatHall" 134 "HatHall$Net" "n" "I" ∈ tb := tb_in 176 (by decide +kernel) (by decide +kernel)
theorem kw177 : Cond.fieldLink "HatHall$Net" 48 "HatHall$Net" "q" "I" ∈ tb := tb_in 177 (by decide +kernel) (by decide +kernel)
theorem kw178 : Cond.fieldLink "HatHall$Scene" 30 "HatHall$Net" "q" "I" ∈ tb := tb_in 178 (by decide +kernel) (by decide +kernel)
theorem kw179 : Cond.fieldLink "HatHall$Mender" 70 "HatHall$Net" "q" "I" ∈ tb := tb_in 179 (by decide +kernel) (by decide +kernel)
theorem kw180 : Cond.fieldLink "HatHall$Sums" 87 "HatHall$Net" "q" "I" ∈ tb := tb_in 180 (by decide +kernel) (by decide +kernel)
theorem kw181 : Cond.fieldLink "HatHall$Formula" 41 "HatHall$Net" "q" "I" ∈ tb := tb_in 181 (by decide +kernel) (by decide +kernel)
theorem kw182 : Cond.fieldLink "HatHall" 112 "HatHall$Net" "q" "I" ∈ tb := tb_in 182 (by decide +kernel) (by decide +kernel)
theorem kw183 : Cond.fieldLink "HatHall$Mender" 31 "HatHall$Net" "rows" "I" ∈ tb := tb_in 183 (by decide +kernel) (by decide +kernel)
theorem kw184 : Cond.fieldLink "HatHall$Search" 36 "HatHall$Net" "rows" "I" ∈ tb := tb_in 184 (by decide +kernel) (by decide +kernel)
theorem kw185 : Cond.fieldLink "HatHall$Sums" 50 "HatHall$Net" "rows" "I" ∈ tb := tb_in 185 (by decide +kernel) (by decide +kernel)
theorem kw186 : Cond.fieldLink "HatHall$Ledger" 19 "HatHall$Net" "rows" "I" ∈ tb := tb_in 186 (by decide +kernel) (by decide +kernel)
theorem kw187 : Cond.fieldLink "HatHall$Net" 51 "HatHall$Net" "rows" "I" ∈ tb := tb_in 187 (by decide +kernel) (by decide +kernel)
theorem kw188 : Cond.fieldLink "HatHall" 260 "HatHall$Net" "rows" "I" ∈ tb := tb_in 188 (by decide +kernel) (by decide +kernel)
theorem kw189 : Cond.fieldLink "HatHall$Net" 9 "HatHall$Net" "looks" "[I" ∈ tb := tb_in 189 (by decide +kernel) (by decide +kernel)
theorem kw190 : Cond.fieldLink "HatHall$Sums" 84 "HatHall$Net" "looks" "[I" ∈ tb := tb_in 190 (by decide +kernel) (by decide +kernel)
theorem kw191 : Cond.fieldLink "HatHall$Formula" 60 "HatHall$Net" "looks" "[I" ∈ tb := tb_in 191 (by decide +kernel) (by decide +kernel)
theorem kw192 : Cond.fieldLink "HatHall$Scene" 71 "HatHall$Net" "looks" "[I" ∈ tb := tb_in 192 (by decide +kernel) (by decide +kernel)
theorem kw193 : Cond.fieldLink "HatHall" 155 "HatHall$Net" "looks" "[I" ∈ tb := tb_in 193 (by decide +kernel) (by decide +kernel)
theorem kw194 : Cond.fieldLink "HatHall$Net" 15 "HatHall$Net" "rounds" "[I" ∈ tb := tb_in 194 (by decide +kernel) (by decide +kernel)
theorem kw195 : Cond.fieldLink "HatHall$Scene" 48 "HatHall$Net" "rounds" "[I" ∈ tb := tb_in 195 (by decide +kernel) (by decide +kernel)
theorem kw196 : Cond.fieldLink "HatHall" 158 "HatHall$Net" "rounds" "[I" ∈ tb := tb_in 196 (by decide +kernel) (by decide +kernel)
theorem kw197 : Cond.fieldLink "HatHall$Net" 18 "HatHall$Net" "hears" "[I" ∈ tb := tb_in 197 (by decide +kernel) (by decide +kernel)
theorem kw198 : Cond.fieldLink "HatHall$Formula" 70 "HatHall$Net" "hears" "[I" ∈ tb := tb_in 198 (by decide +kernel) (by decide +kernel)
theorem kw199 : Cond.fieldLink "HatHall$Scene" 74 "HatHall$Net" "hears" "[I" ∈ tb := tb_in 199 (by decide +kernel) (by decide +kernel)
theorem kw200 : Cond.fieldLink "HatHall" 161 "HatHall$Net" "hears" "[I" ∈ tb := tb_in 200 (by decide +kernel) (by decide +kernel)
theorem kw201 : Cond.fieldLink "HatHall$Net" 21 "HatHall$Net" "views" "[I" ∈ tb := tb_in 201 (by decide +kernel) (by decide +kernel)
theorem kw202 : Cond.fieldLink "HatHall$Mender" 81 "HatHall$Net" "views" "[I" ∈ tb := tb_in 202 (by decide +kernel) (by decide +kernel)
theorem kw203 : Cond.fieldLink "HatHall$Cover" 58 "HatHall$Net" "views" "[I" ∈ tb := tb_in 203 (by decide +kernel) (by decide +kernel)
theorem kw204 : Cond.fieldLink "HatHall$Search" 76 "HatHall$Net" "views" "[I" ∈ tb := tb_in 204 (by decide +kernel) (by decide +kernel)
theorem kw205 : Cond.fieldLink "HatHall$Sums" 100 "HatHall$Net" "views" "[I" ∈ tb := tb_in 205 (by decide +kernel) (by decide +kernel)
theorem kw206 : Cond.fieldLink "HatHall$Scene" 61 "HatHall$Net" "views" "[I" ∈ tb := tb_in 206 (by decide +kernel) (by decide +kernel)
theorem kw207 : Cond.fieldLink "HatHall" 164 "HatHall$Net" "views" "[I" ∈ tb := tb_in 207 (by decide +kernel) (by decide +kernel)
theorem kw208 : Cond.fieldLink "HatHall$Net" 24 "HatHall$Net" "order" "[I" ∈ tb := tb_in 208 (by decide +kernel) (by decide +kernel)
theorem kw209 : Cond.fieldLink "HatHall$Scene" 33 "HatHall$Net" "order" "[I" ∈ tb := tb_in 209 (by decide +kernel) (by decide +kernel)
theorem kw210 : Cond.fieldLink "HatHall$Net" 29 "HatHall$Net" "texts" "[LHatHall$Formula;" ∈ tb := tb_in 210 (by decide +kernel) (by decide +kernel)
theorem kw211 : Cond.fieldLink "HatHall$Scene" 51 "HatHall$Net" "texts" "[LHatHall$Formula;" ∈ tb := tb_in 211 (by decide +kernel) (by decide +kernel)
theorem kw212 : Cond.fieldLink "HatHall" 175 "HatHall$Net" "texts" "[LHatHall$Formula;" ∈ tb := tb_in 212 (by decide +kernel) (by decide +kernel)
theorem kw213 : Cond.fieldLink "HatHall$Net" 33 "HatHall$Net" "tables" "[B" ∈ tb := tb_in 213 (by decide +kernel) (by decide +kernel)
theorem kw214 : Cond.fieldLink "HatHall$Net" 37 "HatHall$Net" "placed" "[I" ∈ tb := tb_in 214 (by decide +kernel) (by decide +kernel)
theorem kw238 : Cond.arrayClass .int ∈ tb := tb_in 238 (by decide +kernel) (by decide +kernel)
theorem kw239 : Cond.arrayClass .byte ∈ tb := tb_in 239 (by decide +kernel) (by decide +kernel)
theorem kw241 : Cond.classLink "HatHall" 23 "HatHall$Scene" ∈ tb := tb_in 241 (by decide +kernel) (by decide +kernel)
theorem kw242 : Cond.instantiable "HatHall$Scene" 2 ∈ tb := tb_in 242 (by decide +kernel) (by decide +kernel)
theorem kw244 : Cond.instanceMethod yX7_init ∈ tb := tb_in 244 (by decide +kernel) (by decide +kernel)
theorem kw245 : Cond.code yX7_init cX7_init 1 none ∈ tb := tb_in 245 (by decide +kernel) (by decide +kernel)
theorem kw246 : Cond.methodLink "HatHall$Scene" 3 ⟨"java/lang/Object", "<init>", "()V"⟩ ∈ tb := tb_in 246 (by decide +kernel) (by decide +kernel)
theorem kw247 : Cond.fieldLink "HatHall$Scene" 9 "HatHall$Scene" "hats" "[I" ∈ tb := tb_in 247 (by decide +kernel) (by decide +kernel)
theorem kw248 : Cond.fieldLink "HatHall$Judge" 31 "HatHall$Scene" "hats" "[I" ∈ tb := tb_in 248 (by decide +kernel) (by decide +kernel)
theorem kw249 : Cond.fieldLink "HatHall$Search" 53 "HatHall$Scene" "hats" "[I" ∈ tb := tb_in 249 (by decide +kernel) (by decide +kernel)
theorem kw250 : Cond.fieldLink "HatHall$Sums" 81 "HatHall$Scene" "hats" "[I" ∈ tb := tb_in 250 (by decide +kernel) (by decide +kernel)
theorem kw251 : Cond.fieldLink "HatHall$Formula" 55 "HatHall$Scene" "hats" "[I" ∈ tb := tb_in 251 (by decide +kernel) (by decide +kernel)
theorem kw252 : Cond.fieldLink "HatHall$Scene" 15 "HatHall$Scene" "guesses" "[I" ∈ tb := tb_in 252 (by decide +kernel) (by decide +kernel)
theorem kw253 : Cond.fieldLink "HatHall$Formula" 67 "HatHall$Scene" "guesses" "[I" ∈ tb := tb_in 253 (by decide +kernel) (by decide +kernel)
theorem kw254 : Cond.fieldLink "HatHall" 208 "HatHall$Scene" "guesses" "[I" ∈ tb := tb_in 254 (by decide +kernel) (by decide +kernel)
theorem kw260 : Cond.classLink "HatHall" 30 "HatHall$Judge" ∈ tb := tb_in 260 (by decide +kernel) (by decide +kernel)
theorem kw261 : Cond.instantiable "HatHall$Judge" 4 ∈ tb := tb_in 261 (by decide +kernel) (by decide +kernel)
theorem kw263 : Cond.instanceMethod yX2_init ∈ tb := tb_in 263 (by decide +kernel) (by decide +kernel)
theorem kw264 : Cond.code yX2_init cX2_init 1 none ∈ tb := tb_in 264 (by decide +kernel) (by decide +kernel)
theorem kw265 : Cond.methodLink "HatHall$Judge" 3 ⟨"java/lang/Object", "<init>", "()V"⟩ ∈ tb := tb_in 265 (by decide +kernel) (by decide +kernel)
theorem kw266 : Cond.fieldLink "HatHall$Judge" 9 "HatHall$Judge" "heap" "[I" ∈ tb := tb_in 266 (by decide +kernel) (by decide +kernel)
theorem kw267 : Cond.fieldLink "HatHall" 115 "HatHall$Judge" "heap" "[I" ∈ tb := tb_in 267 (by decide +kernel) (by decide +kernel)
theorem kw268 : Cond.fieldLink "HatHall$Judge" 15 "HatHall$Judge" "law" "I" ∈ tb := tb_in 268 (by decide +kernel) (by decide +kernel)
theorem kw269 : Cond.fieldLink "HatHall" 118 "HatHall$Judge" "law" "I" ∈ tb := tb_in 269 (by decide +kernel) (by decide +kernel)
theorem kw270 : Cond.fieldLink "HatHall$Judge" 19 "HatHall$Judge" "k" "I" ∈ tb := tb_in 270 (by decide +kernel) (by decide +kernel)
theorem kw271 : Cond.fieldLink "HatHall" 121 "HatHall$Judge" "k" "I" ∈ tb := tb_in 271 (by decide +kernel) (by decide +kernel)
theorem kw272 : Cond.fieldLink "HatHall$Judge" 22 "HatHall$Judge" "left" "[I" ∈ tb := tb_in 272 (by decide +kernel) (by decide +kernel)
theorem kw282 : Cond.classLink "HatHall" 37 "HatHall$Ledger" ∈ tb := tb_in 282 (by decide +kernel) (by decide +kernel)
theorem kw283 : Cond.instantiable "HatHall$Ledger" 2 ∈ tb := tb_in 283 (by decide +kernel) (by decide +kernel)
theorem kw285 : Cond.instanceMethod yX3_init ∈ tb := tb_in 285 (by decide +kernel) (by decide +kernel)
theorem kw286 : Cond.code yX3_init cX3_init 1 none ∈ tb := tb_in 286 (by decide +kernel) (by decide +kernel)
theorem kw287 : Cond.methodLink "HatHall$Ledger" 3 ⟨"java/lang/Object", "<init>", "()V"⟩ ∈ tb := tb_in 287 (by decide +kernel) (by decide +kernel)
theorem kw288 : Cond.fieldLink "HatHall$Ledger" 9 "HatHall$Ledger" "marks" "[I" ∈ tb := tb_in 288 (by decide +kernel) (by decide +kernel)
theorem kw289 : Cond.fieldLink "HatHall$Ledger" 15 "HatHall$Ledger" "fresh" "Z" ∈ tb := tb_in 289 (by decide +kernel) (by decide +kernel)
theorem kw295 : Cond.classLink "HatHall" 44 "HatHall$Reader" ∈ tb := tb_in 295 (by decide +kernel) (by decide +kernel)
theorem kw296 : Cond.instantiable "HatHall$Reader" 14 ∈ tb := tb_in 296 (by decide +kernel) (by decide +kernel)
theorem kw298 : Cond.instanceMethod yX6_init ∈ tb := tb_in 298 (by decide +kernel) (by decide +kernel)
theorem kw299 : Cond.code yX6_init cX6_init 1 none ∈ tb := tb_in 299 (by decide +kernel) (by decide +kernel)
theorem kw300 : Cond.methodLink "HatHall$Reader" 3 ⟨"java/lang/Object", "<init>", "()V"⟩ ∈ tb := tb_in 300 (by decide +kernel) (by decide +kernel)
theorem kw301 : Cond.classLink "HatHall$Reader" 18 "HatHall$Formula" ∈ tb := tb_in 301 (by decide +kernel) (by decide +kernel)
theorem kw302 : Cond.fieldLink "HatHall$Reader" 9 "HatHall$Reader" "fault" "I" ∈ tb := tb_in 302 (by decide +kernel) (by decide +kernel)
theorem kw303 : Cond.fieldLink "HatHall" 141 "HatHall$Reader" "fault" "I" ∈ tb := tb_in 303 (by decide +kernel) (by decide +kernel)
theorem kw304 : Cond.fieldLink "HatHall$Reader" 15 "HatHall$Reader" "place" "I" ∈ tb := tb_in 304 (by decide +kernel) (by decide +kernel)
theorem kw305 : Cond.fieldLink "HatHall" 152 "HatHall$Reader" "place" "I" ∈ tb := tb_in 305 (by decide +kernel) (by decide +kernel)
theorem kw306 : Cond.fieldLink "HatHall$Reader" 20 "HatHall$Reader" "made" "[LHatHall$Formula;" ∈ tb := tb_in 306 (by decide +kernel) (by decide +kernel)
theorem kw307 : Cond.fieldLink "HatHall" 144 "HatHall$Reader" "made" "[LHatHall$Formula;" ∈ tb := tb_in 307 (by decide +kernel) (by decide +kernel)
theorem kw308 : Cond.fieldLink "HatHall$Reader" 24 "HatHall$Reader" "text" "[I" ∈ tb := tb_in 308 (by decide +kernel) (by decide +kernel)
theorem kw309 : Cond.fieldLink "HatHall$Reader" 28 "HatHall$Reader" "length" "I" ∈ tb := tb_in 309 (by decide +kernel) (by decide +kernel)
theorem kw310 : Cond.fieldLink "HatHall$Reader" 31 "HatHall$Reader" "wearers" "I" ∈ tb := tb_in 310 (by decide +kernel) (by decide +kernel)
theorem kw311 : Cond.fieldLink "HatHall$Reader" 34 "HatHall$Reader" "at" "I" ∈ tb := tb_in 311 (by decide +kernel) (by decide +kernel)
theorem kw312 : Cond.fieldLink "HatHall$Reader" 37 "HatHall$Reader" "start" "I" ∈ tb := tb_in 312 (by decide +kernel) (by decide +kernel)
theorem kw313 : Cond.fieldLink "HatHall$Reader" 40 "HatHall$Reader" "kind" "I" ∈ tb := tb_in 313 (by decide +kernel) (by decide +kernel)
theorem kw314 : Cond.fieldLink "HatHall$Reader" 43 "HatHall$Reader" "value" "I" ∈ tb := tb_in 314 (by decide +kernel) (by decide +kernel)
theorem kw315 : Cond.fieldLink "HatHall$Reader" 46 "HatHall$Reader" "kinds" "[I" ∈ tb := tb_in 315 (by decide +kernel) (by decide +kernel)
theorem kw316 : Cond.fieldLink "HatHall$Reader" 49 "HatHall$Reader" "left" "[I" ∈ tb := tb_in 316 (by decide +kernel) (by decide +kernel)
theorem kw317 : Cond.fieldLink "HatHall$Reader" 52 "HatHall$Reader" "right" "[I" ∈ tb := tb_in 317 (by decide +kernel) (by decide +kernel)
theorem kw318 : Cond.fieldLink "HatHall$Reader" 55 "HatHall$Reader" "parts" "I" ∈ tb := tb_in 318 (by decide +kernel) (by decide +kernel)
theorem kw348 : Cond.classLink "HatHall" 59 "HatHall$Search" ∈ tb := tb_in 348 (by decide +kernel) (by decide +kernel)
theorem kw349 : Cond.instantiable "HatHall$Search" 4 ∈ tb := tb_in 349 (by decide +kernel) (by decide +kernel)
theorem kw351 : Cond.instanceMethod yX8_init ∈ tb := tb_in 351 (by decide +kernel) (by decide +kernel)
theorem kw352 : Cond.code yX8_init cX8_init 1 none ∈ tb := tb_in 352 (by decide +kernel) (by decide +kernel)
theorem kw353 : Cond.methodLink "HatHall$Search" 3 ⟨"java/lang/Object", "<init>", "()V"⟩ ∈ tb := tb_in 353 (by decide +kernel) (by decide +kernel)
theorem kw354 : Cond.fieldLink "HatHall$Search" 9 "HatHall$Search" "made" "I" ∈ tb := tb_in 354 (by decide +kernel) (by decide +kernel)
theorem kw355 : Cond.fieldLink "HatHall" 296 "HatHall$Search" "made" "I" ∈ tb := tb_in 355 (by decide +kernel) (by decide +kernel)
theorem kw356 : Cond.fieldLink "HatHall$Search" 15 "HatHall$Search" "settled" "[B" ∈ tb := tb_in 356 (by decide +kernel) (by decide +kernel)
theorem kw357 : Cond.fieldLink "HatHall$Search" 19 "HatHall$Search" "rowsDone" "[S" ∈ tb := tb_in 357 (by decide +kernel) (by decide +kernel)
theorem kw358 : Cond.fieldLink "HatHall$Search" 23 "HatHall$Search" "wearersDone" "[B" ∈ tb := tb_in 358 (by decide +kernel) (by decide +kernel)
theorem kw368 : Cond.arrayClass .short ∈ tb := tb_in 368 (by decide +kernel) (by decide +kernel)
theorem kw369 : Cond.classLink "HatHall" 66 "HatHall$Sums" ∈ tb := tb_in 369 (by decide +kernel) (by decide +kernel)
theorem kw370 : Cond.instantiable "HatHall$Sums" 5 ∈ tb := tb_in 370 (by decide +kernel) (by decide +kernel)
theorem kw372 : Cond.instanceMethod yX9_init ∈ tb := tb_in 372 (by decide +kernel) (by decide +kernel)
theorem kw373 : Cond.code yX9_init cX9_init 1 none ∈ tb := tb_in 373 (by decide +kernel) (by decide +kernel)
theorem kw374 : Cond.methodLink "HatHall$Sums" 3 ⟨"java/lang/Object", "<init>", "()V"⟩ ∈ tb := tb_in 374 (by decide +kernel) (by decide +kernel)
theorem kw375 : Cond.fieldLink "HatHall$Sums" 9 "HatHall$Sums" "best" "[I" ∈ tb := tb_in 375 (by decide +kernel) (by decide +kernel)
theorem kw376 : Cond.fieldLink "HatHall" 309 "HatHall$Sums" "best" "[I" ∈ tb := tb_in 376 (by decide +kernel) (by decide +kernel)
theorem kw377 : Cond.fieldLink "HatHall$Sums" 15 "HatHall$Sums" "wearers" "I" ∈ tb := tb_in 377 (by decide +kernel) (by decide +kernel)
theorem kw378 : Cond.fieldLink "HatHall" 304 "HatHall$Sums" "wearers" "I" ∈ tb := tb_in 378 (by decide +kernel) (by decide +kernel)
theorem kw379 : Cond.fieldLink "HatHall$Sums" 19 "HatHall$Sums" "tried" "[I" ∈ tb := tb_in 379 (by decide +kernel) (by decide +kernel)
theorem kw380 : Cond.fieldLink "HatHall$Sums" 22 "HatHall$Sums" "needs" "[I" ∈ tb := tb_in 380 (by decide +kernel) (by decide +kernel)
theorem kw381 : Cond.fieldLink "HatHall$Sums" 25 "HatHall$Sums" "wonByRight" "[Z" ∈ tb := tb_in 381 (by decide +kernel) (by decide +kernel)
theorem kw393 : Cond.arrayClass .boolean ∈ tb := tb_in 393 (by decide +kernel) (by decide +kernel)
theorem kw394 : Cond.classLink "HatHall" 73 "HatHall$Cover" ∈ tb := tb_in 394 (by decide +kernel) (by decide +kernel)
theorem kw395 : Cond.instantiable "HatHall$Cover" 5 ∈ tb := tb_in 395 (by decide +kernel) (by decide +kernel)
theorem kw397 : Cond.instanceMethod yX0_init ∈ tb := tb_in 397 (by decide +kernel) (by decide +kernel)
theorem kw398 : Cond.code yX0_init cX0_init 1 none ∈ tb := tb_in 398 (by decide +kernel) (by decide +kernel)
theorem kw399 : Cond.methodLink "HatHall$Cover" 3 ⟨"java/lang/Object", "<init>", "()V"⟩ ∈ tb := tb_in 399 (by decide +kernel) (by decide +kernel)
theorem kw400 : Cond.fieldLink "HatHall$Cover" 9 "HatHall$Cover" "many" "I" ∈ tb := tb_in 400 (by decide +kernel) (by decide +kernel)
theorem kw401 : Cond.fieldLink "HatHall" 315 "HatHall$Cover" "many" "I" ∈ tb := tb_in 401 (by decide +kernel) (by decide +kernel)
theorem kw402 : Cond.fieldLink "HatHall$Cover" 15 "HatHall$Cover" "chosen" "[I" ∈ tb := tb_in 402 (by decide +kernel) (by decide +kernel)
theorem kw403 : Cond.fieldLink "HatHall" 320 "HatHall$Cover" "chosen" "[I" ∈ tb := tb_in 403 (by decide +kernel) (by decide +kernel)
theorem kw404 : Cond.fieldLink "HatHall$Cover" 19 "HatHall$Cover" "n" "I" ∈ tb := tb_in 404 (by decide +kernel) (by decide +kernel)
theorem kw405 : Cond.fieldLink "HatHall$Cover" 22 "HatHall$Cover" "near" "[I" ∈ tb := tb_in 405 (by decide +kernel) (by decide +kernel)
theorem kw406 : Cond.fieldLink "HatHall$Cover" 25 "HatHall$Cover" "greatestNear" "[I" ∈ tb := tb_in 406 (by decide +kernel) (by decide +kernel)
theorem kw418 : Cond.classLink "HatHall" 80 "HatHall$Mender" ∈ tb := tb_in 418 (by decide +kernel) (by decide +kernel)
theorem kw419 : Cond.instantiable "HatHall$Mender" 3 ∈ tb := tb_in 419 (by decide +kernel) (by decide +kernel)
theorem kw421 : Cond.instanceMethod yX4_init ∈ tb := tb_in 421 (by decide +kernel) (by decide +kernel)
theorem kw422 : Cond.code yX4_init cX4_init 1 none ∈ tb := tb_in 422 (by decide +kernel) (by decide +kernel)
theorem kw423 : Cond.methodLink "HatHall$Mender" 3 ⟨"java/lang/Object", "<init>", "()V"⟩ ∈ tb := tb_in 423 (by decide +kernel) (by decide +kernel)
theorem kw424 : Cond.classLink "HatHall$Mender" 15 "HatHall$Scene" ∈ tb := tb_in 424 (by decide +kernel) (by decide +kernel)
theorem kw426 : Cond.fieldLink "HatHall$Mender" 11 "HatHall$Mender" "gains" "[I" ∈ tb := tb_in 426 (by decide +kernel) (by decide +kernel)
theorem kw427 : Cond.fieldLink "HatHall$Mender" 18 "HatHall$Mender" "played" "LHatHall$Scene;" ∈ tb := tb_in 427 (by decide +kernel) (by decide +kernel)
theorem kw428 : Cond.fieldLink "HatHall$Mender" 22 "HatHall$Mender" "changed" "LHatHall$Scene;" ∈ tb := tb_in 428 (by decide +kernel) (by decide +kernel)
theorem kw436 : Cond.fieldLink "HatHall" 10 "HatHall" "net" "LHatHall$Net;" ∈ tb := tb_in 436 (by decide +kernel) (by decide +kernel)
theorem kw437 : Cond.fieldLink "HatHall" 16 "HatHall" "trial" "LHatHall$Net;" ∈ tb := tb_in 437 (by decide +kernel) (by decide +kernel)
theorem kw438 : Cond.fieldLink "HatHall" 19 "HatHall" "slots" "[LHatHall$Net;" ∈ tb := tb_in 438 (by decide +kernel) (by decide +kernel)
theorem kw439 : Cond.fieldLink "HatHall" 26 "HatHall" "scene" "LHatHall$Scene;" ∈ tb := tb_in 439 (by decide +kernel) (by decide +kernel)
theorem kw440 : Cond.fieldLink "HatHall" 33 "HatHall" "judge" "LHatHall$Judge;" ∈ tb := tb_in 440 (by decide +kernel) (by decide +kernel)
theorem kw441 : Cond.fieldLink "HatHall" 40 "HatHall" "ledger" "LHatHall$Ledger;" ∈ tb := tb_in 441 (by decide +kernel) (by decide +kernel)
theorem kw442 : Cond.fieldLink "HatHall" 47 "HatHall" "reader" "LHatHall$Reader;" ∈ tb := tb_in 442 (by decide +kernel) (by decide +kernel)
theorem kw443 : Cond.fieldLink "HatHall" 51 "HatHall" "tape" "[I" ∈ tb := tb_in 443 (by decide +kernel) (by decide +kernel)
theorem kw444 : Cond.fieldLink "HatHall" 55 "HatHall" "taped" "I" ∈ tb := tb_in 444 (by decide +kernel) (by decide +kernel)
theorem kw445 : Cond.fieldLink "HatHall" 62 "HatHall" "search" "LHatHall$Search;" ∈ tb := tb_in 445 (by decide +kernel) (by decide +kernel)
theorem kw446 : Cond.fieldLink "HatHall" 69 "HatHall" "sums" "LHatHall$Sums;" ∈ tb := tb_in 446 (by decide +kernel) (by decide +kernel)
theorem kw447 : Cond.fieldLink "HatHall" 76 "HatHall" "cover" "LHatHall$Cover;" ∈ tb := tb_in 447 (by decide +kernel) (by decide +kernel)
theorem kw448 : Cond.fieldLink "HatHall" 83 "HatHall" "mender" "LHatHall$Mender;" ∈ tb := tb_in 448 (by decide +kernel) (by decide +kernel)
theorem kw476 : Cond.methodLink "HatHallLaw" 81 yX10_hall ∈ tb := tb_in 476 (by decide +kernel) (by decide +kernel)
theorem kw477 : Cond.instanceMethod yX10_hall ∈ tb := tb_in 477 (by decide +kernel) (by decide +kernel)
theorem kw478 : Cond.selects "HatHall" yX10_hall yX10_hall ∈ tb := tb_in 478 (by decide +kernel) (by decide +kernel)
theorem kw479 : Cond.code yX10_hall cX10_hall 3 (some .boolean) ∈ tb := tb_in 479 (by decide +kernel) (by decide +kernel)
theorem kw480 : Cond.methodLink "HatHall" 87 yX5_fits ∈ tb := tb_in 480 (by decide +kernel) (by decide +kernel)
theorem kw481 : Cond.static yX5_fits ∈ tb := tb_in 481 (by decide +kernel) (by decide +kernel)
theorem kw482 : Cond.code yX5_fits cX5_fits 4 (some .boolean) ∈ tb := tb_in 482 (by decide +kernel) (by decide +kernel)
theorem kw483 : Cond.methodLink "HatHall" 91 yX5_open ∈ tb := tb_in 483 (by decide +kernel) (by decide +kernel)
theorem kw484 : Cond.methodLink "HatHall" 95 yX3_spoil ∈ tb := tb_in 484 (by decide +kernel) (by decide +kernel)
theorem kw485 : Cond.instanceMethod yX3_spoil ∈ tb := tb_in 485 (by decide +kernel) (by decide +kernel)
theorem kw486 : Cond.selects "HatHall$Ledger" yX3_spoil yX3_spoil ∈ tb := tb_in 486 (by decide +kernel) (by decide +kernel)
theorem kw487 : Cond.code yX3_spoil cX3_spoil 1 none ∈ tb := tb_in 487 (by decide +kernel) (by decide +kernel)
theorem kw488 : Cond.methodLink "HatHallLaw" 97 yX10_heap ∈ tb := tb_in 488 (by decide +kernel) (by decide +kernel)
theorem kw489 : Cond.instanceMethod yX10_heap ∈ tb := tb_in 489 (by decide +kernel) (by decide +kernel)
theorem kw490 : Cond.selects "HatHall" yX10_heap yX10_heap ∈ tb := tb_in 490 (by decide +kernel) (by decide +kernel)
theorem kw491 : Cond.code yX10_heap cX10_heap 3 (some .boolean) ∈ tb := tb_in 491 (by decide +kernel) (by decide +kernel)
theorem kw492 : Cond.methodLink "HatHallLaw" 101 yX10_law ∈ tb := tb_in 492 (by decide +kernel) (by decide +kernel)
theorem kw493 : Cond.instanceMethod yX10_law ∈ tb := tb_in 493 (by decide +kernel) (by decide +kernel)
theorem kw494 : Cond.selects "HatHall" yX10_law yX10_law ∈ tb := tb_in 494 (by decide +kernel) (by decide +kernel)
theorem kw495 : Cond.code yX10_law cX10_law 3 (some .boolean) ∈ tb := tb_in 495 (by decide +kernel) (by decide +kernel)
theorem kw496 : Cond.methodLink "HatHallLaw" 105 yX10_feed ∈ tb := tb_in 496 (by decide +kernel) (by decide +kernel)
theorem kw497 : Cond.instanceMethod yX10_feed ∈ tb := tb_in 497 (by decide +kernel) (by decide +kernel)
theorem kw498 : Cond.selects "HatHall" yX10_feed yX10_feed ∈ tb := tb_in 498 (by decide +kernel) (by decide +kernel)
theorem kw499 : Cond.code yX10_feed cX10_feed 6 (some .int) ∈ tb := tb_in 499 (by decide +kernel) (by decide +kernel)
theorem kw500 : Cond.methodLink "HatHall" 124 yX10_putBytes ∈ tb := tb_in 500 (by decide +kernel) (by decide +kernel)
theorem kw502 : Cond.instanceMethod yX10_putBytes ∈ tb := tb_in 502 (by decide +kernel) (by decide +kernel)
theorem kw503 : Cond.code yX10_putBytes cX10_putBytes 3 none ∈ tb := tb_in 503 (by decide +kernel) (by decide +kernel)
theorem kw504 : Cond.methodLink "HatHallLaw" 114 yX10_fault ∈ tb := tb_in 504 (by decide +kernel) (by decide +kernel)
theorem kw505 : Cond.instanceMethod yX10_fault ∈ tb := tb_in 505 (by decide +kernel) (by decide +kernel)
theorem kw506 : Cond.selects "HatHall" yX10_fault yX10_fault ∈ tb := tb_in 506 (by decide +kernel) (by decide +kernel)
theorem kw507 : Cond.code yX10_fault cX10_fault 1 (some .int) ∈ tb := tb_in 507 (by decide +kernel) (by decide +kernel)
theorem kw508 : Cond.methodLink "HatHallLaw" 137 yX10_beaten ∈ tb := tb_in 508 (by decide +kernel) (by decide +kernel)
theorem kw509 : Cond.instanceMethod yX10_beaten ∈ tb := tb_in 509 (by decide +kernel) (by decide +kernel)
theorem kw510 : Cond.selects "HatHall" yX10_beaten yX10_beaten ∈ tb := tb_in 510 (by decide +kernel) (by decide +kernel)
theorem kw511 : Cond.code yX10_beaten cX10_beaten 2 (some .int) ∈ tb := tb_in 511 (by decide +kernel) (by decide +kernel)
theorem kw512 : Cond.methodLink "HatHall" 230 yX3_fill ∈ tb := tb_in 512 (by decide +kernel) (by decide +kernel)
theorem kw513 : Cond.instanceMethod yX3_fill ∈ tb := tb_in 513 (by decide +kernel) (by decide +kernel)
theorem kw514 : Cond.selects "HatHall$Ledger" yX3_fill yX3_fill ∈ tb := tb_in 514 (by decide +kernel) (by decide +kernel)
theorem kw515 : Cond.code yX3_fill cX3_fill 6 none ∈ tb := tb_in 515 (by decide +kernel) (by decide +kernel)
theorem kw516 : Cond.methodLink "HatHall$Ledger" 25 yX7_dress ∈ tb := tb_in 516 (by decide +kernel) (by decide +kernel)
theorem kw517 : Cond.instanceMethod yX7_dress ∈ tb := tb_in 517 (by decide +kernel) (by decide +kernel)
theorem kw518 : Cond.selects "HatHall$Scene" yX7_dress yX7_dress ∈ tb := tb_in 518 (by decide +kernel) (by decide +kernel)
theorem kw519 : Cond.code yX7_dress cX7_dress 5 none ∈ tb := tb_in 519 (by decide +kernel) (by decide +kernel)
theorem kw520 : Cond.methodLink "HatHall$Ledger" 31 yX7_guessAll ∈ tb := tb_in 520 (by decide +kernel) (by decide +kernel)
theorem kw521 : Cond.instanceMethod yX7_guessAll ∈ tb := tb_in 521 (by decide +kernel) (by decide +kernel)
theorem kw522 : Cond.selects "HatHall$Scene" yX7_guessAll yX7_guessAll ∈ tb := tb_in 522 (by decide +kernel) (by decide +kernel)
theorem kw523 : Cond.code yX7_guessAll cX7_guessAll 4 none ∈ tb := tb_in 523 (by decide +kernel) (by decide +kernel)
theorem kw524 : Cond.methodLink "HatHall$Scene" 36 yX7_guessOf ∈ tb := tb_in 524 (by decide +kernel) (by decide +kernel)
theorem kw525 : Cond.instanceMethod yX7_guessOf ∈ tb := tb_in 525 (by decide +kernel) (by decide +kernel)
theorem kw526 : Cond.selects "HatHall$Scene" yX7_guessOf yX7_guessOf ∈ tb := tb_in 526 (by decide +kernel) (by decide +kernel)
theorem kw527 : Cond.code yX7_guessOf cX7_guessOf 4 (some .int) ∈ tb := tb_in 527 (by decide +kernel) (by decide +kernel)
theorem kw528 : Cond.methodLink "HatHall$Scene" 55 yX1_guess ∈ tb := tb_in 528 (by decide +kernel) (by decide +kernel)
theorem kw529 : Cond.instanceMethod yX1_guess ∈ tb := tb_in 529 (by decide +kernel) (by decide +kernel)
theorem kw530 : Cond.selects "HatHall$Formula" yX1_guess yX1_guess ∈ tb := tb_in 530 (by decide +kernel) (by decide +kernel)
theorem kw531 : Cond.code yX1_guess cX1_guess 7 (some .int) ∈ tb := tb_in 531 (by decide +kernel) (by decide +kernel)
theorem kw532 : Cond.methodLink "HatHall$Formula" 33 yX1_join ∈ tb := tb_in 532 (by decide +kernel) (by decide +kernel)
theorem kw534 : Cond.instanceMethod yX1_join ∈ tb := tb_in 534 (by decide +kernel) (by decide +kernel)
theorem kw535 : Cond.instantiable "HatHall$Formula" 5 ∈ tb := tb_in 535 (by decide +kernel) (by decide +kernel)
theorem kw536 : Cond.code yX1_join cX1_join 4 (some .int) ∈ tb := tb_in 536 (by decide +kernel) (by decide +kernel)
theorem kw537 : Cond.methodLink "HatHall$Formula" 37 yX1_look ∈ tb := tb_in 537 (by decide +kernel) (by decide +kernel)
theorem kw539 : Cond.instanceMethod yX1_look ∈ tb := tb_in 539 (by decide +kernel) (by decide +kernel)
theorem kw540 : Cond.code yX1_look cX1_look 6 (some .int) ∈ tb := tb_in 540 (by decide +kernel) (by decide +kernel)
theorem kw541 : Cond.methodLink "HatHall$Formula" 63 yX1_sumOf ∈ tb := tb_in 541 (by decide +kernel) (by decide +kernel)
theorem kw542 : Cond.static yX1_sumOf ∈ tb := tb_in 542 (by decide +kernel) (by decide +kernel)
theorem kw543 : Cond.code yX1_sumOf cX1_sumOf 4 (some .int) ∈ tb := tb_in 543 (by decide +kernel) (by decide +kernel)
theorem kw544 : Cond.methodLink "HatHall$Formula" 46 yJ9_floorMod_7cf53 ∈ tb := tb_in 544 (by decide +kernel) (by decide +kernel)
theorem kw545 : Cond.static yJ9_floorMod_7cf53 ∈ tb := tb_in 545 (by decide +kernel) (by decide +kernel)
theorem kw546 : Cond.code yJ9_floorMod_7cf53 cJ9_floorMod_7cf53 3 (some .int) ∈ tb := tb_in 546 (by decide +kernel) (by decide +kernel)
theorem kw547 : Cond.methodLink "HatHall$Scene" 64 yX7_viewOf ∈ tb := tb_in 547 (by decide +kernel) (by decide +kernel)
theorem kw548 : Cond.instanceMethod yX7_viewOf ∈ tb := tb_in 548 (by decide +kernel) (by decide +kernel)
theorem kw549 : Cond.selects "HatHall$Scene" yX7_viewOf yX7_viewOf ∈ tb := tb_in 549 (by decide +kernel) (by decide +kernel)
theorem kw550 : Cond.code yX7_viewOf cX7_viewOf 7 (some .int) ∈ tb := tb_in 550 (by decide +kernel) (by decide +kernel)
theorem kw551 : Cond.methodLink "HatHall$Scene" 67 yX5_guessAt ∈ tb := tb_in 551 (by decide +kernel) (by decide +kernel)
theorem kw552 : Cond.instanceMethod yX5_guessAt ∈ tb := tb_in 552 (by decide +kernel) (by decide +kernel)
theorem kw553 : Cond.selects "HatHall$Net" yX5_guessAt yX5_guessAt ∈ tb := tb_in 553 (by decide +kernel) (by decide +kernel)
theorem kw554 : Cond.code yX5_guessAt cX5_guessAt 3 (some .int) ∈ tb := tb_in 554 (by decide +kernel) (by decide +kernel)
theorem kw555 : Cond.methodLink "HatHall$Ledger" 38 yX2_weigh ∈ tb := tb_in 555 (by decide +kernel) (by decide +kernel)
theorem kw556 : Cond.instanceMethod yX2_weigh ∈ tb := tb_in 556 (by decide +kernel) (by decide +kernel)
theorem kw557 : Cond.selects "HatHall$Judge" yX2_weigh yX2_weigh ∈ tb := tb_in 557 (by decide +kernel) (by decide +kernel)
theorem kw558 : Cond.code yX2_weigh cX2_weigh 7 (some .long) ∈ tb := tb_in 558 (by decide +kernel) (by decide +kernel)
theorem kw559 : Cond.methodLink "HatHall$Judge" 25 ⟨"java/lang/System", "arraycopy", "(Ljava/lang/Object;ILjava/lang/Object;II)V"⟩ ∈ tb := tb_in 559 (by decide +kernel) (by decide +kernel)
theorem kw560 : Cond.static ⟨"java/lang/System", "arraycopy", "(Ljava/lang/Object;ILjava/lang/Object;II)V"⟩ ∈ tb := tb_in 560 (by decide +kernel) (by decide +kernel)
theorem kw561 : Cond.native ⟨"java/lang/System", "arraycopy", "(Ljava/lang/Object;ILjava/lang/Object;II)V"⟩ ∈ tb := tb_in 561 (by decide +kernel) (by decide +kernel)
theorem kw562 : Cond.constant "HatHall$Ledger" 44 65536 ∈ tb := tb_in 562 (by decide +kernel) (by decide +kernel)
theorem kw563 : Cond.methodLink "HatHall$Ledger" 45 yX7_rightOnes ∈ tb := tb_in 563 (by decide +kernel) (by decide +kernel)
theorem kw564 : Cond.instanceMethod yX7_rightOnes ∈ tb := tb_in 564 (by decide +kernel) (by decide +kernel)
theorem kw565 : Cond.selects "HatHall$Scene" yX7_rightOnes yX7_rightOnes ∈ tb := tb_in 565 (by decide +kernel) (by decide +kernel)
theorem kw566 : Cond.code yX7_rightOnes cX7_rightOnes 4 (some .int) ∈ tb := tb_in 566 (by decide +kernel) (by decide +kernel)
theorem kw567 : Cond.methodLink "HatHall$Ledger" 49 yX7_wrongOnes ∈ tb := tb_in 567 (by decide +kernel) (by decide +kernel)
theorem kw568 : Cond.instanceMethod yX7_wrongOnes ∈ tb := tb_in 568 (by decide +kernel) (by decide +kernel)
theorem kw569 : Cond.selects "HatHall$Scene" yX7_wrongOnes yX7_wrongOnes ∈ tb := tb_in 569 (by decide +kernel) (by decide +kernel)
theorem kw570 : Cond.code yX7_wrongOnes cX7_wrongOnes 4 (some .int) ∈ tb := tb_in 570 (by decide +kernel) (by decide +kernel)
theorem kw571 : Cond.methodLink "HatHall" 242 yX3_rowBeaten ∈ tb := tb_in 571 (by decide +kernel) (by decide +kernel)
theorem kw572 : Cond.instanceMethod yX3_rowBeaten ∈ tb := tb_in 572 (by decide +kernel) (by decide +kernel)
theorem kw573 : Cond.selects "HatHall$Ledger" yX3_rowBeaten yX3_rowBeaten ∈ tb := tb_in 573 (by decide +kernel) (by decide +kernel)
theorem kw574 : Cond.code yX3_rowBeaten cX3_rowBeaten 6 (some .int) ∈ tb := tb_in 574 (by decide +kernel) (by decide +kernel)
theorem kw575 : Cond.methodLink "HatHall$Ledger" 62 yX3_counts ∈ tb := tb_in 575 (by decide +kernel) (by decide +kernel)
theorem kw577 : Cond.instanceMethod yX3_counts ∈ tb := tb_in 577 (by decide +kernel) (by decide +kernel)
theorem kw578 : Cond.code yX3_counts cX3_counts 2 (some .boolean) ∈ tb := tb_in 578 (by decide +kernel) (by decide +kernel)
theorem kw579 : Cond.methodLink "HatHall$Ledger" 66 yX3_isWon ∈ tb := tb_in 579 (by decide +kernel) (by decide +kernel)
theorem kw581 : Cond.instanceMethod yX3_isWon ∈ tb := tb_in 581 (by decide +kernel) (by decide +kernel)
theorem kw582 : Cond.code yX3_isWon cX3_isWon 4 (some .boolean) ∈ tb := tb_in 582 (by decide +kernel) (by decide +kernel)
theorem kw583 : Cond.methodLink "HatHall$Ledger" 52 yX2_isWon ∈ tb := tb_in 583 (by decide +kernel) (by decide +kernel)
theorem kw584 : Cond.instanceMethod yX2_isWon ∈ tb := tb_in 584 (by decide +kernel) (by decide +kernel)
theorem kw585 : Cond.selects "HatHall$Judge" yX2_isWon yX2_isWon ∈ tb := tb_in 585 (by decide +kernel) (by decide +kernel)
theorem kw586 : Cond.code yX2_isWon cX2_isWon 5 (some .boolean) ∈ tb := tb_in 586 (by decide +kernel) (by decide +kernel)
theorem kw587 : Cond.methodLink "HatHall$Judge" 36 yJ6_bitCount_0f7a4 ∈ tb := tb_in 587 (by decide +kernel) (by decide +kernel)
theorem kw588 : Cond.static yJ6_bitCount_0f7a4 ∈ tb := tb_in 588 (by decide +kernel) (by decide +kernel)
theorem kw589 : Cond.code yJ6_bitCount_0f7a4 cJ6_bitCount_0f7a4 1 (some .int) ∈ tb := tb_in 589 (by decide +kernel) (by decide +kernel)
theorem kw590 : Cond.constant "java/lang/Integer" 265 1431655765 ∈ tb := tb_in 590 (by decide +kernel) (by decide +kernel)
theorem kw591 : Cond.constant "java/lang/Integer" 266 858993459 ∈ tb := tb_in 591 (by decide +kernel) (by decide +kernel)
theorem kw592 : Cond.constant "java/lang/Integer" 267 252645135 ∈ tb := tb_in 592 (by decide +kernel) (by decide +kernel)
theorem kw593 : Cond.methodLink "HatHallLaw" 141 yX10_tally ∈ tb := tb_in 593 (by decide +kernel) (by decide +kernel)
theorem kw594 : Cond.instanceMethod yX10_tally ∈ tb := tb_in 594 (by decide +kernel) (by decide +kernel)
theorem kw595 : Cond.selects "HatHall" yX10_tally yX10_tally ∈ tb := tb_in 595 (by decide +kernel) (by decide +kernel)
theorem kw596 : Cond.code yX10_tally cX10_tally 2 (some .int) ∈ tb := tb_in 596 (by decide +kernel) (by decide +kernel)
theorem kw597 : Cond.methodLink "HatHall" 246 yX3_rowsWithRight ∈ tb := tb_in 597 (by decide +kernel) (by decide +kernel)
theorem kw598 : Cond.instanceMethod yX3_rowsWithRight ∈ tb := tb_in 598 (by decide +kernel) (by decide +kernel)
theorem kw599 : Cond.selects "HatHall$Ledger" yX3_rowsWithRight yX3_rowsWithRight ∈ tb := tb_in 599 (by decide +kernel) (by decide +kernel)
theorem kw600 : Cond.code yX3_rowsWithRight cX3_rowsWithRight 5 (some .int) ∈ tb := tb_in 600 (by decide +kernel) (by decide +kernel)
theorem kw601 : Cond.methodLink "HatHall$Ledger" 56 yJ6_bitCount_0f7a4 ∈ tb := tb_in 601 (by decide +kernel) (by decide +kernel)
end
section
theorem kw602 : Cond.methodLink "HatHallLaw" 157 yX10_alike ∈ tb := tb_in 602 (by decide +kernel) (by decide +kernel)
theorem kw603 : Cond.instanceMethod yX10_alike ∈ tb := tb_in 603 (by decide +kernel) (by decide +kernel)
theorem kw604 : Cond.selects "HatHall" yX10_alike yX10_alike ∈ tb := tb_in 604 (by decide +kernel) (by decide +kernel)
theorem kw605 : Cond.code yX10_alike cX10_alike 1 (some .int) ∈ tb := tb_in 605 (by decide +kernel) (by decide +kernel)
theorem kw606 : Cond.methodLink "HatHall" 277 yX5_countPlacings ∈ tb := tb_in 606 (by decide +kernel) (by decide +kernel)
theorem kw607 : Cond.instanceMethod yX5_countPlacings ∈ tb := tb_in 607 (by decide +kernel) (by decide +kernel)
theorem kw608 : Cond.selects "HatHall$Net" yX5_countPlacings yX5_countPlacings ∈ tb := tb_in 608 (by decide +kernel) (by decide +kernel)
theorem kw609 : Cond.code yX5_countPlacings cX5_countPlacings 1 (some .int) ∈ tb := tb_in 609 (by decide +kernel) (by decide +kernel)
theorem kw610 : Cond.methodLink "HatHall$Net" 108 yX5_placeFrom ∈ tb := tb_in 610 (by decide +kernel) (by decide +kernel)
theorem kw612 : Cond.instanceMethod yX5_placeFrom ∈ tb := tb_in 612 (by decide +kernel) (by decide +kernel)
theorem kw613 : Cond.code yX5_placeFrom cX5_placeFrom 5 (some .int) ∈ tb := tb_in 613 (by decide +kernel) (by decide +kernel)
theorem kw614 : Cond.methodLink "HatHall$Net" 112 yX5_suits ∈ tb := tb_in 614 (by decide +kernel) (by decide +kernel)
theorem kw616 : Cond.instanceMethod yX5_suits ∈ tb := tb_in 616 (by decide +kernel) (by decide +kernel)
theorem kw617 : Cond.code yX5_suits cX5_suits 6 (some .boolean) ∈ tb := tb_in 617 (by decide +kernel) (by decide +kernel)
theorem kw618 : Cond.methodLink "HatHallLaw" 161 yX10_ring ∈ tb := tb_in 618 (by decide +kernel) (by decide +kernel)
theorem kw619 : Cond.instanceMethod yX10_ring ∈ tb := tb_in 619 (by decide +kernel) (by decide +kernel)
theorem kw620 : Cond.selects "HatHall" yX10_ring yX10_ring ∈ tb := tb_in 620 (by decide +kernel) (by decide +kernel)
theorem kw621 : Cond.code yX10_ring cX10_ring 1 (some .int) ∈ tb := tb_in 621 (by decide +kernel) (by decide +kernel)
theorem kw622 : Cond.methodLink "HatHall" 281 yX5_shortestRing ∈ tb := tb_in 622 (by decide +kernel) (by decide +kernel)
theorem kw623 : Cond.instanceMethod yX5_shortestRing ∈ tb := tb_in 623 (by decide +kernel) (by decide +kernel)
theorem kw624 : Cond.selects "HatHall$Net" yX5_shortestRing yX5_shortestRing ∈ tb := tb_in 624 (by decide +kernel) (by decide +kernel)
theorem kw625 : Cond.code yX5_shortestRing cX5_shortestRing 5 (some .int) ∈ tb := tb_in 625 (by decide +kernel) (by decide +kernel)
theorem kw626 : Cond.methodLink "HatHall$Net" 105 yX5_seenByAnyOf ∈ tb := tb_in 626 (by decide +kernel) (by decide +kernel)
theorem kw628 : Cond.instanceMethod yX5_seenByAnyOf ∈ tb := tb_in 628 (by decide +kernel) (by decide +kernel)
theorem kw629 : Cond.code yX5_seenByAnyOf cX5_seenByAnyOf 4 (some .int) ∈ tb := tb_in 629 (by decide +kernel) (by decide +kernel)
theorem kw630 : Cond.methodLink "HatHallLaw" 168 yX10_steps ∈ tb := tb_in 630 (by decide +kernel) (by decide +kernel)
theorem kw631 : Cond.instanceMethod yX10_steps ∈ tb := tb_in 631 (by decide +kernel) (by decide +kernel)
theorem kw632 : Cond.selects "HatHall" yX10_steps yX10_steps ∈ tb := tb_in 632 (by decide +kernel) (by decide +kernel)
theorem kw633 : Cond.code yX10_steps cX10_steps 1 (some .int) ∈ tb := tb_in 633 (by decide +kernel) (by decide +kernel)
theorem kw634 : Cond.methodLink "HatHallLaw" 179 yX10_cover ∈ tb := tb_in 634 (by decide +kernel) (by decide +kernel)
theorem kw635 : Cond.instanceMethod yX10_cover ∈ tb := tb_in 635 (by decide +kernel) (by decide +kernel)
theorem kw636 : Cond.selects "HatHall" yX10_cover yX10_cover ∈ tb := tb_in 636 (by decide +kernel) (by decide +kernel)
theorem kw637 : Cond.code yX10_cover cX10_cover 1 (some .int) ∈ tb := tb_in 637 (by decide +kernel) (by decide +kernel)
theorem kw638 : Cond.methodLink "HatHall" 312 yX0_seek ∈ tb := tb_in 638 (by decide +kernel) (by decide +kernel)
theorem kw639 : Cond.instanceMethod yX0_seek ∈ tb := tb_in 639 (by decide +kernel) (by decide +kernel)
theorem kw640 : Cond.selects "HatHall$Cover" yX0_seek yX0_seek ∈ tb := tb_in 640 (by decide +kernel) (by decide +kernel)
theorem kw641 : Cond.code yX0_seek cX0_seek 5 none ∈ tb := tb_in 641 (by decide +kernel) (by decide +kernel)
theorem kw642 : Cond.methodLink "HatHall$Cover" 28 yX0_noteNear ∈ tb := tb_in 642 (by decide +kernel) (by decide +kernel)
theorem kw644 : Cond.instanceMethod yX0_noteNear ∈ tb := tb_in 644 (by decide +kernel) (by decide +kernel)
theorem kw645 : Cond.code yX0_noteNear cX0_noteNear 4 none ∈ tb := tb_in 645 (by decide +kernel) (by decide +kernel)
theorem kw646 : Cond.methodLink "HatHall$Cover" 35 yJ9_max_7cf53 ∈ tb := tb_in 646 (by decide +kernel) (by decide +kernel)
theorem kw647 : Cond.static yJ9_max_7cf53 ∈ tb := tb_in 647 (by decide +kernel) (by decide +kernel)
theorem kw648 : Cond.code yJ9_max_7cf53 cJ9_max_7cf53 2 (some .int) ∈ tb := tb_in 648 (by decide +kernel) (by decide +kernel)
theorem kw649 : Cond.methodLink "HatHall$Cover" 31 yX0_choose ∈ tb := tb_in 649 (by decide +kernel) (by decide +kernel)
theorem kw651 : Cond.instanceMethod yX0_choose ∈ tb := tb_in 651 (by decide +kernel) (by decide +kernel)
theorem kw652 : Cond.code yX0_choose cX0_choose 5 (some .boolean) ∈ tb := tb_in 652 (by decide +kernel) (by decide +kernel)
theorem kw653 : Cond.methodLink "HatHall$Cover" 41 yJ6_bitCount_0f7a4 ∈ tb := tb_in 653 (by decide +kernel) (by decide +kernel)
theorem kw654 : Cond.methodLink "HatHall$Cover" 47 yX0_lastUseful ∈ tb := tb_in 654 (by decide +kernel) (by decide +kernel)
theorem kw656 : Cond.instanceMethod yX0_lastUseful ∈ tb := tb_in 656 (by decide +kernel) (by decide +kernel)
theorem kw657 : Cond.code yX0_lastUseful cX0_lastUseful 4 (some .int) ∈ tb := tb_in 657 (by decide +kernel) (by decide +kernel)
theorem kw658 : Cond.methodLink "HatHall$Cover" 50 yJ9_min_7cf53 ∈ tb := tb_in 658 (by decide +kernel) (by decide +kernel)
theorem kw659 : Cond.static yJ9_min_7cf53 ∈ tb := tb_in 659 (by decide +kernel) (by decide +kernel)
theorem kw660 : Cond.code yJ9_min_7cf53 cJ9_min_7cf53 2 (some .int) ∈ tb := tb_in 660 (by decide +kernel) (by decide +kernel)
theorem kw661 : Cond.methodLink "HatHall" 314 yX0_settle ∈ tb := tb_in 661 (by decide +kernel) (by decide +kernel)
theorem kw662 : Cond.instanceMethod yX0_settle ∈ tb := tb_in 662 (by decide +kernel) (by decide +kernel)
theorem kw663 : Cond.selects "HatHall$Cover" yX0_settle yX0_settle ∈ tb := tb_in 663 (by decide +kernel) (by decide +kernel)
theorem kw664 : Cond.code yX0_settle cX0_settle 6 none ∈ tb := tb_in 664 (by decide +kernel) (by decide +kernel)
theorem kw665 : Cond.methodLink "HatHall$Cover" 53 yX5_lookAtAllAtOnce ∈ tb := tb_in 665 (by decide +kernel) (by decide +kernel)
theorem kw666 : Cond.methodLink "HatHall$Cover" 61 yX0_isChosen ∈ tb := tb_in 666 (by decide +kernel) (by decide +kernel)
theorem kw668 : Cond.instanceMethod yX0_isChosen ∈ tb := tb_in 668 (by decide +kernel) (by decide +kernel)
theorem kw669 : Cond.code yX0_isChosen cX0_isChosen 3 (some .boolean) ∈ tb := tb_in 669 (by decide +kernel) (by decide +kernel)
theorem kw670 : Cond.methodLink "HatHall$Cover" 65 yX0_guessBetween ∈ tb := tb_in 670 (by decide +kernel) (by decide +kernel)
theorem kw671 : Cond.static yX0_guessBetween ∈ tb := tb_in 671 (by decide +kernel) (by decide +kernel)
theorem kw672 : Cond.code yX0_guessBetween cX0_guessBetween 2 (some .int) ∈ tb := tb_in 672 (by decide +kernel) (by decide +kernel)
theorem kw673 : Cond.methodLink "HatHall$Cover" 69 yX5_setGuess ∈ tb := tb_in 673 (by decide +kernel) (by decide +kernel)
theorem kw674 : Cond.instanceMethod yX5_setGuess ∈ tb := tb_in 674 (by decide +kernel) (by decide +kernel)
theorem kw675 : Cond.selects "HatHall$Net" yX5_setGuess yX5_setGuess ∈ tb := tb_in 675 (by decide +kernel) (by decide +kernel)
theorem kw676 : Cond.code yX5_setGuess cX5_setGuess 4 none ∈ tb := tb_in 676 (by decide +kernel) (by decide +kernel)
theorem kw677 : Cond.methodLink "HatHallLaw" 186 yX10_line ∈ tb := tb_in 677 (by decide +kernel) (by decide +kernel)
theorem kw678 : Cond.instanceMethod yX10_line ∈ tb := tb_in 678 (by decide +kernel) (by decide +kernel)
theorem kw679 : Cond.selects "HatHall" yX10_line yX10_line ∈ tb := tb_in 679 (by decide +kernel) (by decide +kernel)
theorem kw680 : Cond.code yX10_line cX10_line 1 (some .int) ∈ tb := tb_in 680 (by decide +kernel) (by decide +kernel)
theorem kw681 : Cond.methodLink "HatHall" 323 yX5_standInLine ∈ tb := tb_in 681 (by decide +kernel) (by decide +kernel)
theorem kw682 : Cond.instanceMethod yX5_standInLine ∈ tb := tb_in 682 (by decide +kernel) (by decide +kernel)
theorem kw683 : Cond.selects "HatHall$Net" yX5_standInLine yX5_standInLine ∈ tb := tb_in 683 (by decide +kernel) (by decide +kernel)
theorem kw684 : Cond.code yX5_standInLine cX5_standInLine 2 none ∈ tb := tb_in 684 (by decide +kernel) (by decide +kernel)
theorem kw685 : Cond.methodLink "HatHall$Net" 87 yX5_lookAt ∈ tb := tb_in 685 (by decide +kernel) (by decide +kernel)
theorem kw686 : Cond.instanceMethod yX5_lookAt ∈ tb := tb_in 686 (by decide +kernel) (by decide +kernel)
theorem kw687 : Cond.selects "HatHall$Net" yX5_lookAt yX5_lookAt ∈ tb := tb_in 687 (by decide +kernel) (by decide +kernel)
theorem kw688 : Cond.code yX5_lookAt cX5_lookAt 3 none ∈ tb := tb_in 688 (by decide +kernel) (by decide +kernel)
theorem kw689 : Cond.methodLink "HatHall$Net" 90 yX5_guessIn ∈ tb := tb_in 689 (by decide +kernel) (by decide +kernel)
theorem kw690 : Cond.instanceMethod yX5_guessIn ∈ tb := tb_in 690 (by decide +kernel) (by decide +kernel)
theorem kw691 : Cond.selects "HatHall$Net" yX5_guessIn yX5_guessIn ∈ tb := tb_in 691 (by decide +kernel) (by decide +kernel)
theorem kw692 : Cond.code yX5_guessIn cX5_guessIn 5 none ∈ tb := tb_in 692 (by decide +kernel) (by decide +kernel)
theorem kw693 : Cond.methodLink "HatHall$Net" 74 yX5_orderByRounds ∈ tb := tb_in 693 (by decide +kernel) (by decide +kernel)
theorem kw695 : Cond.instanceMethod yX5_orderByRounds ∈ tb := tb_in 695 (by decide +kernel) (by decide +kernel)
theorem kw696 : Cond.code yX5_orderByRounds cX5_orderByRounds 4 none ∈ tb := tb_in 696 (by decide +kernel) (by decide +kernel)
theorem kw697 : Cond.methodLink "HatHall$Net" 77 yX5_earlierThan ∈ tb := tb_in 697 (by decide +kernel) (by decide +kernel)
theorem kw699 : Cond.instanceMethod yX5_earlierThan ∈ tb := tb_in 699 (by decide +kernel) (by decide +kernel)
theorem kw700 : Cond.code yX5_earlierThan cX5_earlierThan 4 (some .int) ∈ tb := tb_in 700 (by decide +kernel) (by decide +kernel)
theorem kw701 : Cond.methodLink "HatHall$Net" 93 yX1_ofFirstInLine ∈ tb := tb_in 701 (by decide +kernel) (by decide +kernel)
theorem kw702 : Cond.static yX1_ofFirstInLine ∈ tb := tb_in 702 (by decide +kernel) (by decide +kernel)
theorem kw703 : Cond.code yX1_ofFirstInLine cX1_ofFirstInLine 0 (some (.object "HatHall$Formula")) ∈ tb := tb_in 703 (by decide +kernel) (by decide +kernel)
theorem kw704 : Cond.classLink "HatHall$Formula" 10 "HatHall$Formula" ∈ tb := tb_in 704 (by decide +kernel) (by decide +kernel)
theorem kw705 : Cond.methodLink "HatHall$Formula" 30 yX1_init ∈ tb := tb_in 705 (by decide +kernel) (by decide +kernel)
theorem kw706 : Cond.instanceMethod yX1_init ∈ tb := tb_in 706 (by decide +kernel) (by decide +kernel)
theorem kw707 : Cond.code yX1_init cX1_init 5 none ∈ tb := tb_in 707 (by decide +kernel) (by decide +kernel)
theorem kw708 : Cond.methodLink "HatHall$Formula" 3 ⟨"java/lang/Object", "<init>", "()V"⟩ ∈ tb := tb_in 708 (by decide +kernel) (by decide +kernel)
theorem kw709 : Cond.fieldLink "HatHall$Formula" 9 "HatHall$Formula" "kinds" "[I" ∈ tb := tb_in 709 (by decide +kernel) (by decide +kernel)
theorem kw710 : Cond.fieldLink "HatHall$Formula" 15 "HatHall$Formula" "left" "[I" ∈ tb := tb_in 710 (by decide +kernel) (by decide +kernel)
theorem kw711 : Cond.fieldLink "HatHall$Formula" 18 "HatHall$Formula" "right" "[I" ∈ tb := tb_in 711 (by decide +kernel) (by decide +kernel)
theorem kw712 : Cond.fieldLink "HatHall$Formula" 25 "HatHall$Formula" "values" "[I" ∈ tb := tb_in 712 (by decide +kernel) (by decide +kernel)
theorem kw713 : Cond.fieldLink "HatHall$Formula" 21 "HatHall$Formula" "passParts" "I" ∈ tb := tb_in 713 (by decide +kernel) (by decide +kernel)
theorem kw725 : Cond.methodLink "HatHall$Net" 97 yX1_ofNextInLine ∈ tb := tb_in 725 (by decide +kernel) (by decide +kernel)
theorem kw726 : Cond.static yX1_ofNextInLine ∈ tb := tb_in 726 (by decide +kernel) (by decide +kernel)
theorem kw727 : Cond.code yX1_ofNextInLine cX1_ofNextInLine 3 (some (.object "HatHall$Formula")) ∈ tb := tb_in 727 (by decide +kernel) (by decide +kernel)
theorem kw728 : Cond.methodLink "HatHall" 326 yX10_worst ∈ tb := tb_in 728 (by decide +kernel) (by decide +kernel)
theorem kw729 : Cond.instanceMethod yX10_worst ∈ tb := tb_in 729 (by decide +kernel) (by decide +kernel)
theorem kw730 : Cond.selects "HatHall" yX10_worst yX10_worst ∈ tb := tb_in 730 (by decide +kernel) (by decide +kernel)
theorem kw731 : Cond.code yX10_worst cX10_worst 3 (some .int) ∈ tb := tb_in 731 (by decide +kernel) (by decide +kernel)
theorem kw732 : Cond.classLink "HatHall" 170 "java/util/NoSuchElementException" ∈ tb := tb_in 732 (by decide +kernel) (by decide +kernel)
theorem kw733 : Cond.instantiable "java/util/NoSuchElementException" 6 ∈ tb := tb_in 733 (by decide +kernel) (by decide +kernel)
theorem kw741 : Cond.selects "java/util/NoSuchElementException" ⟨"java/lang/Throwable", "fillInStackTrace", "(I)Ljava/lang/Throwable;"⟩ ⟨"java/lang/Throwable", "fillInStackTrace", "(I)Ljava/lang/Throwable;"⟩ ∈ tb := tb_in 741 (by decide +kernel) (by decide +kernel)
theorem kw742 : Cond.selects "java/util/NoSuchElementException" ⟨"java/lang/Throwable", "fillInStackTrace", "()Ljava/lang/Throwable;"⟩ ⟨"java/lang/Throwable", "fillInStackTrace", "()Ljava/lang/Throwable;"⟩ ∈ tb := tb_in 742 (by decide +kernel) (by decide +kernel)
theorem kw753 : Cond.fieldLink "java/lang/Throwable" 198 "java/lang/Throwable" "backtrace" "Ljava/lang/Object;" ∈ tb := tb_in 753 (by decide +kernel) (by decide +kernel)
theorem kw755 : Cond.instanceMethod ⟨"java/lang/Throwable", "<init>", "()V"⟩ ∈ tb := tb_in 755 (by decide +kernel) (by decide +kernel)
theorem kw756 : Cond.code ⟨"java/lang/Throwable", "<init>", "()V"⟩ prog_24_method_1_code 1 none ∈ tb := tb_in 756 (by decide +kernel) (by decide +kernel)
theorem kw757 : Cond.methodLink "java/lang/Throwable" 1 ⟨"java/lang/Object", "<init>", "()V"⟩ ∈ tb := tb_in 757 (by decide +kernel) (by decide +kernel)
theorem kw758 : Cond.fieldLink "java/lang/Throwable" 13 "java/lang/Throwable" "UNASSIGNED_STACK" "[Ljava/lang/StackTraceElement;" ∈ tb := tb_in 758 (by decide +kernel) (by decide +kernel)
theorem kw760 : Cond.fieldLink "java/lang/Throwable" 20 "java/lang/Throwable" "SUPPRESSED_SENTINEL" "Ljava/util/List;" ∈ tb := tb_in 760 (by decide +kernel) (by decide +kernel)
theorem kw762 : Cond.methodLink "java/lang/Throwable" 27 ⟨"java/lang/Throwable", "fillInStackTrace", "()Ljava/lang/Throwable;"⟩ ∈ tb := tb_in 762 (by decide +kernel) (by decide +kernel)
theorem kw763 : Cond.instanceMethod ⟨"java/lang/Throwable", "fillInStackTrace", "()Ljava/lang/Throwable;"⟩ ∈ tb := tb_in 763 (by decide +kernel) (by decide +kernel)
theorem kw765 : Cond.selects "java/lang/IllegalArgumentException" ⟨"java/lang/Throwable", "fillInStackTrace", "()Ljava/lang/Throwable;"⟩ ⟨"java/lang/Throwable", "fillInStackTrace", "()Ljava/lang/Throwable;"⟩ ∈ tb := tb_in 765 (by decide +kernel) (by decide +kernel)
theorem kw767 : Cond.methodLink "java/lang/Throwable" 202 ⟨"java/lang/Throwable", "fillInStackTrace", "(I)Ljava/lang/Throwable;"⟩ ∈ tb := tb_in 767 (by decide +kernel) (by decide +kernel)
theorem kw769 : Cond.instanceMethod ⟨"java/lang/Throwable", "fillInStackTrace", "(I)Ljava/lang/Throwable;"⟩ ∈ tb := tb_in 769 (by decide +kernel) (by decide +kernel)
theorem kw770 : Cond.instantiable "java/lang/Throwable" 6 ∈ tb := tb_in 770 (by decide +kernel) (by decide +kernel)
theorem kw771 : Cond.native ⟨"java/lang/Throwable", "fillInStackTrace", "(I)Ljava/lang/Throwable;"⟩ ∈ tb := tb_in 771 (by decide +kernel) (by decide +kernel)
theorem kw773 : Cond.methodLink "HatHall" 174 ⟨"java/util/NoSuchElementException", "<init>", "(Ljava/lang/String;)V"⟩ ∈ tb := tb_in 773 (by decide +kernel) (by decide +kernel)
theorem kw774 : Cond.instanceMethod ⟨"java/util/NoSuchElementException", "<init>", "(Ljava/lang/String;)V"⟩ ∈ tb := tb_in 774 (by decide +kernel) (by decide +kernel)
theorem kw775 : Cond.code ⟨"java/util/NoSuchElementException", "<init>", "(Ljava/lang/String;)V"⟩ prog_26_method_4_code 2 none ∈ tb := tb_in 775 (by decide +kernel) (by decide +kernel)
theorem kw776 : Cond.methodLink "java/util/NoSuchElementException" 13 ⟨"java/lang/RuntimeException", "<init>", "(Ljava/lang/String;)V"⟩ ∈ tb := tb_in 776 (by decide +kernel) (by decide +kernel)
theorem kw777 : Cond.instanceMethod ⟨"java/lang/RuntimeException", "<init>", "(Ljava/lang/String;)V"⟩ ∈ tb := tb_in 777 (by decide +kernel) (by decide +kernel)
theorem kw778 : Cond.code ⟨"java/lang/RuntimeException", "<init>", "(Ljava/lang/String;)V"⟩ prog_19_method_2_code 2 none ∈ tb := tb_in 778 (by decide +kernel) (by decide +kernel)
theorem kw779 : Cond.methodLink "java/lang/RuntimeException" 7 ⟨"java/lang/Exception", "<init>", "(Ljava/lang/String;)V"⟩ ∈ tb := tb_in 779 (by decide +kernel) (by decide +kernel)
theorem kw780 : Cond.instanceMethod ⟨"java/lang/Exception", "<init>", "(Ljava/lang/String;)V"⟩ ∈ tb := tb_in 780 (by decide +kernel) (by decide +kernel)
theorem kw781 : Cond.code ⟨"java/lang/Exception", "<init>", "(Ljava/lang/String;)V"⟩ prog_15_method_2_code 2 none ∈ tb := tb_in 781 (by decide +kernel) (by decide +kernel)
theorem kw782 : Cond.methodLink "java/lang/Exception" 7 ⟨"java/lang/Throwable", "<init>", "(Ljava/lang/String;)V"⟩ ∈ tb := tb_in 782 (by decide +kernel) (by decide +kernel)
theorem kw783 : Cond.instanceMethod ⟨"java/lang/Throwable", "<init>", "(Ljava/lang/String;)V"⟩ ∈ tb := tb_in 783 (by decide +kernel) (by decide +kernel)
theorem kw784 : Cond.code ⟨"java/lang/Throwable", "<init>", "(Ljava/lang/String;)V"⟩ prog_24_method_2_code 2 none ∈ tb := tb_in 784 (by decide +kernel) (by decide +kernel)
theorem kw786 : Cond.fieldLink "java/lang/Throwable" 31 "java/lang/Throwable" "detailMessage" "Ljava/lang/String;" ∈ tb := tb_in 786 (by decide +kernel) (by decide +kernel)
theorem kw787 : Cond.fieldLink "java/lang/Throwable" 7 "java/lang/Throwable" "cause" "Ljava/lang/Throwable;" ∈ tb := tb_in 787 (by decide +kernel) (by decide +kernel)
theorem kw788 : Cond.fieldLink "java/lang/Throwable" 17 "java/lang/Throwable" "stackTrace" "[Ljava/lang/StackTraceElement;" ∈ tb := tb_in 788 (by decide +kernel) (by decide +kernel)
theorem kw789 : Cond.fieldLink "java/lang/Throwable" 24 "java/lang/Throwable" "suppressedExceptions" "Ljava/util/List;" ∈ tb := tb_in 789 (by decide +kernel) (by decide +kernel)
theorem kw798 : Cond.methodLink "HatHall" 254 yX3_worstRow ∈ tb := tb_in 798 (by decide +kernel) (by decide +kernel)
theorem kw799 : Cond.instanceMethod yX3_worstRow ∈ tb := tb_in 799 (by decide +kernel) (by decide +kernel)
theorem kw800 : Cond.selects "HatHall$Ledger" yX3_worstRow yX3_worstRow ∈ tb := tb_in 800 (by decide +kernel) (by decide +kernel)
theorem kw801 : Cond.code yX3_worstRow cX3_worstRow 4 (some .int) ∈ tb := tb_in 801 (by decide +kernel) (by decide +kernel)
theorem kw802 : Cond.methodLink "HatHall$Ledger" 69 yX3_wrongIn ∈ tb := tb_in 802 (by decide +kernel) (by decide +kernel)
theorem kw803 : Cond.instanceMethod yX3_wrongIn ∈ tb := tb_in 803 (by decide +kernel) (by decide +kernel)
theorem kw804 : Cond.selects "HatHall$Ledger" yX3_wrongIn yX3_wrongIn ∈ tb := tb_in 804 (by decide +kernel) (by decide +kernel)
theorem kw805 : Cond.code yX3_wrongIn cX3_wrongIn 2 (some .int) ∈ tb := tb_in 805 (by decide +kernel) (by decide +kernel)
theorem kw806 : Cond.methodLink "HatHall" 257 yX3_wrongIn ∈ tb := tb_in 806 (by decide +kernel) (by decide +kernel)
theorem kw807 : Cond.methodLink "HatHallLaw" 193 yX10_draw ∈ tb := tb_in 807 (by decide +kernel) (by decide +kernel)
theorem kw808 : Cond.instanceMethod yX10_draw ∈ tb := tb_in 808 (by decide +kernel) (by decide +kernel)
theorem kw809 : Cond.selects "HatHall" yX10_draw yX10_draw ∈ tb := tb_in 809 (by decide +kernel) (by decide +kernel)
theorem kw810 : Cond.code yX10_draw cX10_draw 2 (some .int) ∈ tb := tb_in 810 (by decide +kernel) (by decide +kernel)
theorem kw811 : Cond.methodLink "HatHall" 338 yX5_drawTables ∈ tb := tb_in 811 (by decide +kernel) (by decide +kernel)
theorem kw812 : Cond.instanceMethod yX5_drawTables ∈ tb := tb_in 812 (by decide +kernel) (by decide +kernel)
theorem kw813 : Cond.selects "HatHall$Net" yX5_drawTables yX5_drawTables ∈ tb := tb_in 813 (by decide +kernel) (by decide +kernel)
theorem kw814 : Cond.code yX5_drawTables cX5_drawTables 6 (some .int) ∈ tb := tb_in 814 (by decide +kernel) (by decide +kernel)
theorem kw815 : Cond.methodLink "HatHall$Net" 83 yX5_hasTable ∈ tb := tb_in 815 (by decide +kernel) (by decide +kernel)
theorem kw816 : Cond.instanceMethod yX5_hasTable ∈ tb := tb_in 816 (by decide +kernel) (by decide +kernel)
theorem kw817 : Cond.selects "HatHall$Net" yX5_hasTable yX5_hasTable ∈ tb := tb_in 817 (by decide +kernel) (by decide +kernel)
theorem kw818 : Cond.code yX5_hasTable cX5_hasTable 2 (some .boolean) ∈ tb := tb_in 818 (by decide +kernel) (by decide +kernel)
theorem kw819 : Cond.constant "HatHall$Net" 100 1103515245 ∈ tb := tb_in 819 (by decide +kernel) (by decide +kernel)
theorem kw820 : Cond.methodLink "HatHall$Net" 101 yX5_setGuess ∈ tb := tb_in 820 (by decide +kernel) (by decide +kernel)
theorem kw821 : Cond.methodLink "HatHallLaw" 197 yX10_keep ∈ tb := tb_in 821 (by decide +kernel) (by decide +kernel)
theorem kw822 : Cond.instanceMethod yX10_keep ∈ tb := tb_in 822 (by decide +kernel) (by decide +kernel)
theorem kw823 : Cond.selects "HatHall" yX10_keep yX10_keep ∈ tb := tb_in 823 (by decide +kernel) (by decide +kernel)
theorem kw824 : Cond.code yX10_keep cX10_keep 2 (some .boolean) ∈ tb := tb_in 824 (by decide +kernel) (by decide +kernel)
theorem kw825 : Cond.methodLink "HatHall" 267 yX5_copy ∈ tb := tb_in 825 (by decide +kernel) (by decide +kernel)
theorem kw826 : Cond.instanceMethod yX5_copy ∈ tb := tb_in 826 (by decide +kernel) (by decide +kernel)
theorem kw827 : Cond.selects "HatHall$Net" yX5_copy yX5_copy ∈ tb := tb_in 827 (by decide +kernel) (by decide +kernel)
theorem kw828 : Cond.code yX5_copy cX5_copy 3 none ∈ tb := tb_in 828 (by decide +kernel) (by decide +kernel)
theorem kw829 : Cond.methodLink "HatHall$Net" 65 ⟨"java/lang/System", "arraycopy", "(Ljava/lang/Object;ILjava/lang/Object;II)V"⟩ ∈ tb := tb_in 829 (by decide +kernel) (by decide +kernel)
theorem kw830 : Cond.methodLink "HatHallLaw" 202 yX10_take ∈ tb := tb_in 830 (by decide +kernel) (by decide +kernel)
theorem kw831 : Cond.instanceMethod yX10_take ∈ tb := tb_in 831 (by decide +kernel) (by decide +kernel)
theorem kw832 : Cond.selects "HatHall" yX10_take yX10_take ∈ tb := tb_in 832 (by decide +kernel) (by decide +kernel)
theorem kw833 : Cond.code yX10_take cX10_take 2 (some .boolean) ∈ tb := tb_in 833 (by decide +kernel) (by decide +kernel)
theorem kw834 : Cond.methodLink "HatHallLaw" 85 yL_looks ∈ tb := tb_in 834 (by decide +kernel) (by decide +kernel)
theorem kw835 : Cond.static yL_looks ∈ tb := tb_in 835 (by decide +kernel) (by decide +kernel)
theorem kw836 : Cond.codeWith yL_looks cL_looks 5 (some .int) [(0, 17, 20, 13)] ∈ tb := tb_in 836 (by decide +kernel) (by decide +kernel)
theorem kw837 : Cond.classLink "HatHallLaw" 13 "java/util/NoSuchElementException" ∈ tb := tb_in 837 (by decide +kernel) (by decide +kernel)
theorem kw838 : Cond.methodLink "HatHallLaw" 7 yX10_looks ∈ tb := tb_in 838 (by decide +kernel) (by decide +kernel)
theorem kw839 : Cond.instanceMethod yX10_looks ∈ tb := tb_in 839 (by decide +kernel) (by decide +kernel)
theorem kw840 : Cond.selects "HatHall" yX10_looks yX10_looks ∈ tb := tb_in 840 (by decide +kernel) (by decide +kernel)
theorem kw841 : Cond.code yX10_looks cX10_looks 3 (some .boolean) ∈ tb := tb_in 841 (by decide +kernel) (by decide +kernel)
theorem kw842 : Cond.methodLink "HatHall" 98 yX10_needWearer ∈ tb := tb_in 842 (by decide +kernel) (by decide +kernel)
theorem kw844 : Cond.instanceMethod yX10_needWearer ∈ tb := tb_in 844 (by decide +kernel) (by decide +kernel)
theorem kw845 : Cond.code yX10_needWearer cX10_needWearer 2 none ∈ tb := tb_in 845 (by decide +kernel) (by decide +kernel)
theorem kw847 : Cond.methodLink "HatHall" 102 yX5_othersOf ∈ tb := tb_in 847 (by decide +kernel) (by decide +kernel)
theorem kw848 : Cond.methodLink "HatHall" 106 yX5_lookAt ∈ tb := tb_in 848 (by decide +kernel) (by decide +kernel)
theorem kw849 : Cond.methodLink "HatHallLaw" 94 yL_round ∈ tb := tb_in 849 (by decide +kernel) (by decide +kernel)
theorem kw850 : Cond.static yL_round ∈ tb := tb_in 850 (by decide +kernel) (by decide +kernel)
theorem kw851 : Cond.codeWith yL_round cL_round 5 (some .int) [(0, 17, 20, 13)] ∈ tb := tb_in 851 (by decide +kernel) (by decide +kernel)
theorem kw852 : Cond.methodLink "HatHallLaw" 15 yX10_round ∈ tb := tb_in 852 (by decide +kernel) (by decide +kernel)
theorem kw853 : Cond.instanceMethod yX10_round ∈ tb := tb_in 853 (by decide +kernel) (by decide +kernel)
theorem kw854 : Cond.selects "HatHall" yX10_round yX10_round ∈ tb := tb_in 854 (by decide +kernel) (by decide +kernel)
theorem kw855 : Cond.code yX10_round cX10_round 3 (some .boolean) ∈ tb := tb_in 855 (by decide +kernel) (by decide +kernel)
theorem kw856 : Cond.methodLink "HatHall" 109 yX5_guessIn ∈ tb := tb_in 856 (by decide +kernel) (by decide +kernel)
theorem kw857 : Cond.methodLink "HatHallLaw" 110 yL_rules ∈ tb := tb_in 857 (by decide +kernel) (by decide +kernel)
theorem kw858 : Cond.static yL_rules ∈ tb := tb_in 858 (by decide +kernel) (by decide +kernel)
theorem kw859 : Cond.codeWith yL_rules cL_rules 4 (some .int) [(0, 9, 12, 22)] ∈ tb := tb_in 859 (by decide +kernel) (by decide +kernel)
theorem kw860 : Cond.classLink "HatHallLaw" 22 "java/lang/IllegalArgumentException" ∈ tb := tb_in 860 (by decide +kernel) (by decide +kernel)
theorem kw861 : Cond.methodLink "HatHallLaw" 18 yX10_rules ∈ tb := tb_in 861 (by decide +kernel) (by decide +kernel)
theorem kw862 : Cond.instanceMethod yX10_rules ∈ tb := tb_in 862 (by decide +kernel) (by decide +kernel)
theorem kw863 : Cond.selects "HatHall" yX10_rules yX10_rules ∈ tb := tb_in 863 (by decide +kernel) (by decide +kernel)
theorem kw864 : Cond.code yX10_rules cX10_rules 2 (some .int) ∈ tb := tb_in 864 (by decide +kernel) (by decide +kernel)
theorem kw865 : Cond.classLink "HatHall" 127 "java/lang/IllegalArgumentException" ∈ tb := tb_in 865 (by decide +kernel) (by decide +kernel)
theorem kw866 : Cond.instantiable "java/lang/IllegalArgumentException" 6 ∈ tb := tb_in 866 (by decide +kernel) (by decide +kernel)
theorem kw868 : Cond.selects "java/lang/IllegalArgumentException" ⟨"java/lang/Throwable", "fillInStackTrace", "(I)Ljava/lang/Throwable;"⟩ ⟨"java/lang/Throwable", "fillInStackTrace", "(I)Ljava/lang/Throwable;"⟩ ∈ tb := tb_in 868 (by decide +kernel) (by decide +kernel)
theorem kw875 : Cond.methodLink "HatHall" 131 ⟨"java/lang/IllegalArgumentException", "<init>", "(Ljava/lang/String;)V"⟩ ∈ tb := tb_in 875 (by decide +kernel) (by decide +kernel)
theorem kw876 : Cond.instanceMethod ⟨"java/lang/IllegalArgumentException", "<init>", "(Ljava/lang/String;)V"⟩ ∈ tb := tb_in 876 (by decide +kernel) (by decide +kernel)
theorem kw877 : Cond.code ⟨"java/lang/IllegalArgumentException", "<init>", "(Ljava/lang/String;)V"⟩ prog_16_method_2_code 2 none ∈ tb := tb_in 877 (by decide +kernel) (by decide +kernel)
theorem kw878 : Cond.methodLink "java/lang/IllegalArgumentException" 7 ⟨"java/lang/RuntimeException", "<init>", "(Ljava/lang/String;)V"⟩ ∈ tb := tb_in 878 (by decide +kernel) (by decide +kernel)
theorem kw881 : Cond.methodLink "HatHall" 137 yX6_read ∈ tb := tb_in 881 (by decide +kernel) (by decide +kernel)
theorem kw882 : Cond.instanceMethod yX6_read ∈ tb := tb_in 882 (by decide +kernel) (by decide +kernel)
theorem kw883 : Cond.selects "HatHall$Reader" yX6_read yX6_read ∈ tb := tb_in 883 (by decide +kernel) (by decide +kernel)
theorem kw884 : Cond.code yX6_read cX6_read 5 none ∈ tb := tb_in 884 (by decide +kernel) (by decide +kernel)
theorem kw885 : Cond.methodLink "HatHall$Reader" 58 yX6_next ∈ tb := tb_in 885 (by decide +kernel) (by decide +kernel)
theorem kw887 : Cond.instanceMethod yX6_next ∈ tb := tb_in 887 (by decide +kernel) (by decide +kernel)
theorem kw888 : Cond.code yX6_next cX6_next 1 none ∈ tb := tb_in 888 (by decide +kernel) (by decide +kernel)
theorem kw889 : Cond.methodLink "HatHall$Reader" 120 yX6_isLetter ∈ tb := tb_in 889 (by decide +kernel) (by decide +kernel)
theorem kw890 : Cond.static yX6_isLetter ∈ tb := tb_in 890 (by decide +kernel) (by decide +kernel)
theorem kw891 : Cond.code yX6_isLetter cX6_isLetter 1 (some .boolean) ∈ tb := tb_in 891 (by decide +kernel) (by decide +kernel)
theorem kw892 : Cond.methodLink "HatHall$Reader" 124 yX6_scanWord ∈ tb := tb_in 892 (by decide +kernel) (by decide +kernel)
theorem kw894 : Cond.instanceMethod yX6_scanWord ∈ tb := tb_in 894 (by decide +kernel) (by decide +kernel)
theorem kw895 : Cond.code yX6_scanWord cX6_scanWord 1 none ∈ tb := tb_in 895 (by decide +kernel) (by decide +kernel)
theorem kw896 : Cond.methodLink "HatHall$Reader" 136 yX6_kindOfWord ∈ tb := tb_in 896 (by decide +kernel) (by decide +kernel)
theorem kw898 : Cond.instanceMethod yX6_kindOfWord ∈ tb := tb_in 898 (by decide +kernel) (by decide +kernel)
theorem kw899 : Cond.code yX6_kindOfWord cX6_kindOfWord 6 (some .int) ∈ tb := tb_in 899 (by decide +kernel) (by decide +kernel)
theorem kw901 : Cond.methodLink "HatHall$Reader" 141 yJ0_length_8abf5 ∈ tb := tb_in 901 (by decide +kernel) (by decide +kernel)
theorem kw902 : Cond.instanceMethod yJ0_length_8abf5 ∈ tb := tb_in 902 (by decide +kernel) (by decide +kernel)
theorem kw903 : Cond.selects "java/lang/String" yJ0_length_8abf5 yJ0_length_8abf5 ∈ tb := tb_in 903 (by decide +kernel) (by decide +kernel)
theorem kw904 : Cond.code yJ0_length_8abf5 cJ0_length_8abf5 1 (some .int) ∈ tb := tb_in 904 (by decide +kernel) (by decide +kernel)
theorem kw905 : Cond.methodLink "java/lang/String" 335 yJ0_coder_7d493 ∈ tb := tb_in 905 (by decide +kernel) (by decide +kernel)
theorem kw906 : Cond.instanceMethod yJ0_coder_7d493 ∈ tb := tb_in 906 (by decide +kernel) (by decide +kernel)
theorem kw907 : Cond.selects "java/lang/String" yJ0_coder_7d493 yJ0_coder_7d493 ∈ tb := tb_in 907 (by decide +kernel) (by decide +kernel)
theorem kw908 : Cond.code yJ0_coder_7d493 cJ0_coder_7d493 1 (some .byte) ∈ tb := tb_in 908 (by decide +kernel) (by decide +kernel)
theorem kw909 : Cond.fieldLink "java/lang/String" 38 "java/lang/String" "COMPACT_STRINGS" "Z" ∈ tb := tb_in 909 (by decide +kernel) (by decide +kernel)
theorem kw911 : Cond.methodLink "HatHall$Reader" 145 yJ0_charAt_5068e ∈ tb := tb_in 911 (by decide +kernel) (by decide +kernel)
theorem kw912 : Cond.instanceMethod yJ0_charAt_5068e ∈ tb := tb_in 912 (by decide +kernel) (by decide +kernel)
theorem kw913 : Cond.selects "java/lang/String" yJ0_charAt_5068e yJ0_charAt_5068e ∈ tb := tb_in 913 (by decide +kernel) (by decide +kernel)
theorem kw914 : Cond.code yJ0_charAt_5068e cJ0_charAt_5068e 2 (some .char) ∈ tb := tb_in 914 (by decide +kernel) (by decide +kernel)
theorem kw915 : Cond.methodLink "java/lang/String" 492 yJ0_isLatin1_aae02 ∈ tb := tb_in 915 (by decide +kernel) (by decide +kernel)
theorem kw916 : Cond.instanceMethod yJ0_isLatin1_aae02 ∈ tb := tb_in 916 (by decide +kernel) (by decide +kernel)
theorem kw917 : Cond.selects "java/lang/String" yJ0_isLatin1_aae02 yJ0_isLatin1_aae02 ∈ tb := tb_in 917 (by decide +kernel) (by decide +kernel)
theorem kw918 : Cond.code yJ0_isLatin1_aae02 cJ0_isLatin1_aae02 1 (some .boolean) ∈ tb := tb_in 918 (by decide +kernel) (by decide +kernel)
theorem kw919 : Cond.methodLink "java/lang/String" 495 yJ1_charAt_3b067 ∈ tb := tb_in 919 (by decide +kernel) (by decide +kernel)
theorem kw920 : Cond.static yJ1_charAt_3b067 ∈ tb := tb_in 920 (by decide +kernel) (by decide +kernel)
theorem kw921 : Cond.code yJ1_charAt_3b067 cJ1_charAt_3b067 2 (some .char) ∈ tb := tb_in 921 (by decide +kernel) (by decide +kernel)
theorem kw922 : Cond.methodLink "java/lang/StringLatin1" 9 yJ0_checkIndex_df160 ∈ tb := tb_in 922 (by decide +kernel) (by decide +kernel)
theorem kw923 : Cond.static yJ0_checkIndex_df160 ∈ tb := tb_in 923 (by decide +kernel) (by decide +kernel)
theorem kw924 : Cond.code yJ0_checkIndex_df160 cJ0_checkIndex_df160 2 none ∈ tb := tb_in 924 (by decide +kernel) (by decide +kernel)
theorem kw925 : Cond.fieldLink "java/lang/String" 1053 "jdk/internal/util/Preconditions" "SIOOBE_FORMATTER" "Ljava/util/function/BiFunction;" ∈ tb := tb_in 925 (by decide +kernel) (by decide +kernel)
theorem kw927 : Cond.methodLink "java/lang/String" 1059 yJ3_checkIndex_8e157 ∈ tb := tb_in 927 (by decide +kernel) (by decide +kernel)
theorem kw928 : Cond.static yJ3_checkIndex_8e157 ∈ tb := tb_in 928 (by decide +kernel) (by decide +kernel)
theorem kw929 : Cond.code yJ3_checkIndex_8e157 cJ3_checkIndex_8e157 3 (some .int) ∈ tb := tb_in 929 (by decide +kernel) (by decide +kernel)
theorem kw930 : Cond.methodLink "java/lang/String" 498 yJ2_charAt_3b067 ∈ tb := tb_in 930 (by decide +kernel) (by decide +kernel)
theorem kw931 : Cond.static yJ2_charAt_3b067 ∈ tb := tb_in 931 (by decide +kernel) (by decide +kernel)
theorem kw932 : Cond.code yJ2_charAt_3b067 cJ2_charAt_3b067 2 (some .char) ∈ tb := tb_in 932 (by decide +kernel) (by decide +kernel)
theorem kw933 : Cond.methodLink "java/lang/StringUTF16" 67 yJ2_checkIndex_2214a ∈ tb := tb_in 933 (by decide +kernel) (by decide +kernel)
theorem kw934 : Cond.static yJ2_checkIndex_2214a ∈ tb := tb_in 934 (by decide +kernel) (by decide +kernel)
theorem kw935 : Cond.code yJ2_checkIndex_2214a cJ2_checkIndex_2214a 2 none ∈ tb := tb_in 935 (by decide +kernel) (by decide +kernel)
theorem kw936 : Cond.methodLink "java/lang/StringUTF16" 48 yJ2_length_9d52b ∈ tb := tb_in 936 (by decide +kernel) (by decide +kernel)
theorem kw937 : Cond.static yJ2_length_9d52b ∈ tb := tb_in 937 (by decide +kernel) (by decide +kernel)
theorem kw938 : Cond.code yJ2_length_9d52b cJ2_length_9d52b 1 (some .int) ∈ tb := tb_in 938 (by decide +kernel) (by decide +kernel)
theorem kw939 : Cond.methodLink "java/lang/StringUTF16" 414 yJ0_checkIndex_df160 ∈ tb := tb_in 939 (by decide +kernel) (by decide +kernel)
theorem kw940 : Cond.methodLink "java/lang/StringUTF16" 71 yJ2_getChar_3b067 ∈ tb := tb_in 940 (by decide +kernel) (by decide +kernel)
theorem kw941 : Cond.static yJ2_getChar_3b067 ∈ tb := tb_in 941 (by decide +kernel) (by decide +kernel)
theorem kw942 : Cond.code yJ2_getChar_3b067 cJ2_getChar_3b067 2 (some .char) ∈ tb := tb_in 942 (by decide +kernel) (by decide +kernel)
theorem kw943 : Cond.fieldLink "java/lang/StringUTF16" 44 "java/lang/StringUTF16" "$assertionsDisabled" "Z" ∈ tb := tb_in 943 (by decide +kernel) (by decide +kernel)
theorem kw945 : Cond.fieldLink "java/lang/StringUTF16" 59 "java/lang/StringUTF16" "HI_BYTE_SHIFT" "I" ∈ tb := tb_in 945 (by decide +kernel) (by decide +kernel)
theorem kw947 : Cond.fieldLink "java/lang/StringUTF16" 63 "java/lang/StringUTF16" "LO_BYTE_SHIFT" "I" ∈ tb := tb_in 947 (by decide +kernel) (by decide +kernel)
theorem kw949 : Cond.methodLink "HatHall$Reader" 127 yX6_isDigit ∈ tb := tb_in 949 (by decide +kernel) (by decide +kernel)
theorem kw950 : Cond.static yX6_isDigit ∈ tb := tb_in 950 (by decide +kernel) (by decide +kernel)
theorem kw951 : Cond.code yX6_isDigit cX6_isDigit 1 (some .boolean) ∈ tb := tb_in 951 (by decide +kernel) (by decide +kernel)
theorem kw952 : Cond.methodLink "HatHall$Reader" 130 yX6_scanNumber ∈ tb := tb_in 952 (by decide +kernel) (by decide +kernel)
theorem kw954 : Cond.instanceMethod yX6_scanNumber ∈ tb := tb_in 954 (by decide +kernel) (by decide +kernel)
theorem kw955 : Cond.code yX6_scanNumber cX6_scanNumber 1 none ∈ tb := tb_in 955 (by decide +kernel) (by decide +kernel)
theorem kw956 : Cond.methodLink "HatHall$Reader" 133 yX6_isSign ∈ tb := tb_in 956 (by decide +kernel) (by decide +kernel)
theorem kw957 : Cond.static yX6_isSign ∈ tb := tb_in 957 (by decide +kernel) (by decide +kernel)
theorem kw958 : Cond.code yX6_isSign cX6_isSign 1 (some .boolean) ∈ tb := tb_in 958 (by decide +kernel) (by decide +kernel)
theorem kw959 : Cond.methodLink "HatHall$Reader" 61 yX6_stop ∈ tb := tb_in 959 (by decide +kernel) (by decide +kernel)
theorem kw961 : Cond.instanceMethod yX6_stop ∈ tb := tb_in 961 (by decide +kernel) (by decide +kernel)
theorem kw962 : Cond.code yX6_stop cX6_stop 2 none ∈ tb := tb_in 962 (by decide +kernel) (by decide +kernel)
theorem kw963 : Cond.methodLink "HatHall$Reader" 65 yX6_readRule ∈ tb := tb_in 963 (by decide +kernel) (by decide +kernel)
theorem kw965 : Cond.instanceMethod yX6_readRule ∈ tb := tb_in 965 (by decide +kernel) (by decide +kernel)
theorem kw966 : Cond.code yX6_readRule cX6_readRule 3 none ∈ tb := tb_in 966 (by decide +kernel) (by decide +kernel)
theorem kw967 : Cond.methodLink "HatHall$Reader" 68 yX6_readWearer ∈ tb := tb_in 967 (by decide +kernel) (by decide +kernel)
theorem kw969 : Cond.instanceMethod yX6_readWearer ∈ tb := tb_in 969 (by decide +kernel) (by decide +kernel)
theorem kw970 : Cond.code yX6_readWearer cX6_readWearer 1 (some .int) ∈ tb := tb_in 970 (by decide +kernel) (by decide +kernel)
theorem kw971 : Cond.methodLink "HatHall$Reader" 117 yX6_readNumber ∈ tb := tb_in 971 (by decide +kernel) (by decide +kernel)
theorem kw973 : Cond.instanceMethod yX6_readNumber ∈ tb := tb_in 973 (by decide +kernel) (by decide +kernel)
theorem kw974 : Cond.code yX6_readNumber cX6_readNumber 2 (some .int) ∈ tb := tb_in 974 (by decide +kernel) (by decide +kernel)
theorem kw975 : Cond.methodLink "HatHall$Reader" 72 yX6_readOr ∈ tb := tb_in 975 (by decide +kernel) (by decide +kernel)
theorem kw977 : Cond.instanceMethod yX6_readOr ∈ tb := tb_in 977 (by decide +kernel) (by decide +kernel)
theorem kw978 : Cond.code yX6_readOr cX6_readOr 4 (some .int) ∈ tb := tb_in 978 (by decide +kernel) (by decide +kernel)
theorem kw979 : Cond.methodLink "HatHall$Reader" 88 yX6_isNumber ∈ tb := tb_in 979 (by decide +kernel) (by decide +kernel)
theorem kw981 : Cond.instanceMethod yX6_isNumber ∈ tb := tb_in 981 (by decide +kernel) (by decide +kernel)
theorem kw982 : Cond.code yX6_isNumber cX6_isNumber 1 (some .boolean) ∈ tb := tb_in 982 (by decide +kernel) (by decide +kernel)
theorem kw983 : Cond.methodLink "HatHall$Reader" 92 yX6_isWord ∈ tb := tb_in 983 (by decide +kernel) (by decide +kernel)
theorem kw985 : Cond.instanceMethod yX6_isWord ∈ tb := tb_in 985 (by decide +kernel) (by decide +kernel)
theorem kw986 : Cond.code yX6_isWord cX6_isWord 1 (some .boolean) ∈ tb := tb_in 986 (by decide +kernel) (by decide +kernel)
theorem kw987 : Cond.methodLink "HatHall$Reader" 95 yX6_readAnd ∈ tb := tb_in 987 (by decide +kernel) (by decide +kernel)
theorem kw989 : Cond.instanceMethod yX6_readAnd ∈ tb := tb_in 989 (by decide +kernel) (by decide +kernel)
theorem kw990 : Cond.code yX6_readAnd cX6_readAnd 4 (some .int) ∈ tb := tb_in 990 (by decide +kernel) (by decide +kernel)
theorem kw991 : Cond.methodLink "HatHall$Reader" 102 yX6_readNot ∈ tb := tb_in 991 (by decide +kernel) (by decide +kernel)
theorem kw993 : Cond.instanceMethod yX6_readNot ∈ tb := tb_in 993 (by decide +kernel) (by decide +kernel)
theorem kw994 : Cond.code yX6_readNot cX6_readNot 5 (some .int) ∈ tb := tb_in 994 (by decide +kernel) (by decide +kernel)
theorem kw995 : Cond.methodLink "HatHall$Reader" 105 yX6_readTest ∈ tb := tb_in 995 (by decide +kernel) (by decide +kernel)
theorem kw997 : Cond.instanceMethod yX6_readTest ∈ tb := tb_in 997 (by decide +kernel) (by decide +kernel)
theorem kw998 : Cond.code yX6_readTest cX6_readTest 4 (some .int) ∈ tb := tb_in 998 (by decide +kernel) (by decide +kernel)
theorem kw999 : Cond.methodLink "HatHall$Reader" 108 yX6_readSum ∈ tb := tb_in 999 (by decide +kernel) (by decide +kernel)
theorem kw1001 : Cond.instanceMethod yX6_readSum ∈ tb := tb_in 1001 (by decide +kernel) (by decide +kernel)
theorem kw1002 : Cond.code yX6_readSum cX6_readSum 5 (some .int) ∈ tb := tb_in 1002 (by decide +kernel) (by decide +kernel)
theorem kw1003 : Cond.methodLink "HatHall$Reader" 111 yX6_readProduct ∈ tb := tb_in 1003 (by decide +kernel) (by decide +kernel)
theorem kw1005 : Cond.instanceMethod yX6_readProduct ∈ tb := tb_in 1005 (by decide +kernel) (by decide +kernel)
theorem kw1006 : Cond.code yX6_readProduct cX6_readProduct 5 (some .int) ∈ tb := tb_in 1006 (by decide +kernel) (by decide +kernel)
theorem kw1007 : Cond.methodLink "HatHall$Reader" 114 yX6_readPart ∈ tb := tb_in 1007 (by decide +kernel) (by decide +kernel)
theorem kw1009 : Cond.instanceMethod yX6_readPart ∈ tb := tb_in 1009 (by decide +kernel) (by decide +kernel)
theorem kw1010 : Cond.code yX6_readPart cX6_readPart 4 (some .int) ∈ tb := tb_in 1010 (by decide +kernel) (by decide +kernel)
theorem kw1011 : Cond.methodLink "HatHall$Reader" 76 yX6_expect ∈ tb := tb_in 1011 (by decide +kernel) (by decide +kernel)
theorem kw1013 : Cond.instanceMethod yX6_expect ∈ tb := tb_in 1013 (by decide +kernel) (by decide +kernel)
theorem kw1014 : Cond.code yX6_expect cX6_expect 2 none ∈ tb := tb_in 1014 (by decide +kernel) (by decide +kernel)
theorem kw1015 : Cond.methodLink "HatHall$Reader" 98 yX6_add ∈ tb := tb_in 1015 (by decide +kernel) (by decide +kernel)
theorem kw1017 : Cond.instanceMethod yX6_add ∈ tb := tb_in 1017 (by decide +kernel) (by decide +kernel)
theorem kw1018 : Cond.code yX6_add cX6_add 4 (some .int) ∈ tb := tb_in 1018 (by decide +kernel) (by decide +kernel)
theorem kw1019 : Cond.methodLink "HatHall$Reader" 79 yJ7_copyOf_59c91 ∈ tb := tb_in 1019 (by decide +kernel) (by decide +kernel)
theorem kw1020 : Cond.static yJ7_copyOf_59c91 ∈ tb := tb_in 1020 (by decide +kernel) (by decide +kernel)
theorem kw1021 : Cond.code yJ7_copyOf_59c91 cJ7_copyOf_59c91 3 (some (.array .int)) ∈ tb := tb_in 1021 (by decide +kernel) (by decide +kernel)
theorem kw1022 : Cond.methodLink "java/util/Arrays" 316 ⟨"[I", "clone", "()Ljava/lang/Object;"⟩ ∈ tb := tb_in 1022 (by decide +kernel) (by decide +kernel)
theorem kw1024 : Cond.native ⟨"java/lang/Object", "clone", "()Ljava/lang/Object;"⟩ ∈ tb := tb_in 1024 (by decide +kernel) (by decide +kernel)
theorem kw1025 : Cond.instanceMethod ⟨"java/lang/Object", "clone", "()Ljava/lang/Object;"⟩ ∈ tb := tb_in 1025 (by decide +kernel) (by decide +kernel)
theorem kw1026 : Cond.selects "[I" ⟨"[I", "clone", "()Ljava/lang/Object;"⟩ ⟨"java/lang/Object", "clone", "()Ljava/lang/Object;"⟩ ∈ tb := tb_in 1026 (by decide +kernel) (by decide +kernel)
theorem kw1028 : Cond.classLink "java/util/Arrays" 317 "[I" ∈ tb := tb_in 1028 (by decide +kernel) (by decide +kernel)
theorem kw1029 : Cond.methodLink "java/util/Arrays" 304 yJ9_min_7cf53 ∈ tb := tb_in 1029 (by decide +kernel) (by decide +kernel)
theorem kw1030 : Cond.methodLink "java/util/Arrays" 150 ⟨"java/lang/System", "arraycopy", "(Ljava/lang/Object;ILjava/lang/Object;II)V"⟩ ∈ tb := tb_in 1030 (by decide +kernel) (by decide +kernel)
theorem kw1031 : Cond.methodLink "HatHall$Reader" 85 yX1_init ∈ tb := tb_in 1031 (by decide +kernel) (by decide +kernel)
theorem kw1032 : Cond.methodLink "HatHall" 148 yX5_follow ∈ tb := tb_in 1032 (by decide +kernel) (by decide +kernel)
theorem kw1033 : Cond.instanceMethod yX5_follow ∈ tb := tb_in 1033 (by decide +kernel) (by decide +kernel)
theorem kw1034 : Cond.selects "HatHall$Net" yX5_follow yX5_follow ∈ tb := tb_in 1034 (by decide +kernel) (by decide +kernel)
theorem kw1035 : Cond.code yX5_follow cX5_follow 3 none ∈ tb := tb_in 1035 (by decide +kernel) (by decide +kernel)
theorem kw1036 : Cond.methodLink "HatHallLaw" 118 yL_about ∈ tb := tb_in 1036 (by decide +kernel) (by decide +kernel)
theorem kw1037 : Cond.static yL_about ∈ tb := tb_in 1037 (by decide +kernel) (by decide +kernel)
theorem kw1038 : Cond.codeWith yL_about cL_about 5 (some .int) [(0, 10, 13, 13)] ∈ tb := tb_in 1038 (by decide +kernel) (by decide +kernel)
theorem kw1039 : Cond.methodLink "HatHallLaw" 24 yX10_about ∈ tb := tb_in 1039 (by decide +kernel) (by decide +kernel)
theorem kw1040 : Cond.instanceMethod yX10_about ∈ tb := tb_in 1040 (by decide +kernel) (by decide +kernel)
theorem kw1041 : Cond.selects "HatHall" yX10_about yX10_about ∈ tb := tb_in 1041 (by decide +kernel) (by decide +kernel)
theorem kw1042 : Cond.code yX10_about cX10_about 3 (some .int) ∈ tb := tb_in 1042 (by decide +kernel) (by decide +kernel)
theorem kw1043 : Cond.methodLink "HatHall" 167 yX5_kindOfRule ∈ tb := tb_in 1043 (by decide +kernel) (by decide +kernel)
theorem kw1044 : Cond.instanceMethod yX5_kindOfRule ∈ tb := tb_in 1044 (by decide +kernel) (by decide +kernel)
theorem kw1045 : Cond.selects "HatHall$Net" yX5_kindOfRule yX5_kindOfRule ∈ tb := tb_in 1045 (by decide +kernel) (by decide +kernel)
theorem kw1046 : Cond.code yX5_kindOfRule cX5_kindOfRule 2 (some .int) ∈ tb := tb_in 1046 (by decide +kernel) (by decide +kernel)
theorem kw1048 : Cond.methodLink "HatHallLaw" 121 yL_tell ∈ tb := tb_in 1048 (by decide +kernel) (by decide +kernel)
theorem kw1049 : Cond.static yL_tell ∈ tb := tb_in 1049 (by decide +kernel) (by decide +kernel)
theorem kw1050 : Cond.codeWith yL_tell cL_tell 6 (some .int) [(0, 19, 22, 13)] ∈ tb := tb_in 1050 (by decide +kernel) (by decide +kernel)
theorem kw1051 : Cond.methodLink "HatHallLaw" 28 yX10_tell ∈ tb := tb_in 1051 (by decide +kernel) (by decide +kernel)
theorem kw1052 : Cond.instanceMethod yX10_tell ∈ tb := tb_in 1052 (by decide +kernel) (by decide +kernel)
theorem kw1053 : Cond.selects "HatHall" yX10_tell yX10_tell ∈ tb := tb_in 1053 (by decide +kernel) (by decide +kernel)
theorem kw1054 : Cond.code yX10_tell cX10_tell 4 (some .boolean) ∈ tb := tb_in 1054 (by decide +kernel) (by decide +kernel)
theorem kw1055 : Cond.methodLink "HatHall" 178 yX5_startTable ∈ tb := tb_in 1055 (by decide +kernel) (by decide +kernel)
theorem kw1056 : Cond.methodLink "HatHall" 181 yX5_setGuess ∈ tb := tb_in 1056 (by decide +kernel) (by decide +kernel)
theorem kw1057 : Cond.methodLink "HatHallLaw" 125 yL_cell ∈ tb := tb_in 1057 (by decide +kernel) (by decide +kernel)
theorem kw1058 : Cond.static yL_cell ∈ tb := tb_in 1058 (by decide +kernel) (by decide +kernel)
theorem kw1059 : Cond.codeWith yL_cell cL_cell 5 (some .int) [(0, 10, 13, 13)] ∈ tb := tb_in 1059 (by decide +kernel) (by decide +kernel)
theorem kw1060 : Cond.methodLink "HatHallLaw" 32 yX10_cell ∈ tb := tb_in 1060 (by decide +kernel) (by decide +kernel)
theorem kw1061 : Cond.instanceMethod yX10_cell ∈ tb := tb_in 1061 (by decide +kernel) (by decide +kernel)
theorem kw1062 : Cond.selects "HatHall" yX10_cell yX10_cell ∈ tb := tb_in 1062 (by decide +kernel) (by decide +kernel)
theorem kw1063 : Cond.code yX10_cell cX10_cell 3 (some .int) ∈ tb := tb_in 1063 (by decide +kernel) (by decide +kernel)
theorem kw1064 : Cond.methodLink "HatHall" 185 yX5_hasTable ∈ tb := tb_in 1064 (by decide +kernel) (by decide +kernel)
theorem kw1066 : Cond.methodLink "HatHall" 191 yX5_guessAt ∈ tb := tb_in 1066 (by decide +kernel) (by decide +kernel)
theorem kw1067 : Cond.methodLink "HatHallLaw" 128 yL_in ∈ tb := tb_in 1067 (by decide +kernel) (by decide +kernel)
theorem kw1068 : Cond.static yL_in ∈ tb := tb_in 1068 (by decide +kernel) (by decide +kernel)
theorem kw1069 : Cond.codeWith yL_in cL_in 6 (some .int) [(0, 12, 15, 13)] ∈ tb := tb_in 1069 (by decide +kernel) (by decide +kernel)
theorem kw1070 : Cond.methodLink "HatHallLaw" 35 yX10_in ∈ tb := tb_in 1070 (by decide +kernel) (by decide +kernel)
theorem kw1071 : Cond.instanceMethod yX10_in ∈ tb := tb_in 1071 (by decide +kernel) (by decide +kernel)
theorem kw1072 : Cond.selects "HatHall" yX10_in yX10_in ∈ tb := tb_in 1072 (by decide +kernel) (by decide +kernel)
theorem kw1073 : Cond.code yX10_in cX10_in 4 (some .int) ∈ tb := tb_in 1073 (by decide +kernel) (by decide +kernel)
theorem kw1074 : Cond.methodLink "HatHall" 195 yX10_needRow ∈ tb := tb_in 1074 (by decide +kernel) (by decide +kernel)
theorem kw1076 : Cond.instanceMethod yX10_needRow ∈ tb := tb_in 1076 (by decide +kernel) (by decide +kernel)
theorem kw1077 : Cond.code yX10_needRow cX10_needRow 2 none ∈ tb := tb_in 1077 (by decide +kernel) (by decide +kernel)
theorem kw1080 : Cond.methodLink "HatHall" 200 yX7_play ∈ tb := tb_in 1080 (by decide +kernel) (by decide +kernel)
theorem kw1081 : Cond.instanceMethod yX7_play ∈ tb := tb_in 1081 (by decide +kernel) (by decide +kernel)
theorem kw1082 : Cond.selects "HatHall$Scene" yX7_play yX7_play ∈ tb := tb_in 1082 (by decide +kernel) (by decide +kernel)
theorem kw1083 : Cond.code yX7_play cX7_play 3 none ∈ tb := tb_in 1083 (by decide +kernel) (by decide +kernel)
theorem kw1084 : Cond.methodLink "HatHall$Scene" 40 yX7_dress ∈ tb := tb_in 1084 (by decide +kernel) (by decide +kernel)
theorem kw1085 : Cond.methodLink "HatHall$Scene" 44 yX7_guessAll ∈ tb := tb_in 1085 (by decide +kernel) (by decide +kernel)
theorem kw1086 : Cond.methodLink "HatHall" 204 yX7_viewOf ∈ tb := tb_in 1086 (by decide +kernel) (by decide +kernel)
theorem kw1087 : Cond.methodLink "HatHallLaw" 131 yL_row ∈ tb := tb_in 1087 (by decide +kernel) (by decide +kernel)
theorem kw1088 : Cond.static yL_row ∈ tb := tb_in 1088 (by decide +kernel) (by decide +kernel)
theorem kw1089 : Cond.codeWith yL_row cL_row 5 (some .int) [(0, 10, 13, 13)] ∈ tb := tb_in 1089 (by decide +kernel) (by decide +kernel)
theorem kw1090 : Cond.methodLink "HatHallLaw" 39 yX10_row ∈ tb := tb_in 1090 (by decide +kernel) (by decide +kernel)
theorem kw1091 : Cond.instanceMethod yX10_row ∈ tb := tb_in 1091 (by decide +kernel) (by decide +kernel)
theorem kw1092 : Cond.selects "HatHall" yX10_row yX10_row ∈ tb := tb_in 1092 (by decide +kernel) (by decide +kernel)
theorem kw1093 : Cond.code yX10_row cX10_row 3 (some .int) ∈ tb := tb_in 1093 (by decide +kernel) (by decide +kernel)
theorem kw1094 : Cond.methodLink "HatHall" 211 yX7_rightOnes ∈ tb := tb_in 1094 (by decide +kernel) (by decide +kernel)
theorem kw1095 : Cond.methodLink "HatHall" 215 yX7_wrongOnes ∈ tb := tb_in 1095 (by decide +kernel) (by decide +kernel)
theorem kw1096 : Cond.methodLink "HatHall" 218 yX2_weigh ∈ tb := tb_in 1096 (by decide +kernel) (by decide +kernel)
theorem kw1097 : Cond.methodLink "HatHall" 222 yX2_isWon ∈ tb := tb_in 1097 (by decide +kernel) (by decide +kernel)
theorem kw1099 : Cond.methodLink "HatHallLaw" 134 yL_won ∈ tb := tb_in 1099 (by decide +kernel) (by decide +kernel)
theorem kw1100 : Cond.static yL_won ∈ tb := tb_in 1100 (by decide +kernel) (by decide +kernel)
theorem kw1101 : Cond.codeWith yL_won cL_won 4 (some .int) [(0, 8, 11, 13)] ∈ tb := tb_in 1101 (by decide +kernel) (by decide +kernel)
theorem kw1102 : Cond.methodLink "HatHallLaw" 42 yX10_won ∈ tb := tb_in 1102 (by decide +kernel) (by decide +kernel)
theorem kw1103 : Cond.instanceMethod yX10_won ∈ tb := tb_in 1103 (by decide +kernel) (by decide +kernel)
theorem kw1104 : Cond.selects "HatHall" yX10_won yX10_won ∈ tb := tb_in 1104 (by decide +kernel) (by decide +kernel)
theorem kw1105 : Cond.code yX10_won cX10_won 3 (some .long) ∈ tb := tb_in 1105 (by decide +kernel) (by decide +kernel)
theorem kw1107 : Cond.methodLink "HatHall" 234 yX3_countRows ∈ tb := tb_in 1107 (by decide +kernel) (by decide +kernel)
theorem kw1108 : Cond.instanceMethod yX3_countRows ∈ tb := tb_in 1108 (by decide +kernel) (by decide +kernel)
theorem kw1109 : Cond.selects "HatHall$Ledger" yX3_countRows yX3_countRows ∈ tb := tb_in 1109 (by decide +kernel) (by decide +kernel)
theorem kw1110 : Cond.code yX3_countRows cX3_countRows 6 (some .int) ∈ tb := tb_in 1110 (by decide +kernel) (by decide +kernel)
theorem kw1111 : Cond.methodLink "HatHall" 238 yX3_sumWeights ∈ tb := tb_in 1111 (by decide +kernel) (by decide +kernel)
theorem kw1112 : Cond.instanceMethod yX3_sumWeights ∈ tb := tb_in 1112 (by decide +kernel) (by decide +kernel)
theorem kw1113 : Cond.selects "HatHall$Ledger" yX3_sumWeights yX3_sumWeights ∈ tb := tb_in 1113 (by decide +kernel) (by decide +kernel)
theorem kw1114 : Cond.code yX3_sumWeights cX3_sumWeights 8 (some .long) ∈ tb := tb_in 1114 (by decide +kernel) (by decide +kernel)
theorem kw1115 : Cond.methodLink "HatHallLaw" 145 yL_rightOf ∈ tb := tb_in 1115 (by decide +kernel) (by decide +kernel)
theorem kw1116 : Cond.static yL_rightOf ∈ tb := tb_in 1116 (by decide +kernel) (by decide +kernel)
theorem kw1117 : Cond.codeWith yL_rightOf cL_rightOf 4 (some .int) [(0, 9, 12, 13)] ∈ tb := tb_in 1117 (by decide +kernel) (by decide +kernel)
theorem kw1118 : Cond.methodLink "HatHallLaw" 46 yX10_rightOf ∈ tb := tb_in 1118 (by decide +kernel) (by decide +kernel)
theorem kw1119 : Cond.instanceMethod yX10_rightOf ∈ tb := tb_in 1119 (by decide +kernel) (by decide +kernel)
theorem kw1120 : Cond.selects "HatHall" yX10_rightOf yX10_rightOf ∈ tb := tb_in 1120 (by decide +kernel) (by decide +kernel)
theorem kw1121 : Cond.code yX10_rightOf cX10_rightOf 2 (some .int) ∈ tb := tb_in 1121 (by decide +kernel) (by decide +kernel)
theorem kw1122 : Cond.methodLink "HatHall" 249 yX3_rowsRightFor ∈ tb := tb_in 1122 (by decide +kernel) (by decide +kernel)
theorem kw1123 : Cond.instanceMethod yX3_rowsRightFor ∈ tb := tb_in 1123 (by decide +kernel) (by decide +kernel)
theorem kw1124 : Cond.selects "HatHall$Ledger" yX3_rowsRightFor yX3_rowsRightFor ∈ tb := tb_in 1124 (by decide +kernel) (by decide +kernel)
theorem kw1125 : Cond.code yX3_rowsRightFor cX3_rowsRightFor 5 (some .int) ∈ tb := tb_in 1125 (by decide +kernel) (by decide +kernel)
theorem kw1126 : Cond.methodLink "HatHallLaw" 148 yL_worst ∈ tb := tb_in 1126 (by decide +kernel) (by decide +kernel)
theorem kw1127 : Cond.static yL_worst ∈ tb := tb_in 1127 (by decide +kernel) (by decide +kernel)
theorem kw1128 : Cond.codeWith yL_worst cL_worst 4 (some .int) [(0, 9, 12, 13)] ∈ tb := tb_in 1128 (by decide +kernel) (by decide +kernel)
theorem kw1129 : Cond.methodLink "HatHallLaw" 49 yX10_worst ∈ tb := tb_in 1129 (by decide +kernel) (by decide +kernel)
theorem kw1130 : Cond.methodLink "HatHallLaw" 151 yL_idle ∈ tb := tb_in 1130 (by decide +kernel) (by decide +kernel)
theorem kw1131 : Cond.static yL_idle ∈ tb := tb_in 1131 (by decide +kernel) (by decide +kernel)
theorem kw1132 : Cond.codeWith yL_idle cL_idle 4 (some .int) [(0, 9, 12, 13)] ∈ tb := tb_in 1132 (by decide +kernel) (by decide +kernel)
theorem kw1133 : Cond.methodLink "HatHallLaw" 52 yX10_idle ∈ tb := tb_in 1133 (by decide +kernel) (by decide +kernel)
theorem kw1134 : Cond.instanceMethod yX10_idle ∈ tb := tb_in 1134 (by decide +kernel) (by decide +kernel)
theorem kw1135 : Cond.selects "HatHall" yX10_idle yX10_idle ∈ tb := tb_in 1135 (by decide +kernel) (by decide +kernel)
theorem kw1136 : Cond.code yX10_idle cX10_idle 4 (some .int) ∈ tb := tb_in 1136 (by decide +kernel) (by decide +kernel)
theorem kw1137 : Cond.methodLink "HatHall" 263 yX7_looksThatMatter ∈ tb := tb_in 1137 (by decide +kernel) (by decide +kernel)
theorem kw1138 : Cond.instanceMethod yX7_looksThatMatter ∈ tb := tb_in 1138 (by decide +kernel) (by decide +kernel)
theorem kw1139 : Cond.selects "HatHall$Scene" yX7_looksThatMatter yX7_looksThatMatter ∈ tb := tb_in 1139 (by decide +kernel) (by decide +kernel)
theorem kw1140 : Cond.code yX7_looksThatMatter cX7_looksThatMatter 6 (some .int) ∈ tb := tb_in 1140 (by decide +kernel) (by decide +kernel)
theorem kw1141 : Cond.methodLink "HatHall$Scene" 77 yX7_changesGuess ∈ tb := tb_in 1141 (by decide +kernel) (by decide +kernel)
theorem kw1143 : Cond.instanceMethod yX7_changesGuess ∈ tb := tb_in 1143 (by decide +kernel) (by decide +kernel)
theorem kw1144 : Cond.code yX7_changesGuess cX7_changesGuess 7 (some .boolean) ∈ tb := tb_in 1144 (by decide +kernel) (by decide +kernel)
theorem kw1145 : Cond.methodLink "HatHallLaw" 154 yL_otherwise ∈ tb := tb_in 1145 (by decide +kernel) (by decide +kernel)
theorem kw1146 : Cond.static yL_otherwise ∈ tb := tb_in 1146 (by decide +kernel) (by decide +kernel)
theorem kw1147 : Cond.codeWith yL_otherwise cL_otherwise 5 (some .int) [(0, 10, 13, 13)] ∈ tb := tb_in 1147 (by decide +kernel) (by decide +kernel)
theorem kw1148 : Cond.methodLink "HatHallLaw" 55 yX10_otherwise ∈ tb := tb_in 1148 (by decide +kernel) (by decide +kernel)
theorem kw1149 : Cond.instanceMethod yX10_otherwise ∈ tb := tb_in 1149 (by decide +kernel) (by decide +kernel)
theorem kw1150 : Cond.selects "HatHall" yX10_otherwise yX10_otherwise ∈ tb := tb_in 1150 (by decide +kernel) (by decide +kernel)
end
section
theorem kw1151 : Cond.code yX10_otherwise cX10_otherwise 5 (some .int) ∈ tb := tb_in 1151 (by decide +kernel) (by decide +kernel)
theorem kw1152 : Cond.methodLink "HatHall" 271 yX7_dress ∈ tb := tb_in 1152 (by decide +kernel) (by decide +kernel)
theorem kw1153 : Cond.methodLink "HatHall" 274 yX7_guessAll ∈ tb := tb_in 1153 (by decide +kernel) (by decide +kernel)
theorem kw1154 : Cond.methodLink "HatHallLaw" 165 yL_search ∈ tb := tb_in 1154 (by decide +kernel) (by decide +kernel)
theorem kw1155 : Cond.static yL_search ∈ tb := tb_in 1155 (by decide +kernel) (by decide +kernel)
theorem kw1156 : Cond.codeWith yL_search cL_search 4 (some .int) [(0, 9, 12, 22)] ∈ tb := tb_in 1156 (by decide +kernel) (by decide +kernel)
theorem kw1157 : Cond.methodLink "HatHallLaw" 58 yX10_search ∈ tb := tb_in 1157 (by decide +kernel) (by decide +kernel)
theorem kw1158 : Cond.instanceMethod yX10_search ∈ tb := tb_in 1158 (by decide +kernel) (by decide +kernel)
theorem kw1159 : Cond.selects "HatHall" yX10_search yX10_search ∈ tb := tb_in 1159 (by decide +kernel) (by decide +kernel)
theorem kw1160 : Cond.code yX10_search cX10_search 3 (some .int) ∈ tb := tb_in 1160 (by decide +kernel) (by decide +kernel)
theorem kw1162 : Cond.methodLink "HatHall" 286 yX10_needTablesAtOnce ∈ tb := tb_in 1162 (by decide +kernel) (by decide +kernel)
theorem kw1164 : Cond.instanceMethod yX10_needTablesAtOnce ∈ tb := tb_in 1164 (by decide +kernel) (by decide +kernel)
theorem kw1165 : Cond.code yX10_needTablesAtOnce cX10_needTablesAtOnce 2 none ∈ tb := tb_in 1165 (by decide +kernel) (by decide +kernel)
theorem kw1167 : Cond.methodLink "HatHall" 289 yX8_seek ∈ tb := tb_in 1167 (by decide +kernel) (by decide +kernel)
theorem kw1168 : Cond.instanceMethod yX8_seek ∈ tb := tb_in 1168 (by decide +kernel) (by decide +kernel)
theorem kw1169 : Cond.selects "HatHall$Search" yX8_seek yX8_seek ∈ tb := tb_in 1169 (by decide +kernel) (by decide +kernel)
theorem kw1170 : Cond.code yX8_seek cX8_seek 9 (some .int) ∈ tb := tb_in 1170 (by decide +kernel) (by decide +kernel)
theorem kw1171 : Cond.methodLink "HatHall$Search" 26 yJ7_fill_031fb ∈ tb := tb_in 1171 (by decide +kernel) (by decide +kernel)
theorem kw1172 : Cond.static yJ7_fill_031fb ∈ tb := tb_in 1172 (by decide +kernel) (by decide +kernel)
theorem kw1173 : Cond.code yJ7_fill_031fb cJ7_fill_031fb 4 none ∈ tb := tb_in 1173 (by decide +kernel) (by decide +kernel)
theorem kw1174 : Cond.methodLink "HatHall$Search" 32 yX8_rowNotRight ∈ tb := tb_in 1174 (by decide +kernel) (by decide +kernel)
theorem kw1176 : Cond.instanceMethod yX8_rowNotRight ∈ tb := tb_in 1176 (by decide +kernel) (by decide +kernel)
theorem kw1177 : Cond.code yX8_rowNotRight cX8_rowNotRight 5 (some .int) ∈ tb := tb_in 1177 (by decide +kernel) (by decide +kernel)
theorem kw1178 : Cond.methodLink "HatHall$Search" 41 yX7_dress ∈ tb := tb_in 1178 (by decide +kernel) (by decide +kernel)
theorem kw1179 : Cond.methodLink "HatHall$Search" 57 yX8_someoneIsRight ∈ tb := tb_in 1179 (by decide +kernel) (by decide +kernel)
theorem kw1181 : Cond.instanceMethod yX8_someoneIsRight ∈ tb := tb_in 1181 (by decide +kernel) (by decide +kernel)
theorem kw1182 : Cond.code yX8_someoneIsRight cX8_someoneIsRight 4 (some .boolean) ∈ tb := tb_in 1182 (by decide +kernel) (by decide +kernel)
theorem kw1183 : Cond.methodLink "HatHall$Search" 50 yX8_cellOf ∈ tb := tb_in 1183 (by decide +kernel) (by decide +kernel)
theorem kw1185 : Cond.instanceMethod yX8_cellOf ∈ tb := tb_in 1185 (by decide +kernel) (by decide +kernel)
theorem kw1186 : Cond.code yX8_cellOf cX8_cellOf 4 (some .int) ∈ tb := tb_in 1186 (by decide +kernel) (by decide +kernel)
theorem kw1187 : Cond.methodLink "HatHall$Search" 68 yX7_viewOf ∈ tb := tb_in 1187 (by decide +kernel) (by decide +kernel)
theorem kw1188 : Cond.methodLink "HatHall$Search" 61 yX7_dressNext ∈ tb := tb_in 1188 (by decide +kernel) (by decide +kernel)
theorem kw1189 : Cond.instanceMethod yX7_dressNext ∈ tb := tb_in 1189 (by decide +kernel) (by decide +kernel)
theorem kw1190 : Cond.selects "HatHall$Scene" yX7_dressNext yX7_dressNext ∈ tb := tb_in 1190 (by decide +kernel) (by decide +kernel)
theorem kw1191 : Cond.code yX7_dressNext cX7_dressNext 3 none ∈ tb := tb_in 1191 (by decide +kernel) (by decide +kernel)
theorem kw1192 : Cond.methodLink "HatHall$Search" 47 yX8_unsettledWearer ∈ tb := tb_in 1192 (by decide +kernel) (by decide +kernel)
theorem kw1194 : Cond.instanceMethod yX8_unsettledWearer ∈ tb := tb_in 1194 (by decide +kernel) (by decide +kernel)
theorem kw1195 : Cond.code yX8_unsettledWearer cX8_unsettledWearer 5 (some .int) ∈ tb := tb_in 1195 (by decide +kernel) (by decide +kernel)
theorem kw1196 : Cond.methodLink "HatHall" 293 yX8_settle ∈ tb := tb_in 1196 (by decide +kernel) (by decide +kernel)
theorem kw1197 : Cond.instanceMethod yX8_settle ∈ tb := tb_in 1197 (by decide +kernel) (by decide +kernel)
theorem kw1198 : Cond.selects "HatHall$Search" yX8_settle yX8_settle ∈ tb := tb_in 1198 (by decide +kernel) (by decide +kernel)
theorem kw1199 : Cond.code yX8_settle cX8_settle 5 none ∈ tb := tb_in 1199 (by decide +kernel) (by decide +kernel)
theorem kw1200 : Cond.methodLink "HatHall$Search" 72 yX5_startTable ∈ tb := tb_in 1200 (by decide +kernel) (by decide +kernel)
theorem kw1201 : Cond.methodLink "HatHall$Search" 79 yX5_setGuess ∈ tb := tb_in 1201 (by decide +kernel) (by decide +kernel)
theorem kw1202 : Cond.methodLink "HatHallLaw" 172 yL_sums ∈ tb := tb_in 1202 (by decide +kernel) (by decide +kernel)
theorem kw1203 : Cond.static yL_sums ∈ tb := tb_in 1203 (by decide +kernel) (by decide +kernel)
theorem kw1204 : Cond.codeWith yL_sums cL_sums 3 (some .int) [(0, 8, 11, 22)] ∈ tb := tb_in 1204 (by decide +kernel) (by decide +kernel)
theorem kw1205 : Cond.methodLink "HatHallLaw" 61 yX10_sums ∈ tb := tb_in 1205 (by decide +kernel) (by decide +kernel)
theorem kw1206 : Cond.instanceMethod yX10_sums ∈ tb := tb_in 1206 (by decide +kernel) (by decide +kernel)
theorem kw1207 : Cond.selects "HatHall" yX10_sums yX10_sums ∈ tb := tb_in 1207 (by decide +kernel) (by decide +kernel)
theorem kw1208 : Cond.code yX10_sums cX10_sums 2 (some .int) ∈ tb := tb_in 1208 (by decide +kernel) (by decide +kernel)
theorem kw1210 : Cond.methodLink "HatHall" 300 yX9_seek ∈ tb := tb_in 1210 (by decide +kernel) (by decide +kernel)
theorem kw1211 : Cond.instanceMethod yX9_seek ∈ tb := tb_in 1211 (by decide +kernel) (by decide +kernel)
theorem kw1212 : Cond.selects "HatHall$Sums" yX9_seek yX9_seek ∈ tb := tb_in 1212 (by decide +kernel) (by decide +kernel)
theorem kw1213 : Cond.code yX9_seek cX9_seek 8 (some .int) ∈ tb := tb_in 1213 (by decide +kernel) (by decide +kernel)
theorem kw1214 : Cond.methodLink "HatHall$Sums" 29 yX9_noteNeeds ∈ tb := tb_in 1214 (by decide +kernel) (by decide +kernel)
theorem kw1216 : Cond.instanceMethod yX9_noteNeeds ∈ tb := tb_in 1216 (by decide +kernel) (by decide +kernel)
theorem kw1217 : Cond.code yX9_noteNeeds cX9_noteNeeds 6 (some .int) ∈ tb := tb_in 1217 (by decide +kernel) (by decide +kernel)
theorem kw1218 : Cond.methodLink "HatHall$Sums" 67 yX7_dress ∈ tb := tb_in 1218 (by decide +kernel) (by decide +kernel)
theorem kw1219 : Cond.methodLink "HatHall$Sums" 73 yX2_weigh ∈ tb := tb_in 1219 (by decide +kernel) (by decide +kernel)
theorem kw1220 : Cond.methodLink "HatHall$Sums" 77 yX9_needsOf ∈ tb := tb_in 1220 (by decide +kernel) (by decide +kernel)
theorem kw1222 : Cond.instanceMethod yX9_needsOf ∈ tb := tb_in 1222 (by decide +kernel) (by decide +kernel)
theorem kw1223 : Cond.code yX9_needsOf cX9_needsOf 7 (some .int) ∈ tb := tb_in 1223 (by decide +kernel) (by decide +kernel)
theorem kw1224 : Cond.methodLink "HatHall$Sums" 38 yX2_isWon ∈ tb := tb_in 1224 (by decide +kernel) (by decide +kernel)
theorem kw1225 : Cond.methodLink "HatHall$Sums" 44 yJ7_fill_53178 ∈ tb := tb_in 1225 (by decide +kernel) (by decide +kernel)
theorem kw1226 : Cond.static yJ7_fill_53178 ∈ tb := tb_in 1226 (by decide +kernel) (by decide +kernel)
theorem kw1227 : Cond.code yJ7_fill_53178 cJ7_fill_53178 4 none ∈ tb := tb_in 1227 (by decide +kernel) (by decide +kernel)
theorem kw1228 : Cond.methodLink "HatHall$Sums" 53 yX9_rowsWonByTried ∈ tb := tb_in 1228 (by decide +kernel) (by decide +kernel)
theorem kw1230 : Cond.instanceMethod yX9_rowsWonByTried ∈ tb := tb_in 1230 (by decide +kernel) (by decide +kernel)
theorem kw1231 : Cond.code yX9_rowsWonByTried cX9_rowsWonByTried 6 (some .int) ∈ tb := tb_in 1231 (by decide +kernel) (by decide +kernel)
theorem kw1232 : Cond.methodLink "HatHall$Sums" 90 yJ6_bitCount_0f7a4 ∈ tb := tb_in 1232 (by decide +kernel) (by decide +kernel)
theorem kw1233 : Cond.methodLink "HatHall$Sums" 57 ⟨"java/lang/System", "arraycopy", "(Ljava/lang/Object;ILjava/lang/Object;II)V"⟩ ∈ tb := tb_in 1233 (by decide +kernel) (by decide +kernel)
theorem kw1234 : Cond.methodLink "HatHall$Sums" 63 yX9_advance ∈ tb := tb_in 1234 (by decide +kernel) (by decide +kernel)
theorem kw1236 : Cond.instanceMethod yX9_advance ∈ tb := tb_in 1236 (by decide +kernel) (by decide +kernel)
theorem kw1237 : Cond.code yX9_advance cX9_advance 3 none ∈ tb := tb_in 1237 (by decide +kernel) (by decide +kernel)
theorem kw1238 : Cond.methodLink "HatHall" 303 yX9_settle ∈ tb := tb_in 1238 (by decide +kernel) (by decide +kernel)
theorem kw1239 : Cond.instanceMethod yX9_settle ∈ tb := tb_in 1239 (by decide +kernel) (by decide +kernel)
theorem kw1240 : Cond.selects "HatHall$Sums" yX9_settle yX9_settle ∈ tb := tb_in 1240 (by decide +kernel) (by decide +kernel)
theorem kw1241 : Cond.code yX9_settle cX9_settle 4 none ∈ tb := tb_in 1241 (by decide +kernel) (by decide +kernel)
theorem kw1242 : Cond.methodLink "HatHall$Sums" 96 yX5_startTable ∈ tb := tb_in 1242 (by decide +kernel) (by decide +kernel)
theorem kw1243 : Cond.methodLink "HatHall$Sums" 103 yX9_sumOfDigits ∈ tb := tb_in 1243 (by decide +kernel) (by decide +kernel)
theorem kw1244 : Cond.static yX9_sumOfDigits ∈ tb := tb_in 1244 (by decide +kernel) (by decide +kernel)
theorem kw1245 : Cond.code yX9_sumOfDigits cX9_sumOfDigits 5 (some .int) ∈ tb := tb_in 1245 (by decide +kernel) (by decide +kernel)
theorem kw1246 : Cond.methodLink "HatHall$Sums" 107 yJ9_floorMod_7cf53 ∈ tb := tb_in 1246 (by decide +kernel) (by decide +kernel)
theorem kw1247 : Cond.methodLink "HatHall$Sums" 112 yX5_setGuess ∈ tb := tb_in 1247 (by decide +kernel) (by decide +kernel)
theorem kw1248 : Cond.methodLink "HatHallLaw" 176 yL_constant ∈ tb := tb_in 1248 (by decide +kernel) (by decide +kernel)
theorem kw1249 : Cond.static yL_constant ∈ tb := tb_in 1249 (by decide +kernel) (by decide +kernel)
theorem kw1250 : Cond.codeWith yL_constant cL_constant 4 (some .int) [(0, 9, 12, 13)] ∈ tb := tb_in 1250 (by decide +kernel) (by decide +kernel)
theorem kw1251 : Cond.methodLink "HatHallLaw" 65 yX10_constant ∈ tb := tb_in 1251 (by decide +kernel) (by decide +kernel)
theorem kw1252 : Cond.instanceMethod yX10_constant ∈ tb := tb_in 1252 (by decide +kernel) (by decide +kernel)
theorem kw1253 : Cond.selects "HatHall" yX10_constant yX10_constant ∈ tb := tb_in 1253 (by decide +kernel) (by decide +kernel)
theorem kw1254 : Cond.code yX10_constant cX10_constant 2 (some .int) ∈ tb := tb_in 1254 (by decide +kernel) (by decide +kernel)
theorem kw1256 : Cond.methodLink "HatHallLaw" 183 yL_given ∈ tb := tb_in 1256 (by decide +kernel) (by decide +kernel)
theorem kw1257 : Cond.static yL_given ∈ tb := tb_in 1257 (by decide +kernel) (by decide +kernel)
theorem kw1258 : Cond.codeWith yL_given cL_given 4 (some .int) [(0, 9, 12, 13)] ∈ tb := tb_in 1258 (by decide +kernel) (by decide +kernel)
theorem kw1259 : Cond.methodLink "HatHallLaw" 68 yX10_given ∈ tb := tb_in 1259 (by decide +kernel) (by decide +kernel)
theorem kw1260 : Cond.instanceMethod yX10_given ∈ tb := tb_in 1260 (by decide +kernel) (by decide +kernel)
theorem kw1261 : Cond.selects "HatHall" yX10_given yX10_given ∈ tb := tb_in 1261 (by decide +kernel) (by decide +kernel)
theorem kw1262 : Cond.code yX10_given cX10_given 2 (some .int) ∈ tb := tb_in 1262 (by decide +kernel) (by decide +kernel)
theorem kw1264 : Cond.methodLink "HatHallLaw" 190 yL_mend ∈ tb := tb_in 1264 (by decide +kernel) (by decide +kernel)
theorem kw1265 : Cond.static yL_mend ∈ tb := tb_in 1265 (by decide +kernel) (by decide +kernel)
theorem kw1266 : Cond.codeWith yL_mend cL_mend 4 (some .int) [(0, 9, 12, 22)] ∈ tb := tb_in 1266 (by decide +kernel) (by decide +kernel)
theorem kw1267 : Cond.methodLink "HatHallLaw" 71 yX10_mend ∈ tb := tb_in 1267 (by decide +kernel) (by decide +kernel)
theorem kw1268 : Cond.instanceMethod yX10_mend ∈ tb := tb_in 1268 (by decide +kernel) (by decide +kernel)
theorem kw1269 : Cond.selects "HatHall" yX10_mend yX10_mend ∈ tb := tb_in 1269 (by decide +kernel) (by decide +kernel)
theorem kw1270 : Cond.code yX10_mend cX10_mend 3 (some .int) ∈ tb := tb_in 1270 (by decide +kernel) (by decide +kernel)
theorem kw1272 : Cond.methodLink "HatHall" 331 yX5_viewsInTables ∈ tb := tb_in 1272 (by decide +kernel) (by decide +kernel)
theorem kw1273 : Cond.instanceMethod yX5_viewsInTables ∈ tb := tb_in 1273 (by decide +kernel) (by decide +kernel)
theorem kw1274 : Cond.selects "HatHall$Net" yX5_viewsInTables yX5_viewsInTables ∈ tb := tb_in 1274 (by decide +kernel) (by decide +kernel)
theorem kw1275 : Cond.code yX5_viewsInTables cX5_viewsInTables 3 (some .int) ∈ tb := tb_in 1275 (by decide +kernel) (by decide +kernel)
theorem kw1276 : Cond.methodLink "HatHall" 334 yX4_mendOne ∈ tb := tb_in 1276 (by decide +kernel) (by decide +kernel)
theorem kw1277 : Cond.instanceMethod yX4_mendOne ∈ tb := tb_in 1277 (by decide +kernel) (by decide +kernel)
theorem kw1278 : Cond.selects "HatHall$Mender" yX4_mendOne yX4_mendOne ∈ tb := tb_in 1278 (by decide +kernel) (by decide +kernel)
theorem kw1279 : Cond.code yX4_mendOne cX4_mendOne 4 (some .boolean) ∈ tb := tb_in 1279 (by decide +kernel) (by decide +kernel)
theorem kw1280 : Cond.methodLink "HatHall$Mender" 25 yJ7_fill_53178 ∈ tb := tb_in 1280 (by decide +kernel) (by decide +kernel)
theorem kw1281 : Cond.methodLink "HatHall$Mender" 37 yX7_play ∈ tb := tb_in 1281 (by decide +kernel) (by decide +kernel)
theorem kw1282 : Cond.methodLink "HatHall$Mender" 44 yX2_weigh ∈ tb := tb_in 1282 (by decide +kernel) (by decide +kernel)
theorem kw1283 : Cond.methodLink "HatHall$Mender" 50 yX4_noteGains ∈ tb := tb_in 1283 (by decide +kernel) (by decide +kernel)
theorem kw1285 : Cond.instanceMethod yX4_noteGains ∈ tb := tb_in 1285 (by decide +kernel) (by decide +kernel)
theorem kw1286 : Cond.code yX4_noteGains cX4_noteGains 8 none ∈ tb := tb_in 1286 (by decide +kernel) (by decide +kernel)
theorem kw1287 : Cond.methodLink "HatHall$Mender" 58 yX4_isWon ∈ tb := tb_in 1287 (by decide +kernel) (by decide +kernel)
theorem kw1288 : Cond.static yX4_isWon ∈ tb := tb_in 1288 (by decide +kernel) (by decide +kernel)
theorem kw1289 : Cond.code yX4_isWon cX4_isWon 3 (some .boolean) ∈ tb := tb_in 1289 (by decide +kernel) (by decide +kernel)
theorem kw1290 : Cond.methodLink "HatHall$Mender" 84 yX7_rightOnes ∈ tb := tb_in 1290 (by decide +kernel) (by decide +kernel)
theorem kw1291 : Cond.methodLink "HatHall$Mender" 88 yX7_wrongOnes ∈ tb := tb_in 1291 (by decide +kernel) (by decide +kernel)
theorem kw1292 : Cond.methodLink "HatHall$Mender" 91 yX2_isWon ∈ tb := tb_in 1292 (by decide +kernel) (by decide +kernel)
theorem kw1293 : Cond.methodLink "HatHall$Mender" 62 yX5_hasTable ∈ tb := tb_in 1293 (by decide +kernel) (by decide +kernel)
theorem kw1294 : Cond.methodLink "HatHall$Mender" 66 yX7_viewOf ∈ tb := tb_in 1294 (by decide +kernel) (by decide +kernel)
theorem kw1295 : Cond.methodLink "HatHall$Mender" 73 yX7_copy ∈ tb := tb_in 1295 (by decide +kernel) (by decide +kernel)
theorem kw1296 : Cond.instanceMethod yX7_copy ∈ tb := tb_in 1296 (by decide +kernel) (by decide +kernel)
theorem kw1297 : Cond.selects "HatHall$Scene" yX7_copy yX7_copy ∈ tb := tb_in 1297 (by decide +kernel) (by decide +kernel)
theorem kw1298 : Cond.code yX7_copy cX7_copy 2 none ∈ tb := tb_in 1298 (by decide +kernel) (by decide +kernel)
theorem kw1299 : Cond.methodLink "HatHall$Scene" 18 ⟨"java/lang/System", "arraycopy", "(Ljava/lang/Object;ILjava/lang/Object;II)V"⟩ ∈ tb := tb_in 1299 (by decide +kernel) (by decide +kernel)
theorem kw1300 : Cond.methodLink "HatHall$Mender" 77 yX7_guessAnew ∈ tb := tb_in 1300 (by decide +kernel) (by decide +kernel)
theorem kw1301 : Cond.instanceMethod yX7_guessAnew ∈ tb := tb_in 1301 (by decide +kernel) (by decide +kernel)
theorem kw1302 : Cond.selects "HatHall$Scene" yX7_guessAnew yX7_guessAnew ∈ tb := tb_in 1302 (by decide +kernel) (by decide +kernel)
theorem kw1303 : Cond.code yX7_guessAnew cX7_guessAnew 6 none ∈ tb := tb_in 1303 (by decide +kernel) (by decide +kernel)
theorem kw1304 : Cond.methodLink "HatHall$Mender" 54 yX4_takeBest ∈ tb := tb_in 1304 (by decide +kernel) (by decide +kernel)
theorem kw1306 : Cond.instanceMethod yX4_takeBest ∈ tb := tb_in 1306 (by decide +kernel) (by decide +kernel)
theorem kw1307 : Cond.code yX4_takeBest cX4_takeBest 9 (some .boolean) ∈ tb := tb_in 1307 (by decide +kernel) (by decide +kernel)
theorem kw1308 : Cond.methodLink "HatHall$Mender" 94 yX5_setGuess ∈ tb := tb_in 1308 (by decide +kernel) (by decide +kernel)
theorem kw1309 : Cond.methodLink "HatHallLaw" 206 yL_count ∈ tb := tb_in 1309 (by decide +kernel) (by decide +kernel)
theorem kw1310 : Cond.static yL_count ∈ tb := tb_in 1310 (by decide +kernel) (by decide +kernel)
theorem kw1311 : Cond.codeWith yL_count cL_count 4 (some .int) [(0, 9, 12, 13)] ∈ tb := tb_in 1311 (by decide +kernel) (by decide +kernel)
theorem kw1312 : Cond.methodLink "HatHallLaw" 74 yX10_count ∈ tb := tb_in 1312 (by decide +kernel) (by decide +kernel)
theorem kw1313 : Cond.instanceMethod yX10_count ∈ tb := tb_in 1313 (by decide +kernel) (by decide +kernel)
theorem kw1314 : Cond.selects "HatHall" yX10_count yX10_count ∈ tb := tb_in 1314 (by decide +kernel) (by decide +kernel)
theorem kw1315 : Cond.code yX10_count cX10_count 2 (some .int) ∈ tb := tb_in 1315 (by decide +kernel) (by decide +kernel)
theorem kw1316 : Cond.methodLink "HatHall" 341 yX5_countTexts ∈ tb := tb_in 1316 (by decide +kernel) (by decide +kernel)
theorem kw1317 : Cond.instanceMethod yX5_countTexts ∈ tb := tb_in 1317 (by decide +kernel) (by decide +kernel)
theorem kw1318 : Cond.selects "HatHall$Net" yX5_countTexts yX5_countTexts ∈ tb := tb_in 1318 (by decide +kernel) (by decide +kernel)
theorem kw1319 : Cond.code yX5_countTexts cX5_countTexts 3 (some .int) ∈ tb := tb_in 1319 (by decide +kernel) (by decide +kernel)
theorem kw1321 : Cond.classLink "HatHallLaw" 78 "HatHallModel" ∈ tb := tb_in 1321 (by decide +kernel) (by decide +kernel)
theorem kw1322 : Cond.instantiable "HatHallModel" 75 ∈ tb := tb_in 1322 (by decide +kernel) (by decide +kernel)
theorem kw1323 : Cond.methodLink "HatHallLaw" 80 yX11_init ∈ tb := tb_in 1323 (by decide +kernel) (by decide +kernel)
theorem kw1324 : Cond.instanceMethod yX11_init ∈ tb := tb_in 1324 (by decide +kernel) (by decide +kernel)
theorem kw1325 : Cond.code yX11_init cX11_init 1 none ∈ tb := tb_in 1325 (by decide +kernel) (by decide +kernel)
theorem kw1326 : Cond.methodLink "HatHallModel" 1 ⟨"java/lang/Object", "<init>", "()V"⟩ ∈ tb := tb_in 1326 (by decide +kernel) (by decide +kernel)
theorem kw1327 : Cond.constant "HatHallModel" 90 52488 ∈ tb := tb_in 1327 (by decide +kernel) (by decide +kernel)
theorem kw1328 : Cond.constant "HatHallModel" 157 32768 ∈ tb := tb_in 1328 (by decide +kernel) (by decide +kernel)
theorem kw1329 : Cond.methodLink "HatHallModel" 170 yX11_anew ∈ tb := tb_in 1329 (by decide +kernel) (by decide +kernel)
theorem kw1331 : Cond.instanceMethod yX11_anew ∈ tb := tb_in 1331 (by decide +kernel) (by decide +kernel)
theorem kw1332 : Cond.code yX11_anew cX11_anew 4 none ∈ tb := tb_in 1332 (by decide +kernel) (by decide +kernel)
theorem kw1333 : Cond.methodLink "HatHallModel" 187 yX11_all ∈ tb := tb_in 1333 (by decide +kernel) (by decide +kernel)
theorem kw1335 : Cond.instanceMethod yX11_all ∈ tb := tb_in 1335 (by decide +kernel) (by decide +kernel)
theorem kw1336 : Cond.code yX11_all cX11_all 1 (some .int) ∈ tb := tb_in 1336 (by decide +kernel) (by decide +kernel)
theorem kw1337 : Cond.methodLink "HatHallModel" 191 yX11_blank ∈ tb := tb_in 1337 (by decide +kernel) (by decide +kernel)
theorem kw1339 : Cond.instanceMethod yX11_blank ∈ tb := tb_in 1339 (by decide +kernel) (by decide +kernel)
theorem kw1340 : Cond.code yX11_blank cX11_blank 3 none ∈ tb := tb_in 1340 (by decide +kernel) (by decide +kernel)
theorem kw1341 : Cond.methodLink "HatHallModel" 184 yX11_viewsOf ∈ tb := tb_in 1341 (by decide +kernel) (by decide +kernel)
theorem kw1343 : Cond.instanceMethod yX11_viewsOf ∈ tb := tb_in 1343 (by decide +kernel) (by decide +kernel)
theorem kw1344 : Cond.code yX11_viewsOf cX11_viewsOf 4 (some .int) ∈ tb := tb_in 1344 (by decide +kernel) (by decide +kernel)
theorem kw1345 : Cond.methodLink "HatHallModel" 177 yX11_bits ∈ tb := tb_in 1345 (by decide +kernel) (by decide +kernel)
theorem kw1346 : Cond.static yX11_bits ∈ tb := tb_in 1346 (by decide +kernel) (by decide +kernel)
theorem kw1347 : Cond.code yX11_bits cX11_bits 3 (some .int) ∈ tb := tb_in 1347 (by decide +kernel) (by decide +kernel)
theorem kw1348 : Cond.methodLink "HatHallModel" 181 yX11_hears ∈ tb := tb_in 1348 (by decide +kernel) (by decide +kernel)
theorem kw1350 : Cond.instanceMethod yX11_hears ∈ tb := tb_in 1350 (by decide +kernel) (by decide +kernel)
theorem kw1351 : Cond.code yX11_hears cX11_hears 4 (some .int) ∈ tb := tb_in 1351 (by decide +kernel) (by decide +kernel)
theorem kw1352 : Cond.fieldLink "HatHallModel" 174 "HatHallModel" "thrown" "I" ∈ tb := tb_in 1352 (by decide +kernel) (by decide +kernel)
theorem kw1353 : Cond.fieldLink "HatHallModel" 7 "HatHallModel" "n" "I" ∈ tb := tb_in 1353 (by decide +kernel) (by decide +kernel)
theorem kw1354 : Cond.fieldLink "HatHallModel" 13 "HatHallModel" "q" "I" ∈ tb := tb_in 1354 (by decide +kernel) (by decide +kernel)
theorem kw1355 : Cond.fieldLink "HatHallModel" 16 "HatHallModel" "rowsAll" "I" ∈ tb := tb_in 1355 (by decide +kernel) (by decide +kernel)
theorem kw1356 : Cond.fieldLink "HatHallModel" 211 "HatHallModel" "law" "I" ∈ tb := tb_in 1356 (by decide +kernel) (by decide +kernel)
theorem kw1357 : Cond.fieldLink "HatHallModel" 19 "HatHallModel" "lawMany" "I" ∈ tb := tb_in 1357 (by decide +kernel) (by decide +kernel)
theorem kw1358 : Cond.fieldLink "HatHallModel" 22 "HatHallModel" "heap" "[I" ∈ tb := tb_in 1358 (by decide +kernel) (by decide +kernel)
theorem kw1359 : Cond.fieldLink "HatHallModel" 26 "HatHallModel" "looks" "[I" ∈ tb := tb_in 1359 (by decide +kernel) (by decide +kernel)
theorem kw1360 : Cond.fieldLink "HatHallModel" 29 "HatHallModel" "round" "[I" ∈ tb := tb_in 1360 (by decide +kernel) (by decide +kernel)
theorem kw1361 : Cond.fieldLink "HatHallModel" 32 "HatHallModel" "kind" "[I" ∈ tb := tb_in 1361 (by decide +kernel) (by decide +kernel)
theorem kw1362 : Cond.fieldLink "HatHallModel" 35 "HatHallModel" "table" "[I" ∈ tb := tb_in 1362 (by decide +kernel) (by decide +kernel)
theorem kw1363 : Cond.fieldLink "HatHallModel" 38 "HatHallModel" "code" "[I" ∈ tb := tb_in 1363 (by decide +kernel) (by decide +kernel)
theorem kw1364 : Cond.fieldLink "HatHallModel" 41 "HatHallModel" "passAt" "[I" ∈ tb := tb_in 1364 (by decide +kernel) (by decide +kernel)
theorem kw1365 : Cond.fieldLink "HatHallModel" 44 "HatHallModel" "guessAt" "[I" ∈ tb := tb_in 1365 (by decide +kernel) (by decide +kernel)
theorem kw1366 : Cond.fieldLink "HatHallModel" 47 "HatHallModel" "heard" "[I" ∈ tb := tb_in 1366 (by decide +kernel) (by decide +kernel)
theorem kw1367 : Cond.fieldLink "HatHallModel" 50 "HatHallModel" "tape" "[I" ∈ tb := tb_in 1367 (by decide +kernel) (by decide +kernel)
theorem kw1368 : Cond.fieldLink "HatHallModel" 214 "HatHallModel" "taped" "I" ∈ tb := tb_in 1368 (by decide +kernel) (by decide +kernel)
theorem kw1369 : Cond.fieldLink "HatHallModel" 262 "HatHallModel" "faultKind" "I" ∈ tb := tb_in 1369 (by decide +kernel) (by decide +kernel)
theorem kw1370 : Cond.fieldLink "HatHallModel" 53 "HatHallModel" "faultPlace" "I" ∈ tb := tb_in 1370 (by decide +kernel) (by decide +kernel)
theorem kw1371 : Cond.fieldLink "HatHallModel" 220 "HatHallModel" "size" "I" ∈ tb := tb_in 1371 (by decide +kernel) (by decide +kernel)
theorem kw1372 : Cond.fieldLink "HatHallModel" 223 "HatHallModel" "next" "I" ∈ tb := tb_in 1372 (by decide +kernel) (by decide +kernel)
theorem kw1373 : Cond.fieldLink "HatHallModel" 242 "HatHallModel" "sort" "I" ∈ tb := tb_in 1373 (by decide +kernel) (by decide +kernel)
theorem kw1374 : Cond.fieldLink "HatHallModel" 229 "HatHallModel" "place" "I" ∈ tb := tb_in 1374 (by decide +kernel) (by decide +kernel)
theorem kw1375 : Cond.fieldLink "HatHallModel" 251 "HatHallModel" "long0" "I" ∈ tb := tb_in 1375 (by decide +kernel) (by decide +kernel)
theorem kw1376 : Cond.fieldLink "HatHallModel" 236 "HatHallModel" "value" "I" ∈ tb := tb_in 1376 (by decide +kernel) (by decide +kernel)
theorem kw1377 : Cond.fieldLink "HatHallModel" 239 "HatHallModel" "sign" "I" ∈ tb := tb_in 1377 (by decide +kernel) (by decide +kernel)
theorem kw1378 : Cond.fieldLink "HatHallModel" 232 "HatHallModel" "word" "J" ∈ tb := tb_in 1378 (by decide +kernel) (by decide +kernel)
theorem kw1379 : Cond.fieldLink "HatHallModel" 315 "HatHallModel" "rulesRead" "I" ∈ tb := tb_in 1379 (by decide +kernel) (by decide +kernel)
theorem kw1380 : Cond.fieldLink "HatHallModel" 265 "HatHallModel" "top" "I" ∈ tb := tb_in 1380 (by decide +kernel) (by decide +kernel)
theorem kw1381 : Cond.fieldLink "HatHallModel" 268 "HatHallModel" "waiting" "I" ∈ tb := tb_in 1381 (by decide +kernel) (by decide +kernel)
theorem kw1382 : Cond.fieldLink "HatHallModel" 293 "HatHallModel" "depth" "I" ∈ tb := tb_in 1382 (by decide +kernel) (by decide +kernel)
theorem kw1383 : Cond.fieldLink "HatHallModel" 56 "HatHallModel" "ruleOf" "[I" ∈ tb := tb_in 1383 (by decide +kernel) (by decide +kernel)
theorem kw1384 : Cond.fieldLink "HatHallModel" 59 "HatHallModel" "rulePass" "[I" ∈ tb := tb_in 1384 (by decide +kernel) (by decide +kernel)
theorem kw1385 : Cond.fieldLink "HatHallModel" 62 "HatHallModel" "ruleGuess" "[I" ∈ tb := tb_in 1385 (by decide +kernel) (by decide +kernel)
theorem kw1386 : Cond.fieldLink "HatHallModel" 65 "HatHallModel" "read" "[I" ∈ tb := tb_in 1386 (by decide +kernel) (by decide +kernel)
theorem kw1387 : Cond.fieldLink "HatHallModel" 68 "HatHallModel" "waits" "[I" ∈ tb := tb_in 1387 (by decide +kernel) (by decide +kernel)
theorem kw1388 : Cond.fieldLink "HatHallModel" 71 "HatHallModel" "tested" "[Z" ∈ tb := tb_in 1388 (by decide +kernel) (by decide +kernel)
theorem kw1389 : Cond.fieldLink "HatHallModel" 75 "HatHallModel" "hat" "[I" ∈ tb := tb_in 1389 (by decide +kernel) (by decide +kernel)
theorem kw1390 : Cond.fieldLink "HatHallModel" 78 "HatHallModel" "guess" "[I" ∈ tb := tb_in 1390 (by decide +kernel) (by decide +kernel)
theorem kw1391 : Cond.fieldLink "HatHallModel" 81 "HatHallModel" "pile" "[I" ∈ tb := tb_in 1391 (by decide +kernel) (by decide +kernel)
theorem kw1392 : Cond.fieldLink "HatHallModel" 195 "HatHallModel" "isWorked" "Z" ∈ tb := tb_in 1392 (by decide +kernel) (by decide +kernel)
theorem kw1393 : Cond.fieldLink "HatHallModel" 84 "HatHallModel" "rightIn" "[I" ∈ tb := tb_in 1393 (by decide +kernel) (by decide +kernel)
theorem kw1394 : Cond.fieldLink "HatHallModel" 87 "HatHallModel" "wrongIn" "[I" ∈ tb := tb_in 1394 (by decide +kernel) (by decide +kernel)
theorem kw1395 : Cond.fieldLink "HatHallModel" 91 "HatHallModel" "guessIn" "[I" ∈ tb := tb_in 1395 (by decide +kernel) (by decide +kernel)
theorem kw1396 : Cond.fieldLink "HatHallModel" 94 "HatHallModel" "turn" "[I" ∈ tb := tb_in 1396 (by decide +kernel) (by decide +kernel)
theorem kw1397 : Cond.fieldLink "HatHallModel" 97 "HatHallModel" "settled" "[I" ∈ tb := tb_in 1397 (by decide +kernel) (by decide +kernel)
theorem kw1398 : Cond.fieldLink "HatHallModel" 100 "HatHallModel" "viewIn" "[I" ∈ tb := tb_in 1398 (by decide +kernel) (by decide +kernel)
theorem kw1399 : Cond.fieldLink "HatHallModel" 103 "HatHallModel" "doneRow" "[I" ∈ tb := tb_in 1399 (by decide +kernel) (by decide +kernel)
theorem kw1400 : Cond.fieldLink "HatHallModel" 106 "HatHallModel" "doneWearer" "[I" ∈ tb := tb_in 1400 (by decide +kernel) (by decide +kernel)
theorem kw1401 : Cond.fieldLink "HatHallModel" 109 "HatHallModel" "stepsMade" "I" ∈ tb := tb_in 1401 (by decide +kernel) (by decide +kernel)
theorem kw1402 : Cond.fieldLink "HatHallModel" 403 "HatHallModel" "summed" "I" ∈ tb := tb_in 1402 (by decide +kernel) (by decide +kernel)
theorem kw1403 : Cond.fieldLink "HatHallModel" 112 "HatHallModel" "constant" "[I" ∈ tb := tb_in 1403 (by decide +kernel) (by decide +kernel)
theorem kw1404 : Cond.fieldLink "HatHallModel" 115 "HatHallModel" "trying" "[I" ∈ tb := tb_in 1404 (by decide +kernel) (by decide +kernel)
theorem kw1405 : Cond.fieldLink "HatHallModel" 118 "HatHallModel" "seenIn" "[I" ∈ tb := tb_in 1405 (by decide +kernel) (by decide +kernel)
theorem kw1406 : Cond.fieldLink "HatHallModel" 409 "HatHallModel" "givenMany" "I" ∈ tb := tb_in 1406 (by decide +kernel) (by decide +kernel)
theorem kw1407 : Cond.fieldLink "HatHallModel" 121 "HatHallModel" "given" "[I" ∈ tb := tb_in 1407 (by decide +kernel) (by decide +kernel)
theorem kw1408 : Cond.fieldLink "HatHallModel" 124 "HatHallModel" "ball" "[I" ∈ tb := tb_in 1408 (by decide +kernel) (by decide +kernel)
theorem kw1409 : Cond.fieldLink "HatHallModel" 127 "HatHallModel" "lastOf" "[I" ∈ tb := tb_in 1409 (by decide +kernel) (by decide +kernel)
theorem kw1410 : Cond.fieldLink "HatHallModel" 130 "HatHallModel" "coverOf" "[I" ∈ tb := tb_in 1410 (by decide +kernel) (by decide +kernel)
theorem kw1411 : Cond.fieldLink "HatHallModel" 133 "HatHallModel" "foundMany" "[I" ∈ tb := tb_in 1411 (by decide +kernel) (by decide +kernel)
theorem kw1412 : Cond.fieldLink "HatHallModel" 136 "HatHallModel" "found" "[I" ∈ tb := tb_in 1412 (by decide +kernel) (by decide +kernel)
theorem kw1413 : Cond.fieldLink "HatHallModel" 139 "HatHallModel" "more" "[I" ∈ tb := tb_in 1413 (by decide +kernel) (by decide +kernel)
theorem kw1414 : Cond.fieldLink "HatHallModel" 431 "HatHallModel" "bestMore" "I" ∈ tb := tb_in 1414 (by decide +kernel) (by decide +kernel)
theorem kw1415 : Cond.fieldLink "HatHallModel" 434 "HatHallModel" "bestWearer" "I" ∈ tb := tb_in 1415 (by decide +kernel) (by decide +kernel)
theorem kw1416 : Cond.fieldLink "HatHallModel" 437 "HatHallModel" "bestView" "I" ∈ tb := tb_in 1416 (by decide +kernel) (by decide +kernel)
theorem kw1417 : Cond.fieldLink "HatHallModel" 440 "HatHallModel" "bestGuess" "I" ∈ tb := tb_in 1417 (by decide +kernel) (by decide +kernel)
theorem kw1418 : Cond.fieldLink "HatHallModel" 142 "HatHallModel" "slotN" "[I" ∈ tb := tb_in 1418 (by decide +kernel) (by decide +kernel)
theorem kw1419 : Cond.fieldLink "HatHallModel" 145 "HatHallModel" "slotQ" "[I" ∈ tb := tb_in 1419 (by decide +kernel) (by decide +kernel)
theorem kw1420 : Cond.fieldLink "HatHallModel" 148 "HatHallModel" "slotLooks" "[I" ∈ tb := tb_in 1420 (by decide +kernel) (by decide +kernel)
theorem kw1421 : Cond.fieldLink "HatHallModel" 151 "HatHallModel" "slotRound" "[I" ∈ tb := tb_in 1421 (by decide +kernel) (by decide +kernel)
theorem kw1422 : Cond.fieldLink "HatHallModel" 154 "HatHallModel" "slotKind" "[I" ∈ tb := tb_in 1422 (by decide +kernel) (by decide +kernel)
theorem kw1423 : Cond.fieldLink "HatHallModel" 158 "HatHallModel" "slotTable" "[I" ∈ tb := tb_in 1423 (by decide +kernel) (by decide +kernel)
theorem kw1424 : Cond.fieldLink "HatHallModel" 161 "HatHallModel" "slotCode" "[I" ∈ tb := tb_in 1424 (by decide +kernel) (by decide +kernel)
theorem kw1425 : Cond.fieldLink "HatHallModel" 164 "HatHallModel" "slotPass" "[I" ∈ tb := tb_in 1425 (by decide +kernel) (by decide +kernel)
theorem kw1426 : Cond.fieldLink "HatHallModel" 167 "HatHallModel" "slotGuess" "[I" ∈ tb := tb_in 1426 (by decide +kernel) (by decide +kernel)
theorem kw1578 : Cond.methodLink "HatHallLaw" 91 yX11_thrown ∈ tb := tb_in 1578 (by decide +kernel) (by decide +kernel)
theorem kw1579 : Cond.instanceMethod yX11_thrown ∈ tb := tb_in 1579 (by decide +kernel) (by decide +kernel)
theorem kw1580 : Cond.selects "HatHallModel" yX11_thrown yX11_thrown ∈ tb := tb_in 1580 (by decide +kernel) (by decide +kernel)
theorem kw1581 : Cond.code yX11_thrown cX11_thrown 1 (some .int) ∈ tb := tb_in 1581 (by decide +kernel) (by decide +kernel)
theorem kw1582 : Cond.methodLink "HatHallLaw" 84 yX11_hall ∈ tb := tb_in 1582 (by decide +kernel) (by decide +kernel)
theorem kw1583 : Cond.instanceMethod yX11_hall ∈ tb := tb_in 1583 (by decide +kernel) (by decide +kernel)
theorem kw1584 : Cond.selects "HatHallModel" yX11_hall yX11_hall ∈ tb := tb_in 1584 (by decide +kernel) (by decide +kernel)
theorem kw1585 : Cond.code yX11_hall cX11_hall 5 (some .boolean) ∈ tb := tb_in 1585 (by decide +kernel) (by decide +kernel)
theorem kw1586 : Cond.methodLink "HatHallModel" 199 yX11_within ∈ tb := tb_in 1586 (by decide +kernel) (by decide +kernel)
theorem kw1587 : Cond.static yX11_within ∈ tb := tb_in 1587 (by decide +kernel) (by decide +kernel)
theorem kw1588 : Cond.code yX11_within cX11_within 3 (some .boolean) ∈ tb := tb_in 1588 (by decide +kernel) (by decide +kernel)
theorem kw1589 : Cond.methodLink "HatHallLaw" 90 yX11_looks ∈ tb := tb_in 1589 (by decide +kernel) (by decide +kernel)
theorem kw1590 : Cond.instanceMethod yX11_looks ∈ tb := tb_in 1590 (by decide +kernel) (by decide +kernel)
theorem kw1591 : Cond.selects "HatHallModel" yX11_looks yX11_looks ∈ tb := tb_in 1591 (by decide +kernel) (by decide +kernel)
theorem kw1592 : Cond.code yX11_looks cX11_looks 4 (some .boolean) ∈ tb := tb_in 1592 (by decide +kernel) (by decide +kernel)
theorem kw1593 : Cond.methodLink "HatHallModel" 207 yX11_isWearer ∈ tb := tb_in 1593 (by decide +kernel) (by decide +kernel)
theorem kw1595 : Cond.instanceMethod yX11_isWearer ∈ tb := tb_in 1595 (by decide +kernel) (by decide +kernel)
theorem kw1596 : Cond.code yX11_isWearer cX11_isWearer 2 (some .boolean) ∈ tb := tb_in 1596 (by decide +kernel) (by decide +kernel)
theorem kw1597 : Cond.methodLink "HatHallModel" 203 yX11_right ∈ tb := tb_in 1597 (by decide +kernel) (by decide +kernel)
theorem kw1599 : Cond.instanceMethod yX11_right ∈ tb := tb_in 1599 (by decide +kernel) (by decide +kernel)
theorem kw1600 : Cond.code yX11_right cX11_right 3 (some .boolean) ∈ tb := tb_in 1600 (by decide +kernel) (by decide +kernel)
theorem kw1601 : Cond.methodLink "HatHallLaw" 96 yX11_round ∈ tb := tb_in 1601 (by decide +kernel) (by decide +kernel)
theorem kw1602 : Cond.instanceMethod yX11_round ∈ tb := tb_in 1602 (by decide +kernel) (by decide +kernel)
theorem kw1603 : Cond.selects "HatHallModel" yX11_round yX11_round ∈ tb := tb_in 1603 (by decide +kernel) (by decide +kernel)
theorem kw1604 : Cond.code yX11_round cX11_round 4 (some .boolean) ∈ tb := tb_in 1604 (by decide +kernel) (by decide +kernel)
theorem kw1605 : Cond.methodLink "HatHallLaw" 100 yX11_heap ∈ tb := tb_in 1605 (by decide +kernel) (by decide +kernel)
theorem kw1606 : Cond.instanceMethod yX11_heap ∈ tb := tb_in 1606 (by decide +kernel) (by decide +kernel)
theorem kw1607 : Cond.selects "HatHallModel" yX11_heap yX11_heap ∈ tb := tb_in 1607 (by decide +kernel) (by decide +kernel)
theorem kw1608 : Cond.code yX11_heap cX11_heap 3 (some .boolean) ∈ tb := tb_in 1608 (by decide +kernel) (by decide +kernel)
theorem kw1609 : Cond.methodLink "HatHallLaw" 104 yX11_law ∈ tb := tb_in 1609 (by decide +kernel) (by decide +kernel)
theorem kw1610 : Cond.instanceMethod yX11_law ∈ tb := tb_in 1610 (by decide +kernel) (by decide +kernel)
theorem kw1611 : Cond.selects "HatHallModel" yX11_law yX11_law ∈ tb := tb_in 1611 (by decide +kernel) (by decide +kernel)
theorem kw1612 : Cond.code yX11_law cX11_law 3 (some .boolean) ∈ tb := tb_in 1612 (by decide +kernel) (by decide +kernel)
theorem kw1613 : Cond.methodLink "HatHallLaw" 109 yX11_feed ∈ tb := tb_in 1613 (by decide +kernel) (by decide +kernel)
theorem kw1614 : Cond.instanceMethod yX11_feed ∈ tb := tb_in 1614 (by decide +kernel) (by decide +kernel)
theorem kw1615 : Cond.selects "HatHallModel" yX11_feed yX11_feed ∈ tb := tb_in 1615 (by decide +kernel) (by decide +kernel)
theorem kw1616 : Cond.code yX11_feed cX11_feed 6 (some .int) ∈ tb := tb_in 1616 (by decide +kernel) (by decide +kernel)
theorem kw1617 : Cond.methodLink "HatHallModel" 217 yX11_lays ∈ tb := tb_in 1617 (by decide +kernel) (by decide +kernel)
theorem kw1619 : Cond.instanceMethod yX11_lays ∈ tb := tb_in 1619 (by decide +kernel) (by decide +kernel)
theorem kw1620 : Cond.code yX11_lays cX11_lays 3 none ∈ tb := tb_in 1620 (by decide +kernel) (by decide +kernel)
theorem kw1621 : Cond.methodLink "HatHallLaw" 113 yX11_rules ∈ tb := tb_in 1621 (by decide +kernel) (by decide +kernel)
theorem kw1622 : Cond.instanceMethod yX11_rules ∈ tb := tb_in 1622 (by decide +kernel) (by decide +kernel)
theorem kw1623 : Cond.selects "HatHallModel" yX11_rules yX11_rules ∈ tb := tb_in 1623 (by decide +kernel) (by decide +kernel)
theorem kw1624 : Cond.code yX11_rules cX11_rules 5 (some .int) ∈ tb := tb_in 1624 (by decide +kernel) (by decide +kernel)
theorem kw1625 : Cond.methodLink "HatHallModel" 284 yX11_goes ∈ tb := tb_in 1625 (by decide +kernel) (by decide +kernel)
theorem kw1627 : Cond.instanceMethod yX11_goes ∈ tb := tb_in 1627 (by decide +kernel) (by decide +kernel)
theorem kw1628 : Cond.code yX11_goes cX11_goes 2 none ∈ tb := tb_in 1628 (by decide +kernel) (by decide +kernel)
theorem kw1629 : Cond.methodLink "HatHallModel" 226 yX11_byteAt ∈ tb := tb_in 1629 (by decide +kernel) (by decide +kernel)
theorem kw1631 : Cond.instanceMethod yX11_byteAt ∈ tb := tb_in 1631 (by decide +kernel) (by decide +kernel)
theorem kw1632 : Cond.code yX11_byteAt cX11_byteAt 2 (some .int) ∈ tb := tb_in 1632 (by decide +kernel) (by decide +kernel)
theorem kw1633 : Cond.methodLink "HatHallModel" 245 yX11_isLetter ∈ tb := tb_in 1633 (by decide +kernel) (by decide +kernel)
theorem kw1634 : Cond.static yX11_isLetter ∈ tb := tb_in 1634 (by decide +kernel) (by decide +kernel)
theorem kw1635 : Cond.code yX11_isLetter cX11_isLetter 1 (some .boolean) ∈ tb := tb_in 1635 (by decide +kernel) (by decide +kernel)
theorem kw1636 : Cond.methodLink "HatHallModel" 248 yX11_isDigit ∈ tb := tb_in 1636 (by decide +kernel) (by decide +kernel)
theorem kw1637 : Cond.static yX11_isDigit ∈ tb := tb_in 1637 (by decide +kernel) (by decide +kernel)
theorem kw1638 : Cond.code yX11_isDigit cX11_isDigit 1 (some .boolean) ∈ tb := tb_in 1638 (by decide +kernel) (by decide +kernel)
theorem kw1639 : Cond.methodLink "HatHallModel" 277 yX11_isGood ∈ tb := tb_in 1639 (by decide +kernel) (by decide +kernel)
theorem kw1641 : Cond.instanceMethod yX11_isGood ∈ tb := tb_in 1641 (by decide +kernel) (by decide +kernel)
theorem kw1642 : Cond.code yX11_isGood cX11_isGood 1 (some .boolean) ∈ tb := tb_in 1642 (by decide +kernel) (by decide +kernel)
theorem kw1643 : Cond.methodLink "HatHallModel" 321 yX11_rule ∈ tb := tb_in 1643 (by decide +kernel) (by decide +kernel)
theorem kw1645 : Cond.instanceMethod yX11_rule ∈ tb := tb_in 1645 (by decide +kernel) (by decide +kernel)
theorem kw1646 : Cond.code yX11_rule cX11_rule 4 none ∈ tb := tb_in 1646 (by decide +kernel) (by decide +kernel)
theorem kw1647 : Cond.methodLink "HatHallModel" 287 yX11_knownWord ∈ tb := tb_in 1647 (by decide +kernel) (by decide +kernel)
theorem kw1649 : Cond.instanceMethod yX11_knownWord ∈ tb := tb_in 1649 (by decide +kernel) (by decide +kernel)
theorem kw1650 : Cond.code yX11_knownWord cX11_knownWord 2 (some .int) ∈ tb := tb_in 1650 (by decide +kernel) (by decide +kernel)
theorem kw1651 : Cond.methodLink "HatHallModel" 258 yX11_letters ∈ tb := tb_in 1651 (by decide +kernel) (by decide +kernel)
theorem kw1652 : Cond.static yX11_letters ∈ tb := tb_in 1652 (by decide +kernel) (by decide +kernel)
theorem kw1653 : Cond.code yX11_letters cX11_letters 1 (some .long) ∈ tb := tb_in 1653 (by decide +kernel) (by decide +kernel)
theorem kw1654 : Cond.methodLink "HatHallModel" 254 yX11_spelled ∈ tb := tb_in 1654 (by decide +kernel) (by decide +kernel)
theorem kw1655 : Cond.static yX11_spelled ∈ tb := tb_in 1655 (by decide +kernel) (by decide +kernel)
theorem kw1656 : Cond.code yX11_spelled cX11_spelled 8 (some .long) ∈ tb := tb_in 1656 (by decide +kernel) (by decide +kernel)
theorem kw1657 : Cond.methodLink "HatHallModel" 281 yX11_wrong ∈ tb := tb_in 1657 (by decide +kernel) (by decide +kernel)
theorem kw1659 : Cond.instanceMethod yX11_wrong ∈ tb := tb_in 1659 (by decide +kernel) (by decide +kernel)
theorem kw1660 : Cond.code yX11_wrong cX11_wrong 2 none ∈ tb := tb_in 1660 (by decide +kernel) (by decide +kernel)
theorem kw1661 : Cond.methodLink "HatHallModel" 290 yX11_wearer ∈ tb := tb_in 1661 (by decide +kernel) (by decide +kernel)
theorem kw1663 : Cond.instanceMethod yX11_wearer ∈ tb := tb_in 1663 (by decide +kernel) (by decide +kernel)
theorem kw1664 : Cond.code yX11_wearer cX11_wearer 2 (some .int) ∈ tb := tb_in 1664 (by decide +kernel) (by decide +kernel)
theorem kw1665 : Cond.methodLink "HatHallModel" 318 yX11_expression ∈ tb := tb_in 1665 (by decide +kernel) (by decide +kernel)
theorem kw1667 : Cond.instanceMethod yX11_expression ∈ tb := tb_in 1667 (by decide +kernel) (by decide +kernel)
theorem kw1668 : Cond.code yX11_expression cX11_expression 4 (some .int) ∈ tb := tb_in 1668 (by decide +kernel) (by decide +kernel)
theorem kw1669 : Cond.methodLink "HatHallModel" 302 yX11_begins ∈ tb := tb_in 1669 (by decide +kernel) (by decide +kernel)
theorem kw1671 : Cond.instanceMethod yX11_begins ∈ tb := tb_in 1671 (by decide +kernel) (by decide +kernel)
theorem kw1672 : Cond.code yX11_begins cX11_begins 1 none ∈ tb := tb_in 1672 (by decide +kernel) (by decide +kernel)
theorem kw1673 : Cond.methodLink "HatHallModel" 296 yX11_isSign ∈ tb := tb_in 1673 (by decide +kernel) (by decide +kernel)
theorem kw1675 : Cond.instanceMethod yX11_isSign ∈ tb := tb_in 1675 (by decide +kernel) (by decide +kernel)
theorem kw1676 : Cond.code yX11_isSign cX11_isSign 2 (some .boolean) ∈ tb := tb_in 1676 (by decide +kernel) (by decide +kernel)
theorem kw1677 : Cond.methodLink "HatHallModel" 308 yX11_operand ∈ tb := tb_in 1677 (by decide +kernel) (by decide +kernel)
theorem kw1679 : Cond.instanceMethod yX11_operand ∈ tb := tb_in 1679 (by decide +kernel) (by decide +kernel)
theorem kw1680 : Cond.code yX11_operand cX11_operand 5 none ∈ tb := tb_in 1680 (by decide +kernel) (by decide +kernel)
theorem kw1681 : Cond.methodLink "HatHallModel" 299 yX11_waitsFor ∈ tb := tb_in 1681 (by decide +kernel) (by decide +kernel)
theorem kw1683 : Cond.instanceMethod yX11_waitsFor ∈ tb := tb_in 1683 (by decide +kernel) (by decide +kernel)
theorem kw1684 : Cond.code yX11_waitsFor cX11_waitsFor 2 none ∈ tb := tb_in 1684 (by decide +kernel) (by decide +kernel)
theorem kw1685 : Cond.methodLink "HatHallModel" 305 yX11_part ∈ tb := tb_in 1685 (by decide +kernel) (by decide +kernel)
theorem kw1687 : Cond.instanceMethod yX11_part ∈ tb := tb_in 1687 (by decide +kernel) (by decide +kernel)
theorem kw1688 : Cond.code yX11_part cX11_part 3 none ∈ tb := tb_in 1688 (by decide +kernel) (by decide +kernel)
theorem kw1689 : Cond.methodLink "HatHallModel" 274 yX11_puts ∈ tb := tb_in 1689 (by decide +kernel) (by decide +kernel)
theorem kw1691 : Cond.instanceMethod yX11_puts ∈ tb := tb_in 1691 (by decide +kernel) (by decide +kernel)
theorem kw1692 : Cond.code yX11_puts cX11_puts 2 none ∈ tb := tb_in 1692 (by decide +kernel) (by decide +kernel)
theorem kw1693 : Cond.methodLink "HatHallModel" 312 yX11_drops ∈ tb := tb_in 1693 (by decide +kernel) (by decide +kernel)
theorem kw1695 : Cond.instanceMethod yX11_drops ∈ tb := tb_in 1695 (by decide +kernel) (by decide +kernel)
theorem kw1696 : Cond.code yX11_drops cX11_drops 2 none ∈ tb := tb_in 1696 (by decide +kernel) (by decide +kernel)
theorem kw1697 : Cond.methodLink "HatHallModel" 271 yX11_strength ∈ tb := tb_in 1697 (by decide +kernel) (by decide +kernel)
theorem kw1698 : Cond.static yX11_strength ∈ tb := tb_in 1698 (by decide +kernel) (by decide +kernel)
theorem kw1699 : Cond.code yX11_strength cX11_strength 1 (some .int) ∈ tb := tb_in 1699 (by decide +kernel) (by decide +kernel)
theorem kw1700 : Cond.methodLink "HatHallModel" 324 yX11_copies ∈ tb := tb_in 1700 (by decide +kernel) (by decide +kernel)
theorem kw1702 : Cond.instanceMethod yX11_copies ∈ tb := tb_in 1702 (by decide +kernel) (by decide +kernel)
theorem kw1703 : Cond.code yX11_copies cX11_copies 7 (some .int) ∈ tb := tb_in 1703 (by decide +kernel) (by decide +kernel)
theorem kw1704 : Cond.methodLink "HatHallLaw" 117 yX11_fault ∈ tb := tb_in 1704 (by decide +kernel) (by decide +kernel)
theorem kw1705 : Cond.instanceMethod yX11_fault ∈ tb := tb_in 1705 (by decide +kernel) (by decide +kernel)
theorem kw1706 : Cond.selects "HatHallModel" yX11_fault yX11_fault ∈ tb := tb_in 1706 (by decide +kernel) (by decide +kernel)
theorem kw1707 : Cond.code yX11_fault cX11_fault 1 (some .int) ∈ tb := tb_in 1707 (by decide +kernel) (by decide +kernel)
theorem kw1708 : Cond.methodLink "HatHallLaw" 120 yX11_about ∈ tb := tb_in 1708 (by decide +kernel) (by decide +kernel)
theorem kw1709 : Cond.instanceMethod yX11_about ∈ tb := tb_in 1709 (by decide +kernel) (by decide +kernel)
theorem kw1710 : Cond.selects "HatHallModel" yX11_about yX11_about ∈ tb := tb_in 1710 (by decide +kernel) (by decide +kernel)
theorem kw1711 : Cond.code yX11_about cX11_about 4 (some .int) ∈ tb := tb_in 1711 (by decide +kernel) (by decide +kernel)
theorem kw1712 : Cond.methodLink "HatHallLaw" 124 yX11_tell ∈ tb := tb_in 1712 (by decide +kernel) (by decide +kernel)
theorem kw1713 : Cond.instanceMethod yX11_tell ∈ tb := tb_in 1713 (by decide +kernel) (by decide +kernel)
theorem kw1714 : Cond.selects "HatHallModel" yX11_tell yX11_tell ∈ tb := tb_in 1714 (by decide +kernel) (by decide +kernel)
theorem kw1715 : Cond.code yX11_tell cX11_tell 5 (some .boolean) ∈ tb := tb_in 1715 (by decide +kernel) (by decide +kernel)
theorem kw1716 : Cond.methodLink "HatHallLaw" 127 yX11_cell ∈ tb := tb_in 1716 (by decide +kernel) (by decide +kernel)
theorem kw1717 : Cond.instanceMethod yX11_cell ∈ tb := tb_in 1717 (by decide +kernel) (by decide +kernel)
theorem kw1718 : Cond.selects "HatHallModel" yX11_cell yX11_cell ∈ tb := tb_in 1718 (by decide +kernel) (by decide +kernel)
theorem kw1719 : Cond.code yX11_cell cX11_cell 3 (some .int) ∈ tb := tb_in 1719 (by decide +kernel) (by decide +kernel)
theorem kw1720 : Cond.methodLink "HatHallLaw" 130 yX11_in ∈ tb := tb_in 1720 (by decide +kernel) (by decide +kernel)
theorem kw1721 : Cond.instanceMethod yX11_in ∈ tb := tb_in 1721 (by decide +kernel) (by decide +kernel)
theorem kw1722 : Cond.selects "HatHallModel" yX11_in yX11_in ∈ tb := tb_in 1722 (by decide +kernel) (by decide +kernel)
theorem kw1723 : Cond.code yX11_in cX11_in 5 (some .int) ∈ tb := tb_in 1723 (by decide +kernel) (by decide +kernel)
theorem kw1724 : Cond.methodLink "HatHallModel" 357 yX11_isRow ∈ tb := tb_in 1724 (by decide +kernel) (by decide +kernel)
theorem kw1726 : Cond.instanceMethod yX11_isRow ∈ tb := tb_in 1726 (by decide +kernel) (by decide +kernel)
theorem kw1727 : Cond.code yX11_isRow cX11_isRow 2 (some .boolean) ∈ tb := tb_in 1727 (by decide +kernel) (by decide +kernel)
theorem kw1728 : Cond.methodLink "HatHallModel" 360 yX11_worksAll ∈ tb := tb_in 1728 (by decide +kernel) (by decide +kernel)
theorem kw1730 : Cond.instanceMethod yX11_worksAll ∈ tb := tb_in 1730 (by decide +kernel) (by decide +kernel)
theorem kw1731 : Cond.code yX11_worksAll cX11_worksAll 3 none ∈ tb := tb_in 1731 (by decide +kernel) (by decide +kernel)
theorem kw1732 : Cond.methodLink "HatHallModel" 351 yX11_worksRow ∈ tb := tb_in 1732 (by decide +kernel) (by decide +kernel)
theorem kw1734 : Cond.instanceMethod yX11_worksRow ∈ tb := tb_in 1734 (by decide +kernel) (by decide +kernel)
theorem kw1735 : Cond.code yX11_worksRow cX11_worksRow 4 none ∈ tb := tb_in 1735 (by decide +kernel) (by decide +kernel)
theorem kw1736 : Cond.methodLink "HatHallModel" 345 yX11_wears ∈ tb := tb_in 1736 (by decide +kernel) (by decide +kernel)
theorem kw1738 : Cond.instanceMethod yX11_wears ∈ tb := tb_in 1738 (by decide +kernel) (by decide +kernel)
theorem kw1739 : Cond.code yX11_wears cX11_wears 4 none ∈ tb := tb_in 1739 (by decide +kernel) (by decide +kernel)
theorem kw1740 : Cond.methodLink "HatHallModel" 348 yX11_guesses ∈ tb := tb_in 1740 (by decide +kernel) (by decide +kernel)
theorem kw1742 : Cond.instanceMethod yX11_guesses ∈ tb := tb_in 1742 (by decide +kernel) (by decide +kernel)
theorem kw1743 : Cond.code yX11_guesses cX11_guesses 3 (some .int) ∈ tb := tb_in 1743 (by decide +kernel) (by decide +kernel)
theorem kw1744 : Cond.methodLink "HatHallModel" 339 yX11_viewOf ∈ tb := tb_in 1744 (by decide +kernel) (by decide +kernel)
theorem kw1746 : Cond.instanceMethod yX11_viewOf ∈ tb := tb_in 1746 (by decide +kernel) (by decide +kernel)
theorem kw1747 : Cond.code yX11_viewOf cX11_viewOf 6 (some .int) ∈ tb := tb_in 1747 (by decide +kernel) (by decide +kernel)
theorem kw1748 : Cond.methodLink "HatHallModel" 342 yX11_worth ∈ tb := tb_in 1748 (by decide +kernel) (by decide +kernel)
theorem kw1750 : Cond.instanceMethod yX11_worth ∈ tb := tb_in 1750 (by decide +kernel) (by decide +kernel)
theorem kw1751 : Cond.code yX11_worth cX11_worth 6 (some .int) ∈ tb := tb_in 1751 (by decide +kernel) (by decide +kernel)
theorem kw1752 : Cond.methodLink "HatHallModel" 332 yX11_valueOf ∈ tb := tb_in 1752 (by decide +kernel) (by decide +kernel)
theorem kw1754 : Cond.instanceMethod yX11_valueOf ∈ tb := tb_in 1754 (by decide +kernel) (by decide +kernel)
theorem kw1755 : Cond.code yX11_valueOf cX11_valueOf 4 (some .int) ∈ tb := tb_in 1755 (by decide +kernel) (by decide +kernel)
theorem kw1756 : Cond.methodLink "HatHallModel" 328 yX11_sum ∈ tb := tb_in 1756 (by decide +kernel) (by decide +kernel)
theorem kw1758 : Cond.instanceMethod yX11_sum ∈ tb := tb_in 1758 (by decide +kernel) (by decide +kernel)
theorem kw1759 : Cond.code yX11_sum cX11_sum 5 (some .int) ∈ tb := tb_in 1759 (by decide +kernel) (by decide +kernel)
theorem kw1760 : Cond.methodLink "HatHallModel" 336 yX11_works ∈ tb := tb_in 1760 (by decide +kernel) (by decide +kernel)
theorem kw1761 : Cond.static yX11_works ∈ tb := tb_in 1761 (by decide +kernel) (by decide +kernel)
theorem kw1762 : Cond.code yX11_works cX11_works 3 (some .int) ∈ tb := tb_in 1762 (by decide +kernel) (by decide +kernel)
theorem kw1763 : Cond.methodLink "HatHallLaw" 133 yX11_row ∈ tb := tb_in 1763 (by decide +kernel) (by decide +kernel)
theorem kw1764 : Cond.instanceMethod yX11_row ∈ tb := tb_in 1764 (by decide +kernel) (by decide +kernel)
theorem kw1765 : Cond.selects "HatHallModel" yX11_row yX11_row ∈ tb := tb_in 1765 (by decide +kernel) (by decide +kernel)
theorem kw1766 : Cond.code yX11_row cX11_row 4 (some .int) ∈ tb := tb_in 1766 (by decide +kernel) (by decide +kernel)
theorem kw1767 : Cond.methodLink "HatHallModel" 363 yX11_counts ∈ tb := tb_in 1767 (by decide +kernel) (by decide +kernel)
theorem kw1769 : Cond.instanceMethod yX11_counts ∈ tb := tb_in 1769 (by decide +kernel) (by decide +kernel)
theorem kw1770 : Cond.code yX11_counts cX11_counts 4 (some .boolean) ∈ tb := tb_in 1770 (by decide +kernel) (by decide +kernel)
theorem kw1771 : Cond.methodLink "HatHallModel" 354 yX11_many ∈ tb := tb_in 1771 (by decide +kernel) (by decide +kernel)
theorem kw1773 : Cond.instanceMethod yX11_many ∈ tb := tb_in 1773 (by decide +kernel) (by decide +kernel)
theorem kw1774 : Cond.code yX11_many cX11_many 6 (some .int) ∈ tb := tb_in 1774 (by decide +kernel) (by decide +kernel)
theorem kw1775 : Cond.methodLink "HatHallModel" 366 yX11_isWon ∈ tb := tb_in 1775 (by decide +kernel) (by decide +kernel)
theorem kw1777 : Cond.instanceMethod yX11_isWon ∈ tb := tb_in 1777 (by decide +kernel) (by decide +kernel)
theorem kw1778 : Cond.code yX11_isWon cX11_isWon 4 (some .boolean) ∈ tb := tb_in 1778 (by decide +kernel) (by decide +kernel)
theorem kw1779 : Cond.methodLink "HatHallLaw" 136 yX11_won ∈ tb := tb_in 1779 (by decide +kernel) (by decide +kernel)
theorem kw1780 : Cond.instanceMethod yX11_won ∈ tb := tb_in 1780 (by decide +kernel) (by decide +kernel)
theorem kw1781 : Cond.selects "HatHallModel" yX11_won yX11_won ∈ tb := tb_in 1781 (by decide +kernel) (by decide +kernel)
theorem kw1782 : Cond.code yX11_won cX11_won 5 (some .long) ∈ tb := tb_in 1782 (by decide +kernel) (by decide +kernel)
theorem kw1783 : Cond.methodLink "HatHallModel" 370 yX11_weight ∈ tb := tb_in 1783 (by decide +kernel) (by decide +kernel)
theorem kw1785 : Cond.instanceMethod yX11_weight ∈ tb := tb_in 1785 (by decide +kernel) (by decide +kernel)
theorem kw1786 : Cond.code yX11_weight cX11_weight 6 (some .long) ∈ tb := tb_in 1786 (by decide +kernel) (by decide +kernel)
theorem kw1787 : Cond.methodLink "HatHallLaw" 140 yX11_beaten ∈ tb := tb_in 1787 (by decide +kernel) (by decide +kernel)
theorem kw1788 : Cond.instanceMethod yX11_beaten ∈ tb := tb_in 1788 (by decide +kernel) (by decide +kernel)
theorem kw1789 : Cond.selects "HatHallModel" yX11_beaten yX11_beaten ∈ tb := tb_in 1789 (by decide +kernel) (by decide +kernel)
theorem kw1790 : Cond.code yX11_beaten cX11_beaten 4 (some .int) ∈ tb := tb_in 1790 (by decide +kernel) (by decide +kernel)
theorem kw1791 : Cond.methodLink "HatHallLaw" 144 yX11_tally ∈ tb := tb_in 1791 (by decide +kernel) (by decide +kernel)
theorem kw1792 : Cond.instanceMethod yX11_tally ∈ tb := tb_in 1792 (by decide +kernel) (by decide +kernel)
theorem kw1793 : Cond.selects "HatHallModel" yX11_tally yX11_tally ∈ tb := tb_in 1793 (by decide +kernel) (by decide +kernel)
theorem kw1794 : Cond.code yX11_tally cX11_tally 4 (some .int) ∈ tb := tb_in 1794 (by decide +kernel) (by decide +kernel)
theorem kw1795 : Cond.methodLink "HatHallLaw" 147 yX11_rightOf ∈ tb := tb_in 1795 (by decide +kernel) (by decide +kernel)
theorem kw1796 : Cond.instanceMethod yX11_rightOf ∈ tb := tb_in 1796 (by decide +kernel) (by decide +kernel)
theorem kw1797 : Cond.selects "HatHallModel" yX11_rightOf yX11_rightOf ∈ tb := tb_in 1797 (by decide +kernel) (by decide +kernel)
theorem kw1798 : Cond.code yX11_rightOf cX11_rightOf 4 (some .int) ∈ tb := tb_in 1798 (by decide +kernel) (by decide +kernel)
theorem kw1799 : Cond.methodLink "HatHallLaw" 150 yX11_worst ∈ tb := tb_in 1799 (by decide +kernel) (by decide +kernel)
theorem kw1800 : Cond.instanceMethod yX11_worst ∈ tb := tb_in 1800 (by decide +kernel) (by decide +kernel)
theorem kw1801 : Cond.selects "HatHallModel" yX11_worst yX11_worst ∈ tb := tb_in 1801 (by decide +kernel) (by decide +kernel)
theorem kw1802 : Cond.code yX11_worst cX11_worst 3 (some .int) ∈ tb := tb_in 1802 (by decide +kernel) (by decide +kernel)
theorem kw1803 : Cond.methodLink "HatHallModel" 373 yX11_worstRow ∈ tb := tb_in 1803 (by decide +kernel) (by decide +kernel)
theorem kw1805 : Cond.instanceMethod yX11_worstRow ∈ tb := tb_in 1805 (by decide +kernel) (by decide +kernel)
theorem kw1806 : Cond.code yX11_worstRow cX11_worstRow 3 (some .int) ∈ tb := tb_in 1806 (by decide +kernel) (by decide +kernel)
theorem kw1807 : Cond.methodLink "HatHallLaw" 153 yX11_idle ∈ tb := tb_in 1807 (by decide +kernel) (by decide +kernel)
end
section
theorem kw1808 : Cond.instanceMethod yX11_idle ∈ tb := tb_in 1808 (by decide +kernel) (by decide +kernel)
theorem kw1809 : Cond.selects "HatHallModel" yX11_idle yX11_idle ∈ tb := tb_in 1809 (by decide +kernel) (by decide +kernel)
theorem kw1810 : Cond.code yX11_idle cX11_idle 7 (some .int) ∈ tb := tb_in 1810 (by decide +kernel) (by decide +kernel)
theorem kw1811 : Cond.methodLink "HatHallModel" 376 yX11_laysOut ∈ tb := tb_in 1811 (by decide +kernel) (by decide +kernel)
theorem kw1813 : Cond.instanceMethod yX11_laysOut ∈ tb := tb_in 1813 (by decide +kernel) (by decide +kernel)
theorem kw1814 : Cond.code yX11_laysOut cX11_laysOut 3 none ∈ tb := tb_in 1814 (by decide +kernel) (by decide +kernel)
theorem kw1815 : Cond.methodLink "HatHallLaw" 156 yX11_otherwise ∈ tb := tb_in 1815 (by decide +kernel) (by decide +kernel)
theorem kw1816 : Cond.instanceMethod yX11_otherwise ∈ tb := tb_in 1816 (by decide +kernel) (by decide +kernel)
theorem kw1817 : Cond.selects "HatHallModel" yX11_otherwise yX11_otherwise ∈ tb := tb_in 1817 (by decide +kernel) (by decide +kernel)
theorem kw1818 : Cond.code yX11_otherwise cX11_otherwise 6 (some .int) ∈ tb := tb_in 1818 (by decide +kernel) (by decide +kernel)
theorem kw1819 : Cond.methodLink "HatHallLaw" 160 yX11_alike ∈ tb := tb_in 1819 (by decide +kernel) (by decide +kernel)
theorem kw1820 : Cond.instanceMethod yX11_alike ∈ tb := tb_in 1820 (by decide +kernel) (by decide +kernel)
theorem kw1821 : Cond.selects "HatHallModel" yX11_alike yX11_alike ∈ tb := tb_in 1821 (by decide +kernel) (by decide +kernel)
theorem kw1822 : Cond.code yX11_alike cX11_alike 3 (some .int) ∈ tb := tb_in 1822 (by decide +kernel) (by decide +kernel)
theorem kw1823 : Cond.methodLink "HatHallModel" 382 yX11_isAlike ∈ tb := tb_in 1823 (by decide +kernel) (by decide +kernel)
theorem kw1825 : Cond.instanceMethod yX11_isAlike ∈ tb := tb_in 1825 (by decide +kernel) (by decide +kernel)
theorem kw1826 : Cond.code yX11_isAlike cX11_isAlike 4 (some .boolean) ∈ tb := tb_in 1826 (by decide +kernel) (by decide +kernel)
theorem kw1827 : Cond.methodLink "HatHallModel" 385 yX11_turns ∈ tb := tb_in 1827 (by decide +kernel) (by decide +kernel)
theorem kw1829 : Cond.instanceMethod yX11_turns ∈ tb := tb_in 1829 (by decide +kernel) (by decide +kernel)
theorem kw1830 : Cond.code yX11_turns cX11_turns 5 (some .boolean) ∈ tb := tb_in 1830 (by decide +kernel) (by decide +kernel)
theorem kw1831 : Cond.methodLink "HatHallModel" 379 yX11_swaps ∈ tb := tb_in 1831 (by decide +kernel) (by decide +kernel)
theorem kw1833 : Cond.instanceMethod yX11_swaps ∈ tb := tb_in 1833 (by decide +kernel) (by decide +kernel)
theorem kw1834 : Cond.code yX11_swaps cX11_swaps 4 none ∈ tb := tb_in 1834 (by decide +kernel) (by decide +kernel)
theorem kw1835 : Cond.methodLink "HatHallLaw" 164 yX11_ring ∈ tb := tb_in 1835 (by decide +kernel) (by decide +kernel)
theorem kw1836 : Cond.instanceMethod yX11_ring ∈ tb := tb_in 1836 (by decide +kernel) (by decide +kernel)
theorem kw1837 : Cond.selects "HatHallModel" yX11_ring yX11_ring ∈ tb := tb_in 1837 (by decide +kernel) (by decide +kernel)
theorem kw1838 : Cond.code yX11_ring cX11_ring 8 (some .int) ∈ tb := tb_in 1838 (by decide +kernel) (by decide +kernel)
theorem kw1839 : Cond.methodLink "HatHallLaw" 167 yX11_search ∈ tb := tb_in 1839 (by decide +kernel) (by decide +kernel)
theorem kw1840 : Cond.instanceMethod yX11_search ∈ tb := tb_in 1840 (by decide +kernel) (by decide +kernel)
theorem kw1841 : Cond.selects "HatHallModel" yX11_search yX11_search ∈ tb := tb_in 1841 (by decide +kernel) (by decide +kernel)
theorem kw1842 : Cond.code yX11_search cX11_search 7 (some .int) ∈ tb := tb_in 1842 (by decide +kernel) (by decide +kernel)
theorem kw1843 : Cond.methodLink "HatHallModel" 388 yX11_areAtOnce ∈ tb := tb_in 1843 (by decide +kernel) (by decide +kernel)
theorem kw1845 : Cond.instanceMethod yX11_areAtOnce ∈ tb := tb_in 1845 (by decide +kernel) (by decide +kernel)
theorem kw1846 : Cond.code yX11_areAtOnce cX11_areAtOnce 3 (some .boolean) ∈ tb := tb_in 1846 (by decide +kernel) (by decide +kernel)
theorem kw1847 : Cond.methodLink "HatHallModel" 391 yX11_views ∈ tb := tb_in 1847 (by decide +kernel) (by decide +kernel)
theorem kw1849 : Cond.instanceMethod yX11_views ∈ tb := tb_in 1849 (by decide +kernel) (by decide +kernel)
theorem kw1850 : Cond.code yX11_views cX11_views 3 none ∈ tb := tb_in 1850 (by decide +kernel) (by decide +kernel)
theorem kw1851 : Cond.methodLink "HatHallModel" 394 yX11_isSomeRight ∈ tb := tb_in 1851 (by decide +kernel) (by decide +kernel)
theorem kw1853 : Cond.instanceMethod yX11_isSomeRight ∈ tb := tb_in 1853 (by decide +kernel) (by decide +kernel)
theorem kw1854 : Cond.code yX11_isSomeRight cX11_isSomeRight 5 (some .boolean) ∈ tb := tb_in 1854 (by decide +kernel) (by decide +kernel)
theorem kw1855 : Cond.methodLink "HatHallModel" 397 yX11_hatIn ∈ tb := tb_in 1855 (by decide +kernel) (by decide +kernel)
theorem kw1856 : Cond.static yX11_hatIn ∈ tb := tb_in 1856 (by decide +kernel) (by decide +kernel)
theorem kw1857 : Cond.code yX11_hatIn cX11_hatIn 5 (some .int) ∈ tb := tb_in 1857 (by decide +kernel) (by decide +kernel)
theorem kw1858 : Cond.methodLink "HatHallLaw" 171 yX11_steps ∈ tb := tb_in 1858 (by decide +kernel) (by decide +kernel)
theorem kw1859 : Cond.instanceMethod yX11_steps ∈ tb := tb_in 1859 (by decide +kernel) (by decide +kernel)
theorem kw1860 : Cond.selects "HatHallModel" yX11_steps yX11_steps ∈ tb := tb_in 1860 (by decide +kernel) (by decide +kernel)
theorem kw1861 : Cond.code yX11_steps cX11_steps 1 (some .int) ∈ tb := tb_in 1861 (by decide +kernel) (by decide +kernel)
theorem kw1862 : Cond.methodLink "HatHallLaw" 175 yX11_sums ∈ tb := tb_in 1862 (by decide +kernel) (by decide +kernel)
theorem kw1863 : Cond.instanceMethod yX11_sums ∈ tb := tb_in 1863 (by decide +kernel) (by decide +kernel)
theorem kw1864 : Cond.selects "HatHallModel" yX11_sums yX11_sums ∈ tb := tb_in 1864 (by decide +kernel) (by decide +kernel)
theorem kw1865 : Cond.code yX11_sums cX11_sums 6 (some .int) ∈ tb := tb_in 1865 (by decide +kernel) (by decide +kernel)
theorem kw1866 : Cond.methodLink "HatHallModel" 400 yX11_isWonBy ∈ tb := tb_in 1866 (by decide +kernel) (by decide +kernel)
theorem kw1868 : Cond.instanceMethod yX11_isWonBy ∈ tb := tb_in 1868 (by decide +kernel) (by decide +kernel)
theorem kw1869 : Cond.code yX11_isWonBy cX11_isWonBy 4 (some .boolean) ∈ tb := tb_in 1869 (by decide +kernel) (by decide +kernel)
theorem kw1870 : Cond.methodLink "HatHallLaw" 178 yX11_constant ∈ tb := tb_in 1870 (by decide +kernel) (by decide +kernel)
theorem kw1871 : Cond.instanceMethod yX11_constant ∈ tb := tb_in 1871 (by decide +kernel) (by decide +kernel)
theorem kw1872 : Cond.selects "HatHallModel" yX11_constant yX11_constant ∈ tb := tb_in 1872 (by decide +kernel) (by decide +kernel)
theorem kw1873 : Cond.code yX11_constant cX11_constant 2 (some .int) ∈ tb := tb_in 1873 (by decide +kernel) (by decide +kernel)
theorem kw1874 : Cond.methodLink "HatHallLaw" 182 yX11_cover ∈ tb := tb_in 1874 (by decide +kernel) (by decide +kernel)
theorem kw1875 : Cond.instanceMethod yX11_cover ∈ tb := tb_in 1875 (by decide +kernel) (by decide +kernel)
theorem kw1876 : Cond.selects "HatHallModel" yX11_cover yX11_cover ∈ tb := tb_in 1876 (by decide +kernel) (by decide +kernel)
theorem kw1877 : Cond.code yX11_cover cX11_cover 5 (some .int) ∈ tb := tb_in 1877 (by decide +kernel) (by decide +kernel)
theorem kw1878 : Cond.methodLink "HatHallModel" 415 yX11_balls ∈ tb := tb_in 1878 (by decide +kernel) (by decide +kernel)
theorem kw1880 : Cond.instanceMethod yX11_balls ∈ tb := tb_in 1880 (by decide +kernel) (by decide +kernel)
theorem kw1881 : Cond.code yX11_balls cX11_balls 3 none ∈ tb := tb_in 1881 (by decide +kernel) (by decide +kernel)
theorem kw1882 : Cond.methodLink "HatHallModel" 406 yX11_last ∈ tb := tb_in 1882 (by decide +kernel) (by decide +kernel)
theorem kw1883 : Cond.static yX11_last ∈ tb := tb_in 1883 (by decide +kernel) (by decide +kernel)
theorem kw1884 : Cond.code yX11_last cX11_last 2 (some .int) ∈ tb := tb_in 1884 (by decide +kernel) (by decide +kernel)
theorem kw1885 : Cond.methodLink "HatHallModel" 418 yX11_covers ∈ tb := tb_in 1885 (by decide +kernel) (by decide +kernel)
theorem kw1887 : Cond.instanceMethod yX11_covers ∈ tb := tb_in 1887 (by decide +kernel) (by decide +kernel)
theorem kw1888 : Cond.code yX11_covers cX11_covers 6 (some .boolean) ∈ tb := tb_in 1888 (by decide +kernel) (by decide +kernel)
theorem kw1889 : Cond.methodLink "HatHallModel" 412 yX11_latest ∈ tb := tb_in 1889 (by decide +kernel) (by decide +kernel)
theorem kw1891 : Cond.instanceMethod yX11_latest ∈ tb := tb_in 1891 (by decide +kernel) (by decide +kernel)
theorem kw1892 : Cond.code yX11_latest cX11_latest 4 (some .int) ∈ tb := tb_in 1892 (by decide +kernel) (by decide +kernel)
theorem kw1893 : Cond.methodLink "HatHallModel" 421 yX11_isGiven ∈ tb := tb_in 1893 (by decide +kernel) (by decide +kernel)
theorem kw1895 : Cond.instanceMethod yX11_isGiven ∈ tb := tb_in 1895 (by decide +kernel) (by decide +kernel)
theorem kw1896 : Cond.code yX11_isGiven cX11_isGiven 4 (some .boolean) ∈ tb := tb_in 1896 (by decide +kernel) (by decide +kernel)
theorem kw1897 : Cond.methodLink "HatHallLaw" 185 yX11_given ∈ tb := tb_in 1897 (by decide +kernel) (by decide +kernel)
theorem kw1898 : Cond.instanceMethod yX11_given ∈ tb := tb_in 1898 (by decide +kernel) (by decide +kernel)
theorem kw1899 : Cond.selects "HatHallModel" yX11_given yX11_given ∈ tb := tb_in 1899 (by decide +kernel) (by decide +kernel)
theorem kw1900 : Cond.code yX11_given cX11_given 2 (some .int) ∈ tb := tb_in 1900 (by decide +kernel) (by decide +kernel)
theorem kw1901 : Cond.methodLink "HatHallLaw" 189 yX11_line ∈ tb := tb_in 1901 (by decide +kernel) (by decide +kernel)
theorem kw1902 : Cond.instanceMethod yX11_line ∈ tb := tb_in 1902 (by decide +kernel) (by decide +kernel)
theorem kw1903 : Cond.selects "HatHallModel" yX11_line yX11_line ∈ tb := tb_in 1903 (by decide +kernel) (by decide +kernel)
theorem kw1904 : Cond.code yX11_line cX11_line 2 (some .int) ∈ tb := tb_in 1904 (by decide +kernel) (by decide +kernel)
theorem kw1905 : Cond.methodLink "HatHallModel" 424 yX11_says ∈ tb := tb_in 1905 (by decide +kernel) (by decide +kernel)
theorem kw1907 : Cond.instanceMethod yX11_says ∈ tb := tb_in 1907 (by decide +kernel) (by decide +kernel)
theorem kw1908 : Cond.code yX11_says cX11_says 5 none ∈ tb := tb_in 1908 (by decide +kernel) (by decide +kernel)
theorem kw1909 : Cond.methodLink "HatHallLaw" 192 yX11_mend ∈ tb := tb_in 1909 (by decide +kernel) (by decide +kernel)
theorem kw1910 : Cond.instanceMethod yX11_mend ∈ tb := tb_in 1910 (by decide +kernel) (by decide +kernel)
theorem kw1911 : Cond.selects "HatHallModel" yX11_mend yX11_mend ∈ tb := tb_in 1911 (by decide +kernel) (by decide +kernel)
theorem kw1912 : Cond.code yX11_mend cX11_mend 6 (some .int) ∈ tb := tb_in 1912 (by decide +kernel) (by decide +kernel)
theorem kw1913 : Cond.methodLink "HatHallModel" 443 yX11_weighs ∈ tb := tb_in 1913 (by decide +kernel) (by decide +kernel)
theorem kw1915 : Cond.instanceMethod yX11_weighs ∈ tb := tb_in 1915 (by decide +kernel) (by decide +kernel)
theorem kw1916 : Cond.code yX11_weighs cX11_weighs 7 none ∈ tb := tb_in 1916 (by decide +kernel) (by decide +kernel)
theorem kw1917 : Cond.methodLink "HatHallModel" 428 yX11_isWonIf ∈ tb := tb_in 1917 (by decide +kernel) (by decide +kernel)
theorem kw1919 : Cond.instanceMethod yX11_isWonIf ∈ tb := tb_in 1919 (by decide +kernel) (by decide +kernel)
theorem kw1920 : Cond.code yX11_isWonIf cX11_isWonIf 7 (some .boolean) ∈ tb := tb_in 1920 (by decide +kernel) (by decide +kernel)
theorem kw1921 : Cond.methodLink "HatHallLaw" 196 yX11_draw ∈ tb := tb_in 1921 (by decide +kernel) (by decide +kernel)
theorem kw1922 : Cond.instanceMethod yX11_draw ∈ tb := tb_in 1922 (by decide +kernel) (by decide +kernel)
theorem kw1923 : Cond.selects "HatHallModel" yX11_draw yX11_draw ∈ tb := tb_in 1923 (by decide +kernel) (by decide +kernel)
theorem kw1924 : Cond.code yX11_draw cX11_draw 6 (some .int) ∈ tb := tb_in 1924 (by decide +kernel) (by decide +kernel)
theorem kw1925 : Cond.constant "HatHallModel" 446 1103515245 ∈ tb := tb_in 1925 (by decide +kernel) (by decide +kernel)
theorem kw1926 : Cond.methodLink "HatHallLaw" 201 yX11_keep ∈ tb := tb_in 1926 (by decide +kernel) (by decide +kernel)
theorem kw1927 : Cond.instanceMethod yX11_keep ∈ tb := tb_in 1927 (by decide +kernel) (by decide +kernel)
theorem kw1928 : Cond.selects "HatHallModel" yX11_keep yX11_keep ∈ tb := tb_in 1928 (by decide +kernel) (by decide +kernel)
theorem kw1929 : Cond.code yX11_keep cX11_keep 3 (some .boolean) ∈ tb := tb_in 1929 (by decide +kernel) (by decide +kernel)
theorem kw1930 : Cond.methodLink "HatHallLaw" 205 yX11_take ∈ tb := tb_in 1930 (by decide +kernel) (by decide +kernel)
theorem kw1931 : Cond.instanceMethod yX11_take ∈ tb := tb_in 1931 (by decide +kernel) (by decide +kernel)
theorem kw1932 : Cond.selects "HatHallModel" yX11_take yX11_take ∈ tb := tb_in 1932 (by decide +kernel) (by decide +kernel)
theorem kw1933 : Cond.code yX11_take cX11_take 3 (some .boolean) ∈ tb := tb_in 1933 (by decide +kernel) (by decide +kernel)
theorem kw1934 : Cond.methodLink "HatHallLaw" 208 yX11_count ∈ tb := tb_in 1934 (by decide +kernel) (by decide +kernel)
theorem kw1935 : Cond.instanceMethod yX11_count ∈ tb := tb_in 1935 (by decide +kernel) (by decide +kernel)
theorem kw1936 : Cond.selects "HatHallModel" yX11_count yX11_count ∈ tb := tb_in 1936 (by decide +kernel) (by decide +kernel)
theorem kw1937 : Cond.code yX11_count cX11_count 4 (some .int) ∈ tb := tb_in 1937 (by decide +kernel) (by decide +kernel)
theorem kw1938 : Cond.arrayClass .long ∈ tb := tb_in 1938 (by decide +kernel) (by decide +kernel)
theorem kw1956 : Cond.fieldLink "java/lang/String" 9 "java/lang/String" "value" "[B" ∈ tb := tb_in 1956 (by decide +kernel) (by decide +kernel)
theorem kw1957 : Cond.fieldLink "java/lang/String" 15 "java/lang/String" "coder" "B" ∈ tb := tb_in 1957 (by decide +kernel) (by decide +kernel)
theorem inX0 : ∀ w ∈ wsX00, w ∈ tb := by decide +kernel
theorem inX1 : ∀ w ∈ wsX10, w ∈ tb := by decide +kernel
theorem inX2 : ∀ w ∈ wsX20, w ∈ tb := by decide +kernel
theorem inX3 : ∀ w ∈ wsX30, w ∈ tb := by decide +kernel
theorem inX4 : ∀ w ∈ wsX40, w ∈ tb := by decide +kernel
theorem inX5 : ∀ w ∈ wsX50, w ∈ tb := by decide +kernel
theorem inX6 : ∀ w ∈ wsX60, w ∈ tb := by decide +kernel
theorem inX7 : ∀ w ∈ wsX70, w ∈ tb := by decide +kernel
theorem inX8 : ∀ w ∈ wsX80, w ∈ tb := by decide +kernel
theorem inX9 : ∀ w ∈ wsX90, w ∈ tb := by decide +kernel
theorem inX10 : ∀ w ∈ wsX100, w ∈ tb := by decide +kernel
theorem inX11 : ∀ w ∈ wsX110, w ∈ tb := by decide +kernel
end
section
/-! The heap as functions. A region of the heap with base z: things by their numbers r (their address is z + r), L lists (number, kind, length). Kinds: 0 int[], 1 byte[], 2 short[], 3 boolean[], 4 long[], 5 Formula[], 6 Net[], 7 + c an object of the kit's class number c. I holds whole numbers (fields and elements), J longs, F references in fields, T references in arrays. -/
abbrev HI : Type := Nat → Nat → Int32
abbrev HJ : Type := Nat → Nat → Int64
abbrev HR : Type := Nat → Nat → Option Nat
abbrev HL : Type := List (Nat × Nat × Nat)
abbrev HS : Type := HI × HJ × HR × HR × HL
def up2 {α : Type} (f : Nat → Nat → α) (a i : Nat) (v : α) : Nat → Nat → α := fun b => if b = a then (fun j => if j = i then v else f a j) else f b
theorem up2_ne {α : Type} (f : Nat → Nat → α) {a b : Nat} (i : Nat) (v : α) (h : b ≠ a) : up2 f a i v b = f b := if_neg h
theorem up2_at {α : Type} (f : Nat → Nat → α) (a i : Nat) (v : α) : up2 f a i v a = fun j => if j = i then v else f a j := if_pos rfl
abbrev hclasses : List vw_C := [(RX0, TX0, 5), (RX1, TX1, 5), (RX2, TX2, 4), (RX3, TX3, 2), (RX4, TX4, 3), (RX5, TX5, 11), (RX6, TX6, 14), (RX7, TX7, 2), (RX8, TX8, 4), (RX9, TX9, 5), (RX10, TX10, 13), (RX11, TX11, 75)]
def hft : Nat → List Nat
  | 0 => [0, 1, 0, 1, 1]
  | 1 => [1, 1, 1, 1, 0]
  | 2 => [1, 0, 0, 1]
  | 3 => [1, 0]
  | 4 => [1, 1, 1]
  | 5 => [0, 0, 0, 1, 1, 1, 1, 1, 1, 1, 1]
  | 6 => [0, 0, 1, 1, 0, 0, 0, 0, 0, 0, 1, 1, 1, 0]
  | 7 => [1, 1]
  | 8 => [0, 1, 1, 1]
  | 9 => [1, 0, 1, 1, 1]
  | 10 => [1, 1, 1, 1, 1, 1, 1, 1, 0, 1, 1, 1, 1]
  | 11 => [0, 0, 0, 0, 0, 0, 1, 1, 1, 1, 1, 1, 1, 1, 1, 1, 0, 0, 0, 0, 0, 0, 0, 0, 0, 0, 3, 0, 0, 0, 0, 1, 1, 1, 1, 1, 1, 1, 1, 1, 0, 1, 1, 1, 1, 1, 1, 1, 1, 0, 0, 1, 1, 1, 0, 1, 1, 1, 1, 1, 1, 1, 0, 0, 0, 0, 1, 1, 1, 1, 1, 1, 1, 1, 1]
  | _ => []
def hc_v (z : Nat) (F : HR) (I : HI) (J : HJ) (a k : Nat) : Nat → Value
  | 0 => .int (I a k)
  | 1 => va_rf ((F a k).map (z + ·))
  | _ => .long (J a k)
def hc_fs (z : Nat) (F : HR) (I : HI) (J : HJ) (ci a : Nat) : List Value := (hft ci).mapIdx (fun k t => hc_v z F I J a k t)
def hc_e (cA : Nat → ClassId) (z : Nat) (F T : HR) (I : HI) (J : HJ) (a n : Nat) : Nat → va_E
  | 0 => .inl (cA 0, n, .inl (I a))
  | 1 => .inl (cA 1, n, .inl (I a))
  | 2 => .inl (cA 2, n, .inl (I a))
  | 3 => .inl (cA 3, n, .inl (I a))
  | 4 => .inl (cA 4, n, .inr (.inl (J a)))
  | 5 => .inl (cA 5, n, .inr (.inr (.inr (.inr (fun j => (T a j).map (z + ·))))))
  | 6 => .inl (cA 6, n, .inr (.inr (.inr (.inr (fun j => (T a j).map (z + ·))))))
  | k + 7 => .inr (k, hc_fs z F I J k a)
def hc (cA : Nat → ClassId) (z : Nat) (S : HS) (p : Nat × Nat × Nat) : Nat × va_E := (z + p.1, hc_e cA z S.2.2.2.1 S.2.2.1 S.1 S.2.1 p.1 p.2.2 p.2.1)
def hws (cA : Nat → ClassId) (z : Nat) (S : HS) : va_W := S.2.2.2.2.map (hc cA z S)
abbrev hty (cA : Nat → ClassId) : List (ClassId × FieldType) := [(cA 0, .int), (cA 1, .byte), (cA 2, .short), (cA 3, .boolean), (cA 4, .long), (cA 5, .object "HatHall$Formula"), (cA 6, .object "HatHall$Net")]
theorem hc_cong {cA : Nat → ClassId} {z : Nat} {S S' : HS} {p : Nat × Nat × Nat} (hI : S'.1 p.1 = S.1 p.1) (hJ : S'.2.1 p.1 = S.2.1 p.1) (hT : S'.2.2.1 p.1 = S.2.2.1 p.1) (hF : S'.2.2.2.1 p.1 = S.2.2.2.1 p.1) : hc cA z S' p = hc cA z S p := by
  obtain ⟨I, J, T, F, L⟩ := S
  obtain ⟨I', J', T', F', L'⟩ := S'
  obtain ⟨a, k, n⟩ := p
  dsimp only at hI hJ hT hF
  unfold hc
  refine congrArg (Prod.mk _) ?_
  dsimp only
  match k with
  | 0 => simp only [hc_e, hI]
  | 1 => simp only [hc_e, hI]
  | 2 => simp only [hc_e, hI]
  | 3 => simp only [hc_e, hI]
  | 4 => simp only [hc_e, hJ]
  | 5 => simp only [hc_e, hT]
  | 6 => simp only [hc_e, hT]
  | k + 7 =>
    simp only [hc_e, hc_fs]
    refine congrArg Sum.inr (congrArg (Prod.mk _) ?_)
    refine congrArg (fun f => List.mapIdx f (hft k)) ?_
    funext k2 t
    match t with
    | 0 => simp only [hc_v, hI]
    | 1 => simp only [hc_v, hF]
    | t + 2 => simp only [hc_v, hJ]
theorem hws_get {cA : Nat → ClassId} {z : Nat} {S : HS} {i : Nat} {p : Nat × Nat × Nat} (hi : S.2.2.2.2[i]? = some p) : (hws cA z S)[i]? = some (hc cA z S p) := by
  unfold hws
  rw [List.getElem?_map, hi]
  rfl
theorem hws_of {cA : Nat → ClassId} {z : Nat} {S : HS} {i : Nat} {q : Nat × va_E} (h : (hws cA z S)[i]? = some q) : ∃ p, S.2.2.2.2[i]? = some p ∧ q = hc cA z S p := by
  unfold hws at h
  rw [List.getElem?_map] at h
  cases hp : S.2.2.2.2[i]? with
  | none => rw [hp] at h; cases h
  | some p => rw [hp] at h; exact ⟨p, rfl, (Option.some.inj h).symm⟩
theorem hws_set {cA : Nat → ClassId} {z : Nat} {A : Nat → Prop} {S S' : HS} (hL : S'.2.2.2.2 = S.2.2.2.2) (hD : va_D A (hws cA z S)) {i : Nat} {p : Nat × Nat × Nat} (hi : S.2.2.2.2[i]? = some p)
    (ho : ∀ b, b ≠ p.1 → S'.1 b = S.1 b ∧ S'.2.1 b = S.2.1 b ∧ S'.2.2.1 b = S.2.2.1 b ∧ S'.2.2.2.1 b = S.2.2.2.1 b) : (hws cA z S).set i (hc cA z S' p) = hws cA z S' := by
  refine List.ext_getElem? fun j => ?_
  rw [List.getElem?_set]
  by_cases hj : i = j
  · subst hj
    have hlt : i < (hws cA z S).length := (List.getElem?_eq_some_iff.mp (hws_get (cA := cA) (z := z) hi)).1
    rw [if_pos rfl, if_pos hlt]
    exact (hws_get (S := S') (by rw [hL]; exact hi)).symm
  · rw [if_neg hj]
    cases hp : S.2.2.2.2[j]? with
    | none =>
      have h1 : (hws cA z S)[j]? = none := by unfold hws; rw [List.getElem?_map, hp]; rfl
      have h2 : (hws cA z S')[j]? = none := by unfold hws; rw [List.getElem?_map, hL, hp]; rfl
      rw [h1, h2]
    | some q =>
      rw [hws_get hp, hws_get (S := S') (by rw [hL]; exact hp)]
      have hne : q.1 ≠ p.1 := fun e => hj (hD.1 i j _ _ (hws_get hi) (hws_get hp) (by show z + p.1 = z + q.1; rw [e]))
      obtain ⟨h1, h2, h3, h4⟩ := ho q.1 hne
      exact congrArg some (hc_cong h1 h2 h3 h4).symm
def hX (p : Program) (m : MethodId) (c : Code) (s : State) (args : Array Value) (own : String) (cc : ByteArray) (nL : Nat) : Prop := CallFix p m c cc nL s args tb own
abbrev HE : Type := (Nat → Prop) → State → Prop
def hW (D : va_G) (cA : Nat → ClassId) (z : Nat) (Ev : HE) (S : HS) (A : Nat → Prop) (s : State) (H : Heap) (locs : List Loc) : Prop :=
  va_K D hclasses (hty cA) s ∧ va_P D hclasses (hws cA z S) H ∧ va_D A (hws cA z S) ∧ va_S A s.heap H locs ∧ (∀ q, s.heap.size ≤ q → A q) ∧ Ev A s
/-- a field link: own's pool entry index names field k of the kit's class ci; t: 0 a whole number, 1 a reference, 3 a long -/
def hF (own : String) (index ci k t : Nat) (fin : Bool) (ty : FieldType) : Prop := ∃ (C : String) (TT : u_T) (N : Nat) (ty0 : Nat → FieldType), hclasses[ci]? = some (C, TT, N) ∧ (∀ w ∈ u_ws C TT N, w ∈ tb) ∧ k < N ∧ (hft ci)[k]? = some t ∧
  Cond.fieldLink own index (TT k).1 (TT k).2.1 (TT k).2.2.1 ∈ tb ∧ (∀ k, k < N → parseFieldDescriptor (TT k).2.2.1 = some (ty0 k)) ∧ (∀ a, a < N → ∀ b, b < N → a ≠ b → (TT a).2.1 ≠ (TT b).2.1) ∧ (TT k).2.2.2 = fin ∧ ty0 k = ty ∧ True
theorem hc_fs_get {z : Nat} {F : HR} {I : HI} {J : HJ} {ci a k t : Nat} (h : (hft ci)[k]? = some t) : (hc_fs z F I J ci a)[k]? = some (hc_v z F I J a k t) := by
  unfold hc_fs
  rw [List.getElem?_mapIdx, h]
  rfl
theorem hc_fs_len {z : Nat} {F : HR} {I : HI} {J : HJ} {ci a k t : Nat} (h : (hft ci)[k]? = some t) : k < (hc_fs z F I J ci a).length := by
  unfold hc_fs
  rw [List.length_mapIdx]
  exact (List.getElem?_eq_some_iff.mp h).1
/-- a field written: the fields' list behind it -/
theorem hc_fs_set {z : Nat} {F F' : HR} {I I' : HI} {J J' : HJ} {ci a k t : Nat} (h : (hft ci)[k]? = some t) {v : Value} (hv : hc_v z F' I' J' a k t = v)
    (ho : ∀ j, j ≠ k → I' a j = I a j ∧ J' a j = J a j ∧ F' a j = F a j) : (hc_fs z F I J ci a).set k v = hc_fs z F' I' J' ci a := by
  refine List.ext_getElem? fun j => ?_
  rw [List.getElem?_set]
  by_cases hj : k = j
  · subst hj
    rw [if_pos rfl, if_pos (hc_fs_len h), hc_fs_get h, hv]
  · rw [if_neg hj]
    obtain ⟨h1, h2, h3⟩ := ho j (fun e => hj e.symm)
    unfold hc_fs
    rw [List.getElem?_mapIdx, List.getElem?_mapIdx]
    refine congrArg (fun f => Option.map f (hft ci)[j]?) ?_
    funext t2
    match t2 with
    | 0 => simp only [hc_v, h1]
    | 1 => simp only [hc_v, h3]
    | t + 2 => simp only [hc_v, h2]
section HM
variable {p : Program} {l : Launch} {e : Env} {R : Room} {s : State} {m : MethodId} {args : Array Value} {below : List Frame} {meth : Method} {c : Code} {H : Heap} {locs : List Loc} {cells slots : Nat} {Q : State → Prop}
variable {cc : ByteArray} {pc nL : Nat} {ls : Array Slot} {rest : List Value} {D : va_G} {cA : Nat → ClassId} {z : Nat} {I : HI} {J : HJ} {T F : HR} {L : HL} {A : Nat → Prop} {own : String} {Ev : HE}
theorem hm_geti (X : hX p m c s args own cc nL) (w : hW D cA z Ev (I, J, T, F, L) A s H locs) {index ci k a n : Nat} {fin : Bool} {ty : FieldType} (hf : hF own index ci k 0 fin ty) (hs : (a, ci + 7, n) ∈ L) (hdg : decode cc pc = .ok (.getfield index, 3))
    (kk : W p l e R s m args below meth c H locs cells slots Q (F0 m (pc + 3) ls (.int (I a k) :: rest))) : W p l e R s m args below meth c H locs cells slots Q (F0 m pc ls (.ref (z + a) :: rest)) := by
  obtain ⟨hx, hb, hml, hown, hts⟩ := X
  obtain ⟨hK, hP, hD, hS, hA, hEv⟩ := w
  obtain ⟨C, TT, N, ty0, hc, hin, hk, ht, hl, h1, h2, h3, h4, h5⟩ := hf
  obtain ⟨i, hi⟩ := List.getElem?_of_mem hs
  exact va_get (ci := ci) (fs := hc_fs z F I J ci a) hx hb hts hin hown hK hP i (hws_get (S := (I, J, T, F, L)) hi) hc k hk (hts _ hl) (fun _ h => h) (v := .int (I a k)) (hc_fs_get ht) hdg kk
theorem hm_getr (X : hX p m c s args own cc nL) (w : hW D cA z Ev (I, J, T, F, L) A s H locs) {index ci k a n b : Nat} {fin : Bool} {ty : FieldType} (hf : hF own index ci k 1 fin ty) (hs : (a, ci + 7, n) ∈ L) (hv : F a k = some b) (hdg : decode cc pc = .ok (.getfield index, 3))
    (kk : W p l e R s m args below meth c H locs cells slots Q (F0 m (pc + 3) ls (.ref (z + b) :: rest))) : W p l e R s m args below meth c H locs cells slots Q (F0 m pc ls (.ref (z + a) :: rest)) := by
  obtain ⟨hx, hb, hml, hown, hts⟩ := X
  obtain ⟨hK, hP, hD, hS, hA, hEv⟩ := w
  obtain ⟨C, TT, N, ty0, hc, hin, hk, ht, hl, h1, h2, h3, h4, h5⟩ := hf
  obtain ⟨i, hi⟩ := List.getElem?_of_mem hs
  exact va_get (ci := ci) (fs := hc_fs z F I J ci a) hx hb hts hin hown hK hP i (hws_get (S := (I, J, T, F, L)) hi) hc k hk (hts _ hl) (fun _ h => h) (v := .ref (z + b)) ((hc_fs_get ht).trans (by simp only [hc_v, hv]; rfl)) hdg kk
theorem hm_getl (X : hX p m c s args own cc nL) (w : hW D cA z Ev (I, J, T, F, L) A s H locs) {index ci k a n : Nat} {fin : Bool} {ty : FieldType} (hf : hF own index ci k 3 fin ty) (hs : (a, ci + 7, n) ∈ L) (hdg : decode cc pc = .ok (.getfield index, 3))
    (kk : W p l e R s m args below meth c H locs cells slots Q (F0 m (pc + 3) ls (.long (J a k) :: rest))) : W p l e R s m args below meth c H locs cells slots Q (F0 m pc ls (.ref (z + a) :: rest)) := by
  obtain ⟨hx, hb, hml, hown, hts⟩ := X
  obtain ⟨hK, hP, hD, hS, hA, hEv⟩ := w
  obtain ⟨C, TT, N, ty0, hc, hin, hk, ht, hl, h1, h2, h3, h4, h5⟩ := hf
  obtain ⟨i, hi⟩ := List.getElem?_of_mem hs
  exact va_get (ci := ci) (fs := hc_fs z F I J ci a) hx hb hts hin hown hK hP i (hws_get (S := (I, J, T, F, L)) hi) hc k hk (hts _ hl) (fun _ h => h) (v := .long (J a k)) (hc_fs_get ht) hdg kk
theorem hm_puti (X : hX p m c s args own cc nL) (w : hW D cA z Ev (I, J, T, F, L) A s H locs) {index ci k a n : Nat} {ty : FieldType} {v : Int32} (hf : hF own index ci k 0 false ty) (hs : (a, ci + 7, n) ∈ L) (hn : narrow ty (.int v) = .int v) (hfit : fits ty (.int v) = true) (hdg : decode cc pc = .ok (.putfield index, 3))
    (kk : ∀ (H : Heap) (locs : List Loc), hW D cA z Ev (up2 I a k v, J, T, F, L) A s H locs → W p l e R s m args below meth c H locs cells slots Q (F0 m (pc + 3) ls rest)) : W p l e R s m args below meth c H locs cells slots Q (F0 m pc ls (.int v :: .ref (z + a) :: rest)) := by
  obtain ⟨hx, hb, hml, hown, hts⟩ := X
  obtain ⟨hK, hP, hD, hS, hA, hEv⟩ := w
  obtain ⟨C, TT, N, ty0, hc, hin, hk, ht, hl, h1, h2, h3, h4, h5⟩ := hf
  obtain ⟨i, hi⟩ := List.getElem?_of_mem hs
  have hset : (hws cA z (I, J, T, F, L)).set i (z + a, .inr (ci, (hc_fs z F I J ci a).set k (.int v))) = hws cA z (up2 I a k v, J, T, F, L) := by
    rw [hc_fs_set (I' := up2 I a k v) (J' := J) (F' := F) ht (by simp [hc_v, up2]) (fun j hj => ⟨by simp [up2, hj], rfl, rfl⟩)]
    exact hws_set (S := (I, J, T, F, L)) (S' := (up2 I a k v, J, T, F, L)) rfl hD hi (fun b hb => ⟨up2_ne _ _ _ hb, rfl, rfl, rfl⟩)
  refine va_put (ci := ci) (fs := hc_fs z F I J ci a) hx hb hts hin ty0 h1 h2 hown hK hP hD hS i (hws_get (S := (I, J, T, F, L)) hi) hc k hk (hts _ hl) (fun _ h => h) h3 (v := .int v) (ty := ty) (by rw [h1 k hk, h4]) hn hfit (hc_fs_len ht) hdg (fun H1 locs1 g1 g2 g3 => ?_)
  rw [hset] at g1 g2
  exact kk H1 locs1 ⟨hK, g1, g2, g3, hA, hEv⟩
theorem hm_iald (X : hX p m c s args own cc nL) (w : hW D cA z Ev (I, J, T, F, L) A s H locs) {a n : Nat} {i : Int32} (hs : (a, 0, n) ∈ L) (hin : vp_in i n) (hdg : decode cc pc = .ok (.iaload, 1))
    (kk : W p l e R s m args below meth c H locs cells slots Q (F0 m (pc + 1) ls (.int (I a i.toNatClampNeg) :: rest))) : W p l e R s m args below meth c H locs cells slots Q (F0 m pc ls (.int i :: .ref (z + a) :: rest)) := by
  obtain ⟨q, hi⟩ := List.getElem?_of_mem hs
  exact va_iald X.1 X.2.1 w.1 w.2.1 q 0 (hws_get (S := (I, J, T, F, L)) hi) rfl hin hdg kk
theorem hm_iast (X : hX p m c s args own cc nL) (w : hW D cA z Ev (I, J, T, F, L) A s H locs) {a n : Nat} {i v : Int32} (hs : (a, 0, n) ∈ L) (hin : vp_in i n) (hdg : decode cc pc = .ok (.iastore, 1))
    (kk : ∀ (H : Heap) (locs : List Loc), hW D cA z Ev (up2 I a i.toNatClampNeg v, J, T, F, L) A s H locs → W p l e R s m args below meth c H locs cells slots Q (F0 m (pc + 1) ls rest)) : W p l e R s m args below meth c H locs cells slots Q (F0 m pc ls (.int v :: .int i :: .ref (z + a) :: rest)) := by
  obtain ⟨q, hi⟩ := List.getElem?_of_mem hs
  have hset : (hws cA z (I, J, T, F, L)).set q (z + a, .inl (cA 0, n, .inl (upd (I a) i.toNatClampNeg v))) = hws cA z (up2 I a i.toNatClampNeg v, J, T, F, L) := by
    rw [← hws_set (S := (I, J, T, F, L)) (S' := (up2 I a i.toNatClampNeg v, J, T, F, L)) rfl w.2.2.1 hi (fun b hb => ⟨up2_ne _ _ _ hb, rfl, rfl, rfl⟩)]
    simp only [hc, hc_e, up2_at]
    rfl
  refine va_iast X.1 X.2.1 w.1 w.2.1 w.2.2.1 w.2.2.2.1 q 0 (hws_get (S := (I, J, T, F, L)) hi) rfl hin hdg (fun H1 locs1 g1 g2 g3 => ?_)
  rw [hset] at g1 g2
  exact kk H1 locs1 ⟨w.1, g1, g2, g3, w.2.2.2.2⟩
end HM
end
section
section HM2
variable {p : Program} {l : Launch} {e : Env} {R : Room} {s : State} {m : MethodId} {args : Array Value} {below : List Frame} {meth : Method} {c : Code} {H : Heap} {locs : List Loc} {cells slots : Nat} {Q : State → Prop}
variable {cc : ByteArray} {pc nL : Nat} {ls : Array Slot} {rest : List Value} {D : va_G} {cA : Nat → ClassId} {z : Nat} {I : HI} {J : HJ} {T F : HR} {L : HL} {A : Nat → Prop} {own : String} {Ev : HE}
theorem hm_putl (X : hX p m c s args own cc nL) (w : hW D cA z Ev (I, J, T, F, L) A s H locs) {index ci k a n : Nat} {v : Int64} (hf : hF own index ci k 3 false .long) (hs : (a, ci + 7, n) ∈ L) (hdg : decode cc pc = .ok (.putfield index, 3))
    (kk : ∀ (H : Heap) (locs : List Loc), hW D cA z Ev (I, up2 J a k v, T, F, L) A s H locs → W p l e R s m args below meth c H locs cells slots Q (F0 m (pc + 3) ls rest)) : W p l e R s m args below meth c H locs cells slots Q (F0 m pc ls (.long v :: .ref (z + a) :: rest)) := by
  obtain ⟨hx, hb, hml, hown, hts⟩ := X
  obtain ⟨hK, hP, hD, hS, hA, hEv⟩ := w
  obtain ⟨C, TT, N, ty0, hc, hin, hk, ht, hl, h1, h2, h3, h4, h5⟩ := hf
  obtain ⟨i, hi⟩ := List.getElem?_of_mem hs
  have hset : (hws cA z (I, J, T, F, L)).set i (z + a, .inr (ci, (hc_fs z F I J ci a).set k (.long v))) = hws cA z (I, up2 J a k v, T, F, L) := by
    rw [hc_fs_set (I' := I) (J' := up2 J a k v) (F' := F) ht (by simp [hc_v, up2]) (fun j hj => ⟨rfl, by simp [up2, hj], rfl⟩)]
    exact hws_set (S := (I, J, T, F, L)) (S' := (I, up2 J a k v, T, F, L)) rfl hD hi (fun b hb => ⟨rfl, up2_ne _ _ _ hb, rfl, rfl⟩)
  refine va_put (ci := ci) (fs := hc_fs z F I J ci a) hx hb hts hin ty0 h1 h2 hown hK hP hD hS i (hws_get (S := (I, J, T, F, L)) hi) hc k hk (hts _ hl) (fun _ h => h) h3 (v := .long v) (ty := .long) (by rw [h1 k hk, h4]) rfl rfl (hc_fs_len ht) hdg (fun H1 locs1 g1 g2 g3 => ?_)
  rw [hset] at g1 g2
  exact kk H1 locs1 ⟨hK, g1, g2, g3, hA, hEv⟩
theorem hm_bald (X : hX p m c s args own cc nL) (w : hW D cA z Ev (I, J, T, F, L) A s H locs) {a n : Nat} {i : Int32} (hs : (a, 1, n) ∈ L) (hin : vp_in i n) (hdg : decode cc pc = .ok (.baload, 1))
    (kk : W p l e R s m args below meth c H locs cells slots Q (F0 m (pc + 1) ls (.int (I a i.toNatClampNeg) :: rest))) : W p l e R s m args below meth c H locs cells slots Q (F0 m pc ls (.int i :: .ref (z + a) :: rest)) := by
  obtain ⟨q, hi⟩ := List.getElem?_of_mem hs
  exact va_bald X.1 X.2.1 w.1 w.2.1 q 1 (hws_get (S := (I, J, T, F, L)) hi) rfl hin hdg kk
theorem hm_sald (X : hX p m c s args own cc nL) (w : hW D cA z Ev (I, J, T, F, L) A s H locs) {a n : Nat} {i : Int32} (hs : (a, 2, n) ∈ L) (hin : vp_in i n) (hdg : decode cc pc = .ok (.saload, 1))
    (kk : W p l e R s m args below meth c H locs cells slots Q (F0 m (pc + 1) ls (.int (I a i.toNatClampNeg) :: rest))) : W p l e R s m args below meth c H locs cells slots Q (F0 m pc ls (.int i :: .ref (z + a) :: rest)) := by
  obtain ⟨q, hi⟩ := List.getElem?_of_mem hs
  exact va_sald X.1 X.2.1 w.1 w.2.1 q 2 (hws_get (S := (I, J, T, F, L)) hi) rfl hin hdg kk
theorem hm_zald (X : hX p m c s args own cc nL) (w : hW D cA z Ev (I, J, T, F, L) A s H locs) {a n : Nat} {i : Int32} (hs : (a, 3, n) ∈ L) (hin : vp_in i n) (hdg : decode cc pc = .ok (.baload, 1))
    (kk : W p l e R s m args below meth c H locs cells slots Q (F0 m (pc + 1) ls (.int (I a i.toNatClampNeg) :: rest))) : W p l e R s m args below meth c H locs cells slots Q (F0 m pc ls (.int i :: .ref (z + a) :: rest)) := by
  obtain ⟨q, hi⟩ := List.getElem?_of_mem hs
  exact va_zald X.1 X.2.1 w.1 w.2.1 q 3 (hws_get (S := (I, J, T, F, L)) hi) rfl hin hdg kk
theorem hm_bast (X : hX p m c s args own cc nL) (w : hW D cA z Ev (I, J, T, F, L) A s H locs) {a n : Nat} {i v : Int32} (hs : (a, 1, n) ∈ L) (hin : vp_in i n) (hdg : decode cc pc = .ok (.bastore, 1))
    (kk : ∀ (H : Heap) (locs : List Loc), hW D cA z Ev (up2 I a i.toNatClampNeg (vp_nar .byte v), J, T, F, L) A s H locs → W p l e R s m args below meth c H locs cells slots Q (F0 m (pc + 1) ls rest)) : W p l e R s m args below meth c H locs cells slots Q (F0 m pc ls (.int v :: .int i :: .ref (z + a) :: rest)) := by
  obtain ⟨q, hi⟩ := List.getElem?_of_mem hs
  have hset : (hws cA z (I, J, T, F, L)).set q (z + a, .inl (cA 1, n, .inl (upd (I a) i.toNatClampNeg (vp_nar .byte v)))) = hws cA z (up2 I a i.toNatClampNeg (vp_nar .byte v), J, T, F, L) := by
    rw [← hws_set (S := (I, J, T, F, L)) (S' := (up2 I a i.toNatClampNeg (vp_nar .byte v), J, T, F, L)) rfl w.2.2.1 hi (fun b hb => ⟨up2_ne _ _ _ hb, rfl, rfl, rfl⟩)]
    simp only [hc, hc_e, up2_at]
    rfl
  refine va_bast X.1 X.2.1 w.1 w.2.1 w.2.2.1 w.2.2.2.1 q 1 (hws_get (S := (I, J, T, F, L)) hi) rfl hin hdg (fun H1 locs1 g1 g2 g3 => ?_)
  rw [hset] at g1 g2
  exact kk H1 locs1 ⟨w.1, g1, g2, g3, w.2.2.2.2⟩
theorem hm_sast (X : hX p m c s args own cc nL) (w : hW D cA z Ev (I, J, T, F, L) A s H locs) {a n : Nat} {i v : Int32} (hs : (a, 2, n) ∈ L) (hin : vp_in i n) (hdg : decode cc pc = .ok (.sastore, 1))
    (kk : ∀ (H : Heap) (locs : List Loc), hW D cA z Ev (up2 I a i.toNatClampNeg (vp_nar .short v), J, T, F, L) A s H locs → W p l e R s m args below meth c H locs cells slots Q (F0 m (pc + 1) ls rest)) : W p l e R s m args below meth c H locs cells slots Q (F0 m pc ls (.int v :: .int i :: .ref (z + a) :: rest)) := by
  obtain ⟨q, hi⟩ := List.getElem?_of_mem hs
  have hset : (hws cA z (I, J, T, F, L)).set q (z + a, .inl (cA 2, n, .inl (upd (I a) i.toNatClampNeg (vp_nar .short v)))) = hws cA z (up2 I a i.toNatClampNeg (vp_nar .short v), J, T, F, L) := by
    rw [← hws_set (S := (I, J, T, F, L)) (S' := (up2 I a i.toNatClampNeg (vp_nar .short v), J, T, F, L)) rfl w.2.2.1 hi (fun b hb => ⟨up2_ne _ _ _ hb, rfl, rfl, rfl⟩)]
    simp only [hc, hc_e, up2_at]
    rfl
  refine va_sast X.1 X.2.1 w.1 w.2.1 w.2.2.1 w.2.2.2.1 q 2 (hws_get (S := (I, J, T, F, L)) hi) rfl hin hdg (fun H1 locs1 g1 g2 g3 => ?_)
  rw [hset] at g1 g2
  exact kk H1 locs1 ⟨w.1, g1, g2, g3, w.2.2.2.2⟩
theorem hm_zast (X : hX p m c s args own cc nL) (w : hW D cA z Ev (I, J, T, F, L) A s H locs) {a n : Nat} {i v : Int32} (hs : (a, 3, n) ∈ L) (hin : vp_in i n) (hdg : decode cc pc = .ok (.bastore, 1))
    (kk : ∀ (H : Heap) (locs : List Loc), hW D cA z Ev (up2 I a i.toNatClampNeg (vp_nar .boolean v), J, T, F, L) A s H locs → W p l e R s m args below meth c H locs cells slots Q (F0 m (pc + 1) ls rest)) : W p l e R s m args below meth c H locs cells slots Q (F0 m pc ls (.int v :: .int i :: .ref (z + a) :: rest)) := by
  obtain ⟨q, hi⟩ := List.getElem?_of_mem hs
  have hset : (hws cA z (I, J, T, F, L)).set q (z + a, .inl (cA 3, n, .inl (upd (I a) i.toNatClampNeg (vp_nar .boolean v)))) = hws cA z (up2 I a i.toNatClampNeg (vp_nar .boolean v), J, T, F, L) := by
    rw [← hws_set (S := (I, J, T, F, L)) (S' := (up2 I a i.toNatClampNeg (vp_nar .boolean v), J, T, F, L)) rfl w.2.2.1 hi (fun b hb => ⟨up2_ne _ _ _ hb, rfl, rfl, rfl⟩)]
    simp only [hc, hc_e, up2_at]
    rfl
  refine va_zast X.1 X.2.1 w.1 w.2.1 w.2.2.1 w.2.2.2.1 q 3 (hws_get (S := (I, J, T, F, L)) hi) rfl hin hdg (fun H1 locs1 g1 g2 g3 => ?_)
  rw [hset] at g1 g2
  exact kk H1 locs1 ⟨w.1, g1, g2, g3, w.2.2.2.2⟩
end HM2
def zb (v : Int32) : Prop := narrow .boolean (.int v) = .int v
theorem zb_0 : zb 0 := rfl
theorem zb_1 : zb 1 := rfl
def hA (z : Nat) (L : HL) (sz : Nat) : Nat → Prop := fun q => (∃ p ∈ L, q = z + p.1) ∨ sz ≤ q
def hPc (D : va_G) (cA : Nat → ClassId) (z : Nat) (Ev : HE) (S : HS) (sz : Nat) (av : List Value) : Array Value → State → Prop := va_Pc av (fun U => U.heap.size = sz ∧ va_P D hclasses (hws cA z S) U.heap ∧ va_K D hclasses (hty cA) U ∧ va_D (fun _ => True) (hws cA z S) ∧ Ev (hA z S.2.2.2.2 sz) U)
def hB (D : va_G) (cA : Nat → ClassId) (z : Nat) (A : Nat → Prop) (u : HS) (t : State) : Prop := va_P D hclasses (hws cA z u) t.heap ∧ va_K D hclasses (hty cA) t ∧ va_D A (hws cA z u)
/-- what the facts beside the world must bear: calls, and a heap that has changed within A alone -/
def hCl (Ev : HE) : Prop := (∀ (A A' : Nat → Prop) (s U : State) (locs : List Loc), Ev A s → va_S A s.heap U.heap locs → s.WarmedH U.vm → (∀ q, A' q → A q) → Ev A' U) ∧ ∀ (A : Nat → Prop) (U : State) (g : JFrame) (mk : MethodId) (a : Array Value), Ev A U → Ev A (U.calling g mk a)
theorem hCl_true : hCl (fun _ _ => True) := ⟨fun _ _ _ _ _ _ _ _ _ => trivial, fun _ _ _ _ _ _ => trivial⟩
theorem hPc_blind {D : va_G} {cA : Nat → ClassId} {z : Nat} {Ev : HE} (hcl : hCl Ev) (S : HS) (sz : Nat) (av : List Value) : FrameBlind (hPc D cA z Ev S sz av) := by
  intro a U g mk h
  obtain ⟨h1, h2, h3, h4, h5, h6⟩ := h
  exact ⟨h1, h2, h3, va_K.moved (u := U) (U := U.calling g mk a) (Vm.Alike.refl U.vm) h4, h5, hcl.2 _ _ _ _ _ h6⟩
theorem hA_sub {cA : Nat → ClassId} {z : Nat} {S : HS} {A : Nat → Prop} {H0 H : Heap} {locs : List Loc} (hD : va_D A (hws cA z S)) (hS : va_S A H0 H locs) (hA0 : ∀ q, H0.size ≤ q → A q) : ∀ q, hA z S.2.2.2.2 H.size q → A q := by
  intro q h
  rcases h with ⟨p, hp, rfl⟩ | h
  · obtain ⟨i, hi⟩ := List.getElem?_of_mem hp
    exact hD.2 i _ (hws_get (cA := cA) (z := z) hi)
  · exact hA0 q (Nat.le_trans hS.1 h)
/-- a callee's facts: an instance method, a static one -/
def hYV (y : MethodName) (cc : ByteArray) (maxL : Nat) (ret : Option FieldType) (n : Nat) : Prop := Cond.instanceMethod y ∈ tb ∧ Cond.selects y.cls y y ∈ tb ∧ Cond.initialized y.cls ∈ tb ∧ Cond.code y cc maxL ret ∈ tb ∧ y.cls ≠ "java/lang/invoke/MethodHandle" ∧ y.cls ≠ "java/lang/invoke/VarHandle" ∧ (parseMethodDescriptor y.desc).map (fun d => d.parameters.length) = some n
def hYS (y : MethodName) (cc : ByteArray) (maxL : Nat) (ret : Option FieldType) (n : Nat) : Prop := Cond.static y ∈ tb ∧ Cond.initialized y.cls ∈ tb ∧ Cond.code y cc maxL ret ∈ tb ∧ y.cls ≠ "java/lang/invoke/MethodHandle" ∧ y.cls ≠ "java/lang/invoke/VarHandle" ∧ (parseMethodDescriptor y.desc).map (fun d => d.parameters.length) = some n
theorem tb_good {w : Cond} (h : w ∈ tb) : w ∈ tb ∧ ((w.onTables && w.keeps) = true ∨ ∃ ty, w = .arrayClass ty) := ⟨h, good_of_word (List.mem_filter.mp h).2⟩
theorem hG_tb {w : Cond} (h : w ∈ tb) : GoodIn tb (w :: tb) := fun v hv => (List.mem_cons.mp hv).elim (fun e => by rw [e]; exact tb_good h) tb_good
abbrev hws0 (y : MethodName) (cc : ByteArray) (maxL : Nat) (ret : Option FieldType) : List Cond := Cond.code y cc maxL ret :: tb
theorem hG_V {own : String} {idx : Nat} {y : MethodName} {cc : ByteArray} {maxL n : Nat} {ret : Option FieldType} (h : hYV y cc maxL ret n) (hl : Cond.methodLink own idx y ∈ tb) : GoodIn tb (wsV own idx y.cls y (hws0 y cc maxL ret)) := by
  obtain ⟨h1, h2, h3, h4, -⟩ := h
  intro w hw
  simp only [wsV, List.cons_append, List.nil_append, List.mem_cons] at hw
  rcases hw with rfl | rfl | rfl | rfl | rfl | hw
  · exact tb_good hl
  · exact tb_good h1
  · exact tb_good h2
  · exact tb_good h3
  · exact tb_good h4
  · exact tb_good hw
theorem hG_S {own : String} {idx : Nat} {y : MethodName} {cc : ByteArray} {maxL n : Nat} {ret : Option FieldType} (h : hYS y cc maxL ret n) (hl : Cond.methodLink own idx y ∈ tb) : GoodIn tb (va_wsS own idx y (hws0 y cc maxL ret)) := by
  obtain ⟨h1, h2, h4, -⟩ := h
  intro w hw
  simp only [va_wsS, List.cons_append, List.nil_append, List.mem_cons] at hw
  rcases hw with rfl | rfl | rfl | rfl | hw
  · exact tb_good hl
  · exact tb_good h1
  · exact tb_good h2
  · exact tb_good h4
  · exact tb_good hw
section HM3
variable {p : Program} {l : Launch} {e : Env} {R : Room} {s : State} {m : MethodId} {args : Array Value} {below : List Frame} {meth : Method} {c : Code} {H : Heap} {locs : List Loc} {cells slots : Nat} {Q : State → Prop}
variable {cc : ByteArray} {pc nL : Nat} {ls : Array Slot} {rest : List Value} {D : va_G} {cA : Nat → ClassId} {z : Nat} {S : HS} {A : Nat → Prop} {own : String} {Ev : HE}
/-- the world behind a call -/
theorem hW_back {u : HS} {t : State} {H1 : Heap} {locs1 : List Loc} (w : hW D cA z Ev S A s H locs) (ht : t.heap = H1) (hvm : s.vm.Alike t.vm) (hb : hB D cA z (hA z S.2.2.2.2 H.size) u t) (hS : va_S A s.heap H1 locs1) : hW D cA z Ev u A s H1 locs1 := by
  subst ht
  exact ⟨w.1, hb.1, hb.2.2.weaken (fun _ _ _ h => hA_sub w.2.2.1 w.2.2.2.1 w.2.2.2.2.1 _ h), hS, w.2.2.2.2⟩
theorem hW_pre (hcl : hCl Ev) (w : hW D cA z Ev S A s H locs) (av : List Value) : FrameBlind (hPc D cA z Ev S H.size av) ∧ ∀ U : State, U.heap = H → s.WarmedH U.vm → hPc D cA z Ev S H.size av av.toArray U := by
  refine ⟨hPc_blind hcl _ _ _, fun U hU hW => ⟨rfl, by rw [hU], by rw [hU]; exact w.2.1, va_K.moved hW.alike w.1, w.2.2.1.weaken (fun _ _ _ _ => trivial), ?_⟩⟩
  exact hcl.1 A _ s U locs w.2.2.2.2.2 (by rw [hU]; exact w.2.2.2.1) hW (hA_sub w.2.2.1 w.2.2.2.1 w.2.2.2.2.1)
theorem hW_recv (w : hW D cA z Ev S A s H locs) {b ci n : Nat} {C : String} {TT : u_T} {N : Nat} (hc : hclasses[ci]? = some (C, TT, N)) (hs : (b, ci + 7, n) ∈ S.2.2.2.2) : ∃ cellB : Cell, H[z + b]? = some cellB ∧ cellB.vm.isStatics = false ∧ s.vm.findClass C = some cellB.cls := by
  obtain ⟨i, hi⟩ := List.getElem?_of_mem hs
  exact va_recv w.1 w.2.1 hc (hws_get (cA := cA) (z := z) hi)
variable {y : MethodName} {ccY : ByteArray} {maxL idx n mc ms b ci k9 : Nat} {ret : Option FieldType} {rm : Room} {As st0 : List Value}
theorem hm_runV {Qc : Array Value → State → Outcome → State → Prop} {free : Addr → Prop} (hcl : hCl Ev) (X : hX p m c s args own cc nL) (w : hW D cA z Ev S A s H locs) (hM : Met l y (hws0 y ccY maxL ret) rm (hPc D cA z Ev S H.size (.ref (z + b) :: As)) Qc mc ms free)
    (hy : hYV y ccY maxL ret n) (hl : Cond.methodLink own idx y ∈ tb) {TT : u_T} {N : Nat} (hc : hclasses[ci]? = some (y.cls, TT, N)) (hs : (b, ci + 7, k9) ∈ S.2.2.2.2) (hn : As.length = n) (hsize : ls.size = nL) (hst : st0 = As.reverse ++ .ref (z + b) :: rest) (hrc : rm.cells = mc) (hrs : rm.slots = ms)
    (hr8 : (rest.map fun v => v.category).sum ≤ 8) (hR : rm.frames + 1 ≤ R.frames ∧ 8 + (maxL + 11) + rm.locals ≤ R.locals) (hf : cells + mc ≤ R.cells ∧ slots + ms ≤ R.slots) (hdg : decode cc pc = .ok (.invokevirtual idx, 3)) :
    va_Run p l e R s m args below meth c H locs cells slots mc ms (F0 m pc ls st0) rest (Qc (Value.ref (z + b) :: As).toArray) free := by
  have hp := hW_pre hcl w (.ref (z + b) :: As)
  exact va_runV (C := y.cls) X hM (cwV n X.2.2.2.2 (hG_V hy hl) rfl hrc hrs ⟨rfl, hy.2.2.2.2.1, hy.2.2.2.2.2.1, hy.2.2.2.2.2.2⟩ hR) ⟨hp.1, hW_recv w hc hs, hp.2⟩ rfl hn hsize hst (lv_room hr8) hdg hf
theorem hm_runS {Qc : Array Value → State → Outcome → State → Prop} {free : Addr → Prop} (hcl : hCl Ev) (X : hX p m c s args own cc nL) (w : hW D cA z Ev S A s H locs) (hM : Met l y (hws0 y ccY maxL ret) rm (hPc D cA z Ev S H.size As) Qc mc ms free)
    (hy : hYS y ccY maxL ret n) (hl : Cond.methodLink own idx y ∈ tb) (hn : As.length = n) (hsize : ls.size = nL) (hst : st0 = As.reverse ++ rest) (hrc : rm.cells = mc) (hrs : rm.slots = ms)
    (hr8 : (rest.map fun v => v.category).sum ≤ 8) (hR : rm.frames + 1 ≤ R.frames ∧ 8 + (maxL + 11) + rm.locals ≤ R.locals) (hf : cells + mc ≤ R.cells ∧ slots + ms ≤ R.slots) (hdg : decode cc pc = .ok (.invokestatic idx, 3)) :
    va_Run p l e R s m args below meth c H locs cells slots mc ms (F0 m pc ls st0) rest (Qc As.toArray) free := by
  have hp := hW_pre hcl w As
  exact va_runS X hM (va_cwS n X.2.2.2.2 (hG_S hy hl) rfl hrc hrs ⟨hy.2.2.2.1, hy.2.2.2.2.1, hy.2.2.2.2.2⟩ hR) ⟨hp.1, hp.2⟩ rfl hn hsize hst (lv_room hr8) hdg hf
theorem hm_calli {post : Int32 → HS → Prop} {a : Array Value} (w : hW D cA z Ev S A s H locs) (hr : va_Run p l e R s m args below meth c H locs cells slots 0 0 (F0 m pc ls st0) rest (va_Qi post (hB D cA z (hA z S.2.2.2.2 H.size)) (hA z S.2.2.2.2 H.size) a) (hA z S.2.2.2.2 H.size))
    (kk : ∀ (r : Int32) (u : HS) (H : Heap) (locs : List Loc), post r u → hW D cA z Ev u A s H locs → W p l e R s m args below meth c H locs cells slots Q (F0 m (pc + 3) ls (.int r :: rest))) : W p l e R s m args below meth c H locs cells slots Q (F0 m pc ls st0) :=
  va_calli hr w.2.2.2.1 (fun q _ h => hA_sub w.2.2.1 w.2.2.2.1 w.2.2.2.2.1 q h) (hA_sub w.2.2.1 w.2.2.2.1 w.2.2.2.2.1) (fun r u t H1 locs1 ht hvm hp hb _ _ hS => kk r u H1 locs1 hp (hW_back w ht hvm hb hS))
theorem hm_calll {post : Int64 → HS → Prop} {a : Array Value} (w : hW D cA z Ev S A s H locs) (hr : va_Run p l e R s m args below meth c H locs cells slots 0 0 (F0 m pc ls st0) rest (va_Ql post (hB D cA z (hA z S.2.2.2.2 H.size)) (hA z S.2.2.2.2 H.size) a) (hA z S.2.2.2.2 H.size))
    (kk : ∀ (r : Int64) (u : HS) (H : Heap) (locs : List Loc), post r u → hW D cA z Ev u A s H locs → W p l e R s m args below meth c H locs cells slots Q (F0 m (pc + 3) ls (.long r :: rest))) : W p l e R s m args below meth c H locs cells slots Q (F0 m pc ls st0) :=
  va_calll hr w.2.2.2.1 (fun q _ h => hA_sub w.2.2.1 w.2.2.2.1 w.2.2.2.2.1 q h) (hA_sub w.2.2.1 w.2.2.2.1 w.2.2.2.2.1) (fun r u t H1 locs1 ht hvm hp hb _ _ hS => kk r u H1 locs1 hp (hW_back w ht hvm hb hS))
theorem hm_callv {post : HS → Prop} {a : Array Value} (w : hW D cA z Ev S A s H locs) (hr : va_Run p l e R s m args below meth c H locs cells slots 0 0 (F0 m pc ls st0) rest (va_Qv post (hB D cA z (hA z S.2.2.2.2 H.size)) (hA z S.2.2.2.2 H.size) a) (hA z S.2.2.2.2 H.size))
    (kk : ∀ (u : HS) (H : Heap) (locs : List Loc), post u → hW D cA z Ev u A s H locs → W p l e R s m args below meth c H locs cells slots Q (F0 m (pc + 3) ls rest)) : W p l e R s m args below meth c H locs cells slots Q (F0 m pc ls st0) :=
  va_callv hr w.2.2.2.1 (fun q _ h => hA_sub w.2.2.1 w.2.2.2.1 w.2.2.2.2.1 q h) (hA_sub w.2.2.1 w.2.2.2.1 w.2.2.2.2.1) (fun u t H1 locs1 ht hvm hp hb _ _ hS => kk u H1 locs1 hp (hW_back w ht hvm hb hS))
theorem hm_iret {post : Int32 → HS → Prop} {v : Int32} (X : hX p m c s args own cc nL) (hr : meth.sig.returnType = some .int) (hlk : meth.locks = false) (w : hW D cA z Ev S A s H locs) (h : post v S) (hdg : decode cc pc = .ok (.ireturn, 1)) :
    W p l e R s m args below meth c H locs cells slots (MQ below (va_Qi post (hB D cA z A) A) args s cells slots A) (F0 m pc ls [.int v]) :=
  W.iret X.1 X.2.1 hr (fun t ht hW => ⟨⟨v, S, rfl, h, by rw [ht]; exact w.2.1, va_K.moved hW.alike w.1, w.2.2.1⟩, w.2.2.2.1.F ht⟩) (w.2.2.2.1.2.2) hdg hlk
theorem hm_zret {post : Int32 → HS → Prop} {v : Int32} (X : hX p m c s args own cc nL) (hr : meth.sig.returnType = some .boolean) (hlk : meth.locks = false) (w : hW D cA z Ev S A s H locs) (hz : zb v) (h : post v S) (hdg : decode cc pc = .ok (.ireturn, 1)) :
    W p l e R s m args below meth c H locs cells slots (MQ below (va_Qi post (hB D cA z A) A) args s cells slots A) (F0 m pc ls [.int v]) :=
  W.zret X.1 X.2.1 hr hz (fun t ht hW => ⟨⟨v, S, rfl, h, by rw [ht]; exact w.2.1, va_K.moved hW.alike w.1, w.2.2.1⟩, w.2.2.2.1.F ht⟩) (w.2.2.2.1.2.2) hdg hlk
theorem hm_lret {post : Int64 → HS → Prop} {v : Int64} (X : hX p m c s args own cc nL) (hr : meth.sig.returnType = some .long) (hlk : meth.locks = false) (w : hW D cA z Ev S A s H locs) (h : post v S) (hdg : decode cc pc = .ok (.lreturn, 1)) :
    W p l e R s m args below meth c H locs cells slots (MQ below (va_Ql post (hB D cA z A) A) args s cells slots A) (F0 m pc ls [.long v]) :=
  W.lret X.1 X.2.1 hr (fun t ht hW => ⟨⟨v, S, rfl, h, by rw [ht]; exact w.2.1, va_K.moved hW.alike w.1, w.2.2.1⟩, w.2.2.2.1.F ht⟩) (w.2.2.2.1.2.2) hdg hlk
theorem hm_vret {post : HS → Prop} (X : hX p m c s args own cc nL) (hr : meth.sig.returnType = none) (hlk : meth.locks = false) (w : hW D cA z Ev S A s H locs) (h : post S) (hdg : decode cc pc = .ok (.return_, 1)) :
    W p l e R s m args below meth c H locs cells slots (MQ below (va_Qv post (hB D cA z A) A) args s cells slots A) (F0 m pc ls []) :=
  W.vret X.1 X.2.1 hr (fun t ht hW => ⟨⟨S, rfl, h, by rw [ht]; exact w.2.1, va_K.moved hW.alike w.1, w.2.2.1⟩, w.2.2.2.1.F ht⟩) (w.2.2.2.1.2.2) hdg hlk
end HM3
theorem hm_met {l : Launch} {y : MethodName} {cc : ByteArray} {maxL sz mc ms : Nat} {ret : Option FieldType} {rm : Room} {D : va_G} {cA : Nat → ClassId} {z : Nat} {Ev : HE} (S : HS) (av : List Value) {Qc : Array Value → State → Outcome → State → Prop} {A : Nat → Prop} (hAe : A = hA z S.2.2.2.2 sz) (hpl : plainName y.cls = true) (hlen : (lg_sl av).length ≤ maxL)
    (body : ∀ (p : Program) (e : Env) (s : State) (m : MethodId) (below : List Frame) (meth : Method) (c : Code) (ls : Array Slot), hX p m c s av.toArray y.cls cc maxL → meth.sig.returnType = ret → meth.locks = false → meth.name = y.name → c.exceptionTable.isEmpty = true → s.heap.size = sz → hW D cA z Ev S A s s.heap [] → lv_has ls maxL (lv_args 0 av) →
      W p l e rm s m av.toArray below meth c s.heap [] 0 0 (MQ below Qc av.toArray s mc ms A) (F0 m 0 ls [])) : Met l y (hws0 y cc maxL ret) rm (hPc D cA z Ev S sz av) Qc mc ms A := by
  subst hAe
  refine Met.ofW (cc := cc) (maxL := maxL) (ret := ret) hpl rfl ?_
  intro p e s m args below meth c s₁ B hml hv
  obtain ⟨rfl, hsz, hP, hK, hD0, hE⟩ := hv
  subst hsz
  have hts := atoms_spec (ws := hws0 y cc maxL ret) B.pre
  have hl := lv_entry av (n := maxL) hlen
  rw [lg_entry_eq]
  generalize (lg_sl av ++ List.replicate (maxL - (lg_sl av).length) Slot.unset).toArray = ls at hl ⊢
  refine body p e s m below meth c ls ⟨B.exec, B.bytes, hml, findClass_of_methodNamed B.named, fun w hw => hts w (List.mem_cons_of_mem _ hw)⟩ B.returns B.notSynchronized (name_of_methodNamed B.named B.method).1 (B.noHandlers (hts _ List.mem_cons_self)) rfl ⟨hK, hP, ⟨hD0.1, fun k q hq => ?_⟩, va_S.rf, fun q h => Or.inr h, hE⟩ hl
  obtain ⟨pp, hp1, rfl⟩ := hws_of hq
  exact Or.inl ⟨pp, List.mem_of_getElem? hp1, rfl⟩
end
section
abbrev nx (i : Int32) : Nat := i.toNatClampNeg
abbrev iu (x y : Int32) : Int32 := (x.toUInt32 >>> (y.toUInt32 &&& Int32.toUInt32 31)).toInt32
abbrev irm (x y : Int32) : Int32 := x - x / y * y
abbrev ib (x : Int32) : Int32 := x.toInt8.toInt32
abbrev ih (x : Int32) : Int32 := x.toInt16.toInt32
abbrev Ev0 : HE := fun _ _ => True
def p0 {α : Type} (S : HS) (Q : α → Prop) : α → HS → Prop := fun r u => u = S ∧ Q r
def p0v (S : HS) (Q : Prop) : HS → Prop := fun u => u = S ∧ Q
def pI {α : Type} (J : HJ) (T F : HR) (L : HL) (Q : α → HI → Prop) : α → HS → Prop := fun r u => ∃ I, u = (I, J, T, F, L) ∧ Q r I
def pIv (J : HJ) (T F : HR) (L : HL) (Q : HI → Prop) : HS → Prop := fun u => ∃ I, u = (I, J, T, F, L) ∧ Q I
def pIJ {α : Type} (T F : HR) (L : HL) (Q : α → HI → HJ → Prop) : α → HS → Prop := fun r u => ∃ I J, u = (I, J, T, F, L) ∧ Q r I J
def pIJv (T F : HR) (L : HL) (Q : HI → HJ → Prop) : HS → Prop := fun u => ∃ I J, u = (I, J, T, F, L) ∧ Q I J
section HM4
variable {p : Program} {l : Launch} {e : Env} {R : Room} {s : State} {m : MethodId} {args : Array Value} {below : List Frame} {meth : Method} {c : Code} {H : Heap} {locs : List Loc} {cells slots : Nat} {Q : State → Prop}
variable {cc : ByteArray} {pc : Nat} {ls : Array Slot} {rest : List Value}
theorem hm_idiv (hexec : p.tables.exec = Jvm.exec) (hb : c.code = cc) {x y : Int32} (hdg : decode cc pc = .ok (.idiv, 1)) (hne : ¬ y = 0)
    (k : W p l e R s m args below meth c H locs cells slots Q (F0 m (pc + 1) ls (.int (x / y) :: rest))) : W p l e R s m args below meth c H locs cells slots Q (F0 m pc ls (.int y :: .int x :: rest)) := lv_idiv hexec hb hdg hne k
theorem hm_irem (hexec : p.tables.exec = Jvm.exec) (hb : c.code = cc) {x y : Int32} (hdg : decode cc pc = .ok (.irem, 1)) (hne : ¬ y = 0)
    (k : W p l e R s m args below meth c H locs cells slots Q (F0 m (pc + 1) ls (.int (irm x y) :: rest))) : W p l e R s m args below meth c H locs cells slots Q (F0 m pc ls (.int y :: .int x :: rest)) := lv_irem hexec hb hdg hne k
/-- a switch's default road: sp, the numbers with a road of their own -/
theorem hm_tabD {dflt lo hi : Int} {offs : Array Int} {len : Nat} {x : Int32} {tgt : Nat} (sp : List Int32) (hexec : p.tables.exec = Jvm.exec) (hb : c.code = cc) (hdg : decode cc pc = .ok (.tableswitch dflt lo hi offs, len))
    (hall : ∀ j : Fin offs.size, offs[j.val]? = some dflt ∨ ∃ v ∈ sp, v.toInt = lo + j.val) (hx : ∀ v ∈ sp, ¬ x = v) (ht : (pc : Int) + dflt = (tgt : Int) ∧ hi - lo < offs.size)
    (k : W p l e R s m args below meth c H locs cells slots Q (F0 m tgt ls rest)) : W p l e R s m args below meth c H locs cells slots Q (F0 m pc ls (.int x :: rest)) := by
  by_cases h1 : x.toInt < lo
  · exact lv_tableOut hexec hb hdg (Or.inl h1) ht.1 k
  · by_cases h2 : hi < x.toInt
    · exact lv_tableOut hexec hb hdg (Or.inr h2) ht.1 k
    · have hj : (x.toInt - lo).toNat < offs.size := by have := ht.2; omega
      rcases hall ⟨_, hj⟩ with h | ⟨v, hv, e1⟩
      · exact lv_tableIn hexec hb hdg h1 h2 h ht.1 k
      · exact absurd (Int32.toInt_inj.mp (show x.toInt = v.toInt by rw [e1]; dsimp only; omega)) (hx v hv)
end HM4
end
section
def LM : HL := [(0, 18, 0), (1, 0, 4), (2, 0, 8), (3, 0, 8), (4, 0, 8), (5, 0, 8192), (6, 0, 8000), (7, 0, 8), (8, 0, 8), (9, 0, 8), (10, 0, 500), (11, 0, 16), (12, 0, 16), (13, 0, 16), (14, 0, 1600), (15, 0, 520), (16, 3, 9), (17, 0, 8), (18, 0, 8), (19, 0, 520), (20, 0, 6561), (21, 0, 6561), (22, 0, 52488), (23, 0, 8), (24, 0, 8192), (25, 0, 52488), (26, 0, 8192), (27, 0, 8192), (28, 0, 8), (29, 0, 8), (30, 0, 2048), (31, 0, 33), (32, 0, 32), (33, 0, 32), (34, 0, 33), (35, 0, 6), (36, 0, 192), (37, 0, 1280), (38, 0, 4), (39, 0, 4), (40, 0, 32), (41, 0, 32), (42, 0, 32), (43, 0, 32768), (44, 0, 32000), (45, 0, 32), (46, 0, 32)]
def FM : HR
  | 0, 6 => some 1
  | 0, 7 => some 2
  | 0, 8 => some 3
  | 0, 9 => some 4
  | 0, 10 => some 5
  | 0, 11 => some 6
  | 0, 12 => some 7
  | 0, 13 => some 8
  | 0, 14 => some 9
  | 0, 15 => some 10
  | 0, 31 => some 11
  | 0, 32 => some 12
  | 0, 33 => some 13
  | 0, 34 => some 14
  | 0, 35 => some 15
  | 0, 36 => some 16
  | 0, 37 => some 17
  | 0, 38 => some 18
  | 0, 39 => some 19
  | 0, 41 => some 20
  | 0, 42 => some 21
  | 0, 43 => some 22
  | 0, 44 => some 23
  | 0, 45 => some 24
  | 0, 46 => some 25
  | 0, 47 => some 26
  | 0, 48 => some 27
  | 0, 51 => some 28
  | 0, 52 => some 29
  | 0, 53 => some 30
  | 0, 55 => some 31
  | 0, 56 => some 32
  | 0, 57 => some 33
  | 0, 58 => some 34
  | 0, 59 => some 35
  | 0, 60 => some 36
  | 0, 61 => some 37
  | 0, 66 => some 38
  | 0, 67 => some 39
  | 0, 68 => some 40
  | 0, 69 => some 41
  | 0, 70 => some 42
  | 0, 71 => some 43
  | 0, 72 => some 44
  | 0, 73 => some 45
  | 0, 74 => some 46
  | _, _ => none
theorem LM_0 : (0, 18, 0) ∈ LM := by decide
theorem LM_1 : (1, 0, 4) ∈ LM := by decide
theorem LM_2 : (2, 0, 8) ∈ LM := by decide
theorem LM_3 : (3, 0, 8) ∈ LM := by decide
theorem LM_4 : (4, 0, 8) ∈ LM := by decide
theorem LM_5 : (5, 0, 8192) ∈ LM := by decide
theorem LM_6 : (6, 0, 8000) ∈ LM := by decide
theorem LM_7 : (7, 0, 8) ∈ LM := by decide
theorem LM_8 : (8, 0, 8) ∈ LM := by decide
theorem LM_9 : (9, 0, 8) ∈ LM := by decide
theorem LM_10 : (10, 0, 500) ∈ LM := by decide
theorem LM_11 : (11, 0, 16) ∈ LM := by decide
theorem LM_12 : (12, 0, 16) ∈ LM := by decide
theorem LM_13 : (13, 0, 16) ∈ LM := by decide
theorem LM_14 : (14, 0, 1600) ∈ LM := by decide
theorem LM_15 : (15, 0, 520) ∈ LM := by decide
theorem LM_16 : (16, 3, 9) ∈ LM := by decide
theorem LM_17 : (17, 0, 8) ∈ LM := by decide
theorem LM_18 : (18, 0, 8) ∈ LM := by decide
theorem LM_19 : (19, 0, 520) ∈ LM := by decide
theorem LM_20 : (20, 0, 6561) ∈ LM := by decide
theorem LM_21 : (21, 0, 6561) ∈ LM := by decide
theorem LM_22 : (22, 0, 52488) ∈ LM := by decide
theorem LM_23 : (23, 0, 8) ∈ LM := by decide
theorem LM_24 : (24, 0, 8192) ∈ LM := by decide
theorem LM_25 : (25, 0, 52488) ∈ LM := by decide
theorem LM_26 : (26, 0, 8192) ∈ LM := by decide
theorem LM_27 : (27, 0, 8192) ∈ LM := by decide
theorem LM_28 : (28, 0, 8) ∈ LM := by decide
theorem LM_29 : (29, 0, 8) ∈ LM := by decide
theorem LM_30 : (30, 0, 2048) ∈ LM := by decide
theorem LM_31 : (31, 0, 33) ∈ LM := by decide
theorem LM_32 : (32, 0, 32) ∈ LM := by decide
theorem LM_33 : (33, 0, 32) ∈ LM := by decide
theorem LM_34 : (34, 0, 33) ∈ LM := by decide
theorem LM_35 : (35, 0, 6) ∈ LM := by decide
theorem LM_36 : (36, 0, 192) ∈ LM := by decide
theorem LM_37 : (37, 0, 1280) ∈ LM := by decide
theorem LM_38 : (38, 0, 4) ∈ LM := by decide
theorem LM_39 : (39, 0, 4) ∈ LM := by decide
theorem LM_40 : (40, 0, 32) ∈ LM := by decide
theorem LM_41 : (41, 0, 32) ∈ LM := by decide
theorem LM_42 : (42, 0, 32) ∈ LM := by decide
theorem LM_43 : (43, 0, 32768) ∈ LM := by decide
theorem LM_44 : (44, 0, 32000) ∈ LM := by decide
theorem LM_45 : (45, 0, 32) ∈ LM := by decide
theorem LM_46 : (46, 0, 32) ∈ LM := by decide
theorem lkM_100 : hF RX11 100 11 46 1 true (.array .int) := ⟨RX11, TX11, 75, tyX11, rfl, inX11, by decide, rfl, kw1398, tyX11_ok, nmX11, rfl, rfl, trivial⟩
theorem lkM_103 : hF RX11 103 11 47 1 true (.array .int) := ⟨RX11, TX11, 75, tyX11, rfl, inX11, by decide, rfl, kw1399, tyX11_ok, nmX11, rfl, rfl, trivial⟩
theorem lkM_106 : hF RX11 106 11 48 1 true (.array .int) := ⟨RX11, TX11, 75, tyX11, rfl, inX11, by decide, rfl, kw1400, tyX11_ok, nmX11, rfl, rfl, trivial⟩
theorem lkM_109 : hF RX11 109 11 49 0 false .int := ⟨RX11, TX11, 75, tyX11, rfl, inX11, by decide, rfl, kw1401, tyX11_ok, nmX11, rfl, rfl, trivial⟩
theorem lkM_112 : hF RX11 112 11 51 1 true (.array .int) := ⟨RX11, TX11, 75, tyX11, rfl, inX11, by decide, rfl, kw1403, tyX11_ok, nmX11, rfl, rfl, trivial⟩
theorem lkM_115 : hF RX11 115 11 52 1 true (.array .int) := ⟨RX11, TX11, 75, tyX11, rfl, inX11, by decide, rfl, kw1404, tyX11_ok, nmX11, rfl, rfl, trivial⟩
theorem lkM_118 : hF RX11 118 11 53 1 true (.array .int) := ⟨RX11, TX11, 75, tyX11, rfl, inX11, by decide, rfl, kw1405, tyX11_ok, nmX11, rfl, rfl, trivial⟩
theorem lkM_121 : hF RX11 121 11 55 1 true (.array .int) := ⟨RX11, TX11, 75, tyX11, rfl, inX11, by decide, rfl, kw1407, tyX11_ok, nmX11, rfl, rfl, trivial⟩
theorem lkM_124 : hF RX11 124 11 56 1 true (.array .int) := ⟨RX11, TX11, 75, tyX11, rfl, inX11, by decide, rfl, kw1408, tyX11_ok, nmX11, rfl, rfl, trivial⟩
theorem lkM_127 : hF RX11 127 11 57 1 true (.array .int) := ⟨RX11, TX11, 75, tyX11, rfl, inX11, by decide, rfl, kw1409, tyX11_ok, nmX11, rfl, rfl, trivial⟩
theorem lkM_13 : hF RX11 13 11 2 0 false .int := ⟨RX11, TX11, 75, tyX11, rfl, inX11, by decide, rfl, kw1354, tyX11_ok, nmX11, rfl, rfl, trivial⟩
theorem lkM_130 : hF RX11 130 11 58 1 true (.array .int) := ⟨RX11, TX11, 75, tyX11, rfl, inX11, by decide, rfl, kw1410, tyX11_ok, nmX11, rfl, rfl, trivial⟩
theorem lkM_133 : hF RX11 133 11 59 1 true (.array .int) := ⟨RX11, TX11, 75, tyX11, rfl, inX11, by decide, rfl, kw1411, tyX11_ok, nmX11, rfl, rfl, trivial⟩
theorem lkM_136 : hF RX11 136 11 60 1 true (.array .int) := ⟨RX11, TX11, 75, tyX11, rfl, inX11, by decide, rfl, kw1412, tyX11_ok, nmX11, rfl, rfl, trivial⟩
theorem lkM_139 : hF RX11 139 11 61 1 true (.array .int) := ⟨RX11, TX11, 75, tyX11, rfl, inX11, by decide, rfl, kw1413, tyX11_ok, nmX11, rfl, rfl, trivial⟩
theorem lkM_142 : hF RX11 142 11 66 1 true (.array .int) := ⟨RX11, TX11, 75, tyX11, rfl, inX11, by decide, rfl, kw1418, tyX11_ok, nmX11, rfl, rfl, trivial⟩
theorem lkM_145 : hF RX11 145 11 67 1 true (.array .int) := ⟨RX11, TX11, 75, tyX11, rfl, inX11, by decide, rfl, kw1419, tyX11_ok, nmX11, rfl, rfl, trivial⟩
theorem lkM_148 : hF RX11 148 11 68 1 true (.array .int) := ⟨RX11, TX11, 75, tyX11, rfl, inX11, by decide, rfl, kw1420, tyX11_ok, nmX11, rfl, rfl, trivial⟩
theorem lkM_151 : hF RX11 151 11 69 1 true (.array .int) := ⟨RX11, TX11, 75, tyX11, rfl, inX11, by decide, rfl, kw1421, tyX11_ok, nmX11, rfl, rfl, trivial⟩
theorem lkM_154 : hF RX11 154 11 70 1 true (.array .int) := ⟨RX11, TX11, 75, tyX11, rfl, inX11, by decide, rfl, kw1422, tyX11_ok, nmX11, rfl, rfl, trivial⟩
theorem lkM_158 : hF RX11 158 11 71 1 true (.array .int) := ⟨RX11, TX11, 75, tyX11, rfl, inX11, by decide, rfl, kw1423, tyX11_ok, nmX11, rfl, rfl, trivial⟩
theorem lkM_16 : hF RX11 16 11 3 0 false .int := ⟨RX11, TX11, 75, tyX11, rfl, inX11, by decide, rfl, kw1355, tyX11_ok, nmX11, rfl, rfl, trivial⟩
theorem lkM_161 : hF RX11 161 11 72 1 true (.array .int) := ⟨RX11, TX11, 75, tyX11, rfl, inX11, by decide, rfl, kw1424, tyX11_ok, nmX11, rfl, rfl, trivial⟩
theorem lkM_164 : hF RX11 164 11 73 1 true (.array .int) := ⟨RX11, TX11, 75, tyX11, rfl, inX11, by decide, rfl, kw1425, tyX11_ok, nmX11, rfl, rfl, trivial⟩
theorem lkM_167 : hF RX11 167 11 74 1 true (.array .int) := ⟨RX11, TX11, 75, tyX11, rfl, inX11, by decide, rfl, kw1426, tyX11_ok, nmX11, rfl, rfl, trivial⟩
theorem lkM_174 : hF RX11 174 11 0 0 false .int := ⟨RX11, TX11, 75, tyX11, rfl, inX11, by decide, rfl, kw1352, tyX11_ok, nmX11, rfl, rfl, trivial⟩
theorem lkM_19 : hF RX11 19 11 5 0 false .int := ⟨RX11, TX11, 75, tyX11, rfl, inX11, by decide, rfl, kw1357, tyX11_ok, nmX11, rfl, rfl, trivial⟩
theorem lkM_195 : hF RX11 195 11 40 0 false .boolean := ⟨RX11, TX11, 75, tyX11, rfl, inX11, by decide, rfl, kw1392, tyX11_ok, nmX11, rfl, rfl, trivial⟩
theorem lkM_211 : hF RX11 211 11 4 0 false .int := ⟨RX11, TX11, 75, tyX11, rfl, inX11, by decide, rfl, kw1356, tyX11_ok, nmX11, rfl, rfl, trivial⟩
theorem lkM_214 : hF RX11 214 11 16 0 false .int := ⟨RX11, TX11, 75, tyX11, rfl, inX11, by decide, rfl, kw1368, tyX11_ok, nmX11, rfl, rfl, trivial⟩
theorem lkM_22 : hF RX11 22 11 6 1 true (.array .int) := ⟨RX11, TX11, 75, tyX11, rfl, inX11, by decide, rfl, kw1358, tyX11_ok, nmX11, rfl, rfl, trivial⟩
theorem lkM_220 : hF RX11 220 11 19 0 false .int := ⟨RX11, TX11, 75, tyX11, rfl, inX11, by decide, rfl, kw1371, tyX11_ok, nmX11, rfl, rfl, trivial⟩
theorem lkM_223 : hF RX11 223 11 20 0 false .int := ⟨RX11, TX11, 75, tyX11, rfl, inX11, by decide, rfl, kw1372, tyX11_ok, nmX11, rfl, rfl, trivial⟩
theorem lkM_229 : hF RX11 229 11 22 0 false .int := ⟨RX11, TX11, 75, tyX11, rfl, inX11, by decide, rfl, kw1374, tyX11_ok, nmX11, rfl, rfl, trivial⟩
theorem lkM_232 : hF RX11 232 11 26 3 false .long := ⟨RX11, TX11, 75, tyX11, rfl, inX11, by decide, rfl, kw1378, tyX11_ok, nmX11, rfl, rfl, trivial⟩
theorem lkM_236 : hF RX11 236 11 24 0 false .int := ⟨RX11, TX11, 75, tyX11, rfl, inX11, by decide, rfl, kw1376, tyX11_ok, nmX11, rfl, rfl, trivial⟩
theorem lkM_239 : hF RX11 239 11 25 0 false .int := ⟨RX11, TX11, 75, tyX11, rfl, inX11, by decide, rfl, kw1377, tyX11_ok, nmX11, rfl, rfl, trivial⟩
theorem lkM_242 : hF RX11 242 11 21 0 false .int := ⟨RX11, TX11, 75, tyX11, rfl, inX11, by decide, rfl, kw1373, tyX11_ok, nmX11, rfl, rfl, trivial⟩
theorem lkM_251 : hF RX11 251 11 23 0 false .int := ⟨RX11, TX11, 75, tyX11, rfl, inX11, by decide, rfl, kw1375, tyX11_ok, nmX11, rfl, rfl, trivial⟩
theorem lkM_26 : hF RX11 26 11 7 1 true (.array .int) := ⟨RX11, TX11, 75, tyX11, rfl, inX11, by decide, rfl, kw1359, tyX11_ok, nmX11, rfl, rfl, trivial⟩
theorem lkM_262 : hF RX11 262 11 17 0 false .int := ⟨RX11, TX11, 75, tyX11, rfl, inX11, by decide, rfl, kw1369, tyX11_ok, nmX11, rfl, rfl, trivial⟩
theorem lkM_265 : hF RX11 265 11 28 0 false .int := ⟨RX11, TX11, 75, tyX11, rfl, inX11, by decide, rfl, kw1380, tyX11_ok, nmX11, rfl, rfl, trivial⟩
theorem lkM_268 : hF RX11 268 11 29 0 false .int := ⟨RX11, TX11, 75, tyX11, rfl, inX11, by decide, rfl, kw1381, tyX11_ok, nmX11, rfl, rfl, trivial⟩
theorem lkM_29 : hF RX11 29 11 8 1 true (.array .int) := ⟨RX11, TX11, 75, tyX11, rfl, inX11, by decide, rfl, kw1360, tyX11_ok, nmX11, rfl, rfl, trivial⟩
theorem lkM_293 : hF RX11 293 11 30 0 false .int := ⟨RX11, TX11, 75, tyX11, rfl, inX11, by decide, rfl, kw1382, tyX11_ok, nmX11, rfl, rfl, trivial⟩
theorem lkM_315 : hF RX11 315 11 27 0 false .int := ⟨RX11, TX11, 75, tyX11, rfl, inX11, by decide, rfl, kw1379, tyX11_ok, nmX11, rfl, rfl, trivial⟩
theorem lkM_32 : hF RX11 32 11 9 1 true (.array .int) := ⟨RX11, TX11, 75, tyX11, rfl, inX11, by decide, rfl, kw1361, tyX11_ok, nmX11, rfl, rfl, trivial⟩
theorem lkM_35 : hF RX11 35 11 10 1 true (.array .int) := ⟨RX11, TX11, 75, tyX11, rfl, inX11, by decide, rfl, kw1362, tyX11_ok, nmX11, rfl, rfl, trivial⟩
theorem lkM_38 : hF RX11 38 11 11 1 true (.array .int) := ⟨RX11, TX11, 75, tyX11, rfl, inX11, by decide, rfl, kw1363, tyX11_ok, nmX11, rfl, rfl, trivial⟩
theorem lkM_403 : hF RX11 403 11 50 0 false .int := ⟨RX11, TX11, 75, tyX11, rfl, inX11, by decide, rfl, kw1402, tyX11_ok, nmX11, rfl, rfl, trivial⟩
theorem lkM_409 : hF RX11 409 11 54 0 false .int := ⟨RX11, TX11, 75, tyX11, rfl, inX11, by decide, rfl, kw1406, tyX11_ok, nmX11, rfl, rfl, trivial⟩
theorem lkM_41 : hF RX11 41 11 12 1 true (.array .int) := ⟨RX11, TX11, 75, tyX11, rfl, inX11, by decide, rfl, kw1364, tyX11_ok, nmX11, rfl, rfl, trivial⟩
theorem lkM_431 : hF RX11 431 11 62 0 false .int := ⟨RX11, TX11, 75, tyX11, rfl, inX11, by decide, rfl, kw1414, tyX11_ok, nmX11, rfl, rfl, trivial⟩
theorem lkM_434 : hF RX11 434 11 63 0 false .int := ⟨RX11, TX11, 75, tyX11, rfl, inX11, by decide, rfl, kw1415, tyX11_ok, nmX11, rfl, rfl, trivial⟩
theorem lkM_437 : hF RX11 437 11 64 0 false .int := ⟨RX11, TX11, 75, tyX11, rfl, inX11, by decide, rfl, kw1416, tyX11_ok, nmX11, rfl, rfl, trivial⟩
theorem lkM_44 : hF RX11 44 11 13 1 true (.array .int) := ⟨RX11, TX11, 75, tyX11, rfl, inX11, by decide, rfl, kw1365, tyX11_ok, nmX11, rfl, rfl, trivial⟩
theorem lkM_440 : hF RX11 440 11 65 0 false .int := ⟨RX11, TX11, 75, tyX11, rfl, inX11, by decide, rfl, kw1417, tyX11_ok, nmX11, rfl, rfl, trivial⟩
theorem lkM_47 : hF RX11 47 11 14 1 true (.array .int) := ⟨RX11, TX11, 75, tyX11, rfl, inX11, by decide, rfl, kw1366, tyX11_ok, nmX11, rfl, rfl, trivial⟩
theorem lkM_50 : hF RX11 50 11 15 1 true (.array .int) := ⟨RX11, TX11, 75, tyX11, rfl, inX11, by decide, rfl, kw1367, tyX11_ok, nmX11, rfl, rfl, trivial⟩
theorem lkM_53 : hF RX11 53 11 18 0 false .int := ⟨RX11, TX11, 75, tyX11, rfl, inX11, by decide, rfl, kw1370, tyX11_ok, nmX11, rfl, rfl, trivial⟩
theorem lkM_56 : hF RX11 56 11 31 1 true (.array .int) := ⟨RX11, TX11, 75, tyX11, rfl, inX11, by decide, rfl, kw1383, tyX11_ok, nmX11, rfl, rfl, trivial⟩
theorem lkM_59 : hF RX11 59 11 32 1 true (.array .int) := ⟨RX11, TX11, 75, tyX11, rfl, inX11, by decide, rfl, kw1384, tyX11_ok, nmX11, rfl, rfl, trivial⟩
theorem lkM_62 : hF RX11 62 11 33 1 true (.array .int) := ⟨RX11, TX11, 75, tyX11, rfl, inX11, by decide, rfl, kw1385, tyX11_ok, nmX11, rfl, rfl, trivial⟩
theorem lkM_65 : hF RX11 65 11 34 1 true (.array .int) := ⟨RX11, TX11, 75, tyX11, rfl, inX11, by decide, rfl, kw1386, tyX11_ok, nmX11, rfl, rfl, trivial⟩
theorem lkM_68 : hF RX11 68 11 35 1 true (.array .int) := ⟨RX11, TX11, 75, tyX11, rfl, inX11, by decide, rfl, kw1387, tyX11_ok, nmX11, rfl, rfl, trivial⟩
theorem lkM_7 : hF RX11 7 11 1 0 false .int := ⟨RX11, TX11, 75, tyX11, rfl, inX11, by decide, rfl, kw1353, tyX11_ok, nmX11, rfl, rfl, trivial⟩
theorem lkM_71 : hF RX11 71 11 36 1 true (.array .boolean) := ⟨RX11, TX11, 75, tyX11, rfl, inX11, by decide, rfl, kw1388, tyX11_ok, nmX11, rfl, rfl, trivial⟩
theorem lkM_75 : hF RX11 75 11 37 1 true (.array .int) := ⟨RX11, TX11, 75, tyX11, rfl, inX11, by decide, rfl, kw1389, tyX11_ok, nmX11, rfl, rfl, trivial⟩
theorem lkM_78 : hF RX11 78 11 38 1 true (.array .int) := ⟨RX11, TX11, 75, tyX11, rfl, inX11, by decide, rfl, kw1390, tyX11_ok, nmX11, rfl, rfl, trivial⟩
theorem lkM_81 : hF RX11 81 11 39 1 true (.array .int) := ⟨RX11, TX11, 75, tyX11, rfl, inX11, by decide, rfl, kw1391, tyX11_ok, nmX11, rfl, rfl, trivial⟩
theorem lkM_84 : hF RX11 84 11 41 1 true (.array .int) := ⟨RX11, TX11, 75, tyX11, rfl, inX11, by decide, rfl, kw1393, tyX11_ok, nmX11, rfl, rfl, trivial⟩
theorem lkM_87 : hF RX11 87 11 42 1 true (.array .int) := ⟨RX11, TX11, 75, tyX11, rfl, inX11, by decide, rfl, kw1394, tyX11_ok, nmX11, rfl, rfl, trivial⟩
theorem lkM_91 : hF RX11 91 11 43 1 true (.array .int) := ⟨RX11, TX11, 75, tyX11, rfl, inX11, by decide, rfl, kw1395, tyX11_ok, nmX11, rfl, rfl, trivial⟩
theorem lkM_94 : hF RX11 94 11 44 1 true (.array .int) := ⟨RX11, TX11, 75, tyX11, rfl, inX11, by decide, rfl, kw1396, tyX11_ok, nmX11, rfl, rfl, trivial⟩
theorem lkM_97 : hF RX11 97 11 45 1 true (.array .int) := ⟨RX11, TX11, 75, tyX11, rfl, inX11, by decide, rfl, kw1397, tyX11_ok, nmX11, rfl, rfl, trivial⟩
theorem ykM_thrown : hYV yX11_thrown cX11_thrown 1 (some .int) 0 := ⟨kw1579, kw1580, kw114, kw1581, by decide +kernel, by decide +kernel, by decide +kernel⟩
theorem ykM_right : hYV yX11_right cX11_right 3 (some .boolean) 2 := ⟨kw1599, kw56, kw114, kw1600, by decide +kernel, by decide +kernel, by decide +kernel⟩
theorem ykM_within : hYS yX11_within cX11_within 3 (some .boolean) 3 := ⟨kw1587, kw114, kw1588, by decide +kernel, by decide +kernel, by decide +kernel⟩
theorem ykM_bits : hYS yX11_bits cX11_bits 3 (some .int) 1 := ⟨kw1346, kw114, kw1347, by decide +kernel, by decide +kernel, by decide +kernel⟩
theorem ykM_all : hYV yX11_all cX11_all 1 (some .int) 0 := ⟨kw1335, kw51, kw114, kw1336, by decide +kernel, by decide +kernel, by decide +kernel⟩
theorem ykM_hears : hYV yX11_hears cX11_hears 4 (some .int) 1 := ⟨kw1350, kw54, kw114, kw1351, by decide +kernel, by decide +kernel, by decide +kernel⟩
theorem ykM_viewsOf : hYV yX11_viewsOf cX11_viewsOf 4 (some .int) 1 := ⟨kw1343, kw53, kw114, kw1344, by decide +kernel, by decide +kernel, by decide +kernel⟩
theorem ykM_blank : hYV yX11_blank cX11_blank 3 none 1 := ⟨kw1339, kw52, kw114, kw1340, by decide +kernel, by decide +kernel, by decide +kernel⟩
theorem ykM_anew : hYV yX11_anew cX11_anew 4 none 2 := ⟨kw1331, kw50, kw114, kw1332, by decide +kernel, by decide +kernel, by decide +kernel⟩
theorem ykM_hall : hYV yX11_hall cX11_hall 5 (some .boolean) 2 := ⟨kw1583, kw1584, kw114, kw1585, by decide +kernel, by decide +kernel, by decide +kernel⟩
theorem ykM_isWearer : hYV yX11_isWearer cX11_isWearer 2 (some .boolean) 1 := ⟨kw1595, kw55, kw114, kw1596, by decide +kernel, by decide +kernel, by decide +kernel⟩
theorem ykM_looks : hYV yX11_looks cX11_looks 4 (some .boolean) 2 := ⟨kw1590, kw1591, kw114, kw1592, by decide +kernel, by decide +kernel, by decide +kernel⟩
theorem ykM_round : hYV yX11_round cX11_round 4 (some .boolean) 2 := ⟨kw1602, kw1603, kw114, kw1604, by decide +kernel, by decide +kernel, by decide +kernel⟩
theorem ykM_heap : hYV yX11_heap cX11_heap 3 (some .boolean) 2 := ⟨kw1606, kw1607, kw114, kw1608, by decide +kernel, by decide +kernel, by decide +kernel⟩
theorem ykM_law : hYV yX11_law cX11_law 3 (some .boolean) 2 := ⟨kw1610, kw1611, kw114, kw1612, by decide +kernel, by decide +kernel, by decide +kernel⟩
theorem ykM_lays : hYV yX11_lays cX11_lays 3 none 1 := ⟨kw1619, kw57, kw114, kw1620, by decide +kernel, by decide +kernel, by decide +kernel⟩
theorem ykM_feed : hYV yX11_feed cX11_feed 6 (some .int) 5 := ⟨kw1614, kw1615, kw114, kw1616, by decide +kernel, by decide +kernel, by decide +kernel⟩
theorem ykM_byteAt : hYV yX11_byteAt cX11_byteAt 2 (some .int) 1 := ⟨kw1631, kw59, kw114, kw1632, by decide +kernel, by decide +kernel, by decide +kernel⟩
theorem ykM_isLetter : hYS yX11_isLetter cX11_isLetter 1 (some .boolean) 1 := ⟨kw1634, kw114, kw1635, by decide +kernel, by decide +kernel, by decide +kernel⟩
theorem ykM_isDigit : hYS yX11_isDigit cX11_isDigit 1 (some .boolean) 1 := ⟨kw1637, kw114, kw1638, by decide +kernel, by decide +kernel, by decide +kernel⟩
theorem ykM_goes : hYV yX11_goes cX11_goes 2 none 0 := ⟨kw1627, kw58, kw114, kw1628, by decide +kernel, by decide +kernel, by decide +kernel⟩
theorem ykM_spelled : hYS yX11_spelled cX11_spelled 8 (some .long) 6 := ⟨kw1655, kw114, kw1656, by decide +kernel, by decide +kernel, by decide +kernel⟩
theorem ykM_letters : hYS yX11_letters cX11_letters 1 (some .long) 1 := ⟨kw1652, kw114, kw1653, by decide +kernel, by decide +kernel, by decide +kernel⟩
theorem ykM_knownWord : hYV yX11_knownWord cX11_knownWord 2 (some .int) 0 := ⟨kw1649, kw62, kw114, kw1650, by decide +kernel, by decide +kernel, by decide +kernel⟩
theorem ykM_wrong : hYV yX11_wrong cX11_wrong 2 none 1 := ⟨kw1659, kw63, kw114, kw1660, by decide +kernel, by decide +kernel, by decide +kernel⟩
theorem ykM_isGood : hYV yX11_isGood cX11_isGood 1 (some .boolean) 0 := ⟨kw1641, kw60, kw114, kw1642, by decide +kernel, by decide +kernel, by decide +kernel⟩
theorem ykM_isSign : hYV yX11_isSign cX11_isSign 2 (some .boolean) 1 := ⟨kw1675, kw67, kw114, kw1676, by decide +kernel, by decide +kernel, by decide +kernel⟩
theorem ykM_puts : hYV yX11_puts cX11_puts 2 none 1 := ⟨kw1691, kw71, kw114, kw1692, by decide +kernel, by decide +kernel, by decide +kernel⟩
theorem ykM_strength : hYS yX11_strength cX11_strength 1 (some .int) 1 := ⟨kw1698, kw114, kw1699, by decide +kernel, by decide +kernel, by decide +kernel⟩
theorem ykM_drops : hYV yX11_drops cX11_drops 2 none 1 := ⟨kw1695, kw72, kw114, kw1696, by decide +kernel, by decide +kernel, by decide +kernel⟩
theorem ykM_waitsFor : hYV yX11_waitsFor cX11_waitsFor 2 none 1 := ⟨kw1683, kw69, kw114, kw1684, by decide +kernel, by decide +kernel, by decide +kernel⟩
theorem ykM_wearer : hYV yX11_wearer cX11_wearer 2 (some .int) 0 := ⟨kw1663, kw64, kw114, kw1664, by decide +kernel, by decide +kernel, by decide +kernel⟩
theorem ykM_part : hYV yX11_part cX11_part 3 none 0 := ⟨kw1687, kw70, kw114, kw1688, by decide +kernel, by decide +kernel, by decide +kernel⟩
theorem ykM_begins : hYV yX11_begins cX11_begins 1 none 0 := ⟨kw1671, kw66, kw114, kw1672, by decide +kernel, by decide +kernel, by decide +kernel⟩
theorem ykM_operand : hYV yX11_operand cX11_operand 5 none 1 := ⟨kw1679, kw68, kw114, kw1680, by decide +kernel, by decide +kernel, by decide +kernel⟩
theorem ykM_expression : hYV yX11_expression cX11_expression 4 (some .int) 0 := ⟨kw1667, kw65, kw114, kw1668, by decide +kernel, by decide +kernel, by decide +kernel⟩
theorem ykM_rule : hYV yX11_rule cX11_rule 4 none 0 := ⟨kw1645, kw61, kw114, kw1646, by decide +kernel, by decide +kernel, by decide +kernel⟩
theorem ykM_copies : hYV yX11_copies cX11_copies 7 (some .int) 3 := ⟨kw1702, kw73, kw114, kw1703, by decide +kernel, by decide +kernel, by decide +kernel⟩
theorem ykM_rules : hYV yX11_rules cX11_rules 5 (some .int) 1 := ⟨kw1622, kw1623, kw114, kw1624, by decide +kernel, by decide +kernel, by decide +kernel⟩
theorem ykM_fault : hYV yX11_fault cX11_fault 1 (some .int) 0 := ⟨kw1705, kw1706, kw114, kw1707, by decide +kernel, by decide +kernel, by decide +kernel⟩
theorem ykM_wears : hYV yX11_wears cX11_wears 4 none 1 := ⟨kw1738, kw77, kw114, kw1739, by decide +kernel, by decide +kernel, by decide +kernel⟩
theorem ykM_sum : hYV yX11_sum cX11_sum 5 (some .int) 2 := ⟨kw1758, kw82, kw114, kw1759, by decide +kernel, by decide +kernel, by decide +kernel⟩
theorem ykM_valueOf : hYV yX11_valueOf cX11_valueOf 4 (some .int) 2 := ⟨kw1754, kw81, kw114, kw1755, by decide +kernel, by decide +kernel, by decide +kernel⟩
theorem ykM_works : hYS yX11_works cX11_works 3 (some .int) 3 := ⟨kw1761, kw114, kw1762, by decide +kernel, by decide +kernel, by decide +kernel⟩
theorem ykM_worth : hYV yX11_worth cX11_worth 6 (some .int) 2 := ⟨kw1750, kw80, kw114, kw1751, by decide +kernel, by decide +kernel, by decide +kernel⟩
theorem ykM_viewOf : hYV yX11_viewOf cX11_viewOf 6 (some .int) 1 := ⟨kw1746, kw79, kw114, kw1747, by decide +kernel, by decide +kernel, by decide +kernel⟩
theorem ykM_guesses : hYV yX11_guesses cX11_guesses 3 (some .int) 1 := ⟨kw1742, kw78, kw114, kw1743, by decide +kernel, by decide +kernel, by decide +kernel⟩
theorem ykM_worksRow : hYV yX11_worksRow cX11_worksRow 4 none 1 := ⟨kw1734, kw76, kw114, kw1735, by decide +kernel, by decide +kernel, by decide +kernel⟩
theorem ykM_worksAll : hYV yX11_worksAll cX11_worksAll 3 none 0 := ⟨kw1730, kw75, kw114, kw1731, by decide +kernel, by decide +kernel, by decide +kernel⟩
theorem ykM_many : hYV yX11_many cX11_many 6 (some .int) 2 := ⟨kw1773, kw84, kw114, kw1774, by decide +kernel, by decide +kernel, by decide +kernel⟩
theorem ykM_counts : hYV yX11_counts cX11_counts 4 (some .boolean) 1 := ⟨kw1769, kw83, kw114, kw1770, by decide +kernel, by decide +kernel, by decide +kernel⟩
theorem ykM_isWon : hYV yX11_isWon cX11_isWon 4 (some .boolean) 2 := ⟨kw1777, kw85, kw114, kw1778, by decide +kernel, by decide +kernel, by decide +kernel⟩
theorem ykM_about : hYV yX11_about cX11_about 4 (some .int) 2 := ⟨kw1709, kw1710, kw114, kw1711, by decide +kernel, by decide +kernel, by decide +kernel⟩
theorem ykM_tell : hYV yX11_tell cX11_tell 5 (some .boolean) 3 := ⟨kw1713, kw1714, kw114, kw1715, by decide +kernel, by decide +kernel, by decide +kernel⟩
theorem ykM_cell : hYV yX11_cell cX11_cell 3 (some .int) 2 := ⟨kw1717, kw1718, kw114, kw1719, by decide +kernel, by decide +kernel, by decide +kernel⟩
theorem ykM_isRow : hYV yX11_isRow cX11_isRow 2 (some .boolean) 1 := ⟨kw1726, kw74, kw114, kw1727, by decide +kernel, by decide +kernel, by decide +kernel⟩
theorem ykM_in : hYV yX11_in cX11_in 5 (some .int) 3 := ⟨kw1721, kw1722, kw114, kw1723, by decide +kernel, by decide +kernel, by decide +kernel⟩
theorem ykM_row : hYV yX11_row cX11_row 4 (some .int) 2 := ⟨kw1764, kw1765, kw114, kw1766, by decide +kernel, by decide +kernel, by decide +kernel⟩
theorem ykM_weight : hYV yX11_weight cX11_weight 6 (some .long) 1 := ⟨kw1785, kw86, kw114, kw1786, by decide +kernel, by decide +kernel, by decide +kernel⟩
theorem ykM_won : hYV yX11_won cX11_won 5 (some .long) 1 := ⟨kw1780, kw1781, kw114, kw1782, by decide +kernel, by decide +kernel, by decide +kernel⟩
theorem ykM_beaten : hYV yX11_beaten cX11_beaten 4 (some .int) 1 := ⟨kw1788, kw1789, kw114, kw1790, by decide +kernel, by decide +kernel, by decide +kernel⟩
theorem ykM_tally : hYV yX11_tally cX11_tally 4 (some .int) 1 := ⟨kw1792, kw1793, kw114, kw1794, by decide +kernel, by decide +kernel, by decide +kernel⟩
theorem ykM_rightOf : hYV yX11_rightOf cX11_rightOf 4 (some .int) 1 := ⟨kw1796, kw1797, kw114, kw1798, by decide +kernel, by decide +kernel, by decide +kernel⟩
theorem ykM_worstRow : hYV yX11_worstRow cX11_worstRow 3 (some .int) 0 := ⟨kw1805, kw87, kw114, kw1806, by decide +kernel, by decide +kernel, by decide +kernel⟩
theorem ykM_worst : hYV yX11_worst cX11_worst 3 (some .int) 1 := ⟨kw1800, kw1801, kw114, kw1802, by decide +kernel, by decide +kernel, by decide +kernel⟩
theorem ykM_laysOut : hYV yX11_laysOut cX11_laysOut 3 none 1 := ⟨kw1813, kw88, kw114, kw1814, by decide +kernel, by decide +kernel, by decide +kernel⟩
theorem ykM_idle : hYV yX11_idle cX11_idle 7 (some .int) 1 := ⟨kw1808, kw1809, kw114, kw1810, by decide +kernel, by decide +kernel, by decide +kernel⟩
theorem ykM_otherwise : hYV yX11_otherwise cX11_otherwise 6 (some .int) 2 := ⟨kw1816, kw1817, kw114, kw1818, by decide +kernel, by decide +kernel, by decide +kernel⟩
theorem ykM_swaps : hYV yX11_swaps cX11_swaps 4 none 2 := ⟨kw1833, kw91, kw114, kw1834, by decide +kernel, by decide +kernel, by decide +kernel⟩
theorem ykM_turns : hYV yX11_turns cX11_turns 5 (some .boolean) 0 := ⟨kw1829, kw90, kw114, kw1830, by decide +kernel, by decide +kernel, by decide +kernel⟩
theorem ykM_isAlike : hYV yX11_isAlike cX11_isAlike 4 (some .boolean) 0 := ⟨kw1825, kw89, kw114, kw1826, by decide +kernel, by decide +kernel, by decide +kernel⟩
theorem ykM_alike : hYV yX11_alike cX11_alike 3 (some .int) 0 := ⟨kw1820, kw1821, kw114, kw1822, by decide +kernel, by decide +kernel, by decide +kernel⟩
theorem ykM_ring : hYV yX11_ring cX11_ring 8 (some .int) 0 := ⟨kw1836, kw1837, kw114, kw1838, by decide +kernel, by decide +kernel, by decide +kernel⟩
theorem ykM_areAtOnce : hYV yX11_areAtOnce cX11_areAtOnce 3 (some .boolean) 0 := ⟨kw1845, kw92, kw114, kw1846, by decide +kernel, by decide +kernel, by decide +kernel⟩
theorem ykM_views : hYV yX11_views cX11_views 3 none 0 := ⟨kw1849, kw93, kw114, kw1850, by decide +kernel, by decide +kernel, by decide +kernel⟩
theorem ykM_hatIn : hYS yX11_hatIn cX11_hatIn 5 (some .int) 3 := ⟨kw1856, kw114, kw1857, by decide +kernel, by decide +kernel, by decide +kernel⟩
theorem ykM_isSomeRight : hYV yX11_isSomeRight cX11_isSomeRight 5 (some .boolean) 1 := ⟨kw1853, kw94, kw114, kw1854, by decide +kernel, by decide +kernel, by decide +kernel⟩
theorem ykM_search : hYV yX11_search cX11_search 7 (some .int) 1 := ⟨kw1840, kw1841, kw114, kw1842, by decide +kernel, by decide +kernel, by decide +kernel⟩
theorem ykM_steps : hYV yX11_steps cX11_steps 1 (some .int) 0 := ⟨kw1859, kw1860, kw114, kw1861, by decide +kernel, by decide +kernel, by decide +kernel⟩
theorem ykM_isWonBy : hYV yX11_isWonBy cX11_isWonBy 4 (some .boolean) 1 := ⟨kw1868, kw95, kw114, kw1869, by decide +kernel, by decide +kernel, by decide +kernel⟩
theorem ykM_sums : hYV yX11_sums cX11_sums 6 (some .int) 0 := ⟨kw1863, kw1864, kw114, kw1865, by decide +kernel, by decide +kernel, by decide +kernel⟩
theorem ykM_constant : hYV yX11_constant cX11_constant 2 (some .int) 1 := ⟨kw1871, kw1872, kw114, kw1873, by decide +kernel, by decide +kernel, by decide +kernel⟩
theorem ykM_last : hYS yX11_last cX11_last 2 (some .int) 1 := ⟨kw1883, kw114, kw1884, by decide +kernel, by decide +kernel, by decide +kernel⟩
theorem ykM_balls : hYV yX11_balls cX11_balls 3 none 0 := ⟨kw1880, kw96, kw114, kw1881, by decide +kernel, by decide +kernel, by decide +kernel⟩
theorem ykM_latest : hYV yX11_latest cX11_latest 4 (some .int) 1 := ⟨kw1891, kw98, kw114, kw1892, by decide +kernel, by decide +kernel, by decide +kernel⟩
theorem ykM_covers : hYV yX11_covers cX11_covers 6 (some .boolean) 1 := ⟨kw1887, kw97, kw114, kw1888, by decide +kernel, by decide +kernel, by decide +kernel⟩
theorem ykM_isGiven : hYV yX11_isGiven cX11_isGiven 4 (some .boolean) 1 := ⟨kw1895, kw99, kw114, kw1896, by decide +kernel, by decide +kernel, by decide +kernel⟩
theorem ykM_cover : hYV yX11_cover cX11_cover 5 (some .int) 0 := ⟨kw1875, kw1876, kw114, kw1877, by decide +kernel, by decide +kernel, by decide +kernel⟩
theorem ykM_given : hYV yX11_given cX11_given 2 (some .int) 1 := ⟨kw1898, kw1899, kw114, kw1900, by decide +kernel, by decide +kernel, by decide +kernel⟩
theorem ykM_says : hYV yX11_says cX11_says 5 none 4 := ⟨kw1907, kw100, kw114, kw1908, by decide +kernel, by decide +kernel, by decide +kernel⟩
theorem ykM_line : hYV yX11_line cX11_line 2 (some .int) 0 := ⟨kw1902, kw1903, kw114, kw1904, by decide +kernel, by decide +kernel, by decide +kernel⟩
theorem ykM_isWonIf : hYV yX11_isWonIf cX11_isWonIf 7 (some .boolean) 3 := ⟨kw1919, kw102, kw114, kw1920, by decide +kernel, by decide +kernel, by decide +kernel⟩
theorem ykM_weighs : hYV yX11_weighs cX11_weighs 7 none 1 := ⟨kw1915, kw101, kw114, kw1916, by decide +kernel, by decide +kernel, by decide +kernel⟩
theorem ykM_mend : hYV yX11_mend cX11_mend 6 (some .int) 1 := ⟨kw1910, kw1911, kw114, kw1912, by decide +kernel, by decide +kernel, by decide +kernel⟩
theorem ykM_draw : hYV yX11_draw cX11_draw 6 (some .int) 1 := ⟨kw1922, kw1923, kw114, kw1924, by decide +kernel, by decide +kernel, by decide +kernel⟩
theorem ykM_keep : hYV yX11_keep cX11_keep 3 (some .boolean) 1 := ⟨kw1927, kw1928, kw114, kw1929, by decide +kernel, by decide +kernel, by decide +kernel⟩
theorem ykM_take : hYV yX11_take cX11_take 3 (some .boolean) 1 := ⟨kw1931, kw1932, kw114, kw1933, by decide +kernel, by decide +kernel, by decide +kernel⟩
theorem ykM_count : hYV yX11_count cX11_count 4 (some .int) 1 := ⟨kw1935, kw1936, kw114, kw1937, by decide +kernel, by decide +kernel, by decide +kernel⟩
end
section
def M_thrown (I : HI)  (Q : Int32 → Prop) : Prop :=
  Q (I 0 0) 
def M_right_b16 (I : HI) (Q : Int32 → HI → Prop) : Prop :=
  if (I 0 0) = 0 then
    (Q 1 I)
    else
    (Q 0 I)
def M_right (I : HI) (x1 : Int32) (x2 : Int32) (Q : Int32 → HI → Prop) : Prop :=
  if (I 0 0) = 0 then
    (if x1 = 0 then
    (M_right_b16 (up2 I 0 0 x2) Q)
    else
    (M_right_b16 I Q))
    else
    (M_right_b16 I Q)
def M_within  (x0 : Int32) (x1 : Int32) (x2 : Int32) (Q : Int32 → Prop) : Prop :=
  if x0 < x1 then
    (Q 0 )
    else
    (if x2 < x0 then
    (Q 0 )
    else
    (Q 1 ))
def M_bits_l4  (Q : Int32 → Prop) : Nat → Int32 → Int32 → Prop
  | 0, _, _ => False
  | n + 1, x1, x2 =>
    if x2 = 0 then
    (Q x1 )
    else
    (M_bits_l4 Q n (x1 + 1) (x2 &&& (x2 - 1)))
def M_bits  (x0 : Int32) (Q : Int32 → Prop) : Prop :=
  ∃ nn, M_bits_l4 Q nn 0 x0
def M_all (I : HI)  (Q : Int32 → Prop) : Prop :=
  Q (((1 : Int32) <<< ((I 0 1) &&& 31)) - 1) 
def M_hears_l4 (I : HI) (x1 : Int32) (Q : Int32 → Prop) : Nat → Int32 → Int32 → Prop
  | 0, _, _ => False
  | n + 1, x2, x3 =>
    if (I 0 1) ≤ x3 then
    (Q x2 )
    else
    (vp_in x3 8 ∧
    vp_in x1 8 ∧
    if (I 3 (nx x1)) ≤ (I 3 (nx x3)) then
    (M_hears_l4 I x1 Q n x2 (x3 + 1))
    else
    (M_hears_l4 I x1 Q n (x2 ||| ((1 : Int32) <<< (x3 &&& 31))) (x3 + 1)))
def M_hears (I : HI) (x1 : Int32) (Q : Int32 → Prop) : Prop :=
  ∃ nn, M_hears_l4 I x1 Q nn 0 0
def M_viewsOf_b73 (I : HI) (x2 : Int32) (Q : Int32 → Prop) : Prop :=
  if x2 ≤ 1024 then
    (Q x2 )
    else
    (Q 1025 )
def M_viewsOf_l39 (I : HI) (x1 : Int32) (Q : Int32 → Prop) : Nat → Int32 → Int32 → Prop
  | 0, _, _ => False
  | n + 1, x2, x3 =>
    M_hears I x1 (fun r3 =>
    M_bits r3 (fun r5 =>
    if r5 ≤ x3 then
    (M_viewsOf_b73 I x2 Q)
    else
    (if 1024 < x2 then
    (M_viewsOf_b73 I x2 Q)
    else
    (M_viewsOf_l39 I x1 Q n (x2 * ((I 0 2) + 1)) (x3 + 1)))))
def M_viewsOf_l4 (I : HI) (x1 : Int32) (Q : Int32 → Prop) : Nat → Int32 → Int32 → Prop
  | 0, _, _ => False
  | n + 1, x2, x3 =>
    vp_in x1 8 ∧
    M_bits (I 2 (nx x1)) (fun r1 =>
    if r1 ≤ x3 then
    (∃ nn, M_viewsOf_l39 I x1 Q nn x2 0)
    else
    (if 1024 < x2 then
    (∃ nn, M_viewsOf_l39 I x1 Q nn x2 0)
    else
    (M_viewsOf_l4 I x1 Q n (x2 * (I 0 2)) (x3 + 1))))
def M_viewsOf (I : HI) (x1 : Int32) (Q : Int32 → Prop) : Prop :=
  ∃ nn, M_viewsOf_l4 I x1 Q nn 1 0
def M_blank_l24 (x1 : Int32) (Q : HI → Prop) : Nat → HI → Int32 → Prop
  | 0, _, _ => False
  | n + 1, I, x2 =>
    if 1024 ≤ x2 then
    (Q I)
    else
    (vp_in ((1024 * x1) + x2) 8192 ∧
    M_blank_l24 x1 Q n (up2 I 5 (nx ((1024 * x1) + x2)) 0) (x2 + 1))
def M_blank (I : HI) (x1 : Int32) (Q : HI → Prop) : Prop :=
  M_viewsOf I x1 (fun r1 =>
    if r1 ≤ 1024 then
    (vp_in x1 8 ∧
    ∃ nn, M_blank_l24 x1 Q nn (up2 I 4 (nx x1) 0) 0)
    else
    (vp_in x1 8 ∧
    ∃ nn, M_blank_l24 x1 Q nn (up2 I 4 (nx x1) 2) 0))
def M_anew_l95  (Q : HI → Prop) : Nat → HI → Int32 → Prop
  | 0, _, _ => False
  | n + 1, I, x3 =>
    if (I 0 1) ≤ x3 then
    (Q (up2 I 0 40 0))
    else
    (M_blank I x3 (fun I1 =>
    M_anew_l95 Q n I1 (x3 + 1)))
def M_anew_l46  (Q : HI → Prop) : Nat → HI → Int32 → Prop
  | 0, _, _ => False
  | n + 1, I, x3 =>
    if 8 ≤ x3 then
    (∃ nn, M_anew_l95 Q nn I 0)
    else
    (vp_in x3 8 ∧
    if ((up2 I 3 (nx x3) 0) 0 1) ≤ x3 then
    (vp_in x3 8 ∧
    M_anew_l46 Q n (up2 (up2 I 3 (nx x3) 0) 2 (nx x3) 0) (x3 + 1))
    else
    (M_all (up2 I 3 (nx x3) 0) (fun r3 =>
    vp_in x3 8 ∧
    M_anew_l46 Q n (up2 (up2 I 3 (nx x3) 0) 2 (nx x3) (r3 &&& (((1 : Int32) <<< (x3 &&& 31)) ^^^ (-1)))) (x3 + 1))))
def M_anew_l17  (Q : HI → Prop) : Nat → HI → Int32 → Prop
  | 0, _, _ => False
  | n + 1, I, x3 =>
    if (I 0 1) ≤ x3 then
    (∃ nn, M_anew_l46 Q nn I 0)
    else
    (M_anew_l17 Q n (up2 I 0 3 ((I 0 3) * (I 0 2))) (x3 + 1))
def M_anew (I : HI) (x1 : Int32) (x2 : Int32) (Q : HI → Prop) : Prop :=
  ∃ nn, M_anew_l17 Q nn (up2 (up2 (up2 I 0 1 x1) 0 2 x2) 0 3 1) 0
def M_hall_l31 (I : HI) (x1 : Int32) (x2 : Int32) (Q : Int32 → HI → Prop) : Nat → Int32 → Int32 → Prop
  | 0, _, _ => False
  | n + 1, x3, x4 =>
    if x1 ≤ x4 then
    (if x3 ≤ 6561 then
    (M_anew I x1 x2 (fun I5 =>
    Q 1 I5))
    else
    (Q 0 I))
    else
    (M_hall_l31 I x1 x2 Q n (x3 * x2) (x4 + 1))
def M_hall (I : HI) (x1 : Int32) (x2 : Int32) (Q : Int32 → HI → Prop) : Prop :=
  M_within x1 (1 : Int32) (8 : Int32) (fun r1 =>
    if r1 = 0 then
    (Q 0 (up2 I 0 0 0))
    else
    (M_within x2 (2 : Int32) (4 : Int32) (fun r3 =>
    if r3 = 0 then
    (Q 0 (up2 I 0 0 0))
    else
    (∃ nn, M_hall_l31 (up2 I 0 0 0) x1 x2 Q nn 1 0))))
def M_isWearer (I : HI) (x1 : Int32) (Q : Int32 → HI → Prop) : Prop :=
  if x1 < 0 then
    (M_right (up2 I 0 0 0) (0 : Int32) (1 : Int32) (fun r1 I2 =>
    zb r1 ∧ Q r1 I2))
    else
    (if ((up2 I 0 0 0) 0 1) ≤ x1 then
    (M_right (up2 I 0 0 0) (0 : Int32) (1 : Int32) (fun r4 I5 =>
    zb r4 ∧ Q r4 I5))
    else
    (M_right (up2 I 0 0 0) (1 : Int32) (1 : Int32) (fun r7 I8 =>
    zb r7 ∧ Q r7 I8)))
def M_looks_b44 (I : HI) (x1 : Int32) (x2 : Int32) (t0 : Int32) (Q : Int32 → HI → Prop) : Prop :=
  vp_in x1 8 ∧
    if t0 = 0 then
    (Q 1 (up2 (up2 I 2 (nx x1) x2) 0 40 0))
    else
    (vp_in x1 8 ∧
    if ((up2 I 2 (nx x1) x2) 4 (nx x1)) = 1 then
    (Q 1 (up2 (up2 I 2 (nx x1) x2) 0 40 0))
    else
    (M_blank (up2 I 2 (nx x1) x2) x1 (fun I6 =>
    Q 1 (up2 I6 0 40 0))))
def M_looks (I : HI) (x1 : Int32) (x2 : Int32) (Q : Int32 → HI → Prop) : Prop :=
  M_isWearer I x1 (fun r1 I2 =>
    if r1 = 0 then
    (Q 0 I2)
    else
    (M_all I2 (fun r4 =>
    if (x2 &&& ((r4 &&& (((1 : Int32) <<< (x1 &&& 31)) ^^^ (-1))) ^^^ (-1))) = 0 then
    (vp_in x1 8 ∧
    if (I2 2 (nx x1)) = x2 then
    (M_looks_b44 I2 x1 x2 0 Q)
    else
    (M_looks_b44 I2 x1 x2 1 Q))
    else
    (Q 0 I2))))
def M_round_l58  (Q : Int32 → HI → Prop) : Nat → HI → Int32 → Prop
  | 0, _, _ => False
  | n + 1, I, x3 =>
    if (I 0 1) ≤ x3 then
    (Q 1 (up2 I 0 40 0))
    else
    (vp_in x3 8 ∧
    if (I 4 (nx x3)) = 1 then
    (M_round_l58 Q n I (x3 + 1))
    else
    (vp_in x3 8 ∧
    M_hears I x3 (fun r6 =>
    if (I 9 (nx x3)) = r6 then
    (M_round_l58 Q n I (x3 + 1))
    else
    (M_blank I x3 (fun I8 =>
    M_round_l58 Q n I8 (x3 + 1))))))
def M_round_l24 (x1 : Int32) (x2 : Int32) (Q : Int32 → HI → Prop) : Nat → HI → Int32 → Prop
  | 0, _, _ => False
  | n + 1, I, x3 =>
    if (I 0 1) ≤ x3 then
    (vp_in x1 8 ∧
    ∃ nn, M_round_l58 Q nn (up2 I 3 (nx x1) x2) 0)
    else
    (M_hears I x3 (fun r10 =>
    vp_in x3 8 ∧
    M_round_l24 x1 x2 Q n (up2 I 9 (nx x3) r10) (x3 + 1)))
def M_round (I : HI) (x1 : Int32) (x2 : Int32) (Q : Int32 → HI → Prop) : Prop :=
  M_isWearer I x1 (fun r1 I2 =>
    if r1 = 0 then
    (Q 0 I2)
    else
    (M_within x2 (0 : Int32) (7 : Int32) (fun r4 =>
    if r4 = 0 then
    (Q 0 I2)
    else
    (∃ nn, M_round_l24 x1 x2 Q nn I2 0))))
def M_heap (I : HI) (x1 : Int32) (x2 : Int32) (Q : Int32 → HI → Prop) : Prop :=
  M_within x1 (0 : Int32) (((up2 I 0 0 0) 0 2) - 1) (fun r1 =>
    if r1 = 0 then
    (Q 0 (up2 I 0 0 0))
    else
    (M_within x2 (0 : Int32) (9 : Int32) (fun r3 =>
    if r3 = 0 then
    (Q 0 (up2 I 0 0 0))
    else
    (vp_in x1 4 ∧
    Q 1 (up2 (up2 I 0 0 0) 1 (nx x1) x2)))))
def M_law (I : HI) (x1 : Int32) (x2 : Int32) (Q : Int32 → HI → Prop) : Prop :=
  M_within x1 (0 : Int32) (3 : Int32) (fun r1 =>
    if r1 = 0 then
    (Q 0 (up2 I 0 0 0))
    else
    (M_within x2 (0 : Int32) (8 : Int32) (fun r3 =>
    if r3 = 0 then
    (Q 0 (up2 I 0 0 0))
    else
    (Q 1 (up2 (up2 (up2 I 0 0 0) 0 4 x1) 0 5 x2)))))
def M_lays_l3 (x1 : Int32) (Q : HI → Prop) : Nat → HI → Int32 → Prop
  | 0, _, _ => False
  | n + 1, I, x2 =>
    if x2 < 0 then
    (Q I)
    else
    (vp_in (I 0 16) 500 ∧
    M_lays_l3 x1 Q n (up2 (up2 I 10 (nx (I 0 16)) ((x1 >>> (x2 &&& 31)) &&& 255)) 0 16 (((up2 I 10 (nx (I 0 16)) ((x1 >>> (x2 &&& 31)) &&& 255)) 0 16) + 1)) (x2 + (-8)))
def M_lays (I : HI) (x1 : Int32) (Q : HI → Prop) : Prop :=
  ∃ nn, M_lays_l3 x1 Q nn I 24
def M_feed (I : HI) (x1 : Int32) (x2 : Int32) (x3 : Int32) (x4 : Int32) (x5 : Int32) (Q : Int32 → HI → Prop) : Prop :=
  if (((up2 I 0 0 0) 0 16) + 20) ≤ 500 then
    (M_lays (up2 I 0 0 0) x1 (fun I1 =>
    M_lays I1 x2 (fun I3 =>
    M_lays I3 x3 (fun I5 =>
    M_lays I5 x4 (fun I7 =>
    M_lays I7 x5 (fun I9 =>
    Q (I9 0 16) I9))))))
    else
    (Q (-1) (up2 I 0 0 0))
def M_byteAt (I : HI) (x1 : Int32) (Q : Int32 → Prop) : Prop :=
  if (I 0 19) ≤ x1 then
    (Q 0 )
    else
    (vp_in x1 500 ∧
    Q (I 10 (nx x1)) )
def M_isLetter  (x0 : Int32) (Q : Int32 → Prop) : Prop :=
  if x0 < 97 then
    (Q 0 )
    else
    (if 122 < x0 then
    (Q 0 )
    else
    (Q 1 ))
def M_isDigit  (x0 : Int32) (Q : Int32 → Prop) : Prop :=
  if x0 < 48 then
    (Q 0 )
    else
    (if 57 < x0 then
    (Q 0 )
    else
    (Q 1 ))
def M_goes_b331 (I : HI) (J : HJ) (Q : HI → HJ → Prop) : Prop :=
  Q (up2 I 0 23 ((I 0 20) - (I 0 22))) J
def M_goes_b328 (I : HI) (J : HJ) (t0 : Int32) (Q : HI → HJ → Prop) : Prop :=
  M_goes_b331 (up2 I 0 21 t0) J Q
def M_goes_b237 (I : HI) (J : HJ) (K187 : HI → Prop) (Q : HI → HJ → Prop) : Prop :=
  K187 (up2 I 0 20 ((I 0 20) + 1))
def M_goes_l187 (J : HJ) (Q : HI → HJ → Prop) : Nat → HI → Prop
  | 0, _ => False
  | n + 1, I =>
    M_byteAt I (I 0 20) (fun r7 =>
    M_isDigit r7 (fun r9 =>
    if r9 = 0 then
    (M_goes_b331 (up2 I 0 21 2) J Q)
    else
    (if 3 ≤ ((I 0 20) - (I 0 22)) then
    (M_goes_b237 I J (fun I' => M_goes_l187 J Q n I') Q)
    else
    (M_byteAt I (I 0 20) (fun r11 =>
    M_goes_b237 (up2 I 0 24 (((10 * (I 0 24)) + r11) - 48)) J (fun I' => M_goes_l187 J Q n I') Q)))))
def M_goes_b159 (I : HI) (J : HJ) (K108 : HI → HJ → Prop) (Q : HI → HJ → Prop) : Prop :=
  K108 (up2 I 0 20 ((I 0 20) + 1)) J
def M_goes_l108  (Q : HI → HJ → Prop) : Nat → HI → HJ → Prop
  | 0, _, _ => False
  | n + 1, I, J =>
    M_byteAt I (I 0 20) (fun r13 =>
    M_isLetter r13 (fun r15 =>
    if r15 = 0 then
    (M_goes_b331 (up2 I 0 21 1) J Q)
    else
    (if 7 ≤ ((I 0 20) - (I 0 22)) then
    (M_goes_b159 I J (fun I' J' => M_goes_l108 Q n I' J') Q)
    else
    (M_byteAt I (I 0 20) (fun r17 =>
    M_goes_b159 I (up2 J 0 26 (((J 0 26) <<< (Int32.toInt64 (5 : Int32) &&& 63)) ||| (Int32.toInt64 (r17 - 96)))) (fun I' J' => M_goes_l108 Q n I' J') Q)))))
def M_goes_b50 (I : HI) (J : HJ) (Q : HI → HJ → Prop) : Prop :=
  M_byteAt (up2 (up2 I 0 22 (I 0 20)) 0 24 0) ((up2 (up2 I 0 22 (I 0 20)) 0 24 0) 0 20) (fun r1 =>
    if ((up2 (up2 (up2 I 0 22 (I 0 20)) 0 24 0) 0 25 r1) 0 20) < ((up2 (up2 (up2 I 0 22 (I 0 20)) 0 24 0) 0 25 r1) 0 19) then
    (M_isLetter r1 (fun r3 =>
    if r3 = 0 then
    (M_isDigit r1 (fun r5 =>
    if r5 = 0 then
    (if r1 = 59 then
    (M_goes_b328 (up2 (up2 (up2 (up2 I 0 22 (I 0 20)) 0 24 0) 0 25 r1) 0 20 (((up2 (up2 (up2 I 0 22 (I 0 20)) 0 24 0) 0 25 r1) 0 20) + 1)) (up2 J 0 26 (0 : Int64)) 3 Q)
    else
    (if r1 = 40 then
    (M_goes_b328 (up2 (up2 (up2 (up2 I 0 22 (I 0 20)) 0 24 0) 0 25 r1) 0 20 (((up2 (up2 (up2 I 0 22 (I 0 20)) 0 24 0) 0 25 r1) 0 20) + 1)) (up2 J 0 26 (0 : Int64)) 3 Q)
    else
    (if r1 = 41 then
    (M_goes_b328 (up2 (up2 (up2 (up2 I 0 22 (I 0 20)) 0 24 0) 0 25 r1) 0 20 (((up2 (up2 (up2 I 0 22 (I 0 20)) 0 24 0) 0 25 r1) 0 20) + 1)) (up2 J 0 26 (0 : Int64)) 3 Q)
    else
    (if r1 = 43 then
    (M_goes_b328 (up2 (up2 (up2 (up2 I 0 22 (I 0 20)) 0 24 0) 0 25 r1) 0 20 (((up2 (up2 (up2 I 0 22 (I 0 20)) 0 24 0) 0 25 r1) 0 20) + 1)) (up2 J 0 26 (0 : Int64)) 3 Q)
    else
    (if r1 = 45 then
    (M_goes_b328 (up2 (up2 (up2 (up2 I 0 22 (I 0 20)) 0 24 0) 0 25 r1) 0 20 (((up2 (up2 (up2 I 0 22 (I 0 20)) 0 24 0) 0 25 r1) 0 20) + 1)) (up2 J 0 26 (0 : Int64)) 3 Q)
    else
    (if r1 = 42 then
    (M_goes_b328 (up2 (up2 (up2 (up2 I 0 22 (I 0 20)) 0 24 0) 0 25 r1) 0 20 (((up2 (up2 (up2 I 0 22 (I 0 20)) 0 24 0) 0 25 r1) 0 20) + 1)) (up2 J 0 26 (0 : Int64)) 3 Q)
    else
    (if r1 = 47 then
    (M_goes_b328 (up2 (up2 (up2 (up2 I 0 22 (I 0 20)) 0 24 0) 0 25 r1) 0 20 (((up2 (up2 (up2 I 0 22 (I 0 20)) 0 24 0) 0 25 r1) 0 20) + 1)) (up2 J 0 26 (0 : Int64)) 3 Q)
    else
    (if r1 = 60 then
    (M_goes_b328 (up2 (up2 (up2 (up2 I 0 22 (I 0 20)) 0 24 0) 0 25 r1) 0 20 (((up2 (up2 (up2 I 0 22 (I 0 20)) 0 24 0) 0 25 r1) 0 20) + 1)) (up2 J 0 26 (0 : Int64)) 3 Q)
    else
    (if r1 = 61 then
    (M_goes_b328 (up2 (up2 (up2 (up2 I 0 22 (I 0 20)) 0 24 0) 0 25 r1) 0 20 (((up2 (up2 (up2 I 0 22 (I 0 20)) 0 24 0) 0 25 r1) 0 20) + 1)) (up2 J 0 26 (0 : Int64)) 3 Q)
    else
    (M_goes_b328 (up2 (up2 (up2 (up2 I 0 22 (I 0 20)) 0 24 0) 0 25 r1) 0 20 (((up2 (up2 (up2 I 0 22 (I 0 20)) 0 24 0) 0 25 r1) 0 20) + 1)) (up2 J 0 26 (0 : Int64)) 4 Q))))))))))
    else
    (∃ nn, M_goes_l187 (up2 J 0 26 (0 : Int64)) Q nn (up2 (up2 (up2 I 0 22 (I 0 20)) 0 24 0) 0 25 r1))))
    else
    (∃ nn, M_goes_l108 Q nn (up2 (up2 (up2 I 0 22 (I 0 20)) 0 24 0) 0 25 r1) (up2 J 0 26 (0 : Int64)))))
    else
    (M_goes_b331 (up2 (up2 (up2 (up2 I 0 22 (I 0 20)) 0 24 0) 0 25 r1) 0 21 0) (up2 J 0 26 (0 : Int64)) Q))
def M_goes_b37 (I : HI) (J : HJ) (K0 : HI → Prop) (Q : HI → HJ → Prop) : Prop :=
  K0 (up2 I 0 20 ((I 0 20) + 1))
def M_goes_l0 (J : HJ) (Q : HI → HJ → Prop) : Nat → HI → Prop
  | 0, _ => False
  | n + 1, I =>
    if (I 0 19) ≤ (I 0 20) then
    (M_goes_b50 I J Q)
    else
    (M_byteAt I (I 0 20) (fun r19 =>
    if r19 = 32 then
    (M_goes_b37 I J (fun I' => M_goes_l0 J Q n I') Q)
    else
    (M_byteAt I (I 0 20) (fun r21 =>
    if r21 = 10 then
    (M_goes_b37 I J (fun I' => M_goes_l0 J Q n I') Q)
    else
    (M_goes_b50 I J Q)))))
def M_goes (I : HI) (J : HJ)  (Q : HI → HJ → Prop) : Prop :=
  ∃ nn, M_goes_l0 J Q nn I
def M_spelled_b73 (x5 : Int32) (x6 : Int64) (Q : Int64 → Prop) : Prop :=
  if x5 = 0 then
    (Q x6 )
    else
    (Q ((x6 <<< (Int32.toInt64 (5 : Int32) &&& 63)) ||| (Int32.toInt64 (x5 - 96))) )
def M_spelled_b55 (x4 : Int32) (x5 : Int32) (x6 : Int64) (Q : Int64 → Prop) : Prop :=
  if x4 = 0 then
    (M_spelled_b73 x5 x6 Q)
    else
    (M_spelled_b73 x5 ((x6 <<< (Int32.toInt64 (5 : Int32) &&& 63)) ||| (Int32.toInt64 (x4 - 96))) Q)
def M_spelled_b39 (x3 : Int32) (x4 : Int32) (x5 : Int32) (x6 : Int64) (Q : Int64 → Prop) : Prop :=
  if x3 = 0 then
    (M_spelled_b55 x4 x5 x6 Q)
    else
    (M_spelled_b55 x4 x5 ((x6 <<< (Int32.toInt64 (5 : Int32) &&& 63)) ||| (Int32.toInt64 (x3 - 96))) Q)
def M_spelled_b23 (x2 : Int32) (x3 : Int32) (x4 : Int32) (x5 : Int32) (x6 : Int64) (Q : Int64 → Prop) : Prop :=
  if x2 = 0 then
    (M_spelled_b39 x3 x4 x5 x6 Q)
    else
    (M_spelled_b39 x3 x4 x5 ((x6 <<< (Int32.toInt64 (5 : Int32) &&& 63)) ||| (Int32.toInt64 (x2 - 96))) Q)
def M_spelled  (x0 : Int32) (x1 : Int32) (x2 : Int32) (x3 : Int32) (x4 : Int32) (x5 : Int32) (Q : Int64 → Prop) : Prop :=
  if x1 = 0 then
    (M_spelled_b23 x2 x3 x4 x5 (Int32.toInt64 (x0 - 96)) Q)
    else
    (M_spelled_b23 x2 x3 x4 x5 (((Int32.toInt64 (x0 - 96)) <<< (Int32.toInt64 (5 : Int32) &&& 63)) ||| (Int32.toInt64 (x1 - 96))) Q)
def M_letters  (x0 : Int32) (Q : Int64 → Prop) : Prop :=
  if x0 = 0 then
    (M_spelled (119 : Int32) (101 : Int32) (97 : Int32) (114 : Int32) (101 : Int32) (114 : Int32) (fun r1 =>
    Q r1 ))
    else
    if x0 = 1 then
    (M_spelled (112 : Int32) (97 : Int32) (115 : Int32) (115 : Int32) (0 : Int32) (0 : Int32) (fun r3 =>
    Q r3 ))
    else
    if x0 = 2 then
    (M_spelled (103 : Int32) (117 : Int32) (101 : Int32) (115 : Int32) (115 : Int32) (0 : Int32) (fun r5 =>
    Q r5 ))
    else
    if x0 = 3 then
    (M_spelled (97 : Int32) (110 : Int32) (100 : Int32) (0 : Int32) (0 : Int32) (0 : Int32) (fun r7 =>
    Q r7 ))
    else
    if x0 = 4 then
    (M_spelled (111 : Int32) (114 : Int32) (0 : Int32) (0 : Int32) (0 : Int32) (0 : Int32) (fun r9 =>
    Q r9 ))
    else
    if x0 = 5 then
    (M_spelled (110 : Int32) (111 : Int32) (116 : Int32) (0 : Int32) (0 : Int32) (0 : Int32) (fun r11 =>
    Q r11 ))
    else
    if x0 = 6 then
    (M_spelled (109 : Int32) (101 : Int32) (0 : Int32) (0 : Int32) (0 : Int32) (0 : Int32) (fun r13 =>
    Q r13 ))
    else
    if x0 = 7 then
    (M_spelled (110 : Int32) (0 : Int32) (0 : Int32) (0 : Int32) (0 : Int32) (0 : Int32) (fun r15 =>
    Q r15 ))
    else
    if x0 = 8 then
    (M_spelled (113 : Int32) (0 : Int32) (0 : Int32) (0 : Int32) (0 : Int32) (0 : Int32) (fun r17 =>
    Q r17 ))
    else
    if x0 = 9 then
    (M_spelled (115 : Int32) (101 : Int32) (101 : Int32) (115 : Int32) (0 : Int32) (0 : Int32) (fun r19 =>
    Q r19 ))
    else
    if x0 = 10 then
    (M_spelled (104 : Int32) (101 : Int32) (97 : Int32) (114 : Int32) (115 : Int32) (0 : Int32) (fun r21 =>
    Q r21 ))
    else
    if x0 = 11 then
    (M_spelled (115 : Int32) (101 : Int32) (101 : Int32) (110 : Int32) (0 : Int32) (0 : Int32) (fun r23 =>
    Q r23 ))
    else
    (M_spelled (104 : Int32) (101 : Int32) (97 : Int32) (114 : Int32) (100 : Int32) (0 : Int32) (fun r25 =>
    Q r25 ))
def M_knownWord_l21 (I : HI) (J : HJ) (Q : Int32 → Prop) : Nat → Int32 → Prop
  | 0, _ => False
  | n + 1, x1 =>
    if 13 ≤ x1 then
    (Q (-1) )
    else
    (M_letters x1 (fun r1 =>
    if (lg_cmp r1 (J 0 26)) = 0 then
    (Q x1 )
    else
    (M_knownWord_l21 I J Q n (x1 + 1))))
def M_knownWord (I : HI) (J : HJ)  (Q : Int32 → Prop) : Prop :=
  if (I 0 21) = 1 then
    (if (I 0 23) ≤ 6 then
    (∃ nn, M_knownWord_l21 I J Q nn 0)
    else
    (Q (-1) ))
    else
    (Q (-1) )
def M_wrong (I : HI) (x1 : Int32) (Q : HI → Prop) : Prop :=
  if (I 0 17) = 0 then
    (Q (up2 (up2 I 0 17 x1) 0 18 ((up2 I 0 17 x1) 0 22)))
    else
    (Q I)
def M_isGood (I : HI)  (Q : Int32 → Prop) : Prop :=
  if (I 0 17) = 0 then
    (Q 1 )
    else
    (Q 0 )
def M_isSign (I : HI) (x1 : Int32) (Q : Int32 → Prop) : Prop :=
  if (I 0 21) = 3 then
    (if (I 0 25) = x1 then
    (Q 1 )
    else
    (Q 0 ))
    else
    (Q 0 )
def M_puts (I : HI) (x1 : Int32) (Q : HI → Prop) : Prop :=
  vp_in (I 0 28) 1600 ∧
    Q (up2 (up2 I 14 (nx (I 0 28)) x1) 0 28 (((up2 I 14 (nx (I 0 28)) x1) 0 28) + 1))
def M_strength  (x0 : Int32) (Q : Int32 → Prop) : Prop :=
  if x0 = 12 then
    (Q 0 )
    else
    (if x0 = 5 then
    (Q 1 )
    else
    (if x0 = 4 then
    (Q 2 )
    else
    (if x0 = 3 then
    (Q 3 )
    else
    (if x0 = 6 then
    (Q 4 )
    else
    (if x0 = 7 then
    (Q 4 )
    else
    (if x0 = 8 then
    (Q 5 )
    else
    (if x0 = 9 then
    (Q 5 )
    else
    (Q 6 ))))))))
def M_drops_l0 (x1 : Int32) (Q : HI → Prop) : Nat → HI → Prop
  | 0, _ => False
  | n + 1, I =>
    if (I 0 29) ≤ 0 then
    (Q I)
    else
    (vp_in ((I 0 29) - 1) 520 ∧
    if (I 15 (nx ((I 0 29) - 1))) = 12 then
    (Q I)
    else
    (vp_in ((I 0 29) - 1) 520 ∧
    M_strength (I 15 (nx ((I 0 29) - 1))) (fun r1 =>
    if r1 < x1 then
    (Q I)
    else
    (vp_in ((up2 I 0 29 ((I 0 29) - 1)) 0 29) 520 ∧
    M_puts (up2 I 0 29 ((I 0 29) - 1)) ((up2 I 0 29 ((I 0 29) - 1)) 15 (nx ((up2 I 0 29 ((I 0 29) - 1)) 0 29))) (fun I3 =>
    M_drops_l0 x1 Q n I3)))))
def M_drops (I : HI) (x1 : Int32) (Q : HI → Prop) : Prop :=
  ∃ nn, M_drops_l0 x1 Q nn I
def M_waitsFor (I : HI) (x1 : Int32) (Q : HI → Prop) : Prop :=
  vp_in (I 0 29) 520 ∧
    Q (up2 (up2 I 15 (nx (I 0 29)) x1) 0 29 (((up2 I 15 (nx (I 0 29)) x1) 0 29) + 1))
def M_wearer_b57 (I : HI) (J : HJ) (Q : Int32 → HI → HJ → Prop) : Prop :=
  M_isGood I (fun r3 =>
    if r3 = 0 then
    (Q (I 0 24) I J)
    else
    (M_goes I J (fun I5 J6 =>
    Q (I 0 24) I5 J6)))
def M_wearer (I : HI) (J : HJ)  (Q : Int32 → HI → HJ → Prop) : Prop :=
  M_isGood I (fun r1 =>
    if r1 = 0 then
    (Q 0 I J)
    else
    (if (I 0 21) = 2 then
    (if (I 0 23) ≤ 3 then
    (if (I 0 24) < (I 0 1) then
    (M_wearer_b57 I J Q)
    else
    (M_wrong I (4 : Int32) (fun I8 =>
    M_wearer_b57 I8 J Q)))
    else
    (M_wrong I (2 : Int32) (fun I10 =>
    M_wearer_b57 I10 J Q)))
    else
    (M_wrong I (1 : Int32) (fun I12 =>
    M_wearer_b57 I12 J Q))))
def M_part_b118 (I : HI) (J : HJ) (x1 : Int32) (t0 : Int32) (Q : HI → HJ → Prop) : Prop :=
  M_puts I (2 : Int32) (fun I14 =>
    M_puts I14 ((16 * t0) + x1) (fun I16 =>
    Q I16 J))
def M_part_b86 (I : HI) (J : HJ) (x1 : Int32) (Q : HI → HJ → Prop) : Prop :=
  M_isGood I (fun r5 =>
    if r5 = 0 then
    (Q I J)
    else
    (M_goes I J (fun I7 J8 =>
    if x1 = 9 then
    (M_wearer I7 J8 (fun r10 I11 J12 =>
    M_part_b118 I11 J12 x1 r10 Q))
    else
    (if x1 = 10 then
    (M_wearer I7 J8 (fun r18 I19 J20 =>
    M_part_b118 I19 J20 x1 r18 Q))
    else
    (M_part_b118 I7 J8 x1 0 Q)))))
def M_part_b29 (I : HI) (J : HJ) (Q : HI → HJ → Prop) : Prop :=
  M_puts I (1 : Int32) (fun I26 =>
    M_puts I26 (I26 0 24) (fun I28 =>
    M_isGood I28 (fun r30 =>
    if r30 = 0 then
    (Q I28 J)
    else
    (M_goes I28 J (fun I32 J33 =>
    Q I32 J33)))))
def M_part (I : HI) (J : HJ)  (Q : HI → HJ → Prop) : Prop :=
  M_isGood I (fun r1 =>
    if r1 = 0 then
    (Q I J)
    else
    (if (I 0 21) = 2 then
    (if (I 0 23) ≤ 3 then
    (M_part_b29 I J Q)
    else
    (M_wrong I (2 : Int32) (fun I35 =>
    M_part_b29 I35 J Q)))
    else
    (M_knownWord I J (fun r3 =>
    if (I 0 21) = 1 then
    (if 6 ≤ r3 then
    (M_part_b86 I J r3 Q)
    else
    (M_wrong I (3 : Int32) (fun I22 =>
    M_part_b86 I22 J r3 Q)))
    else
    (M_wrong I (1 : Int32) (fun I24 =>
    M_part_b86 I24 J r3 Q))))))
def M_begins (I : HI)  (Q : HI → Prop) : Prop :=
  if 6 ≤ (I 0 30) then
    (if (I 0 21) = 2 then
    (M_wrong I (2 : Int32) (fun I1 =>
    Q I1))
    else
    (if (I 0 21) = 1 then
    (M_wrong I (2 : Int32) (fun I3 =>
    Q I3))
    else
    (M_isSign I (40 : Int32) (fun r5 =>
    if r5 = 0 then
    (M_wrong I (1 : Int32) (fun I7 =>
    Q I7))
    else
    (M_wrong I (2 : Int32) (fun I9 =>
    Q I9))))))
    else
    (vp_in ((up2 I 0 30 ((I 0 30) + 1)) 0 30) 9 ∧
    Q (up2 (up2 I 0 30 ((I 0 30) + 1)) 16 (nx ((up2 I 0 30 ((I 0 30) + 1)) 0 30)) (vp_nar .boolean 0)))
def M_operand_b95 (I : HI) (J : HJ) (x2 : Int32) (t0 : Int32) (K4 : HI → HJ → Int32 → Int32 → Prop) (Q : HI → HJ → Prop) : Prop :=
  if t0 = 0 then
    (K4 I J x2 t0)
    else
    (M_waitsFor I (12 : Int32) (fun I13 =>
    M_goes I13 J (fun I15 J16 =>
    M_begins I15 (fun I18 =>
    K4 I18 J16 1 t0))))
def M_operand_b94 (I : HI) (J : HJ) (x2 : Int32) (K4 : HI → HJ → Int32 → Int32 → Prop) (Q : HI → HJ → Prop) : Prop :=
  M_operand_b95 I J x2 0 K4 Q
def M_operand_b74 (I : HI) (J : HJ) (x2 : Int32) (K4 : HI → HJ → Int32 → Int32 → Prop) (Q : HI → HJ → Prop) : Prop :=
  M_isGood I (fun r11 =>
    if r11 = 0 then
    (M_operand_b94 I J x2 K4 Q)
    else
    (M_isSign I (40 : Int32) (fun r20 =>
    if r20 = 0 then
    (M_operand_b94 I J x2 K4 Q)
    else
    (M_operand_b95 I J x2 1 K4 Q))))
def M_operand_b49 (I : HI) (J : HJ) (x2 : Int32) (x4 : Int32) (K4 : HI → HJ → Int32 → Int32 → Prop) (K18 : HI → HJ → Int32 → Prop) (Q : HI → HJ → Prop) : Prop :=
  M_isGood I (fun r24 =>
    if r24 = 0 then
    (K18 I J (x4 + 1))
    else
    (M_waitsFor I (3 : Int32) (fun I26 =>
    M_goes I26 J (fun I28 J29 =>
    K18 I28 J29 (x4 + 1)))))
def M_operand_l18 (x2 : Int32) (K4 : HI → HJ → Int32 → Int32 → Prop) (Q : HI → HJ → Prop) : Nat → HI → HJ → Int32 → Prop
  | 0, _, _, _ => False
  | n + 1, I, J, x4 =>
    M_isGood I (fun r9 =>
    if r9 = 0 then
    (M_operand_b74 I J x2 K4 Q)
    else
    (if x2 = 0 then
    (M_operand_b74 I J x2 K4 Q)
    else
    (M_knownWord I J (fun r22 =>
    if r22 = 5 then
    (if x4 = 6 then
    (M_wrong I (2 : Int32) (fun I31 =>
    M_operand_b49 I31 J x2 x4 K4 (fun I' J' x4' => M_operand_l18 x2 K4 Q n I' J' x4') Q))
    else
    (M_operand_b49 I J x2 x4 K4 (fun I' J' x4' => M_operand_l18 x2 K4 Q n I' J' x4') Q))
    else
    (M_operand_b74 I J x2 K4 Q)))))
def M_operand_l4  (Q : HI → HJ → Prop) : Nat → HI → HJ → Int32 → Int32 → Prop
  | 0, _, _, _, _ => False
  | n + 1, I, J, x2, x3 =>
    if x3 = 0 then
    (M_part I J (fun I1 J2 =>
    Q I1 J2))
    else
    (M_isGood I (fun r4 =>
    if r4 = 0 then
    (M_part I J (fun I6 J7 =>
    Q I6 J7))
    else
    (∃ nn, M_operand_l18 x2 (fun I' J' x2' x3' => M_operand_l4 Q n I' J' x2' x3') Q nn I J 0)))
def M_operand (I : HI) (J : HJ) (x1 : Int32) (Q : HI → HJ → Prop) : Prop :=
  ∃ nn, M_operand_l4 Q nn I J x1 1
def M_expression_b373 (I : HI) (J : HJ) (x1 : Int32) (Q : Int32 → HI → HJ → Prop) : Prop :=
  M_drops I (0 : Int32) (fun I10 =>
    M_puts I10 (0 : Int32) (fun I12 =>
    Q x1 I12 J))
def M_expression_b353 (I : HI) (J : HJ) (x1 : Int32) (Q : Int32 → HI → HJ → Prop) : Prop :=
  M_isGood I (fun r8 =>
    if r8 = 0 then
    (M_expression_b373 I J x1 Q)
    else
    (if (I 0 30) ≤ 1 then
    (M_expression_b373 I J x1 Q)
    else
    (M_wrong I (1 : Int32) (fun I14 =>
    M_expression_b373 I14 J x1 Q))))
def M_expression_b86 (I : HI) (J : HJ) (x1 : Int32) (x2 : Int32) (t0 : Int32) (K35 : HI → HJ → Int32 → Prop) (Q : Int32 → HI → HJ → Prop) : Prop :=
  M_waitsFor I t0 (fun I22 =>
    vp_in (I22 0 30) 9 ∧
    M_goes (up2 I22 16 (nx (I22 0 30)) (vp_nar .boolean 0)) J (fun I24 J25 =>
    M_operand I24 J25 (1 : Int32) (fun I27 J28 =>
    K35 I27 J28 x2)))
def M_expression_b72 (I : HI) (J : HJ) (x1 : Int32) (x2 : Int32) (x3 : Int32) (t0 : Int32) (K35 : HI → HJ → Int32 → Prop) (Q : Int32 → HI → HJ → Prop) : Prop :=
  M_drops I t0 (fun I20 =>
    if x3 = 3 then
    (M_expression_b86 I20 J x1 x2 4 K35 Q)
    else
    (M_expression_b86 I20 J x1 x2 5 K35 Q))
def M_expression_b61 (I : HI) (J : HJ) (x1 : Int32) (x2 : Int32) (x3 : Int32) (K35 : HI → HJ → Int32 → Prop) (Q : Int32 → HI → HJ → Prop) : Prop :=
  if x3 = 3 then
    (M_expression_b72 I J x1 x2 x3 2 K35 Q)
    else
    (M_expression_b72 I J x1 x2 x3 1 K35 Q)
def M_expression_b228 (I : HI) (J : HJ) (x1 : Int32) (x2 : Int32) (t0 : Int32) (K35 : HI → HJ → Int32 → Prop) (Q : Int32 → HI → HJ → Prop) : Prop :=
  M_waitsFor I t0 (fun I38 =>
    M_goes I38 J (fun I40 J41 =>
    M_operand I40 J41 (0 : Int32) (fun I43 J44 =>
    K35 I43 J44 x2)))
def M_expression_b206 (I : HI) (J : HJ) (x1 : Int32) (x2 : Int32) (K35 : HI → HJ → Int32 → Prop) (Q : Int32 → HI → HJ → Prop) : Prop :=
  M_drops I (5 : Int32) (fun I34 =>
    M_isSign I34 (43 : Int32) (fun r36 =>
    if r36 = 0 then
    (M_expression_b228 I34 J x1 x2 9 K35 Q)
    else
    (M_expression_b228 I34 J x1 x2 8 K35 Q)))
def M_expression_b284 (I : HI) (J : HJ) (x1 : Int32) (x2 : Int32) (t0 : Int32) (K35 : HI → HJ → Int32 → Prop) (Q : Int32 → HI → HJ → Prop) : Prop :=
  M_waitsFor I t0 (fun I54 =>
    M_goes I54 J (fun I56 J57 =>
    M_operand I56 J57 (0 : Int32) (fun I59 J60 =>
    K35 I59 J60 x2)))
def M_expression_b261 (I : HI) (J : HJ) (x1 : Int32) (x2 : Int32) (K35 : HI → HJ → Int32 → Prop) (Q : Int32 → HI → HJ → Prop) : Prop :=
  M_drops I (6 : Int32) (fun I50 =>
    M_isSign I50 (42 : Int32) (fun r52 =>
    if r52 = 0 then
    (M_expression_b284 I50 J x1 x2 11 K35 Q)
    else
    (M_expression_b284 I50 J x1 x2 10 K35 Q)))
def M_expression_b188 (I : HI) (J : HJ) (x1 : Int32) (x2 : Int32) (K35 : HI → HJ → Int32 → Prop) (Q : Int32 → HI → HJ → Prop) : Prop :=
  M_isSign I (43 : Int32) (fun r32 =>
    if r32 = 0 then
    (M_isSign I (45 : Int32) (fun r46 =>
    if r46 = 0 then
    (M_isSign I (42 : Int32) (fun r48 =>
    if r48 = 0 then
    (M_isSign I (47 : Int32) (fun r62 =>
    if r62 = 0 then
    (M_isSign I (41 : Int32) (fun r64 =>
    if r64 = 0 then
    (K35 I J 0)
    else
    (if (I 0 30) ≤ 1 then
    (K35 I J 0)
    else
    (M_drops I (0 : Int32) (fun I66 =>
    M_goes (up2 (up2 I66 0 29 ((I66 0 29) - 1)) 0 30 (((up2 I66 0 29 ((I66 0 29) - 1)) 0 30) - 1)) J (fun I68 J69 =>
    K35 I68 J69 x2))))))
    else
    (M_expression_b261 I J x1 x2 K35 Q)))
    else
    (M_expression_b261 I J x1 x2 K35 Q)))
    else
    (M_expression_b206 I J x1 x2 K35 Q)))
    else
    (M_expression_b206 I J x1 x2 K35 Q))
def M_expression_b163 (I : HI) (J : HJ) (x1 : Int32) (x2 : Int32) (t0 : Int32) (K35 : HI → HJ → Int32 → Prop) (Q : Int32 → HI → HJ → Prop) : Prop :=
  M_waitsFor I t0 (fun I75 =>
    vp_in (I75 0 30) 9 ∧
    M_goes (up2 I75 16 (nx (I75 0 30)) (vp_nar .boolean 1)) J (fun I77 J78 =>
    M_operand I77 J78 (0 : Int32) (fun I80 J81 =>
    K35 I80 J81 x2)))
def M_expression_b129 (I : HI) (J : HJ) (x1 : Int32) (x2 : Int32) (K35 : HI → HJ → Int32 → Prop) (Q : Int32 → HI → HJ → Prop) : Prop :=
  vp_in (I 0 30) 9 ∧
    if (I 16 (nx (I 0 30))) = 0 then
    (M_drops I (4 : Int32) (fun I71 =>
    M_isSign I71 (60 : Int32) (fun r73 =>
    if r73 = 0 then
    (M_expression_b163 I71 J x1 x2 7 K35 Q)
    else
    (M_expression_b163 I71 J x1 x2 6 K35 Q))))
    else
    (M_expression_b188 I J x1 x2 K35 Q)
def M_expression_l35 (x1 : Int32) (Q : Int32 → HI → HJ → Prop) : Nat → HI → HJ → Int32 → Prop
  | 0, _, _, _ => False
  | n + 1, I, J, x2 =>
    if x2 = 0 then
    (M_expression_b353 I J x1 Q)
    else
    (M_isGood I (fun r16 =>
    if r16 = 0 then
    (M_expression_b353 I J x1 Q)
    else
    (M_knownWord I J (fun r18 =>
    if r18 = 3 then
    (M_expression_b61 I J x1 x2 r18 (fun I' J' x2' => M_expression_l35 x1 Q n I' J' x2') Q)
    else
    (if r18 = 4 then
    (M_expression_b61 I J x1 x2 r18 (fun I' J' x2' => M_expression_l35 x1 Q n I' J' x2') Q)
    else
    (M_isSign I (60 : Int32) (fun r30 =>
    if r30 = 0 then
    (M_isSign I (61 : Int32) (fun r83 =>
    if r83 = 0 then
    (M_expression_b188 I J x1 x2 (fun I' J' x2' => M_expression_l35 x1 Q n I' J' x2') Q)
    else
    (M_expression_b129 I J x1 x2 (fun I' J' x2' => M_expression_l35 x1 Q n I' J' x2') Q)))
    else
    (M_expression_b129 I J x1 x2 (fun I' J' x2' => M_expression_l35 x1 Q n I' J' x2') Q))))))))
def M_expression (I : HI) (J : HJ)  (Q : Int32 → HI → HJ → Prop) : Prop :=
  M_isGood I (fun r1 =>
    if r1 = 0 then
    (Q (I 0 28) I J)
    else
    (M_begins (up2 (up2 I 0 29 0) 0 30 0) (fun I3 =>
    M_operand I3 J (1 : Int32) (fun I5 J6 =>
    ∃ nn, M_expression_l35 (I 0 28) Q nn I5 J6 1))))
def M_rule_b127 (I : HI) (J : HJ) (x1 : Int32) (x2 : Int32) (x3 : Int32) (Q : HI → HJ → Prop) : Prop :=
  M_isGood I (fun r27 =>
    if r27 = 0 then
    (Q I J)
    else
    (M_goes I J (fun I29 J30 =>
    vp_in (I29 0 27) 16 ∧
    vp_in ((up2 I29 11 (nx (I29 0 27)) x1) 0 27) 16 ∧
    vp_in ((up2 (up2 I29 11 (nx (I29 0 27)) x1) 12 (nx ((up2 I29 11 (nx (I29 0 27)) x1) 0 27)) x2) 0 27) 16 ∧
    Q (up2 (up2 (up2 (up2 I29 11 (nx (I29 0 27)) x1) 12 (nx ((up2 I29 11 (nx (I29 0 27)) x1) 0 27)) x2) 13 (nx ((up2 (up2 I29 11 (nx (I29 0 27)) x1) 12 (nx ((up2 I29 11 (nx (I29 0 27)) x1) 0 27)) x2) 0 27)) x3) 0 27 (((up2 (up2 (up2 I29 11 (nx (I29 0 27)) x1) 12 (nx ((up2 I29 11 (nx (I29 0 27)) x1) 0 27)) x2) 13 (nx ((up2 (up2 I29 11 (nx (I29 0 27)) x1) 12 (nx ((up2 I29 11 (nx (I29 0 27)) x1) 0 27)) x2) 0 27)) x3) 0 27) + 1)) J30)))
def M_rule_b89 (I : HI) (J : HJ) (x1 : Int32) (x2 : Int32) (Q : HI → HJ → Prop) : Prop :=
  M_isGood I (fun r16 =>
    if r16 = 0 then
    (Q I J)
    else
    (M_goes I J (fun I18 J19 =>
    M_expression I18 J19 (fun r21 I22 J23 =>
    M_isGood I22 (fun r25 =>
    if r25 = 0 then
    (M_rule_b127 I22 J23 x1 x2 r21 Q)
    else
    (M_isSign I22 (59 : Int32) (fun r32 =>
    if r32 = 0 then
    (M_wrong I22 (1 : Int32) (fun I34 =>
    M_rule_b127 I34 J23 x1 x2 r21 Q))
    else
    (M_rule_b127 I22 J23 x1 x2 r21 Q))))))))
def M_rule_b69 (I : HI) (J : HJ) (x1 : Int32) (x2 : Int32) (Q : HI → HJ → Prop) : Prop :=
  M_isGood I (fun r14 =>
    if r14 = 0 then
    (M_rule_b89 I J x1 x2 Q)
    else
    (M_knownWord I J (fun r36 =>
    if r36 = 2 then
    (M_rule_b89 I J x1 x2 Q)
    else
    (M_wrong I (1 : Int32) (fun I38 =>
    M_rule_b89 I38 J x1 x2 Q)))))
def M_rule_b26 (I : HI) (J : HJ) (Q : HI → HJ → Prop) : Prop :=
  M_isGood I (fun r3 =>
    if r3 = 0 then
    (Q I J)
    else
    (M_goes I J (fun I5 J6 =>
    M_wearer I5 J6 (fun r8 I9 J10 =>
    M_isGood I9 (fun r12 =>
    if r12 = 0 then
    (M_rule_b69 I9 J10 r8 (-1) Q)
    else
    (M_knownWord I9 J10 (fun r40 =>
    if r40 = 1 then
    (M_goes I9 J10 (fun I42 J43 =>
    M_expression I42 J43 (fun r45 I46 J47 =>
    M_rule_b69 I46 J47 r8 r45 Q)))
    else
    (M_rule_b69 I9 J10 r8 (-1) Q))))))))
def M_rule_b12 (I : HI) (J : HJ) (Q : HI → HJ → Prop) : Prop :=
  if (I 0 27) = 16 then
    (M_wrong I (2 : Int32) (fun I49 =>
    M_rule_b26 I49 J Q))
    else
    (M_rule_b26 I J Q)
def M_rule (I : HI) (J : HJ)  (Q : HI → HJ → Prop) : Prop :=
  M_knownWord I J (fun r1 =>
    if r1 = 0 then
    (M_rule_b12 I J Q)
    else
    (M_wrong I (1 : Int32) (fun I51 =>
    M_rule_b12 I51 J Q)))
def M_copies_b63 (I : HI) (x1 : Int32) (x4 : Int32) (x5 : Int32) (t0 : Int32) (K6 : HI → Int32 → Int32 → Prop) (Q : Int32 → HI → Prop) : Prop :=
  if t0 = 0 then
    (K6 I (x4 + 1) (x5 + 1))
    else
    (vp_in (x4 + 1) 1600 ∧
    vp_in ((1000 * x1) + (x5 + 1)) 8000 ∧
    K6 (up2 I 6 (nx ((1000 * x1) + (x5 + 1))) (I 14 (nx (x4 + 1)))) ((x4 + 1) + 1) ((x5 + 1) + 1))
def M_copies_l6 (x1 : Int32) (Q : Int32 → HI → Prop) : Nat → HI → Int32 → Int32 → Prop
  | 0, _, _, _ => False
  | n + 1, I, x4, x5 =>
    vp_in x4 1600 ∧
    if (I 14 (nx x4)) = 0 then
    (vp_in ((1000 * x1) + x5) 8000 ∧
    Q (x5 + 1) (up2 I 6 (nx ((1000 * x1) + x5)) 0))
    else
    (vp_in x4 1600 ∧
    vp_in ((1000 * x1) + x5) 8000 ∧
    vp_in x4 1600 ∧
    if ((up2 I 6 (nx ((1000 * x1) + x5)) (I 14 (nx x4))) 14 (nx x4)) = 1 then
    (M_copies_b63 (up2 I 6 (nx ((1000 * x1) + x5)) (I 14 (nx x4))) x1 x4 x5 1 (fun I' x4' x5' => M_copies_l6 x1 Q n I' x4' x5') Q)
    else
    (vp_in x4 1600 ∧
    if ((up2 I 6 (nx ((1000 * x1) + x5)) (I 14 (nx x4))) 14 (nx x4)) = 2 then
    (M_copies_b63 (up2 I 6 (nx ((1000 * x1) + x5)) (I 14 (nx x4))) x1 x4 x5 1 (fun I' x4' x5' => M_copies_l6 x1 Q n I' x4' x5') Q)
    else
    (M_copies_b63 (up2 I 6 (nx ((1000 * x1) + x5)) (I 14 (nx x4))) x1 x4 x5 0 (fun I' x4' x5' => M_copies_l6 x1 Q n I' x4' x5') Q)))
def M_copies (I : HI) (x1 : Int32) (x2 : Int32) (x3 : Int32) (Q : Int32 → HI → Prop) : Prop :=
  ∃ nn, M_copies_l6 x1 Q nn I x2 x3
def M_rules_b169 (I : HI) (J : HJ) (x2 : Int32) (x3 : Int32) (x4 : Int32) (K106 : HI → Int32 → Prop) (Q : Int32 → HI → HJ → Prop) : Prop :=
  vp_in x3 8 ∧
    vp_in x2 16 ∧
    M_copies (up2 I 8 (nx x3) x4) x3 ((up2 I 8 (nx x3) x4) 13 (nx x2)) x4 (fun r11 I12 =>
    K106 I12 (x2 + 1))
def M_rules_l106 (J : HJ) (Q : Int32 → HI → HJ → Prop) : Nat → HI → Int32 → Prop
  | 0, _, _ => False
  | n + 1, I, x2 =>
    if (I 0 27) ≤ x2 then
    (Q 0 (up2 I 0 40 0) J)
    else
    (vp_in x2 16 ∧
    vp_in (I 11 (nx x2)) 8 ∧
    vp_in (I 11 (nx x2)) 8 ∧
    vp_in x2 16 ∧
    if ((up2 (up2 I 4 (nx (I 11 (nx x2))) 1) 7 (nx (I 11 (nx x2))) (-1)) 12 (nx x2)) = (-1) then
    (M_rules_b169 (up2 (up2 I 4 (nx (I 11 (nx x2))) 1) 7 (nx (I 11 (nx x2))) (-1)) J x2 (I 11 (nx x2)) 0 (fun I' x2' => M_rules_l106 J Q n I' x2') Q)
    else
    (vp_in (I 11 (nx x2)) 8 ∧
    vp_in x2 16 ∧
    M_copies (up2 (up2 (up2 I 4 (nx (I 11 (nx x2))) 1) 7 (nx (I 11 (nx x2))) (-1)) 7 (nx (I 11 (nx x2))) 0) (I 11 (nx x2)) ((up2 (up2 (up2 I 4 (nx (I 11 (nx x2))) 1) 7 (nx (I 11 (nx x2))) (-1)) 7 (nx (I 11 (nx x2))) 0) 12 (nx x2)) (0 : Int32) (fun r14 I15 =>
    M_rules_b169 I15 J x2 (I 11 (nx x2)) r14 (fun I' x2' => M_rules_l106 J Q n I' x2') Q)))
def M_rules_b92 (I : HI) (J : HJ) (Q : Int32 → HI → HJ → Prop) : Prop :=
  M_isGood I (fun r9 =>
    if r9 = 0 then
    (Q (I 0 17) I J)
    else
    (∃ nn, M_rules_l106 J Q nn I 0))
def M_rules_l71  (Q : Int32 → HI → HJ → Prop) : Nat → HI → HJ → Prop
  | 0, _, _ => False
  | n + 1, I, J =>
    M_isGood I (fun r7 =>
    if r7 = 0 then
    (M_rules_b92 I J Q)
    else
    (if (I 0 21) = 0 then
    (M_rules_b92 I J Q)
    else
    (M_rule I J (fun I17 J18 =>
    M_rules_l71 Q n I17 J18))))
def M_rules_b23 (I : HI) (J : HJ) (x1 : Int32) (t0 : Int32) (Q : Int32 → HI → HJ → Prop) : Prop :=
  M_right I t0 (1 : Int32) (fun r1 I2 =>
    if r1 = 0 then
    (Q 0 I2 J)
    else
    (M_goes (up2 (up2 (up2 (up2 (up2 (up2 (up2 I2 0 16 0) 0 18 (-1)) 0 17 0) 0 19 x1) 0 20 0) 0 28 0) 0 27 0) J (fun I4 J5 =>
    ∃ nn, M_rules_l71 Q nn I4 J5)))
def M_rules_b22 (I : HI) (J : HJ) (x1 : Int32) (Q : Int32 → HI → HJ → Prop) : Prop :=
  M_rules_b23 I J x1 0 Q
def M_rules (I : HI) (J : HJ) (x1 : Int32) (Q : Int32 → HI → HJ → Prop) : Prop :=
  if x1 < 0 then
    (M_rules_b22 (up2 I 0 0 0) J x1 Q)
    else
    (if ((up2 I 0 0 0) 0 16) < x1 then
    (M_rules_b22 (up2 I 0 0 0) J x1 Q)
    else
    (M_rules_b23 (up2 I 0 0 0) J x1 1 Q))
def M_fault (I : HI)  (Q : Int32 → HI → Prop) : Prop :=
  Q ((up2 I 0 0 0) 0 18) (up2 I 0 0 0)
def M_wears_l4  (Q : HI → Prop) : Nat → HI → Int32 → Int32 → Prop
  | 0, _, _, _ => False
  | n + 1, I, x2, x3 =>
    if (I 0 1) ≤ x3 then
    (Q I)
    else
    (¬ (I 0 2) = 0 ∧
    vp_in x3 8 ∧
    ¬ ((up2 I 17 (nx x3) (irm x2 (I 0 2))) 0 2) = 0 ∧
    M_wears_l4 Q n (up2 I 17 (nx x3) (irm x2 (I 0 2))) (x2 / ((up2 I 17 (nx x3) (irm x2 (I 0 2))) 0 2)) (x3 + 1))
def M_wears (I : HI) (x1 : Int32) (Q : HI → Prop) : Prop :=
  ∃ nn, M_wears_l4 Q nn I x1 0
def M_sum_l5 (I : HI) (r1 : Nat) (x2 : Int32) (Q : Int32 → Prop) : Nat → Int32 → Int32 → Prop
  | 0, _, _ => False
  | n + 1, x3, x4 =>
    if (I 0 1) ≤ x4 then
    (Q x3 )
    else
    (if ((x2 >>> (x4 &&& 31)) &&& 1) = 1 then
    (vp_in x4 8 ∧
    M_sum_l5 I r1 x2 Q n (x3 + (I r1 (nx x4))) (x4 + 1))
    else
    (M_sum_l5 I r1 x2 Q n (x3 + 0) (x4 + 1)))
def M_sum (I : HI) (r1 : Nat) (x2 : Int32) (Q : Int32 → Prop) : Prop :=
  ∃ nn, M_sum_l5 I r1 x2 Q nn 0 0
def M_valueOf (I : HI) (x1 : Int32) (x2 : Int32) (Q : Int32 → Prop) : Prop :=
  if (irm x2 16) = 6 then
    (Q x1 )
    else
    if (irm x2 16) = 7 then
    (Q (I 0 1) )
    else
    if (irm x2 16) = 8 then
    (Q (I 0 2) )
    else
    if (irm x2 16) = 9 then
    (vp_in x1 8 ∧
    if (((I 2 (nx x1)) >>> ((x2 / 16) &&& 31)) &&& 1) = 1 then
    (vp_in (x2 / 16) 8 ∧
    Q (I 17 (nx (x2 / 16))) )
    else
    (Q 0 ))
    else
    if (irm x2 16) = 10 then
    (M_hears I x1 (fun r1 =>
    if ((r1 >>> ((x2 / 16) &&& 31)) &&& 1) = 1 then
    (vp_in (x2 / 16) 8 ∧
    Q (I 18 (nx (x2 / 16))) )
    else
    (Q 0 )))
    else
    if (irm x2 16) = 11 then
    (vp_in x1 8 ∧
    M_sum I 17 (I 2 (nx x1)) (fun r3 =>
    Q r3 ))
    else
    (M_hears I x1 (fun r5 =>
    M_sum I 18 r5 (fun r7 =>
    Q r7 )))
def M_works  (x0 : Int32) (x1 : Int32) (x2 : Int32) (Q : Int32 → Prop) : Prop :=
  if x0 = 4 then
    (if x1 = 0 then
    (Q 0 )
    else
    (if x2 = 0 then
    (Q 0 )
    else
    (Q 1 )))
    else
    if x0 = 5 then
    (if x1 = 0 then
    (if x2 = 0 then
    (Q 0 )
    else
    (Q 1 ))
    else
    (Q 1 ))
    else
    if x0 = 6 then
    (if x2 ≤ x1 then
    (Q 0 )
    else
    (Q 1 ))
    else
    if x0 = 7 then
    (if x1 = x2 then
    (Q 1 )
    else
    (Q 0 ))
    else
    if x0 = 8 then
    (Q (x1 + x2) )
    else
    if x0 = 9 then
    (Q (x1 - x2) )
    else
    if x0 = 10 then
    (Q (x1 * x2) )
    else
    (if x2 = 0 then
    (Q 0 )
    else
    (¬ x2 = 0 ∧
    Q (x1 / x2) ))
def M_worth_b45 (I : HI) (x1 : Int32) (x3 : Int32) (x4 : Int32) (x5 : Int32) (K11 : HI → Int32 → Int32 → Prop) (Q : Int32 → HI → Prop) : Prop :=
  if x5 = 1 then
    (vp_in x4 8000 ∧
    vp_in x3 520 ∧
    K11 (up2 I 19 (nx x3) (I 6 (nx x4))) (x3 + 1) (x4 + 1))
    else
    (vp_in x4 8000 ∧
    M_valueOf I x1 (I 6 (nx x4)) (fun r1 =>
    vp_in x3 520 ∧
    K11 (up2 I 19 (nx x3) r1) (x3 + 1) (x4 + 1)))
def M_worth_l11 (x1 : Int32) (Q : Int32 → HI → Prop) : Nat → HI → Int32 → Int32 → Prop
  | 0, _, _, _ => False
  | n + 1, I, x3, x4 =>
    vp_in x4 8000 ∧
    if (I 6 (nx x4)) = 0 then
    (Q (I 19 0) I)
    else
    (vp_in x4 8000 ∧
    if (I 6 (nx x4)) = 1 then
    (M_worth_b45 I x1 x3 (x4 + 1) (I 6 (nx x4)) (fun I' x3' x4' => M_worth_l11 x1 Q n I' x3' x4') Q)
    else
    (if (I 6 (nx x4)) = 2 then
    (M_worth_b45 I x1 x3 (x4 + 1) (I 6 (nx x4)) (fun I' x3' x4' => M_worth_l11 x1 Q n I' x3' x4') Q)
    else
    (if (I 6 (nx x4)) = 3 then
    (vp_in (x3 - 1) 520 ∧
    if (I 19 (nx (x3 - 1))) = 0 then
    (vp_in (x3 - 1) 520 ∧
    M_worth_l11 x1 Q n (up2 I 19 (nx (x3 - 1)) 1) x3 (x4 + 1))
    else
    (vp_in (x3 - 1) 520 ∧
    M_worth_l11 x1 Q n (up2 I 19 (nx (x3 - 1)) 0) x3 (x4 + 1)))
    else
    (vp_in ((x3 + (-1)) - 1) 520 ∧
    vp_in (x3 + (-1)) 520 ∧
    M_works (I 6 (nx x4)) (I 19 (nx ((x3 + (-1)) - 1))) (I 19 (nx (x3 + (-1)))) (fun r3 =>
    vp_in ((x3 + (-1)) - 1) 520 ∧
    M_worth_l11 x1 Q n (up2 I 19 (nx ((x3 + (-1)) - 1)) r3) (x3 + (-1)) (x4 + 1))))))
def M_worth (I : HI) (x1 : Int32) (x2 : Int32) (Q : Int32 → HI → Prop) : Prop :=
  ∃ nn, M_worth_l11 x1 Q nn I 0 ((1000 * x1) + x2)
def M_viewOf_l68 (I : HI) (x4 : Int32) (Q : Int32 → Prop) : Nat → Int32 → Int32 → Int32 → Prop
  | 0, _, _, _ => False
  | n + 1, x2, x3, x5 =>
    if (I 0 1) ≤ x5 then
    (Q x2 )
    else
    (if ((x4 >>> (x5 &&& 31)) &&& 1) = 0 then
    (M_viewOf_l68 I x4 Q n x2 x3 (x5 + 1))
    else
    (vp_in x5 8 ∧
    M_viewOf_l68 I x4 Q n (x2 + (x3 * (I 18 (nx x5)))) (x3 * ((I 0 2) + 1)) (x5 + 1)))
def M_viewOf_l7 (I : HI) (x1 : Int32) (Q : Int32 → Prop) : Nat → Int32 → Int32 → Int32 → Prop
  | 0, _, _, _ => False
  | n + 1, x2, x3, x4 =>
    if (I 0 1) ≤ x4 then
    (M_hears I x1 (fun r1 =>
    ∃ nn, M_viewOf_l68 I r1 Q nn x2 x3 0))
    else
    (vp_in x1 8 ∧
    if (((I 2 (nx x1)) >>> (x4 &&& 31)) &&& 1) = 0 then
    (M_viewOf_l7 I x1 Q n x2 x3 (x4 + 1))
    else
    (vp_in x4 8 ∧
    M_viewOf_l7 I x1 Q n (x2 + (x3 * (I 17 (nx x4)))) (x3 * (I 0 2)) (x4 + 1)))
def M_viewOf (I : HI) (x1 : Int32) (Q : Int32 → Prop) : Prop :=
  ∃ nn, M_viewOf_l7 I x1 Q nn 0 1 0
def M_guesses_b67 (I : HI) (x1 : Int32) (Q : Int32 → HI → Prop) : Prop :=
  vp_in x1 8 ∧
    M_worth I x1 (I 8 (nx x1)) (fun r1 I2 =>
    ¬ (I2 0 2) = 0 ∧
    if 0 ≤ (irm r1 (I2 0 2)) then
    (Q (irm r1 (I2 0 2)) I2)
    else
    (Q ((irm r1 (I2 0 2)) + (I2 0 2)) I2))
def M_guesses (I : HI) (x1 : Int32) (Q : Int32 → HI → Prop) : Prop :=
  vp_in x1 8 ∧
    if (I 4 (nx x1)) = 2 then
    (Q 0 I)
    else
    (vp_in x1 8 ∧
    if (I 4 (nx x1)) = 0 then
    (M_viewOf I x1 (fun r7 =>
    vp_in ((1024 * x1) + r7) 8192 ∧
    Q (I 5 (nx ((1024 * x1) + r7))) I))
    else
    (vp_in x1 8 ∧
    if (I 7 (nx x1)) = (-1) then
    (M_guesses_b67 I x1 Q)
    else
    (vp_in x1 8 ∧
    M_worth I x1 (I 7 (nx x1)) (fun r4 I5 =>
    if r4 = 0 then
    (M_guesses_b67 I5 x1 Q)
    else
    (Q (I5 0 2) I5)))))
def M_worksRow_l15 (x2 : Int32) (K7 : HI → Int32 → Prop) (Q : HI → Prop) : Nat → HI → Int32 → Prop
  | 0, _, _ => False
  | n + 1, I, x3 =>
    if (I 0 1) ≤ x3 then
    (K7 I (x2 + 1))
    else
    (vp_in x3 8 ∧
    if (I 3 (nx x3)) = x2 then
    (M_guesses I x3 (fun r3 I4 =>
    vp_in x3 8 ∧
    M_worksRow_l15 x2 K7 Q n (up2 I4 18 (nx x3) r3) (x3 + 1)))
    else
    (M_worksRow_l15 x2 K7 Q n I (x3 + 1)))
def M_worksRow_l7  (Q : HI → Prop) : Nat → HI → Int32 → Prop
  | 0, _, _ => False
  | n + 1, I, x2 =>
    if 8 ≤ x2 then
    (Q I)
    else
    (∃ nn, M_worksRow_l15 x2 (fun I' x2' => M_worksRow_l7 Q n I' x2') Q nn I 0)
def M_worksRow (I : HI) (x1 : Int32) (Q : HI → Prop) : Prop :=
  M_wears I x1 (fun I1 =>
    ∃ nn, M_worksRow_l7 Q nn I1 0)
def M_worksAll_l44 (x1 : Int32) (K15 : HI → Int32 → Prop) (Q : HI → Prop) : Nat → HI → Int32 → Prop
  | 0, _, _ => False
  | n + 1, I, x2 =>
    if (I 0 1) ≤ x2 then
    (K15 I (x1 + 1))
    else
    (vp_in x2 8 ∧
    vp_in ((8 * x1) + x2) 52488 ∧
    vp_in x2 8 ∧
    vp_in x2 8 ∧
    if ((up2 I 22 (nx ((8 * x1) + x2)) (I 18 (nx x2))) 18 (nx x2)) = ((up2 I 22 (nx ((8 * x1) + x2)) (I 18 (nx x2))) 17 (nx x2)) then
    (vp_in x1 6561 ∧
    vp_in x1 6561 ∧
    M_worksAll_l44 x1 K15 Q n (up2 (up2 I 22 (nx ((8 * x1) + x2)) (I 18 (nx x2))) 20 (nx x1) (((up2 I 22 (nx ((8 * x1) + x2)) (I 18 (nx x2))) 20 (nx x1)) ||| ((1 : Int32) <<< (x2 &&& 31)))) (x2 + 1))
    else
    (vp_in x2 8 ∧
    if ((up2 I 22 (nx ((8 * x1) + x2)) (I 18 (nx x2))) 18 (nx x2)) = ((up2 I 22 (nx ((8 * x1) + x2)) (I 18 (nx x2))) 0 2) then
    (M_worksAll_l44 x1 K15 Q n (up2 I 22 (nx ((8 * x1) + x2)) (I 18 (nx x2))) (x2 + 1))
    else
    (vp_in x1 6561 ∧
    vp_in x1 6561 ∧
    M_worksAll_l44 x1 K15 Q n (up2 (up2 I 22 (nx ((8 * x1) + x2)) (I 18 (nx x2))) 21 (nx x1) (((up2 I 22 (nx ((8 * x1) + x2)) (I 18 (nx x2))) 21 (nx x1)) ||| ((1 : Int32) <<< (x2 &&& 31)))) (x2 + 1))))
def M_worksAll_l15  (Q : HI → Prop) : Nat → HI → Int32 → Prop
  | 0, _, _ => False
  | n + 1, I, x1 =>
    if (I 0 3) ≤ x1 then
    (Q I)
    else
    (M_worksRow I x1 (fun I1 =>
    vp_in x1 6561 ∧
    vp_in x1 6561 ∧
    ∃ nn, M_worksAll_l44 x1 (fun I' x1' => M_worksAll_l15 Q n I' x1') Q nn (up2 (up2 I1 20 (nx x1) 0) 21 (nx x1) 0) 0))
def M_worksAll (I : HI)  (Q : HI → Prop) : Prop :=
  if (I 0 40) = 0 then
    (∃ nn, M_worksAll_l15 Q nn (up2 I 0 40 1) 0)
    else
    (Q I)
def M_many_b34 (I : HI) (x2 : Int32) (x3 : Int32) (x5 : Int32) (t0 : Int32) (t1 : Int32) (K8 : Int32 → Int32 → Int32 → Prop) (Q : Int32 → Prop) : Prop :=
  ¬ (I 0 2) = 0 ∧
    K8 (x3 / (I 0 2)) (t1 + t0) (x5 + 1)
def M_many_l8 (I : HI) (x2 : Int32) (Q : Int32 → Prop) : Nat → Int32 → Int32 → Int32 → Prop
  | 0, _, _, _ => False
  | n + 1, x3, x4, x5 =>
    if (I 0 1) ≤ x5 then
    (Q x4 )
    else
    (¬ (I 0 2) = 0 ∧
    if (irm x3 (I 0 2)) = x2 then
    (M_many_b34 I x2 x3 x5 1 x4 (fun x3' x4' x5' => M_many_l8 I x2 Q n x3' x4' x5') Q)
    else
    (M_many_b34 I x2 x3 x5 0 x4 (fun x3' x4' x5' => M_many_l8 I x2 Q n x3' x4' x5') Q))
def M_many (I : HI) (x1 : Int32) (x2 : Int32) (Q : Int32 → Prop) : Prop :=
  ∃ nn, M_many_l8 I x2 Q nn x1 0 0
def M_counts_l4 (I : HI) (x1 : Int32) (Q : Int32 → Prop) : Nat → Int32 → Int32 → Prop
  | 0, _, _ => False
  | n + 1, x2, x3 =>
    if (I 0 2) ≤ x3 then
    (zb x2 ∧ Q x2 )
    else
    (if x2 = 0 then
    (M_counts_l4 I x1 Q n 0 (x3 + 1))
    else
    (M_many I x1 x3 (fun r1 =>
    vp_in x3 4 ∧
    if (I 1 (nx x3)) < r1 then
    (M_counts_l4 I x1 Q n 0 (x3 + 1))
    else
    (M_counts_l4 I x1 Q n 1 (x3 + 1)))))
def M_counts (I : HI) (x1 : Int32) (Q : Int32 → Prop) : Prop :=
  ∃ nn, M_counts_l4 I x1 Q nn 1 0
def M_isWon (I : HI) (x1 : Int32) (x2 : Int32) (Q : Int32 → Prop) : Prop :=
  M_bits x1 (fun r1 =>
    if (I 0 4) = 0 then
    (if r1 < (I 0 5) then
    (Q 0 )
    else
    (Q 1 ))
    else
    if (I 0 4) = 1 then
    (if r1 = (I 0 5) then
    (Q 1 )
    else
    (Q 0 ))
    else
    if (I 0 4) = 2 then
    (if x2 = 0 then
    (if r1 < (I 0 5) then
    (Q 0 )
    else
    (Q 1 ))
    else
    (Q 0 ))
    else
    (if (I 0 5) < ((I 0 1) - r1) then
    (Q 0 )
    else
    (Q 1 )))
def M_about_b23 (I : HI) (x1 : Int32) (x2 : Int32) (t0 : Int32) (Q : Int32 → HI → Prop) : Prop :=
  M_right I t0 (1 : Int32) (fun r4 I5 =>
    if r4 = 0 then
    (Q 0 I5)
    else
    (M_viewsOf I5 x1 (fun r7 =>
    if x2 = 0 then
    (vp_in x1 8 ∧
    Q (I5 2 (nx x1)) I5)
    else
    (if x2 = 1 then
    (vp_in x1 8 ∧
    Q (I5 3 (nx x1)) I5)
    else
    (if x2 = 2 then
    (M_hears I5 x1 (fun r9 =>
    Q r9 I5))
    else
    (if x2 = 3 then
    (if r7 ≤ 1024 then
    (Q r7 I5)
    else
    (Q (-1) I5))
    else
    (vp_in x1 8 ∧
    Q (I5 4 (nx x1)) I5)))))))
def M_about_b22 (I : HI) (x1 : Int32) (x2 : Int32) (Q : Int32 → HI → Prop) : Prop :=
  M_about_b23 I x1 x2 0 Q
def M_about (I : HI) (x1 : Int32) (x2 : Int32) (Q : Int32 → HI → Prop) : Prop :=
  M_isWearer I x1 (fun r1 I2 =>
    if r1 = 0 then
    (Q 0 I2)
    else
    (if x2 < 0 then
    (M_about_b22 I2 x1 x2 Q)
    else
    (if 4 < x2 then
    (M_about_b22 I2 x1 x2 Q)
    else
    (M_about_b23 I2 x1 x2 1 Q))))
def M_tell_b63 (I : HI) (x1 : Int32) (x2 : Int32) (x3 : Int32) (Q : Int32 → HI → Prop) : Prop :=
  vp_in ((1024 * x1) + x2) 8192 ∧
    Q 1 (up2 (up2 I 5 (nx ((1024 * x1) + x2)) x3) 0 40 0)
def M_tell (I : HI) (x1 : Int32) (x2 : Int32) (x3 : Int32) (Q : Int32 → HI → Prop) : Prop :=
  M_isWearer I x1 (fun r1 I2 =>
    if r1 = 0 then
    (Q 0 I2)
    else
    (M_viewsOf I2 x1 (fun r4 =>
    if 1024 < r4 then
    (Q 0 I2)
    else
    (if x2 < 0 then
    (Q 0 I2)
    else
    (if r4 ≤ x2 then
    (Q 0 I2)
    else
    (M_within x3 (0 : Int32) (I2 0 2) (fun r6 =>
    if r6 = 0 then
    (Q 0 I2)
    else
    (vp_in x1 8 ∧
    if (I2 4 (nx x1)) = 0 then
    (M_tell_b63 I2 x1 x2 x3 Q)
    else
    (M_blank I2 x1 (fun I8 =>
    M_tell_b63 I8 x1 x2 x3 Q))))))))))
def M_cell_b36 (I : HI) (x1 : Int32) (x2 : Int32) (t0 : Int32) (Q : Int32 → HI → Prop) : Prop :=
  M_right I t0 (1 : Int32) (fun r4 I5 =>
    if r4 = 0 then
    (Q 0 I5)
    else
    (vp_in ((1024 * x1) + x2) 8192 ∧
    Q (I5 5 (nx ((1024 * x1) + x2))) I5))
def M_cell_b35 (I : HI) (x1 : Int32) (x2 : Int32) (Q : Int32 → HI → Prop) : Prop :=
  M_cell_b36 I x1 x2 0 Q
def M_cell (I : HI) (x1 : Int32) (x2 : Int32) (Q : Int32 → HI → Prop) : Prop :=
  M_isWearer I x1 (fun r1 I2 =>
    if r1 = 0 then
    (Q 0 I2)
    else
    (vp_in x1 8 ∧
    if (I2 4 (nx x1)) = 0 then
    (if x2 < 0 then
    (M_cell_b35 I2 x1 x2 Q)
    else
    (M_viewsOf I2 x1 (fun r7 =>
    if r7 ≤ x2 then
    (M_cell_b35 I2 x1 x2 Q)
    else
    (M_cell_b36 I2 x1 x2 1 Q))))
    else
    (M_cell_b35 I2 x1 x2 Q)))
def M_isRow (I : HI) (x1 : Int32) (Q : Int32 → HI → Prop) : Prop :=
  if x1 < 0 then
    (M_right I (0 : Int32) (1 : Int32) (fun r1 I2 =>
    zb r1 ∧ Q r1 I2))
    else
    (if (I 0 3) ≤ x1 then
    (M_right I (0 : Int32) (1 : Int32) (fun r4 I5 =>
    zb r4 ∧ Q r4 I5))
    else
    (M_right I (1 : Int32) (1 : Int32) (fun r7 I8 =>
    zb r7 ∧ Q r7 I8)))
def M_in_l107 (x1 : Int32) (x2 : Int32) (Q : Int32 → HI → Prop) : Nat → HI → Int32 → Prop
  | 0, _, _ => False
  | n + 1, I, x4 =>
    if (I 0 1) ≤ x4 then
    (M_viewOf I x2 (fun r14 =>
    Q r14 I))
    else
    (vp_in ((8 * x1) + x4) 52488 ∧
    vp_in x4 8 ∧
    M_in_l107 x1 x2 Q n (up2 I 18 (nx x4) (I 22 (nx ((8 * x1) + x4)))) (x4 + 1))
def M_in_b69 (I : HI) (x1 : Int32) (x2 : Int32) (x3 : Int32) (t0 : Int32) (Q : Int32 → HI → Prop) : Prop :=
  M_right I t0 (1 : Int32) (fun r7 I8 =>
    if r7 = 0 then
    (Q 0 I8)
    else
    (M_worksAll I8 (fun I10 =>
    if x3 = 1 then
    (vp_in ((8 * x1) + x2) 52488 ∧
    Q (I10 22 (nx ((8 * x1) + x2))) I10)
    else
    (M_wears I10 x1 (fun I12 =>
    ∃ nn, M_in_l107 x1 x2 Q nn I12 0)))))
def M_in_b40 (I : HI) (x1 : Int32) (x2 : Int32) (x3 : Int32) (t0 : Int32) (Q : Int32 → HI → Prop) : Prop :=
  M_right I t0 (1 : Int32) (fun r4 I5 =>
    if r4 = 0 then
    (Q 0 I5)
    else
    (if x3 = 1 then
    (M_in_b69 I5 x1 x2 x3 1 Q)
    else
    (M_viewsOf I5 x2 (fun r16 =>
    if 1024 < r16 then
    (M_in_b69 I5 x1 x2 x3 0 Q)
    else
    (M_in_b69 I5 x1 x2 x3 1 Q)))))
def M_in_b39 (I : HI) (x1 : Int32) (x2 : Int32) (x3 : Int32) (Q : Int32 → HI → Prop) : Prop :=
  M_in_b40 I x1 x2 x3 0 Q
def M_in (I : HI) (x1 : Int32) (x2 : Int32) (x3 : Int32) (Q : Int32 → HI → Prop) : Prop :=
  M_isRow (up2 I 0 0 0) x1 (fun r1 I2 =>
    if r1 = 0 then
    (Q 0 I2)
    else
    (if x2 < 0 then
    (M_in_b39 I2 x1 x2 x3 Q)
    else
    (if (I2 0 1) ≤ x2 then
    (M_in_b39 I2 x1 x2 x3 Q)
    else
    (if x3 = 0 then
    (M_in_b40 I2 x1 x2 x3 1 Q)
    else
    (if x3 = 1 then
    (M_in_b40 I2 x1 x2 x3 1 Q)
    else
    (M_in_b39 I2 x1 x2 x3 Q))))))
def M_row_b95 (I : HI) (t0 : Int32) (Q : Int32 → HI → Prop) : Prop :=
  if t0 = 0 then
    (Q 0 I)
    else
    (Q 1 I)
def M_row_b28 (I : HI) (x1 : Int32) (x2 : Int32) (t0 : Int32) (Q : Int32 → HI → Prop) : Prop :=
  M_right I t0 (1 : Int32) (fun r4 I5 =>
    if r4 = 0 then
    (Q 0 I5)
    else
    (M_worksAll I5 (fun I7 =>
    if 2 ≤ x2 then
    (if x2 = 2 then
    (M_counts I7 x1 (fun r11 =>
    M_row_b95 I7 r11 Q))
    else
    (vp_in x1 6561 ∧
    vp_in x1 6561 ∧
    M_isWon I7 (I7 20 (nx x1)) (I7 21 (nx x1)) (fun r9 =>
    M_row_b95 I7 r9 Q)))
    else
    (if x2 = 0 then
    (vp_in x1 6561 ∧
    Q (I7 20 (nx x1)) I7)
    else
    (vp_in x1 6561 ∧
    Q (I7 21 (nx x1)) I7)))))
def M_row_b27 (I : HI) (x1 : Int32) (x2 : Int32) (Q : Int32 → HI → Prop) : Prop :=
  M_row_b28 I x1 x2 0 Q
def M_row (I : HI) (x1 : Int32) (x2 : Int32) (Q : Int32 → HI → Prop) : Prop :=
  M_isRow (up2 I 0 0 0) x1 (fun r1 I2 =>
    if r1 = 0 then
    (Q 0 I2)
    else
    (if x2 < 0 then
    (M_row_b27 I2 x1 x2 Q)
    else
    (if 3 < x2 then
    (M_row_b27 I2 x1 x2 Q)
    else
    (M_row_b28 I2 x1 x2 1 Q))))
def M_weight_l17 (I : HI) (x1 : Int32) (x4 : Int32) (K5 : Int64 → Int32 → Prop) (Q : Int64 → Prop) : Nat → Int64 → Int32 → Prop
  | 0, _, _ => False
  | n + 1, x2, x5 =>
    M_many I x1 x4 (fun r1 =>
    if r1 ≤ x5 then
    (K5 x2 (x4 + 1))
    else
    (vp_in x4 4 ∧
    M_weight_l17 I x1 x4 K5 Q n (x2 * (Int32.toInt64 ((I 1 (nx x4)) - x5))) (x5 + 1)))
def M_weight_l5 (I : HI) (x1 : Int32) (Q : Int64 → Prop) : Nat → Int64 → Int32 → Prop
  | 0, _, _ => False
  | n + 1, x2, x4 =>
    if (I 0 2) ≤ x4 then
    (Q x2 )
    else
    (∃ nn, M_weight_l17 I x1 x4 (fun x2' x4' => M_weight_l5 I x1 Q n x2' x4') Q nn x2 0)
def M_weight (I : HI) (x1 : Int32) (Q : Int64 → Prop) : Prop :=
  ∃ nn, M_weight_l5 I x1 Q nn (1 : Int64) 0
def M_won_b87 (I : HI) (x1 : Int32) (x2 : Int64) (x4 : Int32) (K38 : Int64 → Int32 → Prop) (Q : Int64 → HI → Prop) : Prop :=
  if 2 ≤ x1 then
    (M_weight I x4 (fun r8 =>
    K38 (x2 + r8) (x4 + 1)))
    else
    (K38 (x2 + (1 : Int64)) (x4 + 1))
def M_won_l38 (I : HI) (x1 : Int32) (Q : Int64 → HI → Prop) : Nat → Int64 → Int32 → Prop
  | 0, _, _ => False
  | n + 1, x2, x4 =>
    if (I 0 3) ≤ x4 then
    (Q x2 I)
    else
    (M_counts I x4 (fun r6 =>
    if r6 = 0 then
    (M_won_l38 I x1 Q n x2 (x4 + 1))
    else
    (if (irm x1 2) = 1 then
    (vp_in x4 6561 ∧
    vp_in x4 6561 ∧
    M_isWon I (I 20 (nx x4)) (I 21 (nx x4)) (fun r10 =>
    if r10 = 0 then
    (M_won_l38 I x1 Q n x2 (x4 + 1))
    else
    (M_won_b87 I x1 x2 x4 (fun x2' x4' => M_won_l38 I x1 Q n x2' x4') Q)))
    else
    (M_won_b87 I x1 x2 x4 (fun x2' x4' => M_won_l38 I x1 Q n x2' x4') Q))))
def M_won_b20 (I : HI) (x1 : Int32) (t0 : Int32) (Q : Int64 → HI → Prop) : Prop :=
  M_right I t0 (1 : Int32) (fun r1 I2 =>
    if r1 = 0 then
    (Q (0 : Int64) I2)
    else
    (M_worksAll I2 (fun I4 =>
    ∃ nn, M_won_l38 I4 x1 Q nn (0 : Int64) 0)))
def M_won_b19 (I : HI) (x1 : Int32) (Q : Int64 → HI → Prop) : Prop :=
  M_won_b20 I x1 0 Q
def M_won (I : HI) (x1 : Int32) (Q : Int64 → HI → Prop) : Prop :=
  if x1 < 0 then
    (M_won_b19 (up2 I 0 0 0) x1 Q)
    else
    (if 3 < x1 then
    (M_won_b19 (up2 I 0 0 0) x1 Q)
    else
    (M_won_b20 (up2 I 0 0 0) x1 1 Q))
def M_beaten_l13 (I : HI) (x1 : Int32) (Q : Int32 → HI → Prop) : Nat → Int32 → Int32 → Prop
  | 0, _, _ => False
  | n + 1, x2, x3 =>
    if (I 0 3) ≤ x3 then
    (Q (-1) I)
    else
    (if x1 < 0 then
    (Q (-1) I)
    else
    (M_counts I x3 (fun r3 =>
    if r3 = 0 then
    (M_beaten_l13 I x1 Q n x2 (x3 + 1))
    else
    (vp_in x3 6561 ∧
    vp_in x3 6561 ∧
    M_isWon I (I 20 (nx x3)) (I 21 (nx x3)) (fun r5 =>
    if r5 = 0 then
    (if x2 = x1 then
    (Q x3 I)
    else
    (M_beaten_l13 I x1 Q n (x2 + 1) (x3 + 1)))
    else
    (M_beaten_l13 I x1 Q n x2 (x3 + 1)))))))
def M_beaten (I : HI) (x1 : Int32) (Q : Int32 → HI → Prop) : Prop :=
  M_worksAll (up2 I 0 0 0) (fun I1 =>
    ∃ nn, M_beaten_l13 I1 x1 Q nn 0 0)
def M_tally_l13 (I : HI) (x1 : Int32) (Q : Int32 → HI → Prop) : Nat → Int32 → Int32 → Prop
  | 0, _, _ => False
  | n + 1, x2, x3 =>
    if (I 0 3) ≤ x3 then
    (Q x2 I)
    else
    (M_counts I x3 (fun r3 =>
    if r3 = 0 then
    (M_tally_l13 I x1 Q n x2 (x3 + 1))
    else
    (vp_in x3 6561 ∧
    M_bits (I 20 (nx x3)) (fun r5 =>
    if r5 = x1 then
    (M_tally_l13 I x1 Q n (x2 + 1) (x3 + 1))
    else
    (M_tally_l13 I x1 Q n x2 (x3 + 1))))))
def M_tally (I : HI) (x1 : Int32) (Q : Int32 → HI → Prop) : Prop :=
  M_worksAll (up2 I 0 0 0) (fun I1 =>
    ∃ nn, M_tally_l13 I1 x1 Q nn 0 0)
def M_rightOf_l18 (I : HI) (x1 : Int32) (Q : Int32 → HI → Prop) : Nat → Int32 → Int32 → Prop
  | 0, _, _ => False
  | n + 1, x2, x3 =>
    if (I 0 3) ≤ x3 then
    (Q x2 I)
    else
    (M_counts I x3 (fun r6 =>
    if r6 = 0 then
    (M_rightOf_l18 I x1 Q n x2 (x3 + 1))
    else
    (vp_in x3 6561 ∧
    if (((I 20 (nx x3)) >>> (x1 &&& 31)) &&& 1) = 1 then
    (M_rightOf_l18 I x1 Q n (x2 + 1) (x3 + 1))
    else
    (M_rightOf_l18 I x1 Q n x2 (x3 + 1)))))
def M_rightOf (I : HI) (x1 : Int32) (Q : Int32 → HI → Prop) : Prop :=
  M_isWearer I x1 (fun r1 I2 =>
    if r1 = 0 then
    (Q 0 I2)
    else
    (M_worksAll I2 (fun I4 =>
    ∃ nn, M_rightOf_l18 I4 x1 Q nn 0 0)))
def M_worstRow_l8 (I : HI) (Q : Int32 → HI → Prop) : Nat → Int32 → Int32 → Prop
  | 0, _, _ => False
  | n + 1, x1, x2 =>
    if (I 0 3) ≤ x2 then
    (Q x1 I)
    else
    (M_counts I x2 (fun r3 =>
    if r3 = 0 then
    (M_worstRow_l8 I Q n x1 (x2 + 1))
    else
    (if x1 = (-1) then
    (M_worstRow_l8 I Q n x2 (x2 + 1))
    else
    (vp_in x2 6561 ∧
    M_bits (I 21 (nx x2)) (fun r5 =>
    vp_in x1 6561 ∧
    M_bits (I 21 (nx x1)) (fun r7 =>
    if r5 ≤ r7 then
    (M_worstRow_l8 I Q n x1 (x2 + 1))
    else
    (M_worstRow_l8 I Q n x2 (x2 + 1))))))))
def M_worstRow (I : HI)  (Q : Int32 → HI → Prop) : Prop :=
  M_worksAll I (fun I1 =>
    ∃ nn, M_worstRow_l8 I1 Q nn (-1) 0)
def M_worst_b20 (I : HI) (x1 : Int32) (t0 : Int32) (Q : Int32 → HI → Prop) : Prop :=
  M_right I t0 (1 : Int32) (fun r1 I2 =>
    if r1 = 0 then
    (Q 0 I2)
    else
    (M_worstRow I2 (fun r4 I5 =>
    if x1 = 1 then
    (Q r4 I5)
    else
    (if r4 = (-1) then
    (Q r4 I5)
    else
    (vp_in r4 6561 ∧
    M_bits (I5 21 (nx r4)) (fun r7 =>
    Q r7 I5))))))
def M_worst (I : HI) (x1 : Int32) (Q : Int32 → HI → Prop) : Prop :=
  if x1 = 0 then
    (M_worst_b20 (up2 I 0 0 0) x1 1 Q)
    else
    (if x1 = 1 then
    (M_worst_b20 (up2 I 0 0 0) x1 1 Q)
    else
    (M_worst_b20 (up2 I 0 0 0) x1 0 Q))
def M_laysOut_l7 (x1 : Int32) (Q : HI → Prop) : Nat → HI → Int32 → Prop
  | 0, _, _ => False
  | n + 1, I, x2 =>
    if (I 0 1) ≤ x2 then
    (Q I)
    else
    (vp_in ((8 * x1) + x2) 52488 ∧
    vp_in x2 8 ∧
    M_laysOut_l7 x1 Q n (up2 I 18 (nx x2) (I 22 (nx ((8 * x1) + x2)))) (x2 + 1))
def M_laysOut (I : HI) (x1 : Int32) (Q : HI → Prop) : Prop :=
  M_wears I x1 (fun I1 =>
    ∃ nn, M_laysOut_l7 x1 Q nn I1 0)
def M_idle_l86 (x1 : Int32) (x3 : Int32) (x4 : Int32) (x5 : Int32) (K23 : HI → Int32 → Int32 → Prop) (K53 : HI → Int32 → Int32 → Prop) (Q : Int32 → HI → Prop) : Nat → HI → Int32 → Int32 → Prop
  | 0, _, _, _ => False
  | n + 1, I, x2, x6 =>
    if (I 0 2) ≤ x6 then
    (vp_in x4 8 ∧
    K53 (up2 I 17 (nx x4) x5) x2 (x4 + 1))
    else
    (vp_in x4 8 ∧
    M_guesses (up2 I 17 (nx x4) x6) x1 (fun r8 I9 =>
    vp_in x1 8 ∧
    if r8 = (I9 18 (nx x1)) then
    (M_idle_l86 x1 x3 x4 x5 K23 K53 Q n I9 x2 (x6 + 1))
    else
    (M_idle_l86 x1 x3 x4 x5 K23 K53 Q n I9 (x2 &&& (((1 : Int32) <<< (x4 &&& 31)) ^^^ (-1))) (x6 + 1))))
def M_idle_l53 (x1 : Int32) (x3 : Int32) (K23 : HI → Int32 → Int32 → Prop) (Q : Int32 → HI → Prop) : Nat → HI → Int32 → Int32 → Prop
  | 0, _, _, _ => False
  | n + 1, I, x2, x4 =>
    if (I 0 1) ≤ x4 then
    (K23 I x2 (x3 + 1))
    else
    (if ((x2 >>> (x4 &&& 31)) &&& 1) = 0 then
    (M_idle_l53 x1 x3 K23 Q n I x2 (x4 + 1))
    else
    (vp_in x4 8 ∧
    ∃ nn, M_idle_l86 x1 x3 x4 (I 17 (nx x4)) K23 (fun I' x2' x4' => M_idle_l53 x1 x3 K23 Q n I' x2' x4') Q nn I x2 0))
def M_idle_l23 (x1 : Int32) (Q : Int32 → HI → Prop) : Nat → HI → Int32 → Int32 → Prop
  | 0, _, _, _ => False
  | n + 1, I, x2, x3 =>
    if (I 0 3) ≤ x3 then
    (Q x2 I)
    else
    (if x2 = 0 then
    (Q x2 I)
    else
    (vp_in x1 8 ∧
    if (I 4 (nx x1)) = 2 then
    (Q x2 I)
    else
    (M_laysOut I x3 (fun I6 =>
    ∃ nn, M_idle_l53 x1 x3 (fun I' x2' x3' => M_idle_l23 x1 Q n I' x2' x3') Q nn I6 x2 0))))
def M_idle (I : HI) (x1 : Int32) (Q : Int32 → HI → Prop) : Prop :=
  M_isWearer I x1 (fun r1 I2 =>
    if r1 = 0 then
    (Q 0 I2)
    else
    (M_worksAll I2 (fun I4 =>
    vp_in x1 8 ∧
    ∃ nn, M_idle_l23 x1 Q nn I4 (I4 2 (nx x1)) 0)))
def M_otherwise_l92 (I : HI) (x1 : Int32) (x2 : Int32) (x3 : Int32) (Q : Int32 → HI → Prop) : Nat → Int32 → Int32 → Prop
  | 0, _, _ => False
  | n + 1, x4, x5 =>
    if (I 0 3) ≤ x5 then
    (vp_in x1 8 ∧
    vp_in x1 8 ∧
    vp_in x1 8 ∧
    Q x4 (up2 (up2 (up2 I 2 (nx x1) ((I 2 (nx x1)) ^^^ ((1 : Int32) <<< (x2 &&& 31)))) 4 (nx x1) x3) 0 40 0))
    else
    (M_counts I x5 (fun r9 =>
    if r9 = 0 then
    (M_otherwise_l92 I x1 x2 x3 Q n x4 (x5 + 1))
    else
    (vp_in x5 6561 ∧
    vp_in x5 6561 ∧
    M_isWon I (I 20 (nx x5)) (I 21 (nx x5)) (fun r11 =>
    if r11 = 0 then
    (M_otherwise_l92 I x1 x2 x3 Q n x4 (x5 + 1))
    else
    (M_otherwise_l92 I x1 x2 x3 Q n (x4 + 1) (x5 + 1))))))
def M_otherwise_b76 (I : HI) (x1 : Int32) (x2 : Int32) (x3 : Int32) (t0 : Int32) (t1 : Int32) (Q : Int32 → HI → Prop) : Prop :=
  vp_in t1 8 ∧
    M_worksAll (up2 (up2 I 4 (nx t1) t0) 0 40 0) (fun I7 =>
    ∃ nn, M_otherwise_l92 I7 x1 x2 x3 Q nn 0 0)
def M_otherwise_b26 (I : HI) (x1 : Int32) (x2 : Int32) (t0 : Int32) (Q : Int32 → HI → Prop) : Prop :=
  M_right I t0 (1 : Int32) (fun r4 I5 =>
    if r4 = 0 then
    (Q 0 I5)
    else
    (if x1 = x2 then
    (Q (-1) I5)
    else
    (vp_in x1 8 ∧
    vp_in x1 8 ∧
    vp_in x1 8 ∧
    if (I5 4 (nx x1)) = 1 then
    (M_otherwise_b76 (up2 I5 2 (nx x1) ((I5 2 (nx x1)) ^^^ ((1 : Int32) <<< (x2 &&& 31)))) x1 x2 (I5 4 (nx x1)) 1 x1 Q)
    else
    (M_otherwise_b76 (up2 I5 2 (nx x1) ((I5 2 (nx x1)) ^^^ ((1 : Int32) <<< (x2 &&& 31)))) x1 x2 (I5 4 (nx x1)) 2 x1 Q))))
def M_otherwise_b25 (I : HI) (x1 : Int32) (x2 : Int32) (Q : Int32 → HI → Prop) : Prop :=
  M_otherwise_b26 I x1 x2 0 Q
def M_otherwise (I : HI) (x1 : Int32) (x2 : Int32) (Q : Int32 → HI → Prop) : Prop :=
  M_isWearer I x1 (fun r1 I2 =>
    if r1 = 0 then
    (Q 0 I2)
    else
    (if x2 < 0 then
    (M_otherwise_b25 I2 x1 x2 Q)
    else
    (if (I2 0 1) ≤ x2 then
    (M_otherwise_b25 I2 x1 x2 Q)
    else
    (M_otherwise_b26 I2 x1 x2 1 Q))))
def M_swaps (I : HI) (x1 : Int32) (x2 : Int32) (Q : HI → Prop) : Prop :=
  vp_in x1 8 ∧
    vp_in x2 8 ∧
    vp_in x1 8 ∧
    vp_in x2 8 ∧
    Q (up2 (up2 I 23 (nx x1) (I 23 (nx x2))) 23 (nx x2) (I 23 (nx x1)))
def M_turns_l86  (Q : Int32 → HI → Prop) : Nat → HI → Int32 → Int32 → Prop
  | 0, _, _, _ => False
  | n + 1, I, x3, x4 =>
    if x4 ≤ x3 then
    (Q 1 I)
    else
    (M_swaps I x3 x4 (fun I3 =>
    M_turns_l86 Q n I3 (x3 + 1) (x4 + (-1))))
def M_turns_l47 (I : HI) (x1 : Int32) (Q : Int32 → HI → Prop) : Nat → Int32 → Prop
  | 0, _ => False
  | n + 1, x2 =>
    vp_in x2 8 ∧
    vp_in x1 8 ∧
    if (I 23 (nx x1)) ≤ (I 23 (nx x2)) then
    (M_swaps I x1 x2 (fun I1 =>
    ∃ nn, M_turns_l86 Q nn I1 (x1 + 1) ((I1 0 1) - 1)))
    else
    (M_turns_l47 I x1 Q n (x2 + (-1)))
def M_turns_b34 (I : HI) (x1 : Int32) (Q : Int32 → HI → Prop) : Prop :=
  if 0 ≤ x1 then
    (∃ nn, M_turns_l47 I x1 Q nn ((I 0 1) - 1))
    else
    (Q 0 I)
def M_turns_l7 (I : HI) (Q : Int32 → HI → Prop) : Nat → Int32 → Prop
  | 0, _ => False
  | n + 1, x1 =>
    if x1 < 0 then
    (M_turns_b34 I x1 Q)
    else
    (vp_in x1 8 ∧
    vp_in (x1 + 1) 8 ∧
    if (I 23 (nx x1)) ≤ (I 23 (nx (x1 + 1))) then
    (M_turns_b34 I x1 Q)
    else
    (M_turns_l7 I Q n (x1 + (-1))))
def M_turns (I : HI)  (Q : Int32 → HI → Prop) : Prop :=
  ∃ nn, M_turns_l7 I Q nn ((I 0 1) - 2)
def M_isAlike_l44 (I : HI) (x2 : Int32) (K4 : Int32 → Int32 → Prop) (Q : Int32 → Prop) : Nat → Int32 → Int32 → Prop
  | 0, _, _ => False
  | n + 1, x1, x3 =>
    if (I 0 1) ≤ x3 then
    (K4 x1 (x2 + 1))
    else
    (if x1 = 0 then
    (M_isAlike_l44 I x2 K4 Q n 0 (x3 + 1))
    else
    (vp_in x2 8 ∧
    vp_in (I 23 (nx x2)) 8 ∧
    vp_in x3 8 ∧
    vp_in x2 8 ∧
    if (((I 2 (nx (I 23 (nx x2)))) >>> ((I 23 (nx x3)) &&& 31)) &&& 1) = (((I 2 (nx x2)) >>> (x3 &&& 31)) &&& 1) then
    (M_isAlike_l44 I x2 K4 Q n 1 (x3 + 1))
    else
    (M_isAlike_l44 I x2 K4 Q n 0 (x3 + 1))))
def M_isAlike_l4 (I : HI) (Q : Int32 → Prop) : Nat → Int32 → Int32 → Prop
  | 0, _, _ => False
  | n + 1, x1, x2 =>
    if (I 0 1) ≤ x2 then
    (zb x1 ∧ Q x1 )
    else
    (if x1 = 0 then
    (∃ nn, M_isAlike_l44 I x2 (fun x1' x2' => M_isAlike_l4 I Q n x1' x2') Q nn 0 0)
    else
    (vp_in x2 8 ∧
    vp_in (I 23 (nx x2)) 8 ∧
    vp_in x2 8 ∧
    if (I 3 (nx (I 23 (nx x2)))) = (I 3 (nx x2)) then
    (∃ nn, M_isAlike_l44 I x2 (fun x1' x2' => M_isAlike_l4 I Q n x1' x2') Q nn 1 0)
    else
    (∃ nn, M_isAlike_l44 I x2 (fun x1' x2' => M_isAlike_l4 I Q n x1' x2') Q nn 0 0)))
def M_isAlike (I : HI)  (Q : Int32 → Prop) : Prop :=
  ∃ nn, M_isAlike_l4 I Q nn 1 0
def M_alike_l43  (Q : Int32 → HI → Prop) : Nat → HI → Int32 → Int32 → Prop
  | 0, _, _, _ => False
  | n + 1, I, x1, x2 =>
    if x2 = 0 then
    (Q x1 I)
    else
    (M_isAlike I (fun r1 =>
    if r1 = 0 then
    (M_turns I (fun r3 I4 =>
    M_alike_l43 Q n I4 x1 r3))
    else
    (M_turns I (fun r6 I7 =>
    M_alike_l43 Q n I7 (x1 + 1) r6))))
def M_alike_l18  (Q : Int32 → HI → Prop) : Nat → HI → Int32 → Prop
  | 0, _, _ => False
  | n + 1, I, x1 =>
    if (I 0 1) ≤ x1 then
    (∃ nn, M_alike_l43 Q nn I 0 1)
    else
    (vp_in x1 8 ∧
    M_alike_l18 Q n (up2 I 23 (nx x1) x1) (x1 + 1))
def M_alike (I : HI)  (Q : Int32 → HI → Prop) : Prop :=
  if ((up2 I 0 0 0) 0 1) ≤ 6 then
    (∃ nn, M_alike_l18 Q nn (up2 I 0 0 0) 0)
    else
    (Q (-1) (up2 I 0 0 0))
def M_ring_l70 (I : HI) (x1 : Int32) (x2 : Int32) (x3 : Int32) (x4 : Int32) (x5 : Int32) (K9 : Int32 → Int32 → Prop) (K30 : Int32 → Int32 → Int32 → Int32 → Prop) (Q : Int32 → HI → Prop) : Nat → Int32 → Int32 → Prop
  | 0, _, _ => False
  | n + 1, x6, x7 =>
    if (I 0 1) ≤ x7 then
    (K30 x1 x3 (x6 &&& (x3 ^^^ (-1))) (x5 + 1))
    else
    (if ((x4 >>> (x7 &&& 31)) &&& 1) = 1 then
    (vp_in x7 8 ∧
    M_ring_l70 I x1 x2 x3 x4 x5 K9 K30 Q n (x6 ||| (I 2 (nx x7))) (x7 + 1))
    else
    (M_ring_l70 I x1 x2 x3 x4 x5 K9 K30 Q n x6 (x7 + 1)))
def M_ring_b59 (I : HI) (x1 : Int32) (x2 : Int32) (x3 : Int32) (x4 : Int32) (x5 : Int32) (K9 : Int32 → Int32 → Prop) (K30 : Int32 → Int32 → Int32 → Int32 → Prop) (Q : Int32 → HI → Prop) : Prop :=
  ∃ nn, M_ring_l70 I x1 x2 (x3 ||| x4) x4 x5 K9 K30 Q nn 0 0
def M_ring_b46 (I : HI) (x1 : Int32) (x2 : Int32) (x3 : Int32) (x4 : Int32) (x5 : Int32) (K9 : Int32 → Int32 → Prop) (K30 : Int32 → Int32 → Int32 → Int32 → Prop) (Q : Int32 → HI → Prop) : Prop :=
  if ((x4 >>> (x2 &&& 31)) &&& 1) = 1 then
    (M_ring_b59 I x5 x2 x3 x4 x5 K9 K30 Q)
    else
    (M_ring_b59 I x1 x2 x3 x4 x5 K9 K30 Q)
def M_ring_l30 (I : HI) (x2 : Int32) (K9 : Int32 → Int32 → Prop) (Q : Int32 → HI → Prop) : Nat → Int32 → Int32 → Int32 → Int32 → Prop
  | 0, _, _, _, _ => False
  | n + 1, x1, x3, x4, x5 =>
    if x4 = 0 then
    (K9 x1 (x2 + 1))
    else
    (if x1 = (-1) then
    (M_ring_b46 I x1 x2 x3 x4 x5 K9 (fun x1' x3' x4' x5' => M_ring_l30 I x2 K9 Q n x1' x3' x4' x5') Q)
    else
    (if x1 ≤ x5 then
    (K9 x1 (x2 + 1))
    else
    (M_ring_b46 I x1 x2 x3 x4 x5 K9 (fun x1' x3' x4' x5' => M_ring_l30 I x2 K9 Q n x1' x3' x4' x5') Q)))
def M_ring_l9 (I : HI) (Q : Int32 → HI → Prop) : Nat → Int32 → Int32 → Prop
  | 0, _, _ => False
  | n + 1, x1, x2 =>
    if (I 0 1) ≤ x2 then
    (Q x1 I)
    else
    (vp_in x2 8 ∧
    ∃ nn, M_ring_l30 I x2 (fun x1' x2' => M_ring_l9 I Q n x1' x2') Q nn x1 0 (I 2 (nx x2)) 1)
def M_ring (I : HI)  (Q : Int32 → HI → Prop) : Prop :=
  ∃ nn, M_ring_l9 (up2 I 0 0 0) Q nn (-1) 0
def M_areAtOnce_l4 (I : HI) (Q : Int32 → Prop) : Nat → Int32 → Int32 → Prop
  | 0, _, _ => False
  | n + 1, x1, x2 =>
    if (I 0 1) ≤ x2 then
    (zb x1 ∧ Q x1 )
    else
    (if x1 = 0 then
    (M_areAtOnce_l4 I Q n 0 (x2 + 1))
    else
    (vp_in x2 8 ∧
    if (I 3 (nx x2)) = 0 then
    (M_viewsOf I x2 (fun r1 =>
    if 1024 < r1 then
    (M_areAtOnce_l4 I Q n 0 (x2 + 1))
    else
    (M_areAtOnce_l4 I Q n 1 (x2 + 1))))
    else
    (M_areAtOnce_l4 I Q n 0 (x2 + 1))))
def M_areAtOnce (I : HI)  (Q : Int32 → Prop) : Prop :=
  ∃ nn, M_areAtOnce_l4 I Q nn 1 0
def M_views_l17 (x1 : Int32) (K2 : HI → Int32 → Prop) (Q : HI → Prop) : Nat → HI → Int32 → Prop
  | 0, _, _ => False
  | n + 1, I, x2 =>
    if (I 0 1) ≤ x2 then
    (K2 I (x1 + 1))
    else
    (M_viewOf I x2 (fun r3 =>
    vp_in ((8 * x1) + x2) 52488 ∧
    M_views_l17 x1 K2 Q n (up2 I 25 (nx ((8 * x1) + x2)) r3) (x2 + 1)))
def M_views_l2  (Q : HI → Prop) : Nat → HI → Int32 → Prop
  | 0, _, _ => False
  | n + 1, I, x1 =>
    if (I 0 3) ≤ x1 then
    (Q I)
    else
    (M_wears I x1 (fun I1 =>
    ∃ nn, M_views_l17 x1 (fun I' x1' => M_views_l2 Q n I' x1') Q nn I1 0))
def M_views (I : HI)  (Q : HI → Prop) : Prop :=
  ∃ nn, M_views_l2 Q nn I 0
def M_hatIn_l5 (x1 : Int32) (x2 : Int32) (Q : Int32 → Prop) : Nat → Int32 → Int32 → Prop
  | 0, _, _ => False
  | n + 1, x3, x4 =>
    if x1 ≤ x4 then
    (¬ x2 = 0 ∧
    Q (irm x3 x2) )
    else
    (¬ x2 = 0 ∧
    M_hatIn_l5 x1 x2 Q n (x3 / x2) (x4 + 1))
def M_hatIn  (x0 : Int32) (x1 : Int32) (x2 : Int32) (Q : Int32 → Prop) : Prop :=
  ∃ nn, M_hatIn_l5 x1 x2 Q nn x0 0
def M_isSomeRight_b58 (I : HI) (x1 : Int32) (x3 : Int32) (x4 : Int32) (t0 : Int32) (K7 : Int32 → Int32 → Int32 → Prop) (Q : Int32 → Prop) : Prop :=
  ¬ (I 0 2) = 0 ∧
    K7 t0 (x3 / (I 0 2)) (x4 + 1)
def M_isSomeRight_l7 (I : HI) (x1 : Int32) (Q : Int32 → Prop) : Nat → Int32 → Int32 → Int32 → Prop
  | 0, _, _, _ => False
  | n + 1, x2, x3, x4 =>
    if (I 0 1) ≤ x4 then
    (zb x2 ∧ Q x2 )
    else
    (if x2 = 0 then
    (vp_in ((8 * x1) + x4) 52488 ∧
    vp_in ((1024 * x4) + (I 25 (nx ((8 * x1) + x4)))) 8192 ∧
    ¬ (I 0 2) = 0 ∧
    if (I 24 (nx ((1024 * x4) + (I 25 (nx ((8 * x1) + x4)))))) = (irm x3 (I 0 2)) then
    (M_isSomeRight_b58 I x1 x3 x4 1 (fun x2' x3' x4' => M_isSomeRight_l7 I x1 Q n x2' x3' x4') Q)
    else
    (M_isSomeRight_b58 I x1 x3 x4 0 (fun x2' x3' x4' => M_isSomeRight_l7 I x1 Q n x2' x3' x4') Q))
    else
    (M_isSomeRight_b58 I x1 x3 x4 1 (fun x2' x3' x4' => M_isSomeRight_l7 I x1 Q n x2' x3' x4') Q))
def M_isSomeRight (I : HI) (x1 : Int32) (Q : Int32 → Prop) : Prop :=
  ∃ nn, M_isSomeRight_l7 I x1 Q nn 0 x1 0
def M_search_l338 (x5 : Int32) (K318 : HI → Int32 → Prop) (Q : Int32 → HI → Prop) : Nat → HI → Int32 → Prop
  | 0, _, _ => False
  | n + 1, I, x6 =>
    if 1024 ≤ x6 then
    (K318 I (x5 + 1))
    else
    (vp_in ((1024 * x5) + x6) 8192 ∧
    if (I 24 (nx ((1024 * x5) + x6))) = (-1) then
    (vp_in ((1024 * x5) + x6) 8192 ∧
    M_search_l338 x5 K318 Q n (up2 I 5 (nx ((1024 * x5) + x6)) 0) (x6 + 1))
    else
    (vp_in ((1024 * x5) + x6) 8192 ∧
    vp_in ((1024 * x5) + x6) 8192 ∧
    M_search_l338 x5 K318 Q n (up2 I 5 (nx ((1024 * x5) + x6)) (I 24 (nx ((1024 * x5) + x6)))) (x6 + 1)))
def M_search_l318  (Q : Int32 → HI → Prop) : Nat → HI → Int32 → Prop
  | 0, _, _ => False
  | n + 1, I, x5 =>
    if (I 0 1) ≤ x5 then
    (Q 1 (up2 I 0 40 0))
    else
    (vp_in x5 8 ∧
    ∃ nn, M_search_l338 x5 (fun I' x5' => M_search_l318 Q n I' x5') Q nn (up2 I 4 (nx x5) 0) 0)
def M_search_b228 (I : HI) (x1 : Int32) (x2 : Int32) (x3 : Int32) (x5 : Int32) (x6 : Int32) (K76 : HI → Int32 → Int32 → Int32 → Prop) (Q : Int32 → HI → Prop) : Prop :=
  if x6 = 0 then
    (if (I 0 49) = x1 then
    (Q (-2) I)
    else
    (vp_in ((8 * x3) + x5) 52488 ∧
    M_hatIn x3 x5 ((up2 I 0 49 ((I 0 49) + 1)) 0 2) (fun r8 =>
    vp_in ((1024 * x5) + ((up2 I 0 49 ((I 0 49) + 1)) 25 (nx ((8 * x3) + x5)))) 8192 ∧
    vp_in x2 8192 ∧
    vp_in x2 8192 ∧
    K76 (up2 (up2 (up2 (up2 I 0 49 ((I 0 49) + 1)) 24 (nx ((1024 * x5) + ((up2 I 0 49 ((I 0 49) + 1)) 25 (nx ((8 * x3) + x5))))) r8) 26 (nx x2) x3) 27 (nx x2) x5) (x2 + 1) (x3 + 1) 0)))
    else
    (K76 I x2 (x3 + 1) 0)
def M_search_b156 (I : HI) (x1 : Int32) (x2 : Int32) (x3 : Int32) (x5 : Int32) (x6 : Int32) (K76 : HI → Int32 → Int32 → Int32 → Prop) (Q : Int32 → HI → Prop) : Prop :=
  if x6 = 0 then
    (if x5 = (I 0 1) then
    (if x2 = 0 then
    (Q 0 I)
    else
    (vp_in (x2 + (-1)) 8192 ∧
    vp_in (x2 + (-1)) 8192 ∧
    vp_in (((8 * (I 26 (nx (x2 + (-1))))) + ((I 27 (nx (x2 + (-1)))) + 1)) - 1) 52488 ∧
    vp_in ((1024 * (((I 27 (nx (x2 + (-1)))) + 1) - 1)) + (I 25 (nx (((8 * (I 26 (nx (x2 + (-1))))) + ((I 27 (nx (x2 + (-1)))) + 1)) - 1)))) 8192 ∧
    K76 (up2 I 24 (nx ((1024 * (((I 27 (nx (x2 + (-1)))) + 1) - 1)) + (I 25 (nx (((8 * (I 26 (nx (x2 + (-1))))) + ((I 27 (nx (x2 + (-1)))) + 1)) - 1))))) (-1)) (x2 + (-1)) (I 26 (nx (x2 + (-1)))) ((I 27 (nx (x2 + (-1)))) + 1)))
    else
    (M_search_b228 I x1 x2 x3 x5 x6 K76 Q))
    else
    (M_search_b228 I x1 x2 x3 x5 x6 K76 Q)
def M_search_l108 (I : HI) (x1 : Int32) (x2 : Int32) (x3 : Int32) (x6 : Int32) (K76 : HI → Int32 → Int32 → Int32 → Prop) (Q : Int32 → HI → Prop) : Nat → Int32 → Prop
  | 0, _ => False
  | n + 1, x5 =>
    if x6 = 0 then
    (if (I 0 1) ≤ x5 then
    (M_search_b156 I x1 x2 x3 x5 x6 K76 Q)
    else
    (vp_in ((8 * x3) + x5) 52488 ∧
    vp_in ((1024 * x5) + (I 25 (nx ((8 * x3) + x5)))) 8192 ∧
    if (I 24 (nx ((1024 * x5) + (I 25 (nx ((8 * x3) + x5)))))) = (-1) then
    (M_search_b156 I x1 x2 x3 x5 x6 K76 Q)
    else
    (M_search_l108 I x1 x2 x3 x6 K76 Q n (x5 + 1))))
    else
    (M_search_b156 I x1 x2 x3 x5 x6 K76 Q)
def M_search_l76 (x1 : Int32) (Q : Int32 → HI → Prop) : Nat → HI → Int32 → Int32 → Int32 → Prop
  | 0, _, _, _, _ => False
  | n + 1, I, x2, x3, x4 =>
    if (I 0 3) ≤ x3 then
    (∃ nn, M_search_l318 Q nn I 0)
    else
    (if x4 = 0 then
    (M_isSomeRight I x3 (fun r10 =>
    if r10 = 0 then
    (∃ nn, M_search_l108 I x1 x2 x3 0 (fun I' x2' x3' x4' => M_search_l76 x1 Q n I' x2' x3' x4') Q nn x4)
    else
    (∃ nn, M_search_l108 I x1 x2 x3 1 (fun I' x2' x3' x4' => M_search_l76 x1 Q n I' x2' x3' x4') Q nn x4)))
    else
    (∃ nn, M_search_l108 I x1 x2 x3 0 (fun I' x2' x3' x4' => M_search_l76 x1 Q n I' x2' x3' x4') Q nn x4))
def M_search_l44 (x1 : Int32) (Q : Int32 → HI → Prop) : Nat → HI → Int32 → Prop
  | 0, _, _ => False
  | n + 1, I, x2 =>
    if 8192 ≤ x2 then
    (∃ nn, M_search_l76 x1 Q nn (up2 I 0 49 0) 0 0 0)
    else
    (vp_in x2 8192 ∧
    M_search_l44 x1 Q n (up2 I 24 (nx x2) (-1)) (x2 + 1))
def M_search_b29 (I : HI) (x1 : Int32) (t0 : Int32) (Q : Int32 → HI → Prop) : Prop :=
  M_right I t0 (1 : Int32) (fun r3 I4 =>
    if r3 = 0 then
    (Q 0 I4)
    else
    (M_views I4 (fun I6 =>
    ∃ nn, M_search_l44 x1 Q nn I6 0)))
def M_search_b28 (I : HI) (x1 : Int32) (Q : Int32 → HI → Prop) : Prop :=
  M_search_b29 I x1 0 Q
def M_search (I : HI) (x1 : Int32) (Q : Int32 → HI → Prop) : Prop :=
  M_within x1 (0 : Int32) (5000 : Int32) (fun r1 =>
    if r1 = 0 then
    (M_search_b28 (up2 I 0 0 0) x1 Q)
    else
    (M_areAtOnce (up2 I 0 0 0) (fun r12 =>
    if r12 = 0 then
    (M_search_b28 (up2 I 0 0 0) x1 Q)
    else
    (M_search_b29 (up2 I 0 0 0) x1 1 Q))))
def M_steps (I : HI)  (Q : Int32 → HI → Prop) : Prop :=
  Q ((up2 I 0 0 0) 0 49) (up2 I 0 0 0)
def M_isWonBy_l4 (I : HI) (x1 : Int32) (Q : Int32 → Prop) : Nat → Int32 → Int32 → Prop
  | 0, _, _ => False
  | n + 1, x2, x3 =>
    if (I 0 1) ≤ x3 then
    (M_all I (fun r1 =>
    M_isWon I x2 (r1 &&& (x2 ^^^ (-1))) (fun r3 =>
    zb r3 ∧ Q r3 )))
    else
    (vp_in ((8 * x1) + x3) 2048 ∧
    ¬ (I 0 2) = 0 ∧
    vp_in x3 8 ∧
    if (irm (I 30 (nx ((8 * x1) + x3))) (I 0 2)) = (I 29 (nx x3)) then
    (M_isWonBy_l4 I x1 Q n (x2 ||| ((1 : Int32) <<< (x3 &&& 31))) (x3 + 1))
    else
    (M_isWonBy_l4 I x1 Q n x2 (x3 + 1)))
def M_isWonBy (I : HI) (x1 : Int32) (Q : Int32 → Prop) : Prop :=
  ∃ nn, M_isWonBy_l4 I x1 Q nn 0 0
def M_sums_l296 (I : HI) (x1 : Int32) (x2 : Int32) (x3 : Int32) (K261 : HI → Int32 → Prop) (K276 : HI → Int32 → Prop) (Q : Int32 → HI → Prop) : Nat → Int32 → Int32 → Prop
  | 0, _, _ => False
  | n + 1, x4, x5 =>
    if x5 ≤ 0 then
    (¬ (I 0 2) = 0 ∧
    ¬ (I 0 2) = 0 ∧
    vp_in ((1024 * x2) + x3) 8192 ∧
    K276 (up2 I 5 (nx ((1024 * x2) + x3)) (irm ((irm x4 (I 0 2)) + (I 0 2)) (I 0 2))) (x3 + 1))
    else
    (¬ (I 0 2) = 0 ∧
    ¬ (I 0 2) = 0 ∧
    M_sums_l296 I x1 x2 x3 K261 K276 Q n (x4 - (irm x5 (I 0 2))) (x5 / (I 0 2)))
def M_sums_l276 (x1 : Int32) (x2 : Int32) (K261 : HI → Int32 → Prop) (Q : Int32 → HI → Prop) : Nat → HI → Int32 → Prop
  | 0, _, _ => False
  | n + 1, I, x3 =>
    M_viewsOf I x2 (fun r8 =>
    if r8 ≤ x3 then
    (K261 I (x2 + 1))
    else
    (vp_in x2 8 ∧
    ∃ nn, M_sums_l296 I x1 x2 x3 K261 (fun I' x3' => M_sums_l276 x1 x2 K261 Q n I' x3') Q nn (I 28 (nx x2)) x3))
def M_sums_l261 (x1 : Int32) (Q : Int32 → HI → Prop) : Nat → HI → Int32 → Prop
  | 0, _, _ => False
  | n + 1, I, x2 =>
    if (I 0 1) ≤ x2 then
    (Q x1 (up2 I 0 40 0))
    else
    (M_blank I x2 (fun I6 =>
    ∃ nn, M_sums_l276 x1 x2 (fun I' x2' => M_sums_l261 x1 Q n I' x2') Q nn I6 0))
def M_sums_l216 (x1 : Int32) (x2 : Int32) (K110 : HI → Int32 → Int32 → Prop) (Q : Int32 → HI → Prop) : Nat → HI → Int32 → Prop
  | 0, _, _ => False
  | n + 1, I, x5 =>
    if (I 0 1) ≤ x5 then
    (K110 I x1 (x2 + 1))
    else
    (vp_in x5 8 ∧
    vp_in x5 8 ∧
    M_sums_l216 x1 x2 K110 Q n (up2 I 28 (nx x5) (I 29 (nx x5))) (x5 + 1))
def M_sums_l165 (I : HI) (x1 : Int32) (x2 : Int32) (K110 : HI → Int32 → Int32 → Prop) (Q : Int32 → HI → Prop) : Nat → Int32 → Int32 → Prop
  | 0, _, _ => False
  | n + 1, x4, x5 =>
    if (I 0 3) ≤ x5 then
    (if x1 < x4 then
    (∃ nn, M_sums_l216 x4 x2 K110 Q nn I 0)
    else
    (K110 I x1 (x2 + 1)))
    else
    (M_counts I x5 (fun r10 =>
    if r10 = 0 then
    (M_sums_l165 I x1 x2 K110 Q n x4 (x5 + 1))
    else
    (M_isWonBy I x5 (fun r12 =>
    if r12 = 0 then
    (M_sums_l165 I x1 x2 K110 Q n x4 (x5 + 1))
    else
    (M_sums_l165 I x1 x2 K110 Q n (x4 + 1) (x5 + 1))))))
def M_sums_l128 (x1 : Int32) (x2 : Int32) (K110 : HI → Int32 → Int32 → Prop) (Q : Int32 → HI → Prop) : Nat → HI → Int32 → Int32 → Prop
  | 0, _, _, _ => False
  | n + 1, I, x3, x4 =>
    if x4 < 0 then
    (∃ nn, M_sums_l165 I x1 x2 K110 Q nn 0 0)
    else
    (¬ (I 0 2) = 0 ∧
    vp_in x4 8 ∧
    ¬ ((up2 I 29 (nx x4) (irm x3 (I 0 2))) 0 2) = 0 ∧
    M_sums_l128 x1 x2 K110 Q n (up2 I 29 (nx x4) (irm x3 (I 0 2))) (x3 / ((up2 I 29 (nx x4) (irm x3 (I 0 2))) 0 2)) (x4 + (-1)))
def M_sums_l110  (Q : Int32 → HI → Prop) : Nat → HI → Int32 → Int32 → Prop
  | 0, _, _, _ => False
  | n + 1, I, x1, x2 =>
    if (I 0 3) ≤ x2 then
    (∃ nn, M_sums_l261 x1 Q nn (up2 I 0 50 (I 0 1)) 0)
    else
    (∃ nn, M_sums_l128 x1 x2 (fun I' x1' x2' => M_sums_l110 Q n I' x1' x2') Q nn I x2 ((I 0 1) - 1))
def M_sums_l54 (x1 : Int32) (K39 : HI → Int32 → Prop) (Q : Int32 → HI → Prop) : Nat → HI → Int32 → Prop
  | 0, _, _ => False
  | n + 1, I, x2 =>
    if (I 0 1) ≤ x2 then
    (K39 I (x1 + 1))
    else
    (vp_in x2 8 ∧
    M_sum I 17 (I 2 (nx x2)) (fun r16 =>
    vp_in x2 8 ∧
    vp_in ((8 * x1) + x2) 2048 ∧
    M_sums_l54 x1 K39 Q n (up2 I 30 (nx ((8 * x1) + x2)) (r16 + (I 17 (nx x2)))) (x2 + 1)))
def M_sums_l39  (Q : Int32 → HI → Prop) : Nat → HI → Int32 → Prop
  | 0, _, _ => False
  | n + 1, I, x1 =>
    if (I 0 3) ≤ x1 then
    (∃ nn, M_sums_l110 Q nn I (-1) 0)
    else
    (M_wears I x1 (fun I14 =>
    ∃ nn, M_sums_l54 x1 (fun I' x1' => M_sums_l39 Q n I' x1') Q nn I14 0))
def M_sums_b28 (I : HI) (t0 : Int32) (Q : Int32 → HI → Prop) : Prop :=
  M_right I t0 (1 : Int32) (fun r3 I4 =>
    if r3 = 0 then
    (Q 0 I4)
    else
    (∃ nn, M_sums_l39 Q nn I4 0))
def M_sums_b27 (I : HI) (Q : Int32 → HI → Prop) : Prop :=
  M_sums_b28 I 0 Q
def M_sums (I : HI)  (Q : Int32 → HI → Prop) : Prop :=
  M_areAtOnce (up2 I 0 0 0) (fun r1 =>
    if r1 = 0 then
    (M_sums_b27 (up2 I 0 0 0) Q)
    else
    (if 256 < ((up2 I 0 0 0) 0 3) then
    (M_sums_b27 (up2 I 0 0 0) Q)
    else
    (M_sums_b28 (up2 I 0 0 0) 1 Q)))
def M_constant_b22 (I : HI) (x1 : Int32) (t0 : Int32) (Q : Int32 → HI → Prop) : Prop :=
  M_right I t0 (1 : Int32) (fun r4 I5 =>
    if r4 = 0 then
    (Q 0 I5)
    else
    (vp_in x1 8 ∧
    Q (I5 28 (nx x1)) I5))
def M_constant (I : HI) (x1 : Int32) (Q : Int32 → HI → Prop) : Prop :=
  M_isWearer I x1 (fun r1 I2 =>
    if r1 = 0 then
    (Q 0 I2)
    else
    (if (I2 0 50) ≤ x1 then
    (M_constant_b22 I2 x1 0 Q)
    else
    (M_constant_b22 I2 x1 1 Q)))
def M_last_l3 (x0 : Int32) (Q : Int32 → Prop) : Nat → Int32 → Prop
  | 0, _ => False
  | n + 1, x1 =>
    if ((x0 >>> (x1 &&& 31)) &&& 1) = 0 then
    (M_last_l3 x0 Q n (x1 + (-1)))
    else
    (Q x1 )
def M_last  (x0 : Int32) (Q : Int32 → Prop) : Prop :=
  ∃ nn, M_last_l3 x0 Q nn 31
def M_balls_l21 (x1 : Int32) (K2 : HI → Int32 → Prop) (Q : HI → Prop) : Nat → HI → Int32 → Prop
  | 0, _, _ => False
  | n + 1, I, x2 =>
    if (I 0 1) ≤ x2 then
    (vp_in x1 32 ∧
    M_last (I 32 (nx x1)) (fun r1 =>
    vp_in x1 32 ∧
    K2 (up2 I 33 (nx x1) r1) (x1 + 1)))
    else
    (vp_in x1 32 ∧
    vp_in x1 32 ∧
    M_balls_l21 x1 K2 Q n (up2 I 32 (nx x1) ((I 32 (nx x1)) ||| ((1 : Int32) <<< ((x1 ^^^ ((1 : Int32) <<< (x2 &&& 31))) &&& 31)))) (x2 + 1))
def M_balls_l2  (Q : HI → Prop) : Nat → HI → Int32 → Prop
  | 0, _, _ => False
  | n + 1, I, x1 =>
    if (I 0 3) ≤ x1 then
    (Q I)
    else
    (vp_in x1 32 ∧
    ∃ nn, M_balls_l21 x1 (fun I' x1' => M_balls_l2 Q n I' x1') Q nn (up2 I 32 (nx x1) ((1 : Int32) <<< (x1 &&& 31))) 0)
def M_balls (I : HI)  (Q : HI → Prop) : Prop :=
  ∃ nn, M_balls_l2 Q nn I 0
def M_latest_l5 (I : HI) (x1 : Int32) (Q : Int32 → Prop) : Nat → Int32 → Int32 → Prop
  | 0, _, _ => False
  | n + 1, x2, x3 =>
    if (I 0 3) ≤ x3 then
    (Q x2 )
    else
    (if ((x1 >>> (x3 &&& 31)) &&& 1) = 1 then
    (vp_in x3 32 ∧
    if x2 ≤ (I 33 (nx x3)) then
    (M_latest_l5 I x1 Q n x2 (x3 + 1))
    else
    (vp_in x3 32 ∧
    M_latest_l5 I x1 Q n (I 33 (nx x3)) (x3 + 1)))
    else
    (M_latest_l5 I x1 Q n x2 (x3 + 1)))
def M_latest (I : HI) (x1 : Int32) (Q : Int32 → Prop) : Prop :=
  ∃ nn, M_latest_l5 I x1 Q nn 31 0
def M_covers_b119 (I : HI) (x1 : Int32) (x2 : Int32) (x3 : Int32) (t0 : Int32) (K38 : HI → Int32 → Prop) (Q : Int32 → HI → Prop) : Prop :=
  if t0 = 0 then
    (K38 I (x3 + (-1)))
    else
    (vp_in x3 33 ∧
    vp_in x3 33 ∧
    vp_in (I 31 (nx x3)) 32 ∧
    vp_in (x3 + 1) 33 ∧
    vp_in x3 33 ∧
    vp_in (x3 + 1) 33 ∧
    K38 (up2 (up2 I 34 (nx (x3 + 1)) ((I 34 (nx x3)) ||| (I 32 (nx (I 31 (nx x3)))))) 31 (nx (x3 + 1)) ((up2 I 34 (nx (x3 + 1)) ((I 34 (nx x3)) ||| (I 32 (nx (I 31 (nx x3)))))) 31 (nx x3))) (x3 + 1))
def M_covers_b118 (I : HI) (x1 : Int32) (x2 : Int32) (x3 : Int32) (K38 : HI → Int32 → Prop) (Q : Int32 → HI → Prop) : Prop :=
  M_covers_b119 I x1 x2 x3 0 K38 Q
def M_covers_l38 (x1 : Int32) (x2 : Int32) (Q : Int32 → HI → Prop) : Nat → HI → Int32 → Prop
  | 0, _, _ => False
  | n + 1, I, x3 =>
    if x3 < 0 then
    (Q 0 I)
    else
    (vp_in x3 33 ∧
    if (x2 &&& ((I 34 (nx x3)) ^^^ (-1))) = 0 then
    (Q 1 (up2 I 0 54 x3))
    else
    (vp_in x3 33 ∧
    vp_in x3 33 ∧
    if x1 ≤ x3 then
    (M_covers_b118 (up2 I 31 (nx x3) ((I 31 (nx x3)) + 1)) x1 x2 x3 (fun I' x3' => M_covers_l38 x1 x2 Q n I' x3') Q)
    else
    (vp_in x3 33 ∧
    M_latest (up2 I 31 (nx x3) ((I 31 (nx x3)) + 1)) (x2 &&& ((I 34 (nx x3)) ^^^ (-1))) (fun r1 =>
    if r1 < ((up2 I 31 (nx x3) ((I 31 (nx x3)) + 1)) 31 (nx x3)) then
    (M_covers_b118 (up2 I 31 (nx x3) ((I 31 (nx x3)) + 1)) x1 x2 x3 (fun I' x3' => M_covers_l38 x1 x2 Q n I' x3') Q)
    else
    (M_bits (x2 &&& ((I 34 (nx x3)) ^^^ (-1))) (fun r3 =>
    if ((x1 - x3) * (((up2 I 31 (nx x3) ((I 31 (nx x3)) + 1)) 0 1) + 1)) < r3 then
    (M_covers_b118 (up2 I 31 (nx x3) ((I 31 (nx x3)) + 1)) x1 x2 x3 (fun I' x3' => M_covers_l38 x1 x2 Q n I' x3') Q)
    else
    (M_covers_b119 (up2 I 31 (nx x3) ((I 31 (nx x3)) + 1)) x1 x2 x3 1 (fun I' x3' => M_covers_l38 x1 x2 Q n I' x3') Q)))))))
def M_covers_b21 (I : HI) (x1 : Int32) (t0 : Int32) (Q : Int32 → HI → Prop) : Prop :=
  ∃ nn, M_covers_l38 x1 t0 Q nn (up2 (up2 I 31 0 (-1)) 34 0 0) 0
def M_covers (I : HI) (x1 : Int32) (Q : Int32 → HI → Prop) : Prop :=
  if (I 0 3) = 32 then
    (M_covers_b21 I x1 (-1) Q)
    else
    (M_covers_b21 I x1 (((1 : Int32) <<< ((I 0 3) &&& 31)) - 1) Q)
def M_isGiven_l4 (I : HI) (x1 : Int32) (Q : Int32 → Prop) : Nat → Int32 → Int32 → Prop
  | 0, _, _ => False
  | n + 1, x2, x3 =>
    if (I 0 54) ≤ x3 then
    (zb x2 ∧ Q x2 )
    else
    (if x2 = 0 then
    (vp_in x3 33 ∧
    if (I 31 (nx x3)) = x1 then
    (M_isGiven_l4 I x1 Q n 1 (x3 + 1))
    else
    (M_isGiven_l4 I x1 Q n 0 (x3 + 1)))
    else
    (M_isGiven_l4 I x1 Q n 1 (x3 + 1)))
def M_isGiven (I : HI) (x1 : Int32) (Q : Int32 → Prop) : Prop :=
  ∃ nn, M_isGiven_l4 I x1 Q nn 0 0
def M_cover_l209 (x1 : Int32) (K194 : HI → Int32 → Prop) (Q : Int32 → HI → Prop) : Nat → HI → Int32 → Prop
  | 0, _, _ => False
  | n + 1, I, x2 =>
    if (I 0 3) ≤ x2 then
    (K194 I (x1 + 1))
    else
    (if ((x2 >>> (x1 &&& 31)) &&& 1) = 1 then
    (M_cover_l209 x1 K194 Q n I (x2 + 1))
    else
    (M_wears I x2 (fun I3 =>
    M_isGiven I3 x2 (fun r5 =>
    M_isGiven I3 (x2 ||| ((1 : Int32) <<< (x1 &&& 31))) (fun r7 =>
    M_viewOf I3 x1 (fun r9 =>
    if r5 = r7 then
    (if r5 = 0 then
    (vp_in ((1024 * x1) + r9) 8192 ∧
    M_cover_l209 x1 K194 Q n (up2 I3 5 (nx ((1024 * x1) + r9)) 2) (x2 + 1))
    else
    (vp_in ((1024 * x1) + r9) 8192 ∧
    M_cover_l209 x1 K194 Q n (up2 I3 5 (nx ((1024 * x1) + r9)) 0) (x2 + 1)))
    else
    (if r5 = 0 then
    (vp_in ((1024 * x1) + r9) 8192 ∧
    M_cover_l209 x1 K194 Q n (up2 I3 5 (nx ((1024 * x1) + r9)) 0) (x2 + 1))
    else
    (vp_in ((1024 * x1) + r9) 8192 ∧
    M_cover_l209 x1 K194 Q n (up2 I3 5 (nx ((1024 * x1) + r9)) 1) (x2 + 1)))))))))
def M_cover_l194  (Q : Int32 → HI → Prop) : Nat → HI → Int32 → Prop
  | 0, _, _ => False
  | n + 1, I, x1 =>
    if (I 0 1) ≤ x1 then
    (Q ((up2 I 0 40 0) 0 54) (up2 I 0 40 0))
    else
    (M_blank I x1 (fun I1 =>
    ∃ nn, M_cover_l209 x1 (fun I' x1' => M_cover_l194 Q n I' x1') Q nn I1 0))
def M_cover_l155  (Q : Int32 → HI → Prop) : Nat → HI → Int32 → Prop
  | 0, _, _ => False
  | n + 1, I, x1 =>
    if (I 0 1) ≤ x1 then
    (∃ nn, M_cover_l194 Q nn I 0)
    else
    (M_all I (fun r11 =>
    vp_in x1 8 ∧
    vp_in x1 8 ∧
    M_cover_l155 Q n (up2 (up2 I 2 (nx x1) (r11 &&& (((1 : Int32) <<< (x1 &&& 31)) ^^^ (-1)))) 3 (nx x1) 0) (x1 + 1)))
def M_cover_l119  (Q : Int32 → HI → Prop) : Nat → HI → Int32 → Prop
  | 0, _, _ => False
  | n + 1, I, x1 =>
    if (I 0 54) ≤ x1 then
    (∃ nn, M_cover_l155 Q nn I 0)
    else
    (vp_in ((32 * (I 0 1)) + x1) 192 ∧
    vp_in x1 33 ∧
    M_cover_l119 Q n (up2 I 31 (nx x1) (I 36 (nx ((32 * (I 0 1)) + x1)))) (x1 + 1))
def M_cover_b104 (I : HI) (Q : Int32 → HI → Prop) : Prop :=
  vp_in (I 0 1) 6 ∧
    ∃ nn, M_cover_l119 Q nn (up2 I 0 54 (I 35 (nx (I 0 1)))) 0
def M_cover_l70  (Q : Int32 → HI → Prop) : Nat → HI → Int32 → Prop
  | 0, _, _ => False
  | n + 1, I, x2 =>
    if (I 0 54) ≤ x2 then
    (M_cover_b104 I Q)
    else
    (vp_in x2 33 ∧
    vp_in ((32 * (I 0 1)) + x2) 192 ∧
    M_cover_l70 Q n (up2 I 36 (nx ((32 * (I 0 1)) + x2)) (I 31 (nx x2))) (x2 + 1))
def M_cover_l41  (Q : Int32 → HI → Prop) : Nat → HI → Int32 → Prop
  | 0, _, _ => False
  | n + 1, I, x1 =>
    M_covers I x1 (fun r15 I16 =>
    if r15 = 0 then
    (M_cover_l41 Q n I16 (x1 + 1))
    else
    (vp_in (I16 0 1) 6 ∧
    ∃ nn, M_cover_l70 Q nn (up2 I16 35 (nx (I16 0 1)) (I16 0 54)) 0))
def M_cover (I : HI)  (Q : Int32 → HI → Prop) : Prop :=
  if ((up2 I 0 0 0) 0 2) = 2 then
    (if ((up2 I 0 0 0) 0 1) ≤ 5 then
    (vp_in ((up2 I 0 0 0) 0 1) 6 ∧
    if ((up2 I 0 0 0) 35 (nx ((up2 I 0 0 0) 0 1))) = 0 then
    (M_balls (up2 I 0 0 0) (fun I13 =>
    ∃ nn, M_cover_l41 Q nn I13 1))
    else
    (M_cover_b104 (up2 I 0 0 0) Q))
    else
    (Q (-1) (up2 I 0 0 0)))
    else
    (Q (-1) (up2 I 0 0 0))
def M_given_b23 (I : HI) (x1 : Int32) (t0 : Int32) (Q : Int32 → HI → Prop) : Prop :=
  M_right I t0 (1 : Int32) (fun r1 I2 =>
    if r1 = 0 then
    (Q 0 I2)
    else
    (vp_in x1 33 ∧
    Q (I2 31 (nx x1)) I2))
def M_given_b22 (I : HI) (x1 : Int32) (Q : Int32 → HI → Prop) : Prop :=
  M_given_b23 I x1 0 Q
def M_given (I : HI) (x1 : Int32) (Q : Int32 → HI → Prop) : Prop :=
  if x1 < 0 then
    (M_given_b22 (up2 I 0 0 0) x1 Q)
    else
    (if ((up2 I 0 0 0) 0 54) ≤ x1 then
    (M_given_b22 (up2 I 0 0 0) x1 Q)
    else
    (M_given_b23 (up2 I 0 0 0) x1 1 Q))
def M_says (I : HI) (x1 : Int32) (x2 : Int32) (x3 : Int32) (x4 : Int32) (Q : HI → Prop) : Prop :=
  vp_in ((1000 * x1) + x2) 8000 ∧
    vp_in (((1000 * x1) + x2) + 1) 8000 ∧
    Q (up2 (up2 I 6 (nx ((1000 * x1) + x2)) x3) 6 (nx (((1000 * x1) + x2) + 1)) x4)
def M_line_l7  (Q : Int32 → HI → Prop) : Nat → HI → Int32 → Prop
  | 0, _, _ => False
  | n + 1, I, x1 =>
    if (I 0 1) ≤ x1 then
    (M_worstRow (up2 I 0 40 0) (fun r1 I2 =>
    if r1 = (-1) then
    (Q (-1) I2)
    else
    (vp_in r1 6561 ∧
    M_bits (I2 21 (nx r1)) (fun r4 =>
    Q r4 I2))))
    else
    (M_all I (fun r6 =>
    vp_in x1 8 ∧
    vp_in x1 8 ∧
    vp_in x1 8 ∧
    vp_in x1 8 ∧
    vp_in x1 8 ∧
    if x1 = 0 then
    (M_says (up2 (up2 (up2 (up2 (up2 I 2 (nx x1) (r6 &&& ((((1 : Int32) <<< ((x1 + 1) &&& 31)) - 1) ^^^ (-1)))) 3 (nx x1) x1) 4 (nx x1) 1) 7 (nx x1) (-1)) 8 (nx x1) 0) (0 : Int32) (0 : Int32) (2 : Int32) (11 : Int32) (fun I16 =>
    M_line_l7 Q n (up2 I16 6 2 0) (x1 + 1)))
    else
    (M_says (up2 (up2 (up2 (up2 (up2 I 2 (nx x1) (r6 &&& ((((1 : Int32) <<< ((x1 + 1) &&& 31)) - 1) ^^^ (-1)))) 3 (nx x1) x1) 4 (nx x1) 1) 7 (nx x1) (-1)) 8 (nx x1) 0) x1 (0 : Int32) (2 : Int32) (10 : Int32) (fun I8 =>
    M_says I8 x1 (2 : Int32) (2 : Int32) (11 : Int32) (fun I10 =>
    vp_in ((1000 * x1) + 4) 8000 ∧
    M_says (up2 I10 6 (nx ((1000 * x1) + 4)) 9) x1 (5 : Int32) (2 : Int32) (12 : Int32) (fun I12 =>
    M_says I12 x1 (7 : Int32) (2 : Int32) (10 : Int32) (fun I14 =>
    vp_in ((1000 * x1) + 9) 8000 ∧
    vp_in ((1000 * x1) + 10) 8000 ∧
    vp_in ((1000 * x1) + 11) 8000 ∧
    M_line_l7 Q n (up2 (up2 (up2 I14 6 (nx ((1000 * x1) + 9)) 9) 6 (nx ((1000 * x1) + 10)) 9) 6 (nx ((1000 * x1) + 11)) 0) (x1 + 1))))))))
def M_line (I : HI)  (Q : Int32 → HI → Prop) : Prop :=
  ∃ nn, M_line_l7 Q nn (up2 I 0 0 0) 0
def M_isWonIf_l87 (I : HI) (Q : Int32 → HI → Prop) : Nat → Int32 → Int32 → Int32 → Prop
  | 0, _, _, _ => False
  | n + 1, x4, x5, x6 =>
    if (I 0 1) ≤ x6 then
    (M_isWon I x4 x5 (fun r3 =>
    zb r3 ∧ Q r3 I))
    else
    (vp_in x6 8 ∧
    vp_in x6 8 ∧
    if (I 18 (nx x6)) = (I 17 (nx x6)) then
    (M_isWonIf_l87 I Q n (x4 ||| ((1 : Int32) <<< (x6 &&& 31))) x5 (x6 + 1))
    else
    (vp_in x6 8 ∧
    if (I 18 (nx x6)) = (I 0 2) then
    (M_isWonIf_l87 I Q n x4 x5 (x6 + 1))
    else
    (M_isWonIf_l87 I Q n x4 (x5 ||| ((1 : Int32) <<< (x6 &&& 31))) (x6 + 1))))
def M_isWonIf_l32 (x4 : Int32) (K22 : HI → Int32 → Prop) (Q : Int32 → HI → Prop) : Nat → HI → Int32 → Prop
  | 0, _, _ => False
  | n + 1, I, x5 =>
    if (I 0 1) ≤ x5 then
    (K22 I (x4 + 1))
    else
    (vp_in x5 8 ∧
    if (I 3 (nx x5)) = x4 then
    (M_guesses I x5 (fun r5 I6 =>
    vp_in x5 8 ∧
    M_isWonIf_l32 x4 K22 Q n (up2 I6 18 (nx x5) r5) (x5 + 1)))
    else
    (M_isWonIf_l32 x4 K22 Q n I (x5 + 1)))
def M_isWonIf_l22  (Q : Int32 → HI → Prop) : Nat → HI → Int32 → Prop
  | 0, _, _ => False
  | n + 1, I, x4 =>
    if 8 ≤ x4 then
    (∃ nn, M_isWonIf_l87 I Q nn 0 0 0)
    else
    (∃ nn, M_isWonIf_l32 x4 (fun I' x4' => M_isWonIf_l22 Q n I' x4') Q nn I 0)
def M_isWonIf (I : HI) (x1 : Int32) (x2 : Int32) (x3 : Int32) (Q : Int32 → HI → Prop) : Prop :=
  M_laysOut I x1 (fun I1 =>
    vp_in x2 8 ∧
    vp_in x2 8 ∧
    ∃ nn, M_isWonIf_l22 Q nn (up2 I1 18 (nx x2) x3) (((up2 I1 18 (nx x2) x3) 3 (nx x2)) + 1))
def M_weighs_l173 (x1 : Int32) (x2 : Int32) (x3 : Int32) (K165 : HI → Int32 → Prop) (Q : HI → Prop) : Nat → HI → Int32 → Prop
  | 0, _, _ => False
  | n + 1, I, x4 =>
    if (I 0 2) < x4 then
    (K165 I (x3 + 1))
    else
    (vp_in ((5 * x3) + x4) 1280 ∧
    if (I 0 62) < (I 37 (nx ((5 * x3) + x4))) then
    (vp_in ((5 * x3) + x4) 1280 ∧
    M_weighs_l173 x1 x2 x3 K165 Q n (up2 (up2 (up2 (up2 I 0 62 (I 37 (nx ((5 * x3) + x4)))) 0 63 x1) 0 64 x3) 0 65 x4) (x4 + 1))
    else
    (M_weighs_l173 x1 x2 x3 K165 Q n I (x4 + 1)))
def M_weighs_l165 (x1 : Int32) (x2 : Int32) (Q : HI → Prop) : Nat → HI → Int32 → Prop
  | 0, _, _ => False
  | n + 1, I, x3 =>
    if x2 ≤ x3 then
    (Q I)
    else
    (∃ nn, M_weighs_l173 x1 x2 x3 (fun I' x3' => M_weighs_l165 x1 x2 Q n I' x3') Q nn I 0)
def M_weighs_b146 (I : HI) (x1 : Int32) (x2 : Int32) (x3 : Int32) (x4 : Int32) (x5 : Int32) (x6 : Int32) (t0 : Int32) (t1 : Int32) (t2 : Int32) (K30 : HI → Int32 → Prop) (K90 : HI → Int32 → Prop) (Q : HI → Prop) : Prop :=
  vp_in t2 1280 ∧
    K90 (up2 I 37 (nx t2) (t1 + (t0 - x5))) (x6 + 1)
def M_weighs_l90 (x1 : Int32) (x2 : Int32) (x3 : Int32) (x4 : Int32) (x5 : Int32) (K30 : HI → Int32 → Prop) (Q : HI → Prop) : Nat → HI → Int32 → Prop
  | 0, _, _ => False
  | n + 1, I, x6 =>
    if (I 0 2) < x6 then
    (K30 I (x3 + 1))
    else
    (vp_in ((1024 * x1) + x4) 8192 ∧
    if x6 = (I 5 (nx ((1024 * x1) + x4))) then
    (M_weighs_l90 x1 x2 x3 x4 x5 K30 Q n I (x6 + 1))
    else
    (vp_in ((5 * x4) + x6) 1280 ∧
    M_isWonIf I x3 x1 x6 (fun r11 I12 =>
    if r11 = 0 then
    (M_weighs_b146 I12 x1 x2 x3 x4 x5 x6 0 (I 37 (nx ((5 * x4) + x6))) ((5 * x4) + x6) K30 (fun I' x6' => M_weighs_l90 x1 x2 x3 x4 x5 K30 Q n I' x6') Q)
    else
    (M_weighs_b146 I12 x1 x2 x3 x4 x5 x6 1 (I 37 (nx ((5 * x4) + x6))) ((5 * x4) + x6) K30 (fun I' x6' => M_weighs_l90 x1 x2 x3 x4 x5 K30 Q n I' x6') Q))))
def M_weighs_l30 (x1 : Int32) (x2 : Int32) (Q : HI → Prop) : Nat → HI → Int32 → Prop
  | 0, _, _ => False
  | n + 1, I, x3 =>
    if (I 0 3) ≤ x3 then
    (∃ nn, M_weighs_l165 x1 x2 Q nn I 0)
    else
    (M_counts I x3 (fun r3 =>
    if r3 = 0 then
    (M_weighs_l30 x1 x2 Q n I (x3 + 1))
    else
    (M_laysOut I x3 (fun I5 =>
    M_viewOf I5 x1 (fun r7 =>
    vp_in x3 6561 ∧
    vp_in x3 6561 ∧
    M_isWon I5 (I5 20 (nx x3)) (I5 21 (nx x3)) (fun r9 =>
    if r9 = 0 then
    (∃ nn, M_weighs_l90 x1 x2 x3 r7 0 (fun I' x3' => M_weighs_l30 x1 x2 Q n I' x3') Q nn I5 0)
    else
    (∃ nn, M_weighs_l90 x1 x2 x3 r7 1 (fun I' x3' => M_weighs_l30 x1 x2 Q n I' x3') Q nn I5 0)))))))
def M_weighs_l8 (x1 : Int32) (x2 : Int32) (Q : HI → Prop) : Nat → HI → Int32 → Prop
  | 0, _, _ => False
  | n + 1, I, x3 =>
    if (5 * x2) ≤ x3 then
    (∃ nn, M_weighs_l30 x1 x2 Q nn I 0)
    else
    (vp_in x3 1280 ∧
    M_weighs_l8 x1 x2 Q n (up2 I 37 (nx x3) 0) (x3 + 1))
def M_weighs (I : HI) (x1 : Int32) (Q : HI → Prop) : Prop :=
  M_viewsOf I x1 (fun r1 =>
    ∃ nn, M_weighs_l8 x1 r1 Q nn I 0)
def M_mend_b150 (I : HI) (x1 : Int32) (x3 : Int32) (t0 : Int32) (K85 : HI → Int32 → Int32 → Prop) (Q : Int32 → HI → Prop) : Prop :=
  if t0 = 0 then
    (K85 I x3 t0)
    else
    (vp_in ((1024 * (I 0 63)) + (I 0 64)) 8192 ∧
    K85 (up2 (up2 I 5 (nx ((1024 * (I 0 63)) + (I 0 64))) (I 0 65)) 0 40 0) (x3 + 1) t0)
def M_mend_l107 (x1 : Int32) (x3 : Int32) (K85 : HI → Int32 → Int32 → Prop) (Q : Int32 → HI → Prop) : Nat → HI → Int32 → Prop
  | 0, _, _ => False
  | n + 1, I, x5 =>
    if (I 0 1) ≤ x5 then
    (if (I 0 62) ≤ 0 then
    (M_mend_b150 I x1 x3 0 K85 Q)
    else
    (M_mend_b150 I x1 x3 1 K85 Q))
    else
    (vp_in x5 8 ∧
    if (I 4 (nx x5)) = 0 then
    (M_weighs I x5 (fun I8 =>
    M_mend_l107 x1 x3 K85 Q n I8 (x5 + 1)))
    else
    (M_mend_l107 x1 x3 K85 Q n I (x5 + 1)))
def M_mend_l85 (x1 : Int32) (Q : Int32 → HI → Prop) : Nat → HI → Int32 → Int32 → Prop
  | 0, _, _, _ => False
  | n + 1, I, x3, x4 =>
    if x4 = 0 then
    (Q x3 I)
    else
    (if x1 ≤ x3 then
    (Q x3 I)
    else
    (M_worksAll I (fun I6 =>
    ∃ nn, M_mend_l107 x1 x3 (fun I' x3' x4' => M_mend_l85 x1 Q n I' x3' x4') Q nn (up2 I6 0 62 0) 0)))
def M_mend_l26 (I : HI) (x1 : Int32) (Q : Int32 → HI → Prop) : Nat → Int32 → Int32 → Prop
  | 0, _, _ => False
  | n + 1, x2, x3 =>
    if (I 0 1) ≤ x3 then
    (if 256 < x2 then
    (Q (-1) I)
    else
    (if (I 0 3) ≤ 256 then
    (∃ nn, M_mend_l85 x1 Q nn I 0 1)
    else
    (Q (-1) I)))
    else
    (vp_in x3 8 ∧
    if (I 4 (nx x3)) = 0 then
    (M_viewsOf I x3 (fun r10 =>
    M_mend_l26 I x1 Q n (x2 + r10) (x3 + 1)))
    else
    (M_mend_l26 I x1 Q n (x2 + 0) (x3 + 1)))
def M_mend (I : HI) (x1 : Int32) (Q : Int32 → HI → Prop) : Prop :=
  M_within x1 (0 : Int32) (20 : Int32) (fun r1 =>
    M_right (up2 I 0 0 0) r1 (1 : Int32) (fun r3 I4 =>
    if r3 = 0 then
    (Q 0 I4)
    else
    (∃ nn, M_mend_l26 I4 x1 Q nn 0 0)))
def M_draw_l24 (x4 : Int32) (K12 : HI → Int32 → Int32 → Int32 → Prop) (Q : Int32 → HI → Prop) : Nat → HI → Int32 → Int32 → Int32 → Prop
  | 0, _, _, _, _ => False
  | n + 1, I, x2, x3, x5 =>
    vp_in x4 8 ∧
    if (I 4 (nx x4)) = 0 then
    (M_viewsOf I x4 (fun r1 =>
    if r1 ≤ x5 then
    (K12 I x2 x3 (x4 + 1))
    else
    (¬ (I 0 2) = 0 ∧
    vp_in ((1024 * x4) + x5) 8192 ∧
    M_draw_l24 x4 K12 Q n (up2 I 5 (nx ((1024 * x4) + x5)) (irm ((((x2 * 1103515245) + 12345) >>> (16 &&& 31)) &&& 32767) (I 0 2))) ((x2 * 1103515245) + 12345) (x3 + 1) (x5 + 1))))
    else
    (K12 I x2 x3 (x4 + 1))
def M_draw_l12  (Q : Int32 → HI → Prop) : Nat → HI → Int32 → Int32 → Int32 → Prop
  | 0, _, _, _, _ => False
  | n + 1, I, x2, x3, x4 =>
    if (I 0 1) ≤ x4 then
    (Q x3 (up2 I 0 40 0))
    else
    (∃ nn, M_draw_l24 x4 (fun I' x2' x3' x4' => M_draw_l12 Q n I' x2' x3' x4') Q nn I x2 x3 0)
def M_draw (I : HI) (x1 : Int32) (Q : Int32 → HI → Prop) : Prop :=
  ∃ nn, M_draw_l12 Q nn (up2 I 0 0 0) x1 0 0
def M_keep_l170 (x1 : Int32) (Q : Int32 → HI → Prop) : Nat → HI → Int32 → Prop
  | 0, _, _ => False
  | n + 1, I, x2 =>
    if 8000 ≤ x2 then
    (Q 1 I)
    else
    (vp_in x2 8000 ∧
    vp_in ((8000 * x1) + x2) 32000 ∧
    M_keep_l170 x1 Q n (up2 I 44 (nx ((8000 * x1) + x2)) (I 6 (nx x2))) (x2 + 1))
def M_keep_l137 (x1 : Int32) (Q : Int32 → HI → Prop) : Nat → HI → Int32 → Prop
  | 0, _, _ => False
  | n + 1, I, x2 =>
    if 8192 ≤ x2 then
    (∃ nn, M_keep_l170 x1 Q nn I 0)
    else
    (vp_in x2 8192 ∧
    vp_in ((8192 * x1) + x2) 32768 ∧
    M_keep_l137 x1 Q n (up2 I 43 (nx ((8192 * x1) + x2)) (I 5 (nx x2))) (x2 + 1))
def M_keep_l38 (x1 : Int32) (Q : Int32 → HI → Prop) : Nat → HI → Int32 → Prop
  | 0, _, _ => False
  | n + 1, I, x2 =>
    if 8 ≤ x2 then
    (∃ nn, M_keep_l137 x1 Q nn I 0)
    else
    (vp_in x2 8 ∧
    vp_in ((8 * x1) + x2) 32 ∧
    vp_in x2 8 ∧
    vp_in ((8 * x1) + x2) 32 ∧
    vp_in x2 8 ∧
    vp_in ((8 * x1) + x2) 32 ∧
    vp_in x2 8 ∧
    vp_in ((8 * x1) + x2) 32 ∧
    vp_in x2 8 ∧
    vp_in ((8 * x1) + x2) 32 ∧
    M_keep_l38 x1 Q n (up2 (up2 (up2 (up2 (up2 I 40 (nx ((8 * x1) + x2)) (I 2 (nx x2))) 41 (nx ((8 * x1) + x2)) ((up2 I 40 (nx ((8 * x1) + x2)) (I 2 (nx x2))) 3 (nx x2))) 42 (nx ((8 * x1) + x2)) ((up2 (up2 I 40 (nx ((8 * x1) + x2)) (I 2 (nx x2))) 41 (nx ((8 * x1) + x2)) ((up2 I 40 (nx ((8 * x1) + x2)) (I 2 (nx x2))) 3 (nx x2))) 4 (nx x2))) 45 (nx ((8 * x1) + x2)) ((up2 (up2 (up2 I 40 (nx ((8 * x1) + x2)) (I 2 (nx x2))) 41 (nx ((8 * x1) + x2)) ((up2 I 40 (nx ((8 * x1) + x2)) (I 2 (nx x2))) 3 (nx x2))) 42 (nx ((8 * x1) + x2)) ((up2 (up2 I 40 (nx ((8 * x1) + x2)) (I 2 (nx x2))) 41 (nx ((8 * x1) + x2)) ((up2 I 40 (nx ((8 * x1) + x2)) (I 2 (nx x2))) 3 (nx x2))) 4 (nx x2))) 7 (nx x2))) 46 (nx ((8 * x1) + x2)) ((up2 (up2 (up2 (up2 I 40 (nx ((8 * x1) + x2)) (I 2 (nx x2))) 41 (nx ((8 * x1) + x2)) ((up2 I 40 (nx ((8 * x1) + x2)) (I 2 (nx x2))) 3 (nx x2))) 42 (nx ((8 * x1) + x2)) ((up2 (up2 I 40 (nx ((8 * x1) + x2)) (I 2 (nx x2))) 41 (nx ((8 * x1) + x2)) ((up2 I 40 (nx ((8 * x1) + x2)) (I 2 (nx x2))) 3 (nx x2))) 4 (nx x2))) 45 (nx ((8 * x1) + x2)) ((up2 (up2 (up2 I 40 (nx ((8 * x1) + x2)) (I 2 (nx x2))) 41 (nx ((8 * x1) + x2)) ((up2 I 40 (nx ((8 * x1) + x2)) (I 2 (nx x2))) 3 (nx x2))) 42 (nx ((8 * x1) + x2)) ((up2 (up2 I 40 (nx ((8 * x1) + x2)) (I 2 (nx x2))) 41 (nx ((8 * x1) + x2)) ((up2 I 40 (nx ((8 * x1) + x2)) (I 2 (nx x2))) 3 (nx x2))) 4 (nx x2))) 7 (nx x2))) 8 (nx x2))) (x2 + 1))
def M_keep (I : HI) (x1 : Int32) (Q : Int32 → HI → Prop) : Prop :=
  M_within x1 (0 : Int32) (3 : Int32) (fun r1 =>
    if r1 = 0 then
    (Q 0 (up2 I 0 0 0))
    else
    (vp_in x1 4 ∧
    vp_in x1 4 ∧
    ∃ nn, M_keep_l38 x1 Q nn (up2 (up2 (up2 I 0 0 0) 38 (nx x1) ((up2 I 0 0 0) 0 1)) 39 (nx x1) ((up2 (up2 I 0 0 0) 38 (nx x1) ((up2 I 0 0 0) 0 1)) 0 2)) 0))
def M_take_l175 (x1 : Int32) (Q : Int32 → HI → Prop) : Nat → HI → Int32 → Prop
  | 0, _, _ => False
  | n + 1, I, x2 =>
    if 8000 ≤ x2 then
    (Q 1 I)
    else
    (vp_in ((8000 * x1) + x2) 32000 ∧
    vp_in x2 8000 ∧
    M_take_l175 x1 Q n (up2 I 6 (nx x2) (I 44 (nx ((8000 * x1) + x2)))) (x2 + 1))
def M_take_l142 (x1 : Int32) (Q : Int32 → HI → Prop) : Nat → HI → Int32 → Prop
  | 0, _, _ => False
  | n + 1, I, x2 =>
    if 8192 ≤ x2 then
    (∃ nn, M_take_l175 x1 Q nn I 0)
    else
    (vp_in ((8192 * x1) + x2) 32768 ∧
    vp_in x2 8192 ∧
    M_take_l142 x1 Q n (up2 I 5 (nx x2) (I 43 (nx ((8192 * x1) + x2)))) (x2 + 1))
def M_take_l43 (x1 : Int32) (Q : Int32 → HI → Prop) : Nat → HI → Int32 → Prop
  | 0, _, _ => False
  | n + 1, I, x2 =>
    if 8 ≤ x2 then
    (∃ nn, M_take_l142 x1 Q nn I 0)
    else
    (vp_in ((8 * x1) + x2) 32 ∧
    vp_in x2 8 ∧
    vp_in ((8 * x1) + x2) 32 ∧
    vp_in x2 8 ∧
    vp_in ((8 * x1) + x2) 32 ∧
    vp_in x2 8 ∧
    vp_in ((8 * x1) + x2) 32 ∧
    vp_in x2 8 ∧
    vp_in ((8 * x1) + x2) 32 ∧
    vp_in x2 8 ∧
    M_take_l43 x1 Q n (up2 (up2 (up2 (up2 (up2 I 2 (nx x2) (I 40 (nx ((8 * x1) + x2)))) 3 (nx x2) ((up2 I 2 (nx x2) (I 40 (nx ((8 * x1) + x2)))) 41 (nx ((8 * x1) + x2)))) 4 (nx x2) ((up2 (up2 I 2 (nx x2) (I 40 (nx ((8 * x1) + x2)))) 3 (nx x2) ((up2 I 2 (nx x2) (I 40 (nx ((8 * x1) + x2)))) 41 (nx ((8 * x1) + x2)))) 42 (nx ((8 * x1) + x2)))) 7 (nx x2) ((up2 (up2 (up2 I 2 (nx x2) (I 40 (nx ((8 * x1) + x2)))) 3 (nx x2) ((up2 I 2 (nx x2) (I 40 (nx ((8 * x1) + x2)))) 41 (nx ((8 * x1) + x2)))) 4 (nx x2) ((up2 (up2 I 2 (nx x2) (I 40 (nx ((8 * x1) + x2)))) 3 (nx x2) ((up2 I 2 (nx x2) (I 40 (nx ((8 * x1) + x2)))) 41 (nx ((8 * x1) + x2)))) 42 (nx ((8 * x1) + x2)))) 45 (nx ((8 * x1) + x2)))) 8 (nx x2) ((up2 (up2 (up2 (up2 I 2 (nx x2) (I 40 (nx ((8 * x1) + x2)))) 3 (nx x2) ((up2 I 2 (nx x2) (I 40 (nx ((8 * x1) + x2)))) 41 (nx ((8 * x1) + x2)))) 4 (nx x2) ((up2 (up2 I 2 (nx x2) (I 40 (nx ((8 * x1) + x2)))) 3 (nx x2) ((up2 I 2 (nx x2) (I 40 (nx ((8 * x1) + x2)))) 41 (nx ((8 * x1) + x2)))) 42 (nx ((8 * x1) + x2)))) 7 (nx x2) ((up2 (up2 (up2 I 2 (nx x2) (I 40 (nx ((8 * x1) + x2)))) 3 (nx x2) ((up2 I 2 (nx x2) (I 40 (nx ((8 * x1) + x2)))) 41 (nx ((8 * x1) + x2)))) 4 (nx x2) ((up2 (up2 I 2 (nx x2) (I 40 (nx ((8 * x1) + x2)))) 3 (nx x2) ((up2 I 2 (nx x2) (I 40 (nx ((8 * x1) + x2)))) 41 (nx ((8 * x1) + x2)))) 42 (nx ((8 * x1) + x2)))) 45 (nx ((8 * x1) + x2)))) 46 (nx ((8 * x1) + x2)))) (x2 + 1))
def M_take (I : HI) (x1 : Int32) (Q : Int32 → HI → Prop) : Prop :=
  M_within x1 (0 : Int32) (3 : Int32) (fun r1 =>
    if r1 = 0 then
    (Q 0 (up2 I 0 0 0))
    else
    (vp_in x1 4 ∧
    if ((up2 I 0 0 0) 38 (nx x1)) = 0 then
    (Q 0 (up2 I 0 0 0))
    else
    (vp_in x1 4 ∧
    vp_in x1 4 ∧
    M_anew (up2 I 0 0 0) ((up2 I 0 0 0) 38 (nx x1)) ((up2 I 0 0 0) 39 (nx x1)) (fun I3 =>
    ∃ nn, M_take_l43 x1 Q nn I3 0))))
def M_count_l34 (I : HI) (x1 : Int32) (Q : Int32 → HI → Prop) : Nat → Int32 → Int32 → Prop
  | 0, _, _ => False
  | n + 1, x2, x3 =>
    if (I 0 1) ≤ x3 then
    (if x1 = 0 then
    (Q (I 0 1) I)
    else
    if x1 = 1 then
    (Q (I 0 2) I)
    else
    if x1 = 2 then
    (Q (I 0 3) I)
    else
    if x1 = 3 then
    (Q (I 0 4) I)
    else
    if x1 = 4 then
    (Q (I 0 5) I)
    else
    if x1 = 5 then
    (Q (I 0 16) I)
    else
    (Q x2 I))
    else
    (vp_in x3 8 ∧
    if (I 4 (nx x3)) = 1 then
    (M_count_l34 I x1 Q n (x2 + 1) (x3 + 1))
    else
    (M_count_l34 I x1 Q n (x2 + 0) (x3 + 1)))
def M_count_b21 (I : HI) (x1 : Int32) (t0 : Int32) (Q : Int32 → HI → Prop) : Prop :=
  M_right I t0 (1 : Int32) (fun r1 I2 =>
    if r1 = 0 then
    (Q 0 I2)
    else
    (∃ nn, M_count_l34 I2 x1 Q nn 0 0))
def M_count_b20 (I : HI) (x1 : Int32) (Q : Int32 → HI → Prop) : Prop :=
  M_count_b21 I x1 0 Q
def M_count (I : HI) (x1 : Int32) (Q : Int32 → HI → Prop) : Prop :=
  if x1 < 0 then
    (M_count_b20 (up2 I 0 0 0) x1 Q)
    else
    (if 6 < x1 then
    (M_count_b20 (up2 I 0 0 0) x1 Q)
    else
    (M_count_b21 (up2 I 0 0 0) x1 1 Q))
end
section
theorem dX11_right_0 : decode cX11_right 0 = .ok (.aload_n 0, 1) := by decide +kernel
theorem dX11_right_1 : decode cX11_right 1 = .ok (.getfield 174, 3) := by decide +kernel
theorem dX11_right_4 : decode cX11_right 4 = .ok (.ifCond .ne 12, 3) := by decide +kernel
theorem dX11_right_7 : decode cX11_right 7 = .ok (.iload_n 1, 1) := by decide +kernel
theorem dX11_right_8 : decode cX11_right 8 = .ok (.ifCond .ne 8, 3) := by decide +kernel
theorem dX11_right_11 : decode cX11_right 11 = .ok (.aload_n 0, 1) := by decide +kernel
theorem dX11_right_12 : decode cX11_right 12 = .ok (.iload_n 2, 1) := by decide +kernel
theorem dX11_right_13 : decode cX11_right 13 = .ok (.putfield 174, 3) := by decide +kernel
theorem dX11_right_16 : decode cX11_right 16 = .ok (.aload_n 0, 1) := by decide +kernel
theorem dX11_right_17 : decode cX11_right 17 = .ok (.getfield 174, 3) := by decide +kernel
theorem dX11_right_20 : decode cX11_right 20 = .ok (.ifCond .ne 7, 3) := by decide +kernel
theorem dX11_right_23 : decode cX11_right 23 = .ok (.iconst 1, 1) := by decide +kernel
theorem dX11_right_24 : decode cX11_right 24 = .ok (.goto 4, 3) := by decide +kernel
theorem dX11_right_27 : decode cX11_right 27 = .ok (.iconst 0, 1) := by decide +kernel
theorem dX11_right_28 : decode cX11_right 28 = .ok (.ireturn, 1) := by decide +kernel
theorem dX11_within_0 : decode cX11_within 0 = .ok (.iload_n 0, 1) := by decide +kernel
theorem dX11_within_1 : decode cX11_within 1 = .ok (.iload_n 1, 1) := by decide +kernel
theorem dX11_within_2 : decode cX11_within 2 = .ok (.if_icmp .lt 12, 3) := by decide +kernel
theorem dX11_within_5 : decode cX11_within 5 = .ok (.iload_n 0, 1) := by decide +kernel
theorem dX11_within_6 : decode cX11_within 6 = .ok (.iload_n 2, 1) := by decide +kernel
theorem dX11_within_7 : decode cX11_within 7 = .ok (.if_icmp .gt 7, 3) := by decide +kernel
theorem dX11_within_10 : decode cX11_within 10 = .ok (.iconst 1, 1) := by decide +kernel
theorem dX11_within_11 : decode cX11_within 11 = .ok (.goto 4, 3) := by decide +kernel
theorem dX11_within_14 : decode cX11_within 14 = .ok (.iconst 0, 1) := by decide +kernel
theorem dX11_within_15 : decode cX11_within 15 = .ok (.ireturn, 1) := by decide +kernel
theorem dX11_bits_0 : decode cX11_bits 0 = .ok (.iconst 0, 1) := by decide +kernel
theorem dX11_bits_1 : decode cX11_bits 1 = .ok (.istore_n 1, 1) := by decide +kernel
theorem dX11_bits_2 : decode cX11_bits 2 = .ok (.iload_n 0, 1) := by decide +kernel
theorem dX11_bits_3 : decode cX11_bits 3 = .ok (.istore_n 2, 1) := by decide +kernel
theorem dX11_bits_4 : decode cX11_bits 4 = .ok (.iload_n 2, 1) := by decide +kernel
theorem dX11_bits_5 : decode cX11_bits 5 = .ok (.ifCond .eq 15, 3) := by decide +kernel
theorem dX11_bits_8 : decode cX11_bits 8 = .ok (.iinc 1 1, 3) := by decide +kernel
theorem dX11_bits_11 : decode cX11_bits 11 = .ok (.iload_n 2, 1) := by decide +kernel
theorem dX11_bits_12 : decode cX11_bits 12 = .ok (.iload_n 2, 1) := by decide +kernel
theorem dX11_bits_13 : decode cX11_bits 13 = .ok (.iconst 1, 1) := by decide +kernel
theorem dX11_bits_14 : decode cX11_bits 14 = .ok (.isub, 1) := by decide +kernel
theorem dX11_bits_15 : decode cX11_bits 15 = .ok (.iand, 1) := by decide +kernel
theorem dX11_bits_16 : decode cX11_bits 16 = .ok (.istore_n 2, 1) := by decide +kernel
theorem dX11_bits_17 : decode cX11_bits 17 = .ok (.goto (-13), 3) := by decide +kernel
theorem dX11_bits_20 : decode cX11_bits 20 = .ok (.iload_n 1, 1) := by decide +kernel
theorem dX11_bits_21 : decode cX11_bits 21 = .ok (.ireturn, 1) := by decide +kernel
theorem dX11_all_0 : decode cX11_all 0 = .ok (.iconst 1, 1) := by decide +kernel
theorem dX11_all_1 : decode cX11_all 1 = .ok (.aload_n 0, 1) := by decide +kernel
theorem dX11_all_2 : decode cX11_all 2 = .ok (.getfield 7, 3) := by decide +kernel
theorem dX11_all_5 : decode cX11_all 5 = .ok (.ishl, 1) := by decide +kernel
theorem dX11_all_6 : decode cX11_all 6 = .ok (.iconst 1, 1) := by decide +kernel
theorem dX11_all_7 : decode cX11_all 7 = .ok (.isub, 1) := by decide +kernel
theorem dX11_all_8 : decode cX11_all 8 = .ok (.ireturn, 1) := by decide +kernel
theorem dX11_hears_0 : decode cX11_hears 0 = .ok (.iconst 0, 1) := by decide +kernel
theorem dX11_hears_1 : decode cX11_hears 1 = .ok (.istore_n 2, 1) := by decide +kernel
theorem dX11_hears_2 : decode cX11_hears 2 = .ok (.iconst 0, 1) := by decide +kernel
theorem dX11_hears_3 : decode cX11_hears 3 = .ok (.istore_n 3, 1) := by decide +kernel
theorem dX11_hears_4 : decode cX11_hears 4 = .ok (.iload_n 3, 1) := by decide +kernel
theorem dX11_hears_5 : decode cX11_hears 5 = .ok (.aload_n 0, 1) := by decide +kernel
theorem dX11_hears_6 : decode cX11_hears 6 = .ok (.getfield 7, 3) := by decide +kernel
theorem dX11_hears_9 : decode cX11_hears 9 = .ok (.if_icmp .ge 30, 3) := by decide +kernel
theorem dX11_hears_12 : decode cX11_hears 12 = .ok (.aload_n 0, 1) := by decide +kernel
theorem dX11_hears_13 : decode cX11_hears 13 = .ok (.getfield 29, 3) := by decide +kernel
theorem dX11_hears_16 : decode cX11_hears 16 = .ok (.iload_n 3, 1) := by decide +kernel
theorem dX11_hears_17 : decode cX11_hears 17 = .ok (.iaload, 1) := by decide +kernel
theorem dX11_hears_18 : decode cX11_hears 18 = .ok (.aload_n 0, 1) := by decide +kernel
theorem dX11_hears_19 : decode cX11_hears 19 = .ok (.getfield 29, 3) := by decide +kernel
theorem dX11_hears_22 : decode cX11_hears 22 = .ok (.iload_n 1, 1) := by decide +kernel
theorem dX11_hears_23 : decode cX11_hears 23 = .ok (.iaload, 1) := by decide +kernel
theorem dX11_hears_24 : decode cX11_hears 24 = .ok (.if_icmp .ge 9, 3) := by decide +kernel
theorem dX11_hears_27 : decode cX11_hears 27 = .ok (.iload_n 2, 1) := by decide +kernel
theorem dX11_hears_28 : decode cX11_hears 28 = .ok (.iconst 1, 1) := by decide +kernel
theorem dX11_hears_29 : decode cX11_hears 29 = .ok (.iload_n 3, 1) := by decide +kernel
theorem dX11_hears_30 : decode cX11_hears 30 = .ok (.ishl, 1) := by decide +kernel
theorem dX11_hears_31 : decode cX11_hears 31 = .ok (.ior, 1) := by decide +kernel
theorem dX11_hears_32 : decode cX11_hears 32 = .ok (.istore_n 2, 1) := by decide +kernel
theorem dX11_hears_33 : decode cX11_hears 33 = .ok (.iinc 3 1, 3) := by decide +kernel
theorem dX11_hears_36 : decode cX11_hears 36 = .ok (.goto (-32), 3) := by decide +kernel
theorem dX11_hears_39 : decode cX11_hears 39 = .ok (.iload_n 2, 1) := by decide +kernel
theorem dX11_hears_40 : decode cX11_hears 40 = .ok (.ireturn, 1) := by decide +kernel
theorem dX11_viewsOf_0 : decode cX11_viewsOf 0 = .ok (.iconst 1, 1) := by decide +kernel
theorem dX11_viewsOf_1 : decode cX11_viewsOf 1 = .ok (.istore_n 2, 1) := by decide +kernel
theorem dX11_viewsOf_2 : decode cX11_viewsOf 2 = .ok (.iconst 0, 1) := by decide +kernel
theorem dX11_viewsOf_3 : decode cX11_viewsOf 3 = .ok (.istore_n 3, 1) := by decide +kernel
theorem dX11_viewsOf_4 : decode cX11_viewsOf 4 = .ok (.iload_n 3, 1) := by decide +kernel
theorem dX11_viewsOf_5 : decode cX11_viewsOf 5 = .ok (.aload_n 0, 1) := by decide +kernel
theorem dX11_viewsOf_6 : decode cX11_viewsOf 6 = .ok (.getfield 26, 3) := by decide +kernel
theorem dX11_viewsOf_9 : decode cX11_viewsOf 9 = .ok (.iload_n 1, 1) := by decide +kernel
theorem dX11_viewsOf_10 : decode cX11_viewsOf 10 = .ok (.iaload, 1) := by decide +kernel
theorem dX11_viewsOf_11 : decode cX11_viewsOf 11 = .ok (.invokestatic 177, 3) := by decide +kernel
theorem dX11_viewsOf_14 : decode cX11_viewsOf 14 = .ok (.if_icmp .ge 23, 3) := by decide +kernel
theorem dX11_viewsOf_17 : decode cX11_viewsOf 17 = .ok (.iload_n 2, 1) := by decide +kernel
theorem dX11_viewsOf_18 : decode cX11_viewsOf 18 = .ok (.sipush 1024, 3) := by decide +kernel
theorem dX11_viewsOf_21 : decode cX11_viewsOf 21 = .ok (.if_icmp .gt 16, 3) := by decide +kernel
theorem dX11_viewsOf_24 : decode cX11_viewsOf 24 = .ok (.iload_n 2, 1) := by decide +kernel
theorem dX11_viewsOf_25 : decode cX11_viewsOf 25 = .ok (.aload_n 0, 1) := by decide +kernel
theorem dX11_viewsOf_26 : decode cX11_viewsOf 26 = .ok (.getfield 13, 3) := by decide +kernel
theorem dX11_viewsOf_29 : decode cX11_viewsOf 29 = .ok (.imul, 1) := by decide +kernel
theorem dX11_viewsOf_30 : decode cX11_viewsOf 30 = .ok (.istore_n 2, 1) := by decide +kernel
theorem dX11_viewsOf_31 : decode cX11_viewsOf 31 = .ok (.iinc 3 1, 3) := by decide +kernel
theorem dX11_viewsOf_34 : decode cX11_viewsOf 34 = .ok (.goto (-30), 3) := by decide +kernel
theorem dX11_viewsOf_37 : decode cX11_viewsOf 37 = .ok (.iconst 0, 1) := by decide +kernel
theorem dX11_viewsOf_38 : decode cX11_viewsOf 38 = .ok (.istore_n 3, 1) := by decide +kernel
theorem dX11_viewsOf_39 : decode cX11_viewsOf 39 = .ok (.iload_n 3, 1) := by decide +kernel
theorem dX11_viewsOf_40 : decode cX11_viewsOf 40 = .ok (.aload_n 0, 1) := by decide +kernel
theorem dX11_viewsOf_41 : decode cX11_viewsOf 41 = .ok (.iload_n 1, 1) := by decide +kernel
theorem dX11_viewsOf_42 : decode cX11_viewsOf 42 = .ok (.invokevirtual 181, 3) := by decide +kernel
theorem dX11_viewsOf_45 : decode cX11_viewsOf 45 = .ok (.invokestatic 177, 3) := by decide +kernel
theorem dX11_viewsOf_48 : decode cX11_viewsOf 48 = .ok (.if_icmp .ge 25, 3) := by decide +kernel
theorem dX11_viewsOf_51 : decode cX11_viewsOf 51 = .ok (.iload_n 2, 1) := by decide +kernel
theorem dX11_viewsOf_52 : decode cX11_viewsOf 52 = .ok (.sipush 1024, 3) := by decide +kernel
theorem dX11_viewsOf_55 : decode cX11_viewsOf 55 = .ok (.if_icmp .gt 18, 3) := by decide +kernel
theorem dX11_viewsOf_58 : decode cX11_viewsOf 58 = .ok (.iload_n 2, 1) := by decide +kernel
theorem dX11_viewsOf_59 : decode cX11_viewsOf 59 = .ok (.aload_n 0, 1) := by decide +kernel
theorem dX11_viewsOf_60 : decode cX11_viewsOf 60 = .ok (.getfield 13, 3) := by decide +kernel
theorem dX11_viewsOf_63 : decode cX11_viewsOf 63 = .ok (.iconst 1, 1) := by decide +kernel
theorem dX11_viewsOf_64 : decode cX11_viewsOf 64 = .ok (.iadd, 1) := by decide +kernel
theorem dX11_viewsOf_65 : decode cX11_viewsOf 65 = .ok (.imul, 1) := by decide +kernel
theorem dX11_viewsOf_66 : decode cX11_viewsOf 66 = .ok (.istore_n 2, 1) := by decide +kernel
theorem dX11_viewsOf_67 : decode cX11_viewsOf 67 = .ok (.iinc 3 1, 3) := by decide +kernel
theorem dX11_viewsOf_70 : decode cX11_viewsOf 70 = .ok (.goto (-31), 3) := by decide +kernel
theorem dX11_viewsOf_73 : decode cX11_viewsOf 73 = .ok (.iload_n 2, 1) := by decide +kernel
theorem dX11_viewsOf_74 : decode cX11_viewsOf 74 = .ok (.sipush 1024, 3) := by decide +kernel
theorem dX11_viewsOf_77 : decode cX11_viewsOf 77 = .ok (.if_icmp .le 9, 3) := by decide +kernel
theorem dX11_viewsOf_80 : decode cX11_viewsOf 80 = .ok (.sipush 1025, 3) := by decide +kernel
theorem dX11_viewsOf_83 : decode cX11_viewsOf 83 = .ok (.goto 4, 3) := by decide +kernel
theorem dX11_viewsOf_86 : decode cX11_viewsOf 86 = .ok (.iload_n 2, 1) := by decide +kernel
theorem dX11_viewsOf_87 : decode cX11_viewsOf 87 = .ok (.ireturn, 1) := by decide +kernel
theorem dX11_blank_0 : decode cX11_blank 0 = .ok (.aload_n 0, 1) := by decide +kernel
theorem dX11_blank_1 : decode cX11_blank 1 = .ok (.getfield 32, 3) := by decide +kernel
theorem dX11_blank_4 : decode cX11_blank 4 = .ok (.iload_n 1, 1) := by decide +kernel
theorem dX11_blank_5 : decode cX11_blank 5 = .ok (.aload_n 0, 1) := by decide +kernel
theorem dX11_blank_6 : decode cX11_blank 6 = .ok (.iload_n 1, 1) := by decide +kernel
theorem dX11_blank_7 : decode cX11_blank 7 = .ok (.invokevirtual 184, 3) := by decide +kernel
theorem dX11_blank_10 : decode cX11_blank 10 = .ok (.sipush 1024, 3) := by decide +kernel
theorem dX11_blank_13 : decode cX11_blank 13 = .ok (.if_icmp .le 7, 3) := by decide +kernel
theorem dX11_blank_16 : decode cX11_blank 16 = .ok (.iconst 2, 1) := by decide +kernel
theorem dX11_blank_17 : decode cX11_blank 17 = .ok (.goto 4, 3) := by decide +kernel
theorem dX11_blank_20 : decode cX11_blank 20 = .ok (.iconst 0, 1) := by decide +kernel
theorem dX11_blank_21 : decode cX11_blank 21 = .ok (.iastore, 1) := by decide +kernel
theorem dX11_blank_22 : decode cX11_blank 22 = .ok (.iconst 0, 1) := by decide +kernel
theorem dX11_blank_23 : decode cX11_blank 23 = .ok (.istore_n 2, 1) := by decide +kernel
theorem dX11_blank_24 : decode cX11_blank 24 = .ok (.iload_n 2, 1) := by decide +kernel
theorem dX11_blank_25 : decode cX11_blank 25 = .ok (.sipush 1024, 3) := by decide +kernel
theorem dX11_blank_28 : decode cX11_blank 28 = .ok (.if_icmp .ge 22, 3) := by decide +kernel
theorem dX11_blank_31 : decode cX11_blank 31 = .ok (.aload_n 0, 1) := by decide +kernel
theorem dX11_blank_32 : decode cX11_blank 32 = .ok (.getfield 35, 3) := by decide +kernel
theorem dX11_blank_35 : decode cX11_blank 35 = .ok (.sipush 1024, 3) := by decide +kernel
theorem dX11_blank_38 : decode cX11_blank 38 = .ok (.iload_n 1, 1) := by decide +kernel
theorem dX11_blank_39 : decode cX11_blank 39 = .ok (.imul, 1) := by decide +kernel
theorem dX11_blank_40 : decode cX11_blank 40 = .ok (.iload_n 2, 1) := by decide +kernel
theorem dX11_blank_41 : decode cX11_blank 41 = .ok (.iadd, 1) := by decide +kernel
theorem dX11_blank_42 : decode cX11_blank 42 = .ok (.iconst 0, 1) := by decide +kernel
theorem dX11_blank_43 : decode cX11_blank 43 = .ok (.iastore, 1) := by decide +kernel
theorem dX11_blank_44 : decode cX11_blank 44 = .ok (.iinc 2 1, 3) := by decide +kernel
theorem dX11_blank_47 : decode cX11_blank 47 = .ok (.goto (-23), 3) := by decide +kernel
theorem dX11_blank_50 : decode cX11_blank 50 = .ok (.return_, 1) := by decide +kernel
theorem dX11_anew_0 : decode cX11_anew 0 = .ok (.aload_n 0, 1) := by decide +kernel
theorem dX11_anew_1 : decode cX11_anew 1 = .ok (.iload_n 1, 1) := by decide +kernel
theorem dX11_anew_2 : decode cX11_anew 2 = .ok (.putfield 7, 3) := by decide +kernel
theorem dX11_anew_5 : decode cX11_anew 5 = .ok (.aload_n 0, 1) := by decide +kernel
theorem dX11_anew_6 : decode cX11_anew 6 = .ok (.iload_n 2, 1) := by decide +kernel
theorem dX11_anew_7 : decode cX11_anew 7 = .ok (.putfield 13, 3) := by decide +kernel
theorem dX11_anew_10 : decode cX11_anew 10 = .ok (.aload_n 0, 1) := by decide +kernel
theorem dX11_anew_11 : decode cX11_anew 11 = .ok (.iconst 1, 1) := by decide +kernel
theorem dX11_anew_12 : decode cX11_anew 12 = .ok (.putfield 16, 3) := by decide +kernel
theorem dX11_anew_15 : decode cX11_anew 15 = .ok (.iconst 0, 1) := by decide +kernel
theorem dX11_anew_16 : decode cX11_anew 16 = .ok (.istore_n 3, 1) := by decide +kernel
theorem dX11_anew_17 : decode cX11_anew 17 = .ok (.iload_n 3, 1) := by decide +kernel
theorem dX11_anew_18 : decode cX11_anew 18 = .ok (.aload_n 0, 1) := by decide +kernel
theorem dX11_anew_19 : decode cX11_anew 19 = .ok (.getfield 7, 3) := by decide +kernel
theorem dX11_anew_22 : decode cX11_anew 22 = .ok (.if_icmp .ge 22, 3) := by decide +kernel
theorem dX11_anew_25 : decode cX11_anew 25 = .ok (.aload_n 0, 1) := by decide +kernel
theorem dX11_anew_26 : decode cX11_anew 26 = .ok (.dup, 1) := by decide +kernel
theorem dX11_anew_27 : decode cX11_anew 27 = .ok (.getfield 16, 3) := by decide +kernel
theorem dX11_anew_30 : decode cX11_anew 30 = .ok (.aload_n 0, 1) := by decide +kernel
theorem dX11_anew_31 : decode cX11_anew 31 = .ok (.getfield 13, 3) := by decide +kernel
theorem dX11_anew_34 : decode cX11_anew 34 = .ok (.imul, 1) := by decide +kernel
theorem dX11_anew_35 : decode cX11_anew 35 = .ok (.putfield 16, 3) := by decide +kernel
theorem dX11_anew_38 : decode cX11_anew 38 = .ok (.iinc 3 1, 3) := by decide +kernel
theorem dX11_anew_41 : decode cX11_anew 41 = .ok (.goto (-24), 3) := by decide +kernel
theorem dX11_anew_44 : decode cX11_anew 44 = .ok (.iconst 0, 1) := by decide +kernel
theorem dX11_anew_45 : decode cX11_anew 45 = .ok (.istore_n 3, 1) := by decide +kernel
theorem dX11_anew_46 : decode cX11_anew 46 = .ok (.iload_n 3, 1) := by decide +kernel
theorem dX11_anew_47 : decode cX11_anew 47 = .ok (.bipush 8, 2) := by decide +kernel
theorem dX11_anew_49 : decode cX11_anew 49 = .ok (.if_icmp .ge 44, 3) := by decide +kernel
theorem dX11_anew_52 : decode cX11_anew 52 = .ok (.aload_n 0, 1) := by decide +kernel
theorem dX11_anew_53 : decode cX11_anew 53 = .ok (.getfield 29, 3) := by decide +kernel
theorem dX11_anew_56 : decode cX11_anew 56 = .ok (.iload_n 3, 1) := by decide +kernel
theorem dX11_anew_57 : decode cX11_anew 57 = .ok (.iconst 0, 1) := by decide +kernel
theorem dX11_anew_58 : decode cX11_anew 58 = .ok (.iastore, 1) := by decide +kernel
theorem dX11_anew_59 : decode cX11_anew 59 = .ok (.aload_n 0, 1) := by decide +kernel
theorem dX11_anew_60 : decode cX11_anew 60 = .ok (.getfield 26, 3) := by decide +kernel
theorem dX11_anew_63 : decode cX11_anew 63 = .ok (.iload_n 3, 1) := by decide +kernel
theorem dX11_anew_64 : decode cX11_anew 64 = .ok (.iload_n 3, 1) := by decide +kernel
theorem dX11_anew_65 : decode cX11_anew 65 = .ok (.aload_n 0, 1) := by decide +kernel
theorem dX11_anew_66 : decode cX11_anew 66 = .ok (.getfield 7, 3) := by decide +kernel
theorem dX11_anew_69 : decode cX11_anew 69 = .ok (.if_icmp .ge 16, 3) := by decide +kernel
theorem dX11_anew_72 : decode cX11_anew 72 = .ok (.aload_n 0, 1) := by decide +kernel
theorem dX11_anew_73 : decode cX11_anew 73 = .ok (.invokevirtual 187, 3) := by decide +kernel
theorem dX11_anew_76 : decode cX11_anew 76 = .ok (.iconst 1, 1) := by decide +kernel
theorem dX11_anew_77 : decode cX11_anew 77 = .ok (.iload_n 3, 1) := by decide +kernel
theorem dX11_anew_78 : decode cX11_anew 78 = .ok (.ishl, 1) := by decide +kernel
theorem dX11_anew_79 : decode cX11_anew 79 = .ok (.iconst (-1), 1) := by decide +kernel
theorem dX11_anew_80 : decode cX11_anew 80 = .ok (.ixor, 1) := by decide +kernel
theorem dX11_anew_81 : decode cX11_anew 81 = .ok (.iand, 1) := by decide +kernel
theorem dX11_anew_82 : decode cX11_anew 82 = .ok (.goto 4, 3) := by decide +kernel
theorem dX11_anew_85 : decode cX11_anew 85 = .ok (.iconst 0, 1) := by decide +kernel
theorem dX11_anew_86 : decode cX11_anew 86 = .ok (.iastore, 1) := by decide +kernel
theorem dX11_anew_87 : decode cX11_anew 87 = .ok (.iinc 3 1, 3) := by decide +kernel
theorem dX11_anew_90 : decode cX11_anew 90 = .ok (.goto (-44), 3) := by decide +kernel
theorem dX11_anew_93 : decode cX11_anew 93 = .ok (.iconst 0, 1) := by decide +kernel
theorem dX11_anew_94 : decode cX11_anew 94 = .ok (.istore_n 3, 1) := by decide +kernel
theorem dX11_anew_95 : decode cX11_anew 95 = .ok (.iload_n 3, 1) := by decide +kernel
theorem dX11_anew_96 : decode cX11_anew 96 = .ok (.aload_n 0, 1) := by decide +kernel
theorem dX11_anew_97 : decode cX11_anew 97 = .ok (.getfield 7, 3) := by decide +kernel
theorem dX11_anew_100 : decode cX11_anew 100 = .ok (.if_icmp .ge 14, 3) := by decide +kernel
theorem dX11_anew_103 : decode cX11_anew 103 = .ok (.aload_n 0, 1) := by decide +kernel
theorem dX11_anew_104 : decode cX11_anew 104 = .ok (.iload_n 3, 1) := by decide +kernel
theorem dX11_anew_105 : decode cX11_anew 105 = .ok (.invokevirtual 191, 3) := by decide +kernel
theorem dX11_anew_108 : decode cX11_anew 108 = .ok (.iinc 3 1, 3) := by decide +kernel
theorem dX11_anew_111 : decode cX11_anew 111 = .ok (.goto (-16), 3) := by decide +kernel
theorem dX11_anew_114 : decode cX11_anew 114 = .ok (.aload_n 0, 1) := by decide +kernel
theorem dX11_anew_115 : decode cX11_anew 115 = .ok (.iconst 0, 1) := by decide +kernel
theorem dX11_anew_116 : decode cX11_anew 116 = .ok (.putfield 195, 3) := by decide +kernel
theorem dX11_anew_119 : decode cX11_anew 119 = .ok (.return_, 1) := by decide +kernel
theorem dX11_hall_0 : decode cX11_hall 0 = .ok (.aload_n 0, 1) := by decide +kernel
theorem dX11_hall_1 : decode cX11_hall 1 = .ok (.iconst 0, 1) := by decide +kernel
theorem dX11_hall_2 : decode cX11_hall 2 = .ok (.putfield 174, 3) := by decide +kernel
theorem dX11_hall_5 : decode cX11_hall 5 = .ok (.iload_n 1, 1) := by decide +kernel
theorem dX11_hall_6 : decode cX11_hall 6 = .ok (.iconst 1, 1) := by decide +kernel
theorem dX11_hall_7 : decode cX11_hall 7 = .ok (.bipush 8, 2) := by decide +kernel
theorem dX11_hall_9 : decode cX11_hall 9 = .ok (.invokestatic 199, 3) := by decide +kernel
theorem dX11_hall_12 : decode cX11_hall 12 = .ok (.ifCond .eq 12, 3) := by decide +kernel
theorem dX11_hall_15 : decode cX11_hall 15 = .ok (.iload_n 2, 1) := by decide +kernel
theorem dX11_hall_16 : decode cX11_hall 16 = .ok (.iconst 2, 1) := by decide +kernel
theorem dX11_hall_17 : decode cX11_hall 17 = .ok (.iconst 4, 1) := by decide +kernel
theorem dX11_hall_18 : decode cX11_hall 18 = .ok (.invokestatic 199, 3) := by decide +kernel
theorem dX11_hall_21 : decode cX11_hall 21 = .ok (.ifCond .ne 5, 3) := by decide +kernel
theorem dX11_hall_24 : decode cX11_hall 24 = .ok (.iconst 0, 1) := by decide +kernel
theorem dX11_hall_25 : decode cX11_hall 25 = .ok (.ireturn, 1) := by decide +kernel
theorem dX11_hall_26 : decode cX11_hall 26 = .ok (.iconst 1, 1) := by decide +kernel
theorem dX11_hall_27 : decode cX11_hall 27 = .ok (.istore_n 3, 1) := by decide +kernel
theorem dX11_hall_28 : decode cX11_hall 28 = .ok (.iconst 0, 1) := by decide +kernel
theorem dX11_hall_29 : decode cX11_hall 29 = .ok (.istore 4, 2) := by decide +kernel
theorem dX11_hall_31 : decode cX11_hall 31 = .ok (.iload 4, 2) := by decide +kernel
theorem dX11_hall_33 : decode cX11_hall 33 = .ok (.iload_n 1, 1) := by decide +kernel
theorem dX11_hall_34 : decode cX11_hall 34 = .ok (.if_icmp .ge 13, 3) := by decide +kernel
theorem dX11_hall_37 : decode cX11_hall 37 = .ok (.iload_n 3, 1) := by decide +kernel
theorem dX11_hall_38 : decode cX11_hall 38 = .ok (.iload_n 2, 1) := by decide +kernel
theorem dX11_hall_39 : decode cX11_hall 39 = .ok (.imul, 1) := by decide +kernel
theorem dX11_hall_40 : decode cX11_hall 40 = .ok (.istore_n 3, 1) := by decide +kernel
theorem dX11_hall_41 : decode cX11_hall 41 = .ok (.iinc 4 1, 3) := by decide +kernel
theorem dX11_hall_44 : decode cX11_hall 44 = .ok (.goto (-13), 3) := by decide +kernel
theorem dX11_hall_47 : decode cX11_hall 47 = .ok (.iload_n 3, 1) := by decide +kernel
theorem dX11_hall_48 : decode cX11_hall 48 = .ok (.sipush 6561, 3) := by decide +kernel
theorem dX11_hall_51 : decode cX11_hall 51 = .ok (.if_icmp .le 5, 3) := by decide +kernel
theorem dX11_hall_54 : decode cX11_hall 54 = .ok (.iconst 0, 1) := by decide +kernel
theorem dX11_hall_55 : decode cX11_hall 55 = .ok (.ireturn, 1) := by decide +kernel
theorem dX11_hall_56 : decode cX11_hall 56 = .ok (.aload_n 0, 1) := by decide +kernel
theorem dX11_hall_57 : decode cX11_hall 57 = .ok (.iload_n 1, 1) := by decide +kernel
theorem dX11_hall_58 : decode cX11_hall 58 = .ok (.iload_n 2, 1) := by decide +kernel
theorem dX11_hall_59 : decode cX11_hall 59 = .ok (.invokevirtual 170, 3) := by decide +kernel
theorem dX11_hall_62 : decode cX11_hall 62 = .ok (.iconst 1, 1) := by decide +kernel
theorem dX11_hall_63 : decode cX11_hall 63 = .ok (.ireturn, 1) := by decide +kernel
theorem dX11_isWearer_0 : decode cX11_isWearer 0 = .ok (.aload_n 0, 1) := by decide +kernel
theorem dX11_isWearer_1 : decode cX11_isWearer 1 = .ok (.iconst 0, 1) := by decide +kernel
theorem dX11_isWearer_2 : decode cX11_isWearer 2 = .ok (.putfield 174, 3) := by decide +kernel
theorem dX11_isWearer_5 : decode cX11_isWearer 5 = .ok (.aload_n 0, 1) := by decide +kernel
theorem dX11_isWearer_6 : decode cX11_isWearer 6 = .ok (.iload_n 1, 1) := by decide +kernel
theorem dX11_isWearer_7 : decode cX11_isWearer 7 = .ok (.ifCond .lt 15, 3) := by decide +kernel
theorem dX11_isWearer_10 : decode cX11_isWearer 10 = .ok (.iload_n 1, 1) := by decide +kernel
theorem dX11_isWearer_11 : decode cX11_isWearer 11 = .ok (.aload_n 0, 1) := by decide +kernel
theorem dX11_isWearer_12 : decode cX11_isWearer 12 = .ok (.getfield 7, 3) := by decide +kernel
theorem dX11_isWearer_15 : decode cX11_isWearer 15 = .ok (.if_icmp .ge 7, 3) := by decide +kernel
theorem dX11_isWearer_18 : decode cX11_isWearer 18 = .ok (.iconst 1, 1) := by decide +kernel
theorem dX11_isWearer_19 : decode cX11_isWearer 19 = .ok (.goto 4, 3) := by decide +kernel
theorem dX11_isWearer_22 : decode cX11_isWearer 22 = .ok (.iconst 0, 1) := by decide +kernel
theorem dX11_isWearer_23 : decode cX11_isWearer 23 = .ok (.iconst 1, 1) := by decide +kernel
theorem dX11_isWearer_24 : decode cX11_isWearer 24 = .ok (.invokevirtual 203, 3) := by decide +kernel
theorem dX11_isWearer_27 : decode cX11_isWearer 27 = .ok (.ireturn, 1) := by decide +kernel
theorem dX11_looks_0 : decode cX11_looks 0 = .ok (.aload_n 0, 1) := by decide +kernel
theorem dX11_looks_1 : decode cX11_looks 1 = .ok (.iload_n 1, 1) := by decide +kernel
theorem dX11_looks_2 : decode cX11_looks 2 = .ok (.invokevirtual 207, 3) := by decide +kernel
theorem dX11_looks_5 : decode cX11_looks 5 = .ok (.ifCond .ne 5, 3) := by decide +kernel
theorem dX11_looks_8 : decode cX11_looks 8 = .ok (.iconst 0, 1) := by decide +kernel
theorem dX11_looks_9 : decode cX11_looks 9 = .ok (.ireturn, 1) := by decide +kernel
theorem dX11_looks_10 : decode cX11_looks 10 = .ok (.iload_n 2, 1) := by decide +kernel
theorem dX11_looks_11 : decode cX11_looks 11 = .ok (.aload_n 0, 1) := by decide +kernel
theorem dX11_looks_12 : decode cX11_looks 12 = .ok (.invokevirtual 187, 3) := by decide +kernel
theorem dX11_looks_15 : decode cX11_looks 15 = .ok (.iconst 1, 1) := by decide +kernel
theorem dX11_looks_16 : decode cX11_looks 16 = .ok (.iload_n 1, 1) := by decide +kernel
theorem dX11_looks_17 : decode cX11_looks 17 = .ok (.ishl, 1) := by decide +kernel
theorem dX11_looks_18 : decode cX11_looks 18 = .ok (.iconst (-1), 1) := by decide +kernel
theorem dX11_looks_19 : decode cX11_looks 19 = .ok (.ixor, 1) := by decide +kernel
theorem dX11_looks_20 : decode cX11_looks 20 = .ok (.iand, 1) := by decide +kernel
theorem dX11_looks_21 : decode cX11_looks 21 = .ok (.iconst (-1), 1) := by decide +kernel
theorem dX11_looks_22 : decode cX11_looks 22 = .ok (.ixor, 1) := by decide +kernel
theorem dX11_looks_23 : decode cX11_looks 23 = .ok (.iand, 1) := by decide +kernel
theorem dX11_looks_24 : decode cX11_looks 24 = .ok (.ifCond .eq 5, 3) := by decide +kernel
theorem dX11_looks_27 : decode cX11_looks 27 = .ok (.iconst 0, 1) := by decide +kernel
theorem dX11_looks_28 : decode cX11_looks 28 = .ok (.ireturn, 1) := by decide +kernel
theorem dX11_looks_29 : decode cX11_looks 29 = .ok (.aload_n 0, 1) := by decide +kernel
theorem dX11_looks_30 : decode cX11_looks 30 = .ok (.getfield 26, 3) := by decide +kernel
theorem dX11_looks_33 : decode cX11_looks 33 = .ok (.iload_n 1, 1) := by decide +kernel
theorem dX11_looks_34 : decode cX11_looks 34 = .ok (.iaload, 1) := by decide +kernel
theorem dX11_looks_35 : decode cX11_looks 35 = .ok (.iload_n 2, 1) := by decide +kernel
theorem dX11_looks_36 : decode cX11_looks 36 = .ok (.if_icmp .eq 7, 3) := by decide +kernel
theorem dX11_looks_39 : decode cX11_looks 39 = .ok (.iconst 1, 1) := by decide +kernel
theorem dX11_looks_40 : decode cX11_looks 40 = .ok (.goto 4, 3) := by decide +kernel
theorem dX11_looks_43 : decode cX11_looks 43 = .ok (.iconst 0, 1) := by decide +kernel
theorem dX11_looks_44 : decode cX11_looks 44 = .ok (.istore_n 3, 1) := by decide +kernel
theorem dX11_looks_45 : decode cX11_looks 45 = .ok (.aload_n 0, 1) := by decide +kernel
theorem dX11_looks_46 : decode cX11_looks 46 = .ok (.getfield 26, 3) := by decide +kernel
theorem dX11_looks_49 : decode cX11_looks 49 = .ok (.iload_n 1, 1) := by decide +kernel
theorem dX11_looks_50 : decode cX11_looks 50 = .ok (.iload_n 2, 1) := by decide +kernel
theorem dX11_looks_51 : decode cX11_looks 51 = .ok (.iastore, 1) := by decide +kernel
theorem dX11_looks_52 : decode cX11_looks 52 = .ok (.iload_n 3, 1) := by decide +kernel
theorem dX11_looks_53 : decode cX11_looks 53 = .ok (.ifCond .eq 18, 3) := by decide +kernel
theorem dX11_looks_56 : decode cX11_looks 56 = .ok (.aload_n 0, 1) := by decide +kernel
theorem dX11_looks_57 : decode cX11_looks 57 = .ok (.getfield 32, 3) := by decide +kernel
theorem dX11_looks_60 : decode cX11_looks 60 = .ok (.iload_n 1, 1) := by decide +kernel
theorem dX11_looks_61 : decode cX11_looks 61 = .ok (.iaload, 1) := by decide +kernel
theorem dX11_looks_62 : decode cX11_looks 62 = .ok (.iconst 1, 1) := by decide +kernel
theorem dX11_looks_63 : decode cX11_looks 63 = .ok (.if_icmp .eq 8, 3) := by decide +kernel
theorem dX11_looks_66 : decode cX11_looks 66 = .ok (.aload_n 0, 1) := by decide +kernel
theorem dX11_looks_67 : decode cX11_looks 67 = .ok (.iload_n 1, 1) := by decide +kernel
theorem dX11_looks_68 : decode cX11_looks 68 = .ok (.invokevirtual 191, 3) := by decide +kernel
theorem dX11_looks_71 : decode cX11_looks 71 = .ok (.aload_n 0, 1) := by decide +kernel
theorem dX11_looks_72 : decode cX11_looks 72 = .ok (.iconst 0, 1) := by decide +kernel
theorem dX11_looks_73 : decode cX11_looks 73 = .ok (.putfield 195, 3) := by decide +kernel
theorem dX11_looks_76 : decode cX11_looks 76 = .ok (.iconst 1, 1) := by decide +kernel
theorem dX11_looks_77 : decode cX11_looks 77 = .ok (.ireturn, 1) := by decide +kernel
theorem dX11_round_0 : decode cX11_round 0 = .ok (.aload_n 0, 1) := by decide +kernel
theorem dX11_round_1 : decode cX11_round 1 = .ok (.iload_n 1, 1) := by decide +kernel
theorem dX11_round_2 : decode cX11_round 2 = .ok (.invokevirtual 207, 3) := by decide +kernel
theorem dX11_round_5 : decode cX11_round 5 = .ok (.ifCond .ne 5, 3) := by decide +kernel
theorem dX11_round_8 : decode cX11_round 8 = .ok (.iconst 0, 1) := by decide +kernel
theorem dX11_round_9 : decode cX11_round 9 = .ok (.ireturn, 1) := by decide +kernel
theorem dX11_round_10 : decode cX11_round 10 = .ok (.iload_n 2, 1) := by decide +kernel
theorem dX11_round_11 : decode cX11_round 11 = .ok (.iconst 0, 1) := by decide +kernel
theorem dX11_round_12 : decode cX11_round 12 = .ok (.bipush 7, 2) := by decide +kernel
theorem dX11_round_14 : decode cX11_round 14 = .ok (.invokestatic 199, 3) := by decide +kernel
theorem dX11_round_17 : decode cX11_round 17 = .ok (.ifCond .ne 5, 3) := by decide +kernel
theorem dX11_round_20 : decode cX11_round 20 = .ok (.iconst 0, 1) := by decide +kernel
theorem dX11_round_21 : decode cX11_round 21 = .ok (.ireturn, 1) := by decide +kernel
theorem dX11_round_22 : decode cX11_round 22 = .ok (.iconst 0, 1) := by decide +kernel
theorem dX11_round_23 : decode cX11_round 23 = .ok (.istore_n 3, 1) := by decide +kernel
theorem dX11_round_24 : decode cX11_round 24 = .ok (.iload_n 3, 1) := by decide +kernel
theorem dX11_round_25 : decode cX11_round 25 = .ok (.aload_n 0, 1) := by decide +kernel
theorem dX11_round_26 : decode cX11_round 26 = .ok (.getfield 7, 3) := by decide +kernel
theorem dX11_round_29 : decode cX11_round 29 = .ok (.if_icmp .ge 20, 3) := by decide +kernel
theorem dX11_round_32 : decode cX11_round 32 = .ok (.aload_n 0, 1) := by decide +kernel
theorem dX11_round_33 : decode cX11_round 33 = .ok (.getfield 47, 3) := by decide +kernel
theorem dX11_round_36 : decode cX11_round 36 = .ok (.iload_n 3, 1) := by decide +kernel
theorem dX11_round_37 : decode cX11_round 37 = .ok (.aload_n 0, 1) := by decide +kernel
theorem dX11_round_38 : decode cX11_round 38 = .ok (.iload_n 3, 1) := by decide +kernel
theorem dX11_round_39 : decode cX11_round 39 = .ok (.invokevirtual 181, 3) := by decide +kernel
theorem dX11_round_42 : decode cX11_round 42 = .ok (.iastore, 1) := by decide +kernel
theorem dX11_round_43 : decode cX11_round 43 = .ok (.iinc 3 1, 3) := by decide +kernel
theorem dX11_round_46 : decode cX11_round 46 = .ok (.goto (-22), 3) := by decide +kernel
theorem dX11_round_49 : decode cX11_round 49 = .ok (.aload_n 0, 1) := by decide +kernel
theorem dX11_round_50 : decode cX11_round 50 = .ok (.getfield 29, 3) := by decide +kernel
theorem dX11_round_53 : decode cX11_round 53 = .ok (.iload_n 1, 1) := by decide +kernel
theorem dX11_round_54 : decode cX11_round 54 = .ok (.iload_n 2, 1) := by decide +kernel
theorem dX11_round_55 : decode cX11_round 55 = .ok (.iastore, 1) := by decide +kernel
theorem dX11_round_56 : decode cX11_round 56 = .ok (.iconst 0, 1) := by decide +kernel
theorem dX11_round_57 : decode cX11_round 57 = .ok (.istore_n 3, 1) := by decide +kernel
theorem dX11_round_58 : decode cX11_round 58 = .ok (.iload_n 3, 1) := by decide +kernel
theorem dX11_round_59 : decode cX11_round 59 = .ok (.aload_n 0, 1) := by decide +kernel
theorem dX11_round_60 : decode cX11_round 60 = .ok (.getfield 7, 3) := by decide +kernel
theorem dX11_round_63 : decode cX11_round 63 = .ok (.if_icmp .ge 38, 3) := by decide +kernel
theorem dX11_round_66 : decode cX11_round 66 = .ok (.aload_n 0, 1) := by decide +kernel
theorem dX11_round_67 : decode cX11_round 67 = .ok (.getfield 32, 3) := by decide +kernel
theorem dX11_round_70 : decode cX11_round 70 = .ok (.iload_n 3, 1) := by decide +kernel
theorem dX11_round_71 : decode cX11_round 71 = .ok (.iaload, 1) := by decide +kernel
theorem dX11_round_72 : decode cX11_round 72 = .ok (.iconst 1, 1) := by decide +kernel
theorem dX11_round_73 : decode cX11_round 73 = .ok (.if_icmp .eq 22, 3) := by decide +kernel
theorem dX11_round_76 : decode cX11_round 76 = .ok (.aload_n 0, 1) := by decide +kernel
theorem dX11_round_77 : decode cX11_round 77 = .ok (.getfield 47, 3) := by decide +kernel
theorem dX11_round_80 : decode cX11_round 80 = .ok (.iload_n 3, 1) := by decide +kernel
theorem dX11_round_81 : decode cX11_round 81 = .ok (.iaload, 1) := by decide +kernel
theorem dX11_round_82 : decode cX11_round 82 = .ok (.aload_n 0, 1) := by decide +kernel
theorem dX11_round_83 : decode cX11_round 83 = .ok (.iload_n 3, 1) := by decide +kernel
theorem dX11_round_84 : decode cX11_round 84 = .ok (.invokevirtual 181, 3) := by decide +kernel
theorem dX11_round_87 : decode cX11_round 87 = .ok (.if_icmp .eq 8, 3) := by decide +kernel
theorem dX11_round_90 : decode cX11_round 90 = .ok (.aload_n 0, 1) := by decide +kernel
theorem dX11_round_91 : decode cX11_round 91 = .ok (.iload_n 3, 1) := by decide +kernel
theorem dX11_round_92 : decode cX11_round 92 = .ok (.invokevirtual 191, 3) := by decide +kernel
theorem dX11_round_95 : decode cX11_round 95 = .ok (.iinc 3 1, 3) := by decide +kernel
theorem dX11_round_98 : decode cX11_round 98 = .ok (.goto (-40), 3) := by decide +kernel
theorem dX11_round_101 : decode cX11_round 101 = .ok (.aload_n 0, 1) := by decide +kernel
theorem dX11_round_102 : decode cX11_round 102 = .ok (.iconst 0, 1) := by decide +kernel
theorem dX11_round_103 : decode cX11_round 103 = .ok (.putfield 195, 3) := by decide +kernel
theorem dX11_round_106 : decode cX11_round 106 = .ok (.iconst 1, 1) := by decide +kernel
theorem dX11_round_107 : decode cX11_round 107 = .ok (.ireturn, 1) := by decide +kernel
theorem dX11_heap_0 : decode cX11_heap 0 = .ok (.aload_n 0, 1) := by decide +kernel
theorem dX11_heap_1 : decode cX11_heap 1 = .ok (.iconst 0, 1) := by decide +kernel
theorem dX11_heap_2 : decode cX11_heap 2 = .ok (.putfield 174, 3) := by decide +kernel
theorem dX11_heap_5 : decode cX11_heap 5 = .ok (.iload_n 1, 1) := by decide +kernel
theorem dX11_heap_6 : decode cX11_heap 6 = .ok (.iconst 0, 1) := by decide +kernel
theorem dX11_heap_7 : decode cX11_heap 7 = .ok (.aload_n 0, 1) := by decide +kernel
theorem dX11_heap_8 : decode cX11_heap 8 = .ok (.getfield 13, 3) := by decide +kernel
theorem dX11_heap_11 : decode cX11_heap 11 = .ok (.iconst 1, 1) := by decide +kernel
theorem dX11_heap_12 : decode cX11_heap 12 = .ok (.isub, 1) := by decide +kernel
theorem dX11_heap_13 : decode cX11_heap 13 = .ok (.invokestatic 199, 3) := by decide +kernel
theorem dX11_heap_16 : decode cX11_heap 16 = .ok (.ifCond .eq 13, 3) := by decide +kernel
theorem dX11_heap_19 : decode cX11_heap 19 = .ok (.iload_n 2, 1) := by decide +kernel
theorem dX11_heap_20 : decode cX11_heap 20 = .ok (.iconst 0, 1) := by decide +kernel
theorem dX11_heap_21 : decode cX11_heap 21 = .ok (.bipush 9, 2) := by decide +kernel
theorem dX11_heap_23 : decode cX11_heap 23 = .ok (.invokestatic 199, 3) := by decide +kernel
theorem dX11_heap_26 : decode cX11_heap 26 = .ok (.ifCond .ne 5, 3) := by decide +kernel
theorem dX11_heap_29 : decode cX11_heap 29 = .ok (.iconst 0, 1) := by decide +kernel
theorem dX11_heap_30 : decode cX11_heap 30 = .ok (.ireturn, 1) := by decide +kernel
theorem dX11_heap_31 : decode cX11_heap 31 = .ok (.aload_n 0, 1) := by decide +kernel
theorem dX11_heap_32 : decode cX11_heap 32 = .ok (.getfield 22, 3) := by decide +kernel
theorem dX11_heap_35 : decode cX11_heap 35 = .ok (.iload_n 1, 1) := by decide +kernel
theorem dX11_heap_36 : decode cX11_heap 36 = .ok (.iload_n 2, 1) := by decide +kernel
theorem dX11_heap_37 : decode cX11_heap 37 = .ok (.iastore, 1) := by decide +kernel
theorem dX11_heap_38 : decode cX11_heap 38 = .ok (.iconst 1, 1) := by decide +kernel
theorem dX11_heap_39 : decode cX11_heap 39 = .ok (.ireturn, 1) := by decide +kernel
theorem dX11_law_0 : decode cX11_law 0 = .ok (.aload_n 0, 1) := by decide +kernel
theorem dX11_law_1 : decode cX11_law 1 = .ok (.iconst 0, 1) := by decide +kernel
theorem dX11_law_2 : decode cX11_law 2 = .ok (.putfield 174, 3) := by decide +kernel
theorem dX11_law_5 : decode cX11_law 5 = .ok (.iload_n 1, 1) := by decide +kernel
theorem dX11_law_6 : decode cX11_law 6 = .ok (.iconst 0, 1) := by decide +kernel
theorem dX11_law_7 : decode cX11_law 7 = .ok (.iconst 3, 1) := by decide +kernel
theorem dX11_law_8 : decode cX11_law 8 = .ok (.invokestatic 199, 3) := by decide +kernel
theorem dX11_law_11 : decode cX11_law 11 = .ok (.ifCond .eq 13, 3) := by decide +kernel
theorem dX11_law_14 : decode cX11_law 14 = .ok (.iload_n 2, 1) := by decide +kernel
theorem dX11_law_15 : decode cX11_law 15 = .ok (.iconst 0, 1) := by decide +kernel
theorem dX11_law_16 : decode cX11_law 16 = .ok (.bipush 8, 2) := by decide +kernel
theorem dX11_law_18 : decode cX11_law 18 = .ok (.invokestatic 199, 3) := by decide +kernel
theorem dX11_law_21 : decode cX11_law 21 = .ok (.ifCond .ne 5, 3) := by decide +kernel
theorem dX11_law_24 : decode cX11_law 24 = .ok (.iconst 0, 1) := by decide +kernel
theorem dX11_law_25 : decode cX11_law 25 = .ok (.ireturn, 1) := by decide +kernel
theorem dX11_law_26 : decode cX11_law 26 = .ok (.aload_n 0, 1) := by decide +kernel
theorem dX11_law_27 : decode cX11_law 27 = .ok (.iload_n 1, 1) := by decide +kernel
theorem dX11_law_28 : decode cX11_law 28 = .ok (.putfield 211, 3) := by decide +kernel
theorem dX11_law_31 : decode cX11_law 31 = .ok (.aload_n 0, 1) := by decide +kernel
theorem dX11_law_32 : decode cX11_law 32 = .ok (.iload_n 2, 1) := by decide +kernel
theorem dX11_law_33 : decode cX11_law 33 = .ok (.putfield 19, 3) := by decide +kernel
theorem dX11_law_36 : decode cX11_law 36 = .ok (.iconst 1, 1) := by decide +kernel
theorem dX11_law_37 : decode cX11_law 37 = .ok (.ireturn, 1) := by decide +kernel
theorem dX11_lays_0 : decode cX11_lays 0 = .ok (.bipush 24, 2) := by decide +kernel
theorem dX11_lays_2 : decode cX11_lays 2 = .ok (.istore_n 2, 1) := by decide +kernel
theorem dX11_lays_3 : decode cX11_lays 3 = .ok (.iload_n 2, 1) := by decide +kernel
theorem dX11_lays_4 : decode cX11_lays 4 = .ok (.ifCond .lt 35, 3) := by decide +kernel
theorem dX11_lays_7 : decode cX11_lays 7 = .ok (.aload_n 0, 1) := by decide +kernel
theorem dX11_lays_8 : decode cX11_lays 8 = .ok (.getfield 50, 3) := by decide +kernel
theorem dX11_lays_11 : decode cX11_lays 11 = .ok (.aload_n 0, 1) := by decide +kernel
theorem dX11_lays_12 : decode cX11_lays 12 = .ok (.getfield 214, 3) := by decide +kernel
theorem dX11_lays_15 : decode cX11_lays 15 = .ok (.iload_n 1, 1) := by decide +kernel
theorem dX11_lays_16 : decode cX11_lays 16 = .ok (.iload_n 2, 1) := by decide +kernel
theorem dX11_lays_17 : decode cX11_lays 17 = .ok (.ishr, 1) := by decide +kernel
theorem dX11_lays_18 : decode cX11_lays 18 = .ok (.sipush 255, 3) := by decide +kernel
theorem dX11_lays_21 : decode cX11_lays 21 = .ok (.iand, 1) := by decide +kernel
theorem dX11_lays_22 : decode cX11_lays 22 = .ok (.iastore, 1) := by decide +kernel
theorem dX11_lays_23 : decode cX11_lays 23 = .ok (.aload_n 0, 1) := by decide +kernel
theorem dX11_lays_24 : decode cX11_lays 24 = .ok (.dup, 1) := by decide +kernel
theorem dX11_lays_25 : decode cX11_lays 25 = .ok (.getfield 214, 3) := by decide +kernel
theorem dX11_lays_28 : decode cX11_lays 28 = .ok (.iconst 1, 1) := by decide +kernel
theorem dX11_lays_29 : decode cX11_lays 29 = .ok (.iadd, 1) := by decide +kernel
theorem dX11_lays_30 : decode cX11_lays 30 = .ok (.putfield 214, 3) := by decide +kernel
theorem dX11_lays_33 : decode cX11_lays 33 = .ok (.iinc 2 (-8), 3) := by decide +kernel
theorem dX11_lays_36 : decode cX11_lays 36 = .ok (.goto (-33), 3) := by decide +kernel
theorem dX11_lays_39 : decode cX11_lays 39 = .ok (.return_, 1) := by decide +kernel
theorem dX11_feed_0 : decode cX11_feed 0 = .ok (.aload_n 0, 1) := by decide +kernel
theorem dX11_feed_1 : decode cX11_feed 1 = .ok (.iconst 0, 1) := by decide +kernel
theorem dX11_feed_2 : decode cX11_feed 2 = .ok (.putfield 174, 3) := by decide +kernel
theorem dX11_feed_5 : decode cX11_feed 5 = .ok (.aload_n 0, 1) := by decide +kernel
theorem dX11_feed_6 : decode cX11_feed 6 = .ok (.getfield 214, 3) := by decide +kernel
theorem dX11_feed_9 : decode cX11_feed 9 = .ok (.bipush 20, 2) := by decide +kernel
theorem dX11_feed_11 : decode cX11_feed 11 = .ok (.iadd, 1) := by decide +kernel
theorem dX11_feed_12 : decode cX11_feed 12 = .ok (.sipush 500, 3) := by decide +kernel
theorem dX11_feed_15 : decode cX11_feed 15 = .ok (.if_icmp .le 5, 3) := by decide +kernel
theorem dX11_feed_18 : decode cX11_feed 18 = .ok (.iconst (-1), 1) := by decide +kernel
theorem dX11_feed_19 : decode cX11_feed 19 = .ok (.ireturn, 1) := by decide +kernel
theorem dX11_feed_20 : decode cX11_feed 20 = .ok (.aload_n 0, 1) := by decide +kernel
theorem dX11_feed_21 : decode cX11_feed 21 = .ok (.iload_n 1, 1) := by decide +kernel
theorem dX11_feed_22 : decode cX11_feed 22 = .ok (.invokevirtual 217, 3) := by decide +kernel
theorem dX11_feed_25 : decode cX11_feed 25 = .ok (.aload_n 0, 1) := by decide +kernel
theorem dX11_feed_26 : decode cX11_feed 26 = .ok (.iload_n 2, 1) := by decide +kernel
theorem dX11_feed_27 : decode cX11_feed 27 = .ok (.invokevirtual 217, 3) := by decide +kernel
theorem dX11_feed_30 : decode cX11_feed 30 = .ok (.aload_n 0, 1) := by decide +kernel
theorem dX11_feed_31 : decode cX11_feed 31 = .ok (.iload_n 3, 1) := by decide +kernel
theorem dX11_feed_32 : decode cX11_feed 32 = .ok (.invokevirtual 217, 3) := by decide +kernel
theorem dX11_feed_35 : decode cX11_feed 35 = .ok (.aload_n 0, 1) := by decide +kernel
theorem dX11_feed_36 : decode cX11_feed 36 = .ok (.iload 4, 2) := by decide +kernel
theorem dX11_feed_38 : decode cX11_feed 38 = .ok (.invokevirtual 217, 3) := by decide +kernel
theorem dX11_feed_41 : decode cX11_feed 41 = .ok (.aload_n 0, 1) := by decide +kernel
theorem dX11_feed_42 : decode cX11_feed 42 = .ok (.iload 5, 2) := by decide +kernel
theorem dX11_feed_44 : decode cX11_feed 44 = .ok (.invokevirtual 217, 3) := by decide +kernel
theorem dX11_feed_47 : decode cX11_feed 47 = .ok (.aload_n 0, 1) := by decide +kernel
theorem dX11_feed_48 : decode cX11_feed 48 = .ok (.getfield 214, 3) := by decide +kernel
theorem dX11_feed_51 : decode cX11_feed 51 = .ok (.ireturn, 1) := by decide +kernel
section
variable {p : Program} {l : Launch} {e : Env} {R : Room} {s : State} {m : MethodId} {args : Array Value} {below : List Frame} {meth : Method} {c : Code} {D : va_G} {cA : Nat → ClassId} {z : Nat} {A : Nat → Prop} {T : HR}
theorem wkM_right_b16 {I : HI} {J : HJ} {Q : Int32 → HI → Prop} (X : hX p m c s args RX11 cX11_right 3) (hr : meth.sig.returnType = (some .boolean)) (hlk : meth.locks = false) (hR : 0 ≤ R.frames ∧ 0 ≤ R.locals)   : ∀ {ls : Array Slot} {H : Heap} {locs : List Loc}, M_right_b16 I Q → hW D cA z Ev0 (I, J, T, FM, LM) A s H locs → lv_has ls 3 [(0, .ref (z + 0))] → W p l e R s m args below meth c H locs 0 0 (MQ below (va_Qi (pI J T FM LM Q) (hB D cA z A) A) args s 0 0 A) (F0 m 16 ls []) := by
  have hx := X.1
  have hb := X.2.1
  intro ls H locs h hw hl
  unfold M_right_b16 at h
  refine lv_aload_n hx hb dX11_right_16 rfl (lv_at hl 0 rfl) ?_
  refine hm_geti X hw lkM_174 LM_0 dX11_right_17 ?_
  refine lv_if_ne (tgt := 27) hx hb dX11_right_20 (by decide) (fun hc => ?_) (fun hc => ?_)
  · have h := Eq.mp (if_neg hc) h
    refine lv_iconst (v := 0) hx hb dX11_right_27 (by decide) ?_
    exact hm_zret X hr hlk hw zb_0 ⟨_, rfl, h⟩ dX11_right_28
  · have h := Eq.mp (if_pos hc) h
    refine lv_iconst (v := 1) hx hb dX11_right_23 (by decide) ?_
    refine lv_goto (tgt := 28) hx hb dX11_right_24 (by decide) ?_
    exact hm_zret X hr hlk hw zb_1 ⟨_, rfl, h⟩ dX11_right_28

theorem cM_right {l : Launch} {D : va_G} {cA : Nat → ClassId} {z sz : Nat} {I : HI} {J : HJ} {x1 : Int32} {x2 : Int32} {Q : Int32 → HI → Prop}  (h : M_right I x1 x2 Q) : Met l yX11_right (hws0 yX11_right cX11_right 3 (some .boolean)) { frames := 0, cells := 0, slots := 0, locals := 0 } (hPc D cA z Ev0 (I, J, T, FM, LM) sz [.ref (z + 0), .int x1, .int x2]) (va_Qi (pI J T FM LM Q) (hB D cA z (hA z LM sz)) (hA z LM sz)) 0 0 (hA z LM sz) := by
  refine hm_met (I, J, T, FM, LM) [.ref (z + 0), .int x1, .int x2] rfl (by decide) (Nat.le_of_ble_eq_true rfl) ?_
  intro p e s m below meth c ls X hr hlk hnm hxt hsz hw hl
  have hl : lv_has ls 3 [(0, .ref (z + 0)), (1, .int x1), (2, .int x2)] := hl
  have hR : 0 ≤ ({ frames := 0, cells := 0, slots := 0, locals := 0 } : Room).frames ∧ 0 ≤ ({ frames := 0, cells := 0, slots := 0, locals := 0 } : Room).locals := ⟨Nat.le_refl _, Nat.le_refl _⟩
  generalize ({ frames := 0, cells := 0, slots := 0, locals := 0 } : Room) = R at hR ⊢
  clear hsz
  generalize (hA z LM sz) = A at hw ⊢
  have hx := X.1
  have hb := X.2.1
  unfold M_right at h
  refine lv_aload_n hx hb dX11_right_0 rfl (lv_at hl 0 rfl) ?_
  refine hm_geti X hw lkM_174 LM_0 dX11_right_1 ?_
  refine lv_if_ne (tgt := 16) hx hb dX11_right_4 (by decide) (fun hc => ?_) (fun hc => ?_)
  · have h := Eq.mp (if_neg hc) h
    exact wkM_right_b16 X hr hlk hR   h hw (lv_sub hl [0] rfl)
  · have h := Eq.mp (if_pos hc) h
    refine lv_iload_n hx hb dX11_right_7 rfl (lv_at hl 1 rfl) ?_
    refine lv_if_ne (tgt := 16) hx hb dX11_right_8 (by decide) (fun hc => ?_) (fun hc => ?_)
    · have h := Eq.mp (if_neg hc) h
      exact wkM_right_b16 X hr hlk hR   h hw (lv_sub hl [0] rfl)
    · have h := Eq.mp (if_pos hc) h
      refine lv_aload_n hx hb dX11_right_11 rfl (lv_at hl 0 rfl) ?_
      refine lv_iload_n hx hb dX11_right_12 rfl (lv_at hl 2 rfl) ?_
      refine hm_puti X hw lkM_174 LM_0 rfl rfl dX11_right_13 (fun H locs hw => ?_)
      exact wkM_right_b16 X hr hlk hR   h hw (lv_sub hl [0] rfl)

theorem cM_within {l : Launch} {D : va_G} {cA : Nat → ClassId} {z sz : Nat} {I : HI} {J : HJ} {x0 : Int32} {x1 : Int32} {x2 : Int32} {Q : Int32 → Prop}  (h : M_within  x0 x1 x2 Q) : Met l yX11_within (hws0 yX11_within cX11_within 3 (some .boolean)) { frames := 0, cells := 0, slots := 0, locals := 0 } (hPc D cA z Ev0 (I, J, T, FM, LM) sz [.int x0, .int x1, .int x2]) (va_Qi (p0 (I, J, T, FM, LM) Q) (hB D cA z (hA z LM sz)) (hA z LM sz)) 0 0 (hA z LM sz) := by
  refine hm_met (I, J, T, FM, LM) [.int x0, .int x1, .int x2] rfl (by decide) (Nat.le_of_ble_eq_true rfl) ?_
  intro p e s m below meth c ls X hr hlk hnm hxt hsz hw hl
  have hl : lv_has ls 3 [(0, .int x0), (1, .int x1), (2, .int x2)] := hl
  have hR : 0 ≤ ({ frames := 0, cells := 0, slots := 0, locals := 0 } : Room).frames ∧ 0 ≤ ({ frames := 0, cells := 0, slots := 0, locals := 0 } : Room).locals := ⟨Nat.le_refl _, Nat.le_refl _⟩
  generalize ({ frames := 0, cells := 0, slots := 0, locals := 0 } : Room) = R at hR ⊢
  clear hsz
  generalize (hA z LM sz) = A at hw ⊢
  have hx := X.1
  have hb := X.2.1
  unfold M_within at h
  refine lv_iload_n hx hb dX11_within_0 rfl (lv_at hl 0 rfl) ?_
  refine lv_iload_n hx hb dX11_within_1 rfl (lv_at hl 1 rfl) ?_
  refine lv_icmp_lt (tgt := 14) hx hb dX11_within_2 (by decide) (fun hc => ?_) (fun hc => ?_)
  · have h := Eq.mp (if_pos hc) h
    refine lv_iconst (v := 0) hx hb dX11_within_14 (by decide) ?_
    exact hm_zret X hr hlk hw zb_0 ⟨rfl, h⟩ dX11_within_15
  · have h := Eq.mp (if_neg hc) h
    refine lv_iload_n hx hb dX11_within_5 rfl (lv_at hl 0 rfl) ?_
    refine lv_iload_n hx hb dX11_within_6 rfl (lv_at hl 2 rfl) ?_
    refine lv_icmp_gt (tgt := 14) hx hb dX11_within_7 (by decide) (fun hc => ?_) (fun hc => ?_)
    · have h := Eq.mp (if_pos hc) h
      refine lv_iconst (v := 0) hx hb dX11_within_14 (by decide) ?_
      exact hm_zret X hr hlk hw zb_0 ⟨rfl, h⟩ dX11_within_15
    · have h := Eq.mp (if_neg hc) h
      refine lv_iconst (v := 1) hx hb dX11_within_10 (by decide) ?_
      refine lv_goto (tgt := 15) hx hb dX11_within_11 (by decide) ?_
      exact hm_zret X hr hlk hw zb_1 ⟨rfl, h⟩ dX11_within_15

theorem wkM_bits_l4 {I : HI} {J : HJ} {Q : Int32 → Prop} (X : hX p m c s args RX11 cX11_bits 3) (hr : meth.sig.returnType = (some .int)) (hlk : meth.locks = false) (hR : 0 ≤ R.frames ∧ 0 ≤ R.locals)   : ∀ (n : Nat) (x1 : Int32) (x2 : Int32) {ls : Array Slot} {H : Heap} {locs : List Loc}, M_bits_l4 Q n x1 x2 → hW D cA z Ev0 (I, J, T, FM, LM) A s H locs → lv_has ls 3 [(1, .int x1), (2, .int x2)] → W p l e R s m args below meth c H locs 0 0 (MQ below (va_Qi (p0 (I, J, T, FM, LM) Q) (hB D cA z A) A) args s 0 0 A) (F0 m 4 ls []) := by
  have hx := X.1
  have hb := X.2.1
  intro n
  induction n with
  | zero => intro x1 x2 ls H locs h; exact False.elim h
  | succ n ih =>
    intro x1 x2 ls H locs h hw hl
    rw [M_bits_l4] at h
    refine lv_iload_n hx hb dX11_bits_4 rfl (lv_at hl 1 rfl) ?_
    refine lv_if_eq (tgt := 20) hx hb dX11_bits_5 (by decide) (fun hc => ?_) (fun hc => ?_)
    · have h := Eq.mp (if_pos hc) h
      refine lv_iload_n hx hb dX11_bits_20 rfl (lv_at hl 0 rfl) ?_
      exact hm_iret X hr hlk hw ⟨rfl, h⟩ dX11_bits_21
    · have h := Eq.mp (if_neg hc) h
      refine lv_iinc (v := x1 + 1) (lv' := [(1, _), (2, _)]) hx hb dX11_bits_8 hl (k := 0) rfl rfl (by decide) rfl (fun ls hl => ?_)
      refine lv_iload_n hx hb dX11_bits_11 rfl (lv_at hl 1 rfl) ?_
      refine lv_iload_n hx hb dX11_bits_12 rfl (lv_at hl 1 rfl) ?_
      refine lv_iconst (v := 1) hx hb dX11_bits_13 (by decide) ?_
      refine lv_isub hx hb dX11_bits_14 ?_
      refine lv_iand hx hb dX11_bits_15 ?_
      refine lv_istore_n (lv' := [(2, _), (1, _)]) hx hb dX11_bits_16 rfl hl (by decide) rfl (fun ls hl => ?_)
      refine lv_goto (tgt := 4) hx hb dX11_bits_17 (by decide) ?_
      exact ih _ _ h hw (lv_sub hl [1, 0] rfl)

theorem cM_bits {l : Launch} {D : va_G} {cA : Nat → ClassId} {z sz : Nat} {I : HI} {J : HJ} {x0 : Int32} {Q : Int32 → Prop}  (h : M_bits  x0 Q) : Met l yX11_bits (hws0 yX11_bits cX11_bits 3 (some .int)) { frames := 0, cells := 0, slots := 0, locals := 0 } (hPc D cA z Ev0 (I, J, T, FM, LM) sz [.int x0]) (va_Qi (p0 (I, J, T, FM, LM) Q) (hB D cA z (hA z LM sz)) (hA z LM sz)) 0 0 (hA z LM sz) := by
  refine hm_met (I, J, T, FM, LM) [.int x0] rfl (by decide) (Nat.le_of_ble_eq_true rfl) ?_
  intro p e s m below meth c ls X hr hlk hnm hxt hsz hw hl
  have hl : lv_has ls 3 [(0, .int x0)] := hl
  have hR : 0 ≤ ({ frames := 0, cells := 0, slots := 0, locals := 0 } : Room).frames ∧ 0 ≤ ({ frames := 0, cells := 0, slots := 0, locals := 0 } : Room).locals := ⟨Nat.le_refl _, Nat.le_refl _⟩
  generalize ({ frames := 0, cells := 0, slots := 0, locals := 0 } : Room) = R at hR ⊢
  clear hsz
  generalize (hA z LM sz) = A at hw ⊢
  have hx := X.1
  have hb := X.2.1
  unfold M_bits at h
  refine lv_iconst (v := 0) hx hb dX11_bits_0 (by decide) ?_
  refine lv_istore_n (lv' := [(1, _), (0, _)]) hx hb dX11_bits_1 rfl hl (by decide) rfl (fun ls hl => ?_)
  refine lv_iload_n hx hb dX11_bits_2 rfl (lv_at hl 1 rfl) ?_
  refine lv_istore_n (lv' := [(2, _), (1, _), (0, _)]) hx hb dX11_bits_3 rfl hl (by decide) rfl (fun ls hl => ?_)
  obtain ⟨n2, h⟩ := h
  exact wkM_bits_l4 X hr hlk hR   n2 _ _ h hw (lv_sub hl [1, 0] rfl)

theorem cM_all {l : Launch} {D : va_G} {cA : Nat → ClassId} {z sz : Nat} {I : HI} {J : HJ}  {Q : Int32 → Prop}  (h : M_all I  Q) : Met l yX11_all (hws0 yX11_all cX11_all 1 (some .int)) { frames := 0, cells := 0, slots := 0, locals := 0 } (hPc D cA z Ev0 (I, J, T, FM, LM) sz [.ref (z + 0)]) (va_Qi (p0 (I, J, T, FM, LM) Q) (hB D cA z (hA z LM sz)) (hA z LM sz)) 0 0 (hA z LM sz) := by
  refine hm_met (I, J, T, FM, LM) [.ref (z + 0)] rfl (by decide) (Nat.le_of_ble_eq_true rfl) ?_
  intro p e s m below meth c ls X hr hlk hnm hxt hsz hw hl
  have hl : lv_has ls 1 [(0, .ref (z + 0))] := hl
  have hR : 0 ≤ ({ frames := 0, cells := 0, slots := 0, locals := 0 } : Room).frames ∧ 0 ≤ ({ frames := 0, cells := 0, slots := 0, locals := 0 } : Room).locals := ⟨Nat.le_refl _, Nat.le_refl _⟩
  generalize ({ frames := 0, cells := 0, slots := 0, locals := 0 } : Room) = R at hR ⊢
  clear hsz
  generalize (hA z LM sz) = A at hw ⊢
  have hx := X.1
  have hb := X.2.1
  unfold M_all at h
  refine lv_iconst (v := 1) hx hb dX11_all_0 (by decide) ?_
  refine lv_aload_n hx hb dX11_all_1 rfl (lv_at hl 0 rfl) ?_
  refine hm_geti X hw lkM_7 LM_0 dX11_all_2 ?_
  refine lv_ishl hx hb dX11_all_5 ?_
  refine lv_iconst (v := 1) hx hb dX11_all_6 (by decide) ?_
  refine lv_isub hx hb dX11_all_7 ?_
  exact hm_iret X hr hlk hw ⟨rfl, h⟩ dX11_all_8

theorem wkM_hears_l4 {I : HI} {J : HJ} {x1 : Int32} {Q : Int32 → Prop} (X : hX p m c s args RX11 cX11_hears 4) (hr : meth.sig.returnType = (some .int)) (hlk : meth.locks = false) (hR : 0 ≤ R.frames ∧ 0 ≤ R.locals)   : ∀ (n : Nat) (x2 : Int32) (x3 : Int32) {ls : Array Slot} {H : Heap} {locs : List Loc}, M_hears_l4 I x1 Q n x2 x3 → hW D cA z Ev0 (I, J, T, FM, LM) A s H locs → lv_has ls 4 [(0, .ref (z + 0)), (1, .int x1), (2, .int x2), (3, .int x3)] → W p l e R s m args below meth c H locs 0 0 (MQ below (va_Qi (p0 (I, J, T, FM, LM) Q) (hB D cA z A) A) args s 0 0 A) (F0 m 4 ls []) := by
  have hx := X.1
  have hb := X.2.1
  intro n
  induction n with
  | zero => intro x2 x3 ls H locs h; exact False.elim h
  | succ n ih =>
    intro x2 x3 ls H locs h hw hl
    rw [M_hears_l4] at h
    refine lv_iload_n hx hb dX11_hears_4 rfl (lv_at hl 3 rfl) ?_
    refine lv_aload_n hx hb dX11_hears_5 rfl (lv_at hl 0 rfl) ?_
    refine hm_geti X hw lkM_7 LM_0 dX11_hears_6 ?_
    refine lv_icmp_ge (tgt := 39) hx hb dX11_hears_9 (by decide) (fun hc => ?_) (fun hc => ?_)
    · have h := Eq.mp (if_pos hc) h
      refine lv_iload_n hx hb dX11_hears_39 rfl (lv_at hl 2 rfl) ?_
      exact hm_iret X hr hlk hw ⟨rfl, h⟩ dX11_hears_40
    · have h := Eq.mp (if_neg hc) h
      refine lv_aload_n hx hb dX11_hears_12 rfl (lv_at hl 0 rfl) ?_
      refine hm_getr X hw lkM_29 LM_0 (b := 3) rfl dX11_hears_13 ?_
      refine lv_iload_n hx hb dX11_hears_16 rfl (lv_at hl 3 rfl) ?_
      obtain ⟨hi, h⟩ := h
      refine hm_iald X hw LM_3 hi dX11_hears_17 ?_
      refine lv_aload_n hx hb dX11_hears_18 rfl (lv_at hl 0 rfl) ?_
      refine hm_getr X hw lkM_29 LM_0 (b := 3) rfl dX11_hears_19 ?_
      refine lv_iload_n hx hb dX11_hears_22 rfl (lv_at hl 1 rfl) ?_
      obtain ⟨hi, h⟩ := h
      refine hm_iald X hw LM_3 hi dX11_hears_23 ?_
      refine lv_icmp_ge (tgt := 33) hx hb dX11_hears_24 (by decide) (fun hc => ?_) (fun hc => ?_)
      · have h := Eq.mp (if_pos hc) h
        refine lv_iinc (v := x3 + 1) (lv' := [(3, _), (0, _), (1, _), (2, _)]) hx hb dX11_hears_33 hl (k := 3) rfl rfl (by decide) rfl (fun ls hl => ?_)
        refine lv_goto (tgt := 4) hx hb dX11_hears_36 (by decide) ?_
        exact ih _ _ h hw (lv_sub hl [1, 2, 3, 0] rfl)
      · have h := Eq.mp (if_neg hc) h
        refine lv_iload_n hx hb dX11_hears_27 rfl (lv_at hl 2 rfl) ?_
        refine lv_iconst (v := 1) hx hb dX11_hears_28 (by decide) ?_
        refine lv_iload_n hx hb dX11_hears_29 rfl (lv_at hl 3 rfl) ?_
        refine lv_ishl hx hb dX11_hears_30 ?_
        refine lv_ior hx hb dX11_hears_31 ?_
        refine lv_istore_n (lv' := [(2, _), (0, _), (1, _), (3, _)]) hx hb dX11_hears_32 rfl hl (by decide) rfl (fun ls hl => ?_)
        refine lv_iinc (v := x3 + 1) (lv' := [(3, _), (2, _), (0, _), (1, _)]) hx hb dX11_hears_33 hl (k := 3) rfl rfl (by decide) rfl (fun ls hl => ?_)
        refine lv_goto (tgt := 4) hx hb dX11_hears_36 (by decide) ?_
        exact ih _ _ h hw (lv_sub hl [2, 3, 1, 0] rfl)

theorem cM_hears {l : Launch} {D : va_G} {cA : Nat → ClassId} {z sz : Nat} {I : HI} {J : HJ} {x1 : Int32} {Q : Int32 → Prop}  (h : M_hears I x1 Q) : Met l yX11_hears (hws0 yX11_hears cX11_hears 4 (some .int)) { frames := 0, cells := 0, slots := 0, locals := 0 } (hPc D cA z Ev0 (I, J, T, FM, LM) sz [.ref (z + 0), .int x1]) (va_Qi (p0 (I, J, T, FM, LM) Q) (hB D cA z (hA z LM sz)) (hA z LM sz)) 0 0 (hA z LM sz) := by
  refine hm_met (I, J, T, FM, LM) [.ref (z + 0), .int x1] rfl (by decide) (Nat.le_of_ble_eq_true rfl) ?_
  intro p e s m below meth c ls X hr hlk hnm hxt hsz hw hl
  have hl : lv_has ls 4 [(0, .ref (z + 0)), (1, .int x1)] := hl
  have hR : 0 ≤ ({ frames := 0, cells := 0, slots := 0, locals := 0 } : Room).frames ∧ 0 ≤ ({ frames := 0, cells := 0, slots := 0, locals := 0 } : Room).locals := ⟨Nat.le_refl _, Nat.le_refl _⟩
  generalize ({ frames := 0, cells := 0, slots := 0, locals := 0 } : Room) = R at hR ⊢
  clear hsz
  generalize (hA z LM sz) = A at hw ⊢
  have hx := X.1
  have hb := X.2.1
  unfold M_hears at h
  refine lv_iconst (v := 0) hx hb dX11_hears_0 (by decide) ?_
  refine lv_istore_n (lv' := [(2, _), (0, _), (1, _)]) hx hb dX11_hears_1 rfl hl (by decide) rfl (fun ls hl => ?_)
  refine lv_iconst (v := 0) hx hb dX11_hears_2 (by decide) ?_
  refine lv_istore_n (lv' := [(3, _), (2, _), (0, _), (1, _)]) hx hb dX11_hears_3 rfl hl (by decide) rfl (fun ls hl => ?_)
  obtain ⟨n2, h⟩ := h
  exact wkM_hears_l4 X hr hlk hR   n2 _ _ h hw (lv_sub hl [2, 3, 1, 0] rfl)

theorem wkM_viewsOf_b73 {I : HI} {J : HJ} {x2 : Int32} {Q : Int32 → Prop} (X : hX p m c s args RX11 cX11_viewsOf 4) (hr : meth.sig.returnType = (some .int)) (hlk : meth.locks = false) (hR : 1 ≤ R.frames ∧ 23 ≤ R.locals)   : ∀ {ls : Array Slot} {H : Heap} {locs : List Loc}, M_viewsOf_b73 I x2 Q → hW D cA z Ev0 (I, J, T, FM, LM) A s H locs → lv_has ls 4 [(2, .int x2)] → W p l e R s m args below meth c H locs 0 0 (MQ below (va_Qi (p0 (I, J, T, FM, LM) Q) (hB D cA z A) A) args s 0 0 A) (F0 m 73 ls []) := by
  have hx := X.1
  have hb := X.2.1
  intro ls H locs h hw hl
  unfold M_viewsOf_b73 at h
  refine lv_iload_n hx hb dX11_viewsOf_73 rfl (lv_at hl 0 rfl) ?_
  refine lv_sipush (v := 1024) hx hb dX11_viewsOf_74 (by decide) ?_
  refine lv_icmp_le (tgt := 86) hx hb dX11_viewsOf_77 (by decide) (fun hc => ?_) (fun hc => ?_)
  · have h := Eq.mp (if_pos hc) h
    refine lv_iload_n hx hb dX11_viewsOf_86 rfl (lv_at hl 0 rfl) ?_
    exact hm_iret X hr hlk hw ⟨rfl, h⟩ dX11_viewsOf_87
  · have h := Eq.mp (if_neg hc) h
    refine lv_sipush (v := 1025) hx hb dX11_viewsOf_80 (by decide) ?_
    refine lv_goto (tgt := 87) hx hb dX11_viewsOf_83 (by decide) ?_
    exact hm_iret X hr hlk hw ⟨rfl, h⟩ dX11_viewsOf_87

theorem wkM_viewsOf_l39 {I : HI} {J : HJ} {x1 : Int32} {Q : Int32 → Prop} (X : hX p m c s args RX11 cX11_viewsOf 4) (hr : meth.sig.returnType = (some .int)) (hlk : meth.locks = false) (hR : 1 ≤ R.frames ∧ 23 ≤ R.locals)   : ∀ (n : Nat) (x2 : Int32) (x3 : Int32) {ls : Array Slot} {H : Heap} {locs : List Loc}, M_viewsOf_l39 I x1 Q n x2 x3 → hW D cA z Ev0 (I, J, T, FM, LM) A s H locs → lv_has ls 4 [(0, .ref (z + 0)), (1, .int x1), (2, .int x2), (3, .int x3)] → W p l e R s m args below meth c H locs 0 0 (MQ below (va_Qi (p0 (I, J, T, FM, LM) Q) (hB D cA z A) A) args s 0 0 A) (F0 m 39 ls []) := by
  have hx := X.1
  have hb := X.2.1
  intro n
  induction n with
  | zero => intro x2 x3 ls H locs h; exact False.elim h
  | succ n ih =>
    intro x2 x3 ls H locs h hw hl
    rw [M_viewsOf_l39] at h
    refine lv_iload_n hx hb dX11_viewsOf_39 rfl (lv_at hl 3 rfl) ?_
    refine lv_aload_n hx hb dX11_viewsOf_40 rfl (lv_at hl 0 rfl) ?_
    refine lv_iload_n hx hb dX11_viewsOf_41 rfl (lv_at hl 1 rfl) ?_
    refine hm_calli hw (hm_runV (rest := [_]) hCl_true X hw (cM_hears  h) ykM_hears kw1348 rfl LM_0 rfl hl.1 rfl rfl rfl (Nat.le_of_ble_eq_true rfl) ⟨Nat.le_trans (Nat.le_of_ble_eq_true rfl) hR.1, Nat.le_trans (Nat.le_of_ble_eq_true rfl) hR.2⟩ ⟨Nat.zero_le _, Nat.zero_le _⟩ dX11_viewsOf_42) (fun r3 u4 H locs hp hw => ?_)
    obtain ⟨rfl, h⟩ := hp
    refine hm_calli hw (hm_runS (rest := [_]) hCl_true X hw (cM_bits  h) ykM_bits kw1345 rfl hl.1 rfl rfl rfl (Nat.le_of_ble_eq_true rfl) ⟨Nat.le_trans (Nat.le_of_ble_eq_true rfl) hR.1, Nat.le_trans (Nat.le_of_ble_eq_true rfl) hR.2⟩ ⟨Nat.zero_le _, Nat.zero_le _⟩ dX11_viewsOf_45) (fun r5 u6 H locs hp hw => ?_)
    obtain ⟨rfl, h⟩ := hp
    refine lv_icmp_ge (tgt := 73) hx hb dX11_viewsOf_48 (by decide) (fun hc => ?_) (fun hc => ?_)
    · have h := Eq.mp (if_pos hc) h
      exact wkM_viewsOf_b73 X hr hlk hR   h hw (lv_sub hl [2] rfl)
    · have h := Eq.mp (if_neg hc) h
      refine lv_iload_n hx hb dX11_viewsOf_51 rfl (lv_at hl 2 rfl) ?_
      refine lv_sipush (v := 1024) hx hb dX11_viewsOf_52 (by decide) ?_
      refine lv_icmp_gt (tgt := 73) hx hb dX11_viewsOf_55 (by decide) (fun hc => ?_) (fun hc => ?_)
      · have h := Eq.mp (if_pos hc) h
        exact wkM_viewsOf_b73 X hr hlk hR   h hw (lv_sub hl [2] rfl)
      · have h := Eq.mp (if_neg hc) h
        refine lv_iload_n hx hb dX11_viewsOf_58 rfl (lv_at hl 2 rfl) ?_
        refine lv_aload_n hx hb dX11_viewsOf_59 rfl (lv_at hl 0 rfl) ?_
        refine hm_geti X hw lkM_13 LM_0 dX11_viewsOf_60 ?_
        refine lv_iconst (v := 1) hx hb dX11_viewsOf_63 (by decide) ?_
        refine lv_iadd hx hb dX11_viewsOf_64 ?_
        refine lv_imul hx hb dX11_viewsOf_65 ?_
        refine lv_istore_n (lv' := [(2, _), (0, _), (1, _), (3, _)]) hx hb dX11_viewsOf_66 rfl hl (by decide) rfl (fun ls hl => ?_)
        refine lv_iinc (v := x3 + 1) (lv' := [(3, _), (2, _), (0, _), (1, _)]) hx hb dX11_viewsOf_67 hl (k := 3) rfl rfl (by decide) rfl (fun ls hl => ?_)
        refine lv_goto (tgt := 39) hx hb dX11_viewsOf_70 (by decide) ?_
        exact ih _ _ h hw (lv_sub hl [2, 3, 1, 0] rfl)

theorem wkM_viewsOf_l4 {I : HI} {J : HJ} {x1 : Int32} {Q : Int32 → Prop} (X : hX p m c s args RX11 cX11_viewsOf 4) (hr : meth.sig.returnType = (some .int)) (hlk : meth.locks = false) (hR : 1 ≤ R.frames ∧ 23 ≤ R.locals)   : ∀ (n : Nat) (x2 : Int32) (x3 : Int32) {ls : Array Slot} {H : Heap} {locs : List Loc}, M_viewsOf_l4 I x1 Q n x2 x3 → hW D cA z Ev0 (I, J, T, FM, LM) A s H locs → lv_has ls 4 [(0, .ref (z + 0)), (1, .int x1), (2, .int x2), (3, .int x3)] → W p l e R s m args below meth c H locs 0 0 (MQ below (va_Qi (p0 (I, J, T, FM, LM) Q) (hB D cA z A) A) args s 0 0 A) (F0 m 4 ls []) := by
  have hx := X.1
  have hb := X.2.1
  intro n
  induction n with
  | zero => intro x2 x3 ls H locs h; exact False.elim h
  | succ n ih =>
    intro x2 x3 ls H locs h hw hl
    rw [M_viewsOf_l4] at h
    refine lv_iload_n hx hb dX11_viewsOf_4 rfl (lv_at hl 3 rfl) ?_
    refine lv_aload_n hx hb dX11_viewsOf_5 rfl (lv_at hl 0 rfl) ?_
    refine hm_getr X hw lkM_26 LM_0 (b := 2) rfl dX11_viewsOf_6 ?_
    refine lv_iload_n hx hb dX11_viewsOf_9 rfl (lv_at hl 1 rfl) ?_
    obtain ⟨hi, h⟩ := h
    refine hm_iald X hw LM_2 hi dX11_viewsOf_10 ?_
    refine hm_calli hw (hm_runS (rest := [_]) hCl_true X hw (cM_bits  h) ykM_bits kw1345 rfl hl.1 rfl rfl rfl (Nat.le_of_ble_eq_true rfl) ⟨Nat.le_trans (Nat.le_of_ble_eq_true rfl) hR.1, Nat.le_trans (Nat.le_of_ble_eq_true rfl) hR.2⟩ ⟨Nat.zero_le _, Nat.zero_le _⟩ dX11_viewsOf_11) (fun r1 u2 H locs hp hw => ?_)
    obtain ⟨rfl, h⟩ := hp
    refine lv_icmp_ge (tgt := 37) hx hb dX11_viewsOf_14 (by decide) (fun hc => ?_) (fun hc => ?_)
    · have h := Eq.mp (if_pos hc) h
      refine lv_iconst (v := 0) hx hb dX11_viewsOf_37 (by decide) ?_
      refine lv_istore_n (lv' := [(3, _), (0, _), (1, _), (2, _)]) hx hb dX11_viewsOf_38 rfl hl (by decide) rfl (fun ls hl => ?_)
      obtain ⟨n2, h⟩ := h
      exact wkM_viewsOf_l39 X hr hlk hR   n2 _ _ h hw (lv_sub hl [1, 2, 3, 0] rfl)
    · have h := Eq.mp (if_neg hc) h
      refine lv_iload_n hx hb dX11_viewsOf_17 rfl (lv_at hl 2 rfl) ?_
      refine lv_sipush (v := 1024) hx hb dX11_viewsOf_18 (by decide) ?_
      refine lv_icmp_gt (tgt := 37) hx hb dX11_viewsOf_21 (by decide) (fun hc => ?_) (fun hc => ?_)
      · have h := Eq.mp (if_pos hc) h
        refine lv_iconst (v := 0) hx hb dX11_viewsOf_37 (by decide) ?_
        refine lv_istore_n (lv' := [(3, _), (0, _), (1, _), (2, _)]) hx hb dX11_viewsOf_38 rfl hl (by decide) rfl (fun ls hl => ?_)
        obtain ⟨n2, h⟩ := h
        exact wkM_viewsOf_l39 X hr hlk hR   n2 _ _ h hw (lv_sub hl [1, 2, 3, 0] rfl)
      · have h := Eq.mp (if_neg hc) h
        refine lv_iload_n hx hb dX11_viewsOf_24 rfl (lv_at hl 2 rfl) ?_
        refine lv_aload_n hx hb dX11_viewsOf_25 rfl (lv_at hl 0 rfl) ?_
        refine hm_geti X hw lkM_13 LM_0 dX11_viewsOf_26 ?_
        refine lv_imul hx hb dX11_viewsOf_29 ?_
        refine lv_istore_n (lv' := [(2, _), (0, _), (1, _), (3, _)]) hx hb dX11_viewsOf_30 rfl hl (by decide) rfl (fun ls hl => ?_)
        refine lv_iinc (v := x3 + 1) (lv' := [(3, _), (2, _), (0, _), (1, _)]) hx hb dX11_viewsOf_31 hl (k := 3) rfl rfl (by decide) rfl (fun ls hl => ?_)
        refine lv_goto (tgt := 4) hx hb dX11_viewsOf_34 (by decide) ?_
        exact ih _ _ h hw (lv_sub hl [2, 3, 1, 0] rfl)

theorem cM_viewsOf {l : Launch} {D : va_G} {cA : Nat → ClassId} {z sz : Nat} {I : HI} {J : HJ} {x1 : Int32} {Q : Int32 → Prop}  (h : M_viewsOf I x1 Q) : Met l yX11_viewsOf (hws0 yX11_viewsOf cX11_viewsOf 4 (some .int)) { frames := 1, cells := 0, slots := 0, locals := 23 } (hPc D cA z Ev0 (I, J, T, FM, LM) sz [.ref (z + 0), .int x1]) (va_Qi (p0 (I, J, T, FM, LM) Q) (hB D cA z (hA z LM sz)) (hA z LM sz)) 0 0 (hA z LM sz) := by
  refine hm_met (I, J, T, FM, LM) [.ref (z + 0), .int x1] rfl (by decide) (Nat.le_of_ble_eq_true rfl) ?_
  intro p e s m below meth c ls X hr hlk hnm hxt hsz hw hl
  have hl : lv_has ls 4 [(0, .ref (z + 0)), (1, .int x1)] := hl
  have hR : 1 ≤ ({ frames := 1, cells := 0, slots := 0, locals := 23 } : Room).frames ∧ 23 ≤ ({ frames := 1, cells := 0, slots := 0, locals := 23 } : Room).locals := ⟨Nat.le_refl _, Nat.le_refl _⟩
  generalize ({ frames := 1, cells := 0, slots := 0, locals := 23 } : Room) = R at hR ⊢
  clear hsz
  generalize (hA z LM sz) = A at hw ⊢
  have hx := X.1
  have hb := X.2.1
  unfold M_viewsOf at h
  refine lv_iconst (v := 1) hx hb dX11_viewsOf_0 (by decide) ?_
  refine lv_istore_n (lv' := [(2, _), (0, _), (1, _)]) hx hb dX11_viewsOf_1 rfl hl (by decide) rfl (fun ls hl => ?_)
  refine lv_iconst (v := 0) hx hb dX11_viewsOf_2 (by decide) ?_
  refine lv_istore_n (lv' := [(3, _), (2, _), (0, _), (1, _)]) hx hb dX11_viewsOf_3 rfl hl (by decide) rfl (fun ls hl => ?_)
  obtain ⟨n2, h⟩ := h
  exact wkM_viewsOf_l4 X hr hlk hR   n2 _ _ h hw (lv_sub hl [2, 3, 1, 0] rfl)

theorem wkM_blank_l24 {J : HJ} {x1 : Int32} {Q : HI → Prop} (X : hX p m c s args RX11 cX11_blank 3) (hr : meth.sig.returnType = none) (hlk : meth.locks = false) (hR : 2 ≤ R.frames ∧ 46 ≤ R.locals)   : ∀ (n : Nat) (I : HI) (x2 : Int32) {ls : Array Slot} {H : Heap} {locs : List Loc}, M_blank_l24 x1 Q n I x2 → hW D cA z Ev0 (I, J, T, FM, LM) A s H locs → lv_has ls 3 [(0, .ref (z + 0)), (1, .int x1), (2, .int x2)] → W p l e R s m args below meth c H locs 0 0 (MQ below (va_Qv (pIv J T FM LM Q) (hB D cA z A) A) args s 0 0 A) (F0 m 24 ls []) := by
  have hx := X.1
  have hb := X.2.1
  intro n
  induction n with
  | zero => intro I x2 ls H locs h; exact False.elim h
  | succ n ih =>
    intro I x2 ls H locs h hw hl
    rw [M_blank_l24] at h
    refine lv_iload_n hx hb dX11_blank_24 rfl (lv_at hl 2 rfl) ?_
    refine lv_sipush (v := 1024) hx hb dX11_blank_25 (by decide) ?_
    refine lv_icmp_ge (tgt := 50) hx hb dX11_blank_28 (by decide) (fun hc => ?_) (fun hc => ?_)
    · have h := Eq.mp (if_pos hc) h
      exact hm_vret X hr hlk hw ⟨_, rfl, h⟩ dX11_blank_50
    · have h := Eq.mp (if_neg hc) h
      refine lv_aload_n hx hb dX11_blank_31 rfl (lv_at hl 0 rfl) ?_
      refine hm_getr X hw lkM_35 LM_0 (b := 5) rfl dX11_blank_32 ?_
      refine lv_sipush (v := 1024) hx hb dX11_blank_35 (by decide) ?_
      refine lv_iload_n hx hb dX11_blank_38 rfl (lv_at hl 1 rfl) ?_
      refine lv_imul hx hb dX11_blank_39 ?_
      refine lv_iload_n hx hb dX11_blank_40 rfl (lv_at hl 2 rfl) ?_
      refine lv_iadd hx hb dX11_blank_41 ?_
      refine lv_iconst (v := 0) hx hb dX11_blank_42 (by decide) ?_
      obtain ⟨hi, h⟩ := h
      refine hm_iast X hw LM_5 hi dX11_blank_43 (fun H locs hw => ?_)
      refine lv_iinc (v := x2 + 1) (lv' := [(2, _), (0, _), (1, _)]) hx hb dX11_blank_44 hl (k := 2) rfl rfl (by decide) rfl (fun ls hl => ?_)
      refine lv_goto (tgt := 24) hx hb dX11_blank_47 (by decide) ?_
      exact ih _ _ h hw (lv_sub hl [1, 2, 0] rfl)

theorem cM_blank {l : Launch} {D : va_G} {cA : Nat → ClassId} {z sz : Nat} {I : HI} {J : HJ} {x1 : Int32} {Q : HI → Prop}  (h : M_blank I x1 Q) : Met l yX11_blank (hws0 yX11_blank cX11_blank 3 none) { frames := 2, cells := 0, slots := 0, locals := 46 } (hPc D cA z Ev0 (I, J, T, FM, LM) sz [.ref (z + 0), .int x1]) (va_Qv (pIv J T FM LM Q) (hB D cA z (hA z LM sz)) (hA z LM sz)) 0 0 (hA z LM sz) := by
  refine hm_met (I, J, T, FM, LM) [.ref (z + 0), .int x1] rfl (by decide) (Nat.le_of_ble_eq_true rfl) ?_
  intro p e s m below meth c ls X hr hlk hnm hxt hsz hw hl
  have hl : lv_has ls 3 [(0, .ref (z + 0)), (1, .int x1)] := hl
  have hR : 2 ≤ ({ frames := 2, cells := 0, slots := 0, locals := 46 } : Room).frames ∧ 46 ≤ ({ frames := 2, cells := 0, slots := 0, locals := 46 } : Room).locals := ⟨Nat.le_refl _, Nat.le_refl _⟩
  generalize ({ frames := 2, cells := 0, slots := 0, locals := 46 } : Room) = R at hR ⊢
  clear hsz
  generalize (hA z LM sz) = A at hw ⊢
  have hx := X.1
  have hb := X.2.1
  unfold M_blank at h
  refine lv_aload_n hx hb dX11_blank_0 rfl (lv_at hl 0 rfl) ?_
  refine hm_getr X hw lkM_32 LM_0 (b := 4) rfl dX11_blank_1 ?_
  refine lv_iload_n hx hb dX11_blank_4 rfl (lv_at hl 1 rfl) ?_
  refine lv_aload_n hx hb dX11_blank_5 rfl (lv_at hl 0 rfl) ?_
  refine lv_iload_n hx hb dX11_blank_6 rfl (lv_at hl 1 rfl) ?_
  refine hm_calli hw (hm_runV (rest := [_, _]) hCl_true X hw (cM_viewsOf  h) ykM_viewsOf kw1341 rfl LM_0 rfl hl.1 rfl rfl rfl (Nat.le_of_ble_eq_true rfl) ⟨Nat.le_trans (Nat.le_of_ble_eq_true rfl) hR.1, Nat.le_trans (Nat.le_of_ble_eq_true rfl) hR.2⟩ ⟨Nat.zero_le _, Nat.zero_le _⟩ dX11_blank_7) (fun r1 u2 H locs hp hw => ?_)
  obtain ⟨rfl, h⟩ := hp
  refine lv_sipush (v := 1024) hx hb dX11_blank_10 (by decide) ?_
  refine lv_icmp_le (tgt := 20) hx hb dX11_blank_13 (by decide) (fun hc => ?_) (fun hc => ?_)
  · have h := Eq.mp (if_pos hc) h
    refine lv_iconst (v := 0) hx hb dX11_blank_20 (by decide) ?_
    obtain ⟨hi, h⟩ := h
    refine hm_iast X hw LM_4 hi dX11_blank_21 (fun H locs hw => ?_)
    refine lv_iconst (v := 0) hx hb dX11_blank_22 (by decide) ?_
    refine lv_istore_n (lv' := [(2, _), (0, _), (1, _)]) hx hb dX11_blank_23 rfl hl (by decide) rfl (fun ls hl => ?_)
    obtain ⟨n2, h⟩ := h
    exact wkM_blank_l24 X hr hlk hR   n2 _ _ h hw (lv_sub hl [1, 2, 0] rfl)
  · have h := Eq.mp (if_neg hc) h
    refine lv_iconst (v := 2) hx hb dX11_blank_16 (by decide) ?_
    refine lv_goto (tgt := 21) hx hb dX11_blank_17 (by decide) ?_
    obtain ⟨hi, h⟩ := h
    refine hm_iast X hw LM_4 hi dX11_blank_21 (fun H locs hw => ?_)
    refine lv_iconst (v := 0) hx hb dX11_blank_22 (by decide) ?_
    refine lv_istore_n (lv' := [(2, _), (0, _), (1, _)]) hx hb dX11_blank_23 rfl hl (by decide) rfl (fun ls hl => ?_)
    obtain ⟨n2, h⟩ := h
    exact wkM_blank_l24 X hr hlk hR   n2 _ _ h hw (lv_sub hl [1, 2, 0] rfl)

theorem wkM_anew_l95 {J : HJ} {Q : HI → Prop} (X : hX p m c s args RX11 cX11_anew 4) (hr : meth.sig.returnType = none) (hlk : meth.locks = false) (hR : 3 ≤ R.frames ∧ 68 ≤ R.locals)   : ∀ (n : Nat) (I : HI) (x3 : Int32) {ls : Array Slot} {H : Heap} {locs : List Loc}, M_anew_l95 Q n I x3 → hW D cA z Ev0 (I, J, T, FM, LM) A s H locs → lv_has ls 4 [(0, .ref (z + 0)), (3, .int x3)] → W p l e R s m args below meth c H locs 0 0 (MQ below (va_Qv (pIv J T FM LM Q) (hB D cA z A) A) args s 0 0 A) (F0 m 95 ls []) := by
  have hx := X.1
  have hb := X.2.1
  intro n
  induction n with
  | zero => intro I x3 ls H locs h; exact False.elim h
  | succ n ih =>
    intro I x3 ls H locs h hw hl
    rw [M_anew_l95] at h
    refine lv_iload_n hx hb dX11_anew_95 rfl (lv_at hl 1 rfl) ?_
    refine lv_aload_n hx hb dX11_anew_96 rfl (lv_at hl 0 rfl) ?_
    refine hm_geti X hw lkM_7 LM_0 dX11_anew_97 ?_
    refine lv_icmp_ge (tgt := 114) hx hb dX11_anew_100 (by decide) (fun hc => ?_) (fun hc => ?_)
    · have h := Eq.mp (if_pos hc) h
      refine lv_aload_n hx hb dX11_anew_114 rfl (lv_at hl 0 rfl) ?_
      refine lv_iconst (v := 0) hx hb dX11_anew_115 (by decide) ?_
      refine hm_puti X hw lkM_195 LM_0 rfl rfl dX11_anew_116 (fun H locs hw => ?_)
      exact hm_vret X hr hlk hw ⟨_, rfl, h⟩ dX11_anew_119
    · have h := Eq.mp (if_neg hc) h
      refine lv_aload_n hx hb dX11_anew_103 rfl (lv_at hl 0 rfl) ?_
      refine lv_iload_n hx hb dX11_anew_104 rfl (lv_at hl 1 rfl) ?_
      refine hm_callv hw (hm_runV (rest := []) hCl_true X hw (cM_blank  h) ykM_blank kw1337 rfl LM_0 rfl hl.1 rfl rfl rfl (Nat.le_of_ble_eq_true rfl) ⟨Nat.le_trans (Nat.le_of_ble_eq_true rfl) hR.1, Nat.le_trans (Nat.le_of_ble_eq_true rfl) hR.2⟩ ⟨Nat.zero_le _, Nat.zero_le _⟩ dX11_anew_105) (fun u2 H locs hp hw => ?_)
      obtain ⟨I1, rfl, h⟩ := hp
      refine lv_iinc (v := x3 + 1) (lv' := [(3, _), (0, _)]) hx hb dX11_anew_108 hl (k := 1) rfl rfl (by decide) rfl (fun ls hl => ?_)
      refine lv_goto (tgt := 95) hx hb dX11_anew_111 (by decide) ?_
      exact ih _ _ h hw (lv_sub hl [1, 0] rfl)

theorem wkM_anew_l46 {J : HJ} {Q : HI → Prop} (X : hX p m c s args RX11 cX11_anew 4) (hr : meth.sig.returnType = none) (hlk : meth.locks = false) (hR : 3 ≤ R.frames ∧ 68 ≤ R.locals)   : ∀ (n : Nat) (I : HI) (x3 : Int32) {ls : Array Slot} {H : Heap} {locs : List Loc}, M_anew_l46 Q n I x3 → hW D cA z Ev0 (I, J, T, FM, LM) A s H locs → lv_has ls 4 [(0, .ref (z + 0)), (3, .int x3)] → W p l e R s m args below meth c H locs 0 0 (MQ below (va_Qv (pIv J T FM LM Q) (hB D cA z A) A) args s 0 0 A) (F0 m 46 ls []) := by
  have hx := X.1
  have hb := X.2.1
  intro n
  induction n with
  | zero => intro I x3 ls H locs h; exact False.elim h
  | succ n ih =>
    intro I x3 ls H locs h hw hl
    rw [M_anew_l46] at h
    refine lv_iload_n hx hb dX11_anew_46 rfl (lv_at hl 1 rfl) ?_
    refine lv_bipush (v := 8) hx hb dX11_anew_47 (by decide) ?_
    refine lv_icmp_ge (tgt := 93) hx hb dX11_anew_49 (by decide) (fun hc => ?_) (fun hc => ?_)
    · have h := Eq.mp (if_pos hc) h
      refine lv_iconst (v := 0) hx hb dX11_anew_93 (by decide) ?_
      refine lv_istore_n (lv' := [(3, _), (0, _)]) hx hb dX11_anew_94 rfl hl (by decide) rfl (fun ls hl => ?_)
      obtain ⟨n2, h⟩ := h
      exact wkM_anew_l95 X hr hlk hR   n2 _ _ h hw (lv_sub hl [1, 0] rfl)
    · have h := Eq.mp (if_neg hc) h
      refine lv_aload_n hx hb dX11_anew_52 rfl (lv_at hl 0 rfl) ?_
      refine hm_getr X hw lkM_29 LM_0 (b := 3) rfl dX11_anew_53 ?_
      refine lv_iload_n hx hb dX11_anew_56 rfl (lv_at hl 1 rfl) ?_
      refine lv_iconst (v := 0) hx hb dX11_anew_57 (by decide) ?_
      obtain ⟨hi, h⟩ := h
      refine hm_iast X hw LM_3 hi dX11_anew_58 (fun H locs hw => ?_)
      refine lv_aload_n hx hb dX11_anew_59 rfl (lv_at hl 0 rfl) ?_
      refine hm_getr X hw lkM_26 LM_0 (b := 2) rfl dX11_anew_60 ?_
      refine lv_iload_n hx hb dX11_anew_63 rfl (lv_at hl 1 rfl) ?_
      refine lv_iload_n hx hb dX11_anew_64 rfl (lv_at hl 1 rfl) ?_
      refine lv_aload_n hx hb dX11_anew_65 rfl (lv_at hl 0 rfl) ?_
      refine hm_geti X hw lkM_7 LM_0 dX11_anew_66 ?_
      refine lv_icmp_ge (tgt := 85) hx hb dX11_anew_69 (by decide) (fun hc => ?_) (fun hc => ?_)
      · have h := Eq.mp (if_pos hc) h
        refine lv_iconst (v := 0) hx hb dX11_anew_85 (by decide) ?_
        obtain ⟨hi, h⟩ := h
        refine hm_iast X hw LM_2 hi dX11_anew_86 (fun H locs hw => ?_)
        refine lv_iinc (v := x3 + 1) (lv' := [(3, _), (0, _)]) hx hb dX11_anew_87 hl (k := 1) rfl rfl (by decide) rfl (fun ls hl => ?_)
        refine lv_goto (tgt := 46) hx hb dX11_anew_90 (by decide) ?_
        exact ih _ _ h hw (lv_sub hl [1, 0] rfl)
      · have h := Eq.mp (if_neg hc) h
        refine lv_aload_n hx hb dX11_anew_72 rfl (lv_at hl 0 rfl) ?_
        refine hm_calli hw (hm_runV (rest := [_, _]) hCl_true X hw (cM_all  h) ykM_all kw1333 rfl LM_0 rfl hl.1 rfl rfl rfl (Nat.le_of_ble_eq_true rfl) ⟨Nat.le_trans (Nat.le_of_ble_eq_true rfl) hR.1, Nat.le_trans (Nat.le_of_ble_eq_true rfl) hR.2⟩ ⟨Nat.zero_le _, Nat.zero_le _⟩ dX11_anew_73) (fun r3 u4 H locs hp hw => ?_)
        obtain ⟨rfl, h⟩ := hp
        refine lv_iconst (v := 1) hx hb dX11_anew_76 (by decide) ?_
        refine lv_iload_n hx hb dX11_anew_77 rfl (lv_at hl 1 rfl) ?_
        refine lv_ishl hx hb dX11_anew_78 ?_
        refine lv_iconst (v := (-1)) hx hb dX11_anew_79 (by decide) ?_
        refine lv_ixor hx hb dX11_anew_80 ?_
        refine lv_iand hx hb dX11_anew_81 ?_
        refine lv_goto (tgt := 86) hx hb dX11_anew_82 (by decide) ?_
        obtain ⟨hi, h⟩ := h
        refine hm_iast X hw LM_2 hi dX11_anew_86 (fun H locs hw => ?_)
        refine lv_iinc (v := x3 + 1) (lv' := [(3, _), (0, _)]) hx hb dX11_anew_87 hl (k := 1) rfl rfl (by decide) rfl (fun ls hl => ?_)
        refine lv_goto (tgt := 46) hx hb dX11_anew_90 (by decide) ?_
        exact ih _ _ h hw (lv_sub hl [1, 0] rfl)

theorem wkM_anew_l17 {J : HJ} {Q : HI → Prop} (X : hX p m c s args RX11 cX11_anew 4) (hr : meth.sig.returnType = none) (hlk : meth.locks = false) (hR : 3 ≤ R.frames ∧ 68 ≤ R.locals)   : ∀ (n : Nat) (I : HI) (x3 : Int32) {ls : Array Slot} {H : Heap} {locs : List Loc}, M_anew_l17 Q n I x3 → hW D cA z Ev0 (I, J, T, FM, LM) A s H locs → lv_has ls 4 [(0, .ref (z + 0)), (3, .int x3)] → W p l e R s m args below meth c H locs 0 0 (MQ below (va_Qv (pIv J T FM LM Q) (hB D cA z A) A) args s 0 0 A) (F0 m 17 ls []) := by
  have hx := X.1
  have hb := X.2.1
  intro n
  induction n with
  | zero => intro I x3 ls H locs h; exact False.elim h
  | succ n ih =>
    intro I x3 ls H locs h hw hl
    rw [M_anew_l17] at h
    refine lv_iload_n hx hb dX11_anew_17 rfl (lv_at hl 1 rfl) ?_
    refine lv_aload_n hx hb dX11_anew_18 rfl (lv_at hl 0 rfl) ?_
    refine hm_geti X hw lkM_7 LM_0 dX11_anew_19 ?_
    refine lv_icmp_ge (tgt := 44) hx hb dX11_anew_22 (by decide) (fun hc => ?_) (fun hc => ?_)
    · have h := Eq.mp (if_pos hc) h
      refine lv_iconst (v := 0) hx hb dX11_anew_44 (by decide) ?_
      refine lv_istore_n (lv' := [(3, _), (0, _)]) hx hb dX11_anew_45 rfl hl (by decide) rfl (fun ls hl => ?_)
      obtain ⟨n2, h⟩ := h
      exact wkM_anew_l46 X hr hlk hR   n2 _ _ h hw (lv_sub hl [1, 0] rfl)
    · have h := Eq.mp (if_neg hc) h
      refine lv_aload_n hx hb dX11_anew_25 rfl (lv_at hl 0 rfl) ?_
      refine lv_dup hx hb dX11_anew_26 rfl ?_
      refine hm_geti X hw lkM_16 LM_0 dX11_anew_27 ?_
      refine lv_aload_n hx hb dX11_anew_30 rfl (lv_at hl 0 rfl) ?_
      refine hm_geti X hw lkM_13 LM_0 dX11_anew_31 ?_
      refine lv_imul hx hb dX11_anew_34 ?_
      refine hm_puti X hw lkM_16 LM_0 rfl rfl dX11_anew_35 (fun H locs hw => ?_)
      refine lv_iinc (v := x3 + 1) (lv' := [(3, _), (0, _)]) hx hb dX11_anew_38 hl (k := 1) rfl rfl (by decide) rfl (fun ls hl => ?_)
      refine lv_goto (tgt := 17) hx hb dX11_anew_41 (by decide) ?_
      exact ih _ _ h hw (lv_sub hl [1, 0] rfl)

theorem cM_anew {l : Launch} {D : va_G} {cA : Nat → ClassId} {z sz : Nat} {I : HI} {J : HJ} {x1 : Int32} {x2 : Int32} {Q : HI → Prop}  (h : M_anew I x1 x2 Q) : Met l yX11_anew (hws0 yX11_anew cX11_anew 4 none) { frames := 3, cells := 0, slots := 0, locals := 68 } (hPc D cA z Ev0 (I, J, T, FM, LM) sz [.ref (z + 0), .int x1, .int x2]) (va_Qv (pIv J T FM LM Q) (hB D cA z (hA z LM sz)) (hA z LM sz)) 0 0 (hA z LM sz) := by
  refine hm_met (I, J, T, FM, LM) [.ref (z + 0), .int x1, .int x2] rfl (by decide) (Nat.le_of_ble_eq_true rfl) ?_
  intro p e s m below meth c ls X hr hlk hnm hxt hsz hw hl
  have hl : lv_has ls 4 [(0, .ref (z + 0)), (1, .int x1), (2, .int x2)] := hl
  have hR : 3 ≤ ({ frames := 3, cells := 0, slots := 0, locals := 68 } : Room).frames ∧ 68 ≤ ({ frames := 3, cells := 0, slots := 0, locals := 68 } : Room).locals := ⟨Nat.le_refl _, Nat.le_refl _⟩
  generalize ({ frames := 3, cells := 0, slots := 0, locals := 68 } : Room) = R at hR ⊢
  clear hsz
  generalize (hA z LM sz) = A at hw ⊢
  have hx := X.1
  have hb := X.2.1
  unfold M_anew at h
  refine lv_aload_n hx hb dX11_anew_0 rfl (lv_at hl 0 rfl) ?_
  refine lv_iload_n hx hb dX11_anew_1 rfl (lv_at hl 1 rfl) ?_
  refine hm_puti X hw lkM_7 LM_0 rfl rfl dX11_anew_2 (fun H locs hw => ?_)
  refine lv_aload_n hx hb dX11_anew_5 rfl (lv_at hl 0 rfl) ?_
  refine lv_iload_n hx hb dX11_anew_6 rfl (lv_at hl 2 rfl) ?_
  refine hm_puti X hw lkM_13 LM_0 rfl rfl dX11_anew_7 (fun H locs hw => ?_)
  refine lv_aload_n hx hb dX11_anew_10 rfl (lv_at hl 0 rfl) ?_
  refine lv_iconst (v := 1) hx hb dX11_anew_11 (by decide) ?_
  refine hm_puti X hw lkM_16 LM_0 rfl rfl dX11_anew_12 (fun H locs hw => ?_)
  refine lv_iconst (v := 0) hx hb dX11_anew_15 (by decide) ?_
  refine lv_istore_n (lv' := [(3, _), (0, _), (1, _), (2, _)]) hx hb dX11_anew_16 rfl hl (by decide) rfl (fun ls hl => ?_)
  obtain ⟨n2, h⟩ := h
  exact wkM_anew_l17 X hr hlk hR   n2 _ _ h hw (lv_sub hl [1, 0] rfl)

theorem wkM_hall_l31 {I : HI} {J : HJ} {x1 : Int32} {x2 : Int32} {Q : Int32 → HI → Prop} (X : hX p m c s args RX11 cX11_hall 5) (hr : meth.sig.returnType = (some .boolean)) (hlk : meth.locks = false) (hR : 4 ≤ R.frames ∧ 91 ≤ R.locals)   : ∀ (n : Nat) (x3 : Int32) (x4 : Int32) {ls : Array Slot} {H : Heap} {locs : List Loc}, M_hall_l31 I x1 x2 Q n x3 x4 → hW D cA z Ev0 (I, J, T, FM, LM) A s H locs → lv_has ls 5 [(0, .ref (z + 0)), (1, .int x1), (2, .int x2), (3, .int x3), (4, .int x4)] → W p l e R s m args below meth c H locs 0 0 (MQ below (va_Qi (pI J T FM LM Q) (hB D cA z A) A) args s 0 0 A) (F0 m 31 ls []) := by
  have hx := X.1
  have hb := X.2.1
  intro n
  induction n with
  | zero => intro x3 x4 ls H locs h; exact False.elim h
  | succ n ih =>
    intro x3 x4 ls H locs h hw hl
    rw [M_hall_l31] at h
    refine lv_iload hx hb dX11_hall_31 (lv_at hl 4 rfl) ?_
    refine lv_iload_n hx hb dX11_hall_33 rfl (lv_at hl 1 rfl) ?_
    refine lv_icmp_ge (tgt := 47) hx hb dX11_hall_34 (by decide) (fun hc => ?_) (fun hc => ?_)
    · have h := Eq.mp (if_pos hc) h
      refine lv_iload_n hx hb dX11_hall_47 rfl (lv_at hl 3 rfl) ?_
      refine lv_sipush (v := 6561) hx hb dX11_hall_48 (by decide) ?_
      refine lv_icmp_le (tgt := 56) hx hb dX11_hall_51 (by decide) (fun hc => ?_) (fun hc => ?_)
      · have h := Eq.mp (if_pos hc) h
        refine lv_aload_n hx hb dX11_hall_56 rfl (lv_at hl 0 rfl) ?_
        refine lv_iload_n hx hb dX11_hall_57 rfl (lv_at hl 1 rfl) ?_
        refine lv_iload_n hx hb dX11_hall_58 rfl (lv_at hl 2 rfl) ?_
        refine hm_callv hw (hm_runV (rest := []) hCl_true X hw (cM_anew  h) ykM_anew kw1329 rfl LM_0 rfl hl.1 rfl rfl rfl (Nat.le_of_ble_eq_true rfl) ⟨Nat.le_trans (Nat.le_of_ble_eq_true rfl) hR.1, Nat.le_trans (Nat.le_of_ble_eq_true rfl) hR.2⟩ ⟨Nat.zero_le _, Nat.zero_le _⟩ dX11_hall_59) (fun u6 H locs hp hw => ?_)
        obtain ⟨I5, rfl, h⟩ := hp
        refine lv_iconst (v := 1) hx hb dX11_hall_62 (by decide) ?_
        exact hm_zret X hr hlk hw zb_1 ⟨_, rfl, h⟩ dX11_hall_63
      · have h := Eq.mp (if_neg hc) h
        refine lv_iconst (v := 0) hx hb dX11_hall_54 (by decide) ?_
        exact hm_zret X hr hlk hw zb_0 ⟨_, rfl, h⟩ dX11_hall_55
    · have h := Eq.mp (if_neg hc) h
      refine lv_iload_n hx hb dX11_hall_37 rfl (lv_at hl 3 rfl) ?_
      refine lv_iload_n hx hb dX11_hall_38 rfl (lv_at hl 2 rfl) ?_
      refine lv_imul hx hb dX11_hall_39 ?_
      refine lv_istore_n (lv' := [(3, _), (0, _), (1, _), (2, _), (4, _)]) hx hb dX11_hall_40 rfl hl (by decide) rfl (fun ls hl => ?_)
      refine lv_iinc (v := x4 + 1) (lv' := [(4, _), (3, _), (0, _), (1, _), (2, _)]) hx hb dX11_hall_41 hl (k := 4) rfl rfl (by decide) rfl (fun ls hl => ?_)
      refine lv_goto (tgt := 31) hx hb dX11_hall_44 (by decide) ?_
      exact ih _ _ h hw (lv_sub hl [2, 3, 4, 1, 0] rfl)

theorem cM_hall {l : Launch} {D : va_G} {cA : Nat → ClassId} {z sz : Nat} {I : HI} {J : HJ} {x1 : Int32} {x2 : Int32} {Q : Int32 → HI → Prop}  (h : M_hall I x1 x2 Q) : Met l yX11_hall (hws0 yX11_hall cX11_hall 5 (some .boolean)) { frames := 4, cells := 0, slots := 0, locals := 91 } (hPc D cA z Ev0 (I, J, T, FM, LM) sz [.ref (z + 0), .int x1, .int x2]) (va_Qi (pI J T FM LM Q) (hB D cA z (hA z LM sz)) (hA z LM sz)) 0 0 (hA z LM sz) := by
  refine hm_met (I, J, T, FM, LM) [.ref (z + 0), .int x1, .int x2] rfl (by decide) (Nat.le_of_ble_eq_true rfl) ?_
  intro p e s m below meth c ls X hr hlk hnm hxt hsz hw hl
  have hl : lv_has ls 5 [(0, .ref (z + 0)), (1, .int x1), (2, .int x2)] := hl
  have hR : 4 ≤ ({ frames := 4, cells := 0, slots := 0, locals := 91 } : Room).frames ∧ 91 ≤ ({ frames := 4, cells := 0, slots := 0, locals := 91 } : Room).locals := ⟨Nat.le_refl _, Nat.le_refl _⟩
  generalize ({ frames := 4, cells := 0, slots := 0, locals := 91 } : Room) = R at hR ⊢
  clear hsz
  generalize (hA z LM sz) = A at hw ⊢
  have hx := X.1
  have hb := X.2.1
  unfold M_hall at h
  refine lv_aload_n hx hb dX11_hall_0 rfl (lv_at hl 0 rfl) ?_
  refine lv_iconst (v := 0) hx hb dX11_hall_1 (by decide) ?_
  refine hm_puti X hw lkM_174 LM_0 rfl rfl dX11_hall_2 (fun H locs hw => ?_)
  refine lv_iload_n hx hb dX11_hall_5 rfl (lv_at hl 1 rfl) ?_
  refine lv_iconst (v := 1) hx hb dX11_hall_6 (by decide) ?_
  refine lv_bipush (v := 8) hx hb dX11_hall_7 (by decide) ?_
  refine hm_calli hw (hm_runS (rest := []) hCl_true X hw (cM_within  h) ykM_within kw1586 rfl hl.1 rfl rfl rfl (Nat.le_of_ble_eq_true rfl) ⟨Nat.le_trans (Nat.le_of_ble_eq_true rfl) hR.1, Nat.le_trans (Nat.le_of_ble_eq_true rfl) hR.2⟩ ⟨Nat.zero_le _, Nat.zero_le _⟩ dX11_hall_9) (fun r1 u2 H locs hp hw => ?_)
  obtain ⟨rfl, h⟩ := hp
  refine lv_if_eq (tgt := 24) hx hb dX11_hall_12 (by decide) (fun hc => ?_) (fun hc => ?_)
  · have h := Eq.mp (if_pos hc) h
    refine lv_iconst (v := 0) hx hb dX11_hall_24 (by decide) ?_
    exact hm_zret X hr hlk hw zb_0 ⟨_, rfl, h⟩ dX11_hall_25
  · have h := Eq.mp (if_neg hc) h
    refine lv_iload_n hx hb dX11_hall_15 rfl (lv_at hl 2 rfl) ?_
    refine lv_iconst (v := 2) hx hb dX11_hall_16 (by decide) ?_
    refine lv_iconst (v := 4) hx hb dX11_hall_17 (by decide) ?_
    refine hm_calli hw (hm_runS (rest := []) hCl_true X hw (cM_within  h) ykM_within kw1586 rfl hl.1 rfl rfl rfl (Nat.le_of_ble_eq_true rfl) ⟨Nat.le_trans (Nat.le_of_ble_eq_true rfl) hR.1, Nat.le_trans (Nat.le_of_ble_eq_true rfl) hR.2⟩ ⟨Nat.zero_le _, Nat.zero_le _⟩ dX11_hall_18) (fun r3 u4 H locs hp hw => ?_)
    obtain ⟨rfl, h⟩ := hp
    refine lv_if_ne (tgt := 26) hx hb dX11_hall_21 (by decide) (fun hc => ?_) (fun hc => ?_)
    · have h := Eq.mp (if_neg hc) h
      refine lv_iconst (v := 1) hx hb dX11_hall_26 (by decide) ?_
      refine lv_istore_n (lv' := [(3, _), (0, _), (1, _), (2, _)]) hx hb dX11_hall_27 rfl hl (by decide) rfl (fun ls hl => ?_)
      refine lv_iconst (v := 0) hx hb dX11_hall_28 (by decide) ?_
      refine lv_istore (lv' := [(4, _), (3, _), (0, _), (1, _), (2, _)]) hx hb dX11_hall_29 hl (by decide) rfl (fun ls hl => ?_)
      obtain ⟨n2, h⟩ := h
      exact wkM_hall_l31 X hr hlk hR   n2 _ _ h hw (lv_sub hl [2, 3, 4, 1, 0] rfl)
    · have h := Eq.mp (if_pos hc) h
      refine lv_iconst (v := 0) hx hb dX11_hall_24 (by decide) ?_
      exact hm_zret X hr hlk hw zb_0 ⟨_, rfl, h⟩ dX11_hall_25

theorem cM_isWearer {l : Launch} {D : va_G} {cA : Nat → ClassId} {z sz : Nat} {I : HI} {J : HJ} {x1 : Int32} {Q : Int32 → HI → Prop}  (h : M_isWearer I x1 Q) : Met l yX11_isWearer (hws0 yX11_isWearer cX11_isWearer 2 (some .boolean)) { frames := 1, cells := 0, slots := 0, locals := 22 } (hPc D cA z Ev0 (I, J, T, FM, LM) sz [.ref (z + 0), .int x1]) (va_Qi (pI J T FM LM Q) (hB D cA z (hA z LM sz)) (hA z LM sz)) 0 0 (hA z LM sz) := by
  refine hm_met (I, J, T, FM, LM) [.ref (z + 0), .int x1] rfl (by decide) (Nat.le_of_ble_eq_true rfl) ?_
  intro p e s m below meth c ls X hr hlk hnm hxt hsz hw hl
  have hl : lv_has ls 2 [(0, .ref (z + 0)), (1, .int x1)] := hl
  have hR : 1 ≤ ({ frames := 1, cells := 0, slots := 0, locals := 22 } : Room).frames ∧ 22 ≤ ({ frames := 1, cells := 0, slots := 0, locals := 22 } : Room).locals := ⟨Nat.le_refl _, Nat.le_refl _⟩
  generalize ({ frames := 1, cells := 0, slots := 0, locals := 22 } : Room) = R at hR ⊢
  clear hsz
  generalize (hA z LM sz) = A at hw ⊢
  have hx := X.1
  have hb := X.2.1
  unfold M_isWearer at h
  refine lv_aload_n hx hb dX11_isWearer_0 rfl (lv_at hl 0 rfl) ?_
  refine lv_iconst (v := 0) hx hb dX11_isWearer_1 (by decide) ?_
  refine hm_puti X hw lkM_174 LM_0 rfl rfl dX11_isWearer_2 (fun H locs hw => ?_)
  refine lv_aload_n hx hb dX11_isWearer_5 rfl (lv_at hl 0 rfl) ?_
  refine lv_iload_n hx hb dX11_isWearer_6 rfl (lv_at hl 1 rfl) ?_
  refine lv_if_lt (tgt := 22) hx hb dX11_isWearer_7 (by decide) (fun hc => ?_) (fun hc => ?_)
  · have h := Eq.mp (if_pos hc) h
    refine lv_iconst (v := 0) hx hb dX11_isWearer_22 (by decide) ?_
    refine lv_iconst (v := 1) hx hb dX11_isWearer_23 (by decide) ?_
    refine hm_calli hw (hm_runV (rest := []) hCl_true X hw (cM_right  h) ykM_right kw1597 rfl LM_0 rfl hl.1 rfl rfl rfl (Nat.le_of_ble_eq_true rfl) ⟨Nat.le_trans (Nat.le_of_ble_eq_true rfl) hR.1, Nat.le_trans (Nat.le_of_ble_eq_true rfl) hR.2⟩ ⟨Nat.zero_le _, Nat.zero_le _⟩ dX11_isWearer_24) (fun r1 u3 H locs hp hw => ?_)
    obtain ⟨I2, rfl, h⟩ := hp
    obtain ⟨hz, h⟩ := h
    exact hm_zret X hr hlk hw hz ⟨_, rfl, h⟩ dX11_isWearer_27
  · have h := Eq.mp (if_neg hc) h
    refine lv_iload_n hx hb dX11_isWearer_10 rfl (lv_at hl 1 rfl) ?_
    refine lv_aload_n hx hb dX11_isWearer_11 rfl (lv_at hl 0 rfl) ?_
    refine hm_geti X hw lkM_7 LM_0 dX11_isWearer_12 ?_
    refine lv_icmp_ge (tgt := 22) hx hb dX11_isWearer_15 (by decide) (fun hc => ?_) (fun hc => ?_)
    · have h := Eq.mp (if_pos hc) h
      refine lv_iconst (v := 0) hx hb dX11_isWearer_22 (by decide) ?_
      refine lv_iconst (v := 1) hx hb dX11_isWearer_23 (by decide) ?_
      refine hm_calli hw (hm_runV (rest := []) hCl_true X hw (cM_right  h) ykM_right kw1597 rfl LM_0 rfl hl.1 rfl rfl rfl (Nat.le_of_ble_eq_true rfl) ⟨Nat.le_trans (Nat.le_of_ble_eq_true rfl) hR.1, Nat.le_trans (Nat.le_of_ble_eq_true rfl) hR.2⟩ ⟨Nat.zero_le _, Nat.zero_le _⟩ dX11_isWearer_24) (fun r4 u6 H locs hp hw => ?_)
      obtain ⟨I5, rfl, h⟩ := hp
      obtain ⟨hz, h⟩ := h
      exact hm_zret X hr hlk hw hz ⟨_, rfl, h⟩ dX11_isWearer_27
    · have h := Eq.mp (if_neg hc) h
      refine lv_iconst (v := 1) hx hb dX11_isWearer_18 (by decide) ?_
      refine lv_goto (tgt := 23) hx hb dX11_isWearer_19 (by decide) ?_
      refine lv_iconst (v := 1) hx hb dX11_isWearer_23 (by decide) ?_
      refine hm_calli hw (hm_runV (rest := []) hCl_true X hw (cM_right  h) ykM_right kw1597 rfl LM_0 rfl hl.1 rfl rfl rfl (Nat.le_of_ble_eq_true rfl) ⟨Nat.le_trans (Nat.le_of_ble_eq_true rfl) hR.1, Nat.le_trans (Nat.le_of_ble_eq_true rfl) hR.2⟩ ⟨Nat.zero_le _, Nat.zero_le _⟩ dX11_isWearer_24) (fun r7 u9 H locs hp hw => ?_)
      obtain ⟨I8, rfl, h⟩ := hp
      obtain ⟨hz, h⟩ := h
      exact hm_zret X hr hlk hw hz ⟨_, rfl, h⟩ dX11_isWearer_27

theorem wkM_looks_b44 {I : HI} {J : HJ} {x1 : Int32} {x2 : Int32} {t0 : Int32} {Q : Int32 → HI → Prop} (X : hX p m c s args RX11 cX11_looks 4) (hr : meth.sig.returnType = (some .boolean)) (hlk : meth.locks = false) (hR : 3 ≤ R.frames ∧ 68 ≤ R.locals)   : ∀ {ls : Array Slot} {H : Heap} {locs : List Loc}, M_looks_b44 I x1 x2 t0 Q → hW D cA z Ev0 (I, J, T, FM, LM) A s H locs → lv_has ls 4 [(0, .ref (z + 0)), (1, .int x1), (2, .int x2)] → W p l e R s m args below meth c H locs 0 0 (MQ below (va_Qi (pI J T FM LM Q) (hB D cA z A) A) args s 0 0 A) (F0 m 44 ls [.int t0]) := by
  have hx := X.1
  have hb := X.2.1
  intro ls H locs h hw hl
  unfold M_looks_b44 at h
  refine lv_istore_n (lv' := [(3, _), (0, _), (1, _), (2, _)]) hx hb dX11_looks_44 rfl hl (by decide) rfl (fun ls hl => ?_)
  refine lv_aload_n hx hb dX11_looks_45 rfl (lv_at hl 1 rfl) ?_
  refine hm_getr X hw lkM_26 LM_0 (b := 2) rfl dX11_looks_46 ?_
  refine lv_iload_n hx hb dX11_looks_49 rfl (lv_at hl 2 rfl) ?_
  refine lv_iload_n hx hb dX11_looks_50 rfl (lv_at hl 3 rfl) ?_
  obtain ⟨hi, h⟩ := h
  refine hm_iast X hw LM_2 hi dX11_looks_51 (fun H locs hw => ?_)
  refine lv_iload_n hx hb dX11_looks_52 rfl (lv_at hl 0 rfl) ?_
  refine lv_if_eq (tgt := 71) hx hb dX11_looks_53 (by decide) (fun hc => ?_) (fun hc => ?_)
  · have h := Eq.mp (if_pos hc) h
    refine lv_aload_n hx hb dX11_looks_71 rfl (lv_at hl 1 rfl) ?_
    refine lv_iconst (v := 0) hx hb dX11_looks_72 (by decide) ?_
    refine hm_puti X hw lkM_195 LM_0 rfl rfl dX11_looks_73 (fun H locs hw => ?_)
    refine lv_iconst (v := 1) hx hb dX11_looks_76 (by decide) ?_
    exact hm_zret X hr hlk hw zb_1 ⟨_, rfl, h⟩ dX11_looks_77
  · have h := Eq.mp (if_neg hc) h
    refine lv_aload_n hx hb dX11_looks_56 rfl (lv_at hl 1 rfl) ?_
    refine hm_getr X hw lkM_32 LM_0 (b := 4) rfl dX11_looks_57 ?_
    refine lv_iload_n hx hb dX11_looks_60 rfl (lv_at hl 2 rfl) ?_
    obtain ⟨hi, h⟩ := h
    refine hm_iald X hw LM_4 hi dX11_looks_61 ?_
    refine lv_iconst (v := 1) hx hb dX11_looks_62 (by decide) ?_
    refine lv_icmp_eq (tgt := 71) hx hb dX11_looks_63 (by decide) (fun hc => ?_) (fun hc => ?_)
    · have h := Eq.mp (if_pos hc) h
      refine lv_aload_n hx hb dX11_looks_71 rfl (lv_at hl 1 rfl) ?_
      refine lv_iconst (v := 0) hx hb dX11_looks_72 (by decide) ?_
      refine hm_puti X hw lkM_195 LM_0 rfl rfl dX11_looks_73 (fun H locs hw => ?_)
      refine lv_iconst (v := 1) hx hb dX11_looks_76 (by decide) ?_
      exact hm_zret X hr hlk hw zb_1 ⟨_, rfl, h⟩ dX11_looks_77
    · have h := Eq.mp (if_neg hc) h
      refine lv_aload_n hx hb dX11_looks_66 rfl (lv_at hl 1 rfl) ?_
      refine lv_iload_n hx hb dX11_looks_67 rfl (lv_at hl 2 rfl) ?_
      refine hm_callv hw (hm_runV (rest := []) hCl_true X hw (cM_blank  h) ykM_blank kw1337 rfl LM_0 rfl hl.1 rfl rfl rfl (Nat.le_of_ble_eq_true rfl) ⟨Nat.le_trans (Nat.le_of_ble_eq_true rfl) hR.1, Nat.le_trans (Nat.le_of_ble_eq_true rfl) hR.2⟩ ⟨Nat.zero_le _, Nat.zero_le _⟩ dX11_looks_68) (fun u7 H locs hp hw => ?_)
      obtain ⟨I6, rfl, h⟩ := hp
      refine lv_aload_n hx hb dX11_looks_71 rfl (lv_at hl 1 rfl) ?_
      refine lv_iconst (v := 0) hx hb dX11_looks_72 (by decide) ?_
      refine hm_puti X hw lkM_195 LM_0 rfl rfl dX11_looks_73 (fun H locs hw => ?_)
      refine lv_iconst (v := 1) hx hb dX11_looks_76 (by decide) ?_
      exact hm_zret X hr hlk hw zb_1 ⟨_, rfl, h⟩ dX11_looks_77

theorem cM_looks {l : Launch} {D : va_G} {cA : Nat → ClassId} {z sz : Nat} {I : HI} {J : HJ} {x1 : Int32} {x2 : Int32} {Q : Int32 → HI → Prop}  (h : M_looks I x1 x2 Q) : Met l yX11_looks (hws0 yX11_looks cX11_looks 4 (some .boolean)) { frames := 3, cells := 0, slots := 0, locals := 68 } (hPc D cA z Ev0 (I, J, T, FM, LM) sz [.ref (z + 0), .int x1, .int x2]) (va_Qi (pI J T FM LM Q) (hB D cA z (hA z LM sz)) (hA z LM sz)) 0 0 (hA z LM sz) := by
  refine hm_met (I, J, T, FM, LM) [.ref (z + 0), .int x1, .int x2] rfl (by decide) (Nat.le_of_ble_eq_true rfl) ?_
  intro p e s m below meth c ls X hr hlk hnm hxt hsz hw hl
  have hl : lv_has ls 4 [(0, .ref (z + 0)), (1, .int x1), (2, .int x2)] := hl
  have hR : 3 ≤ ({ frames := 3, cells := 0, slots := 0, locals := 68 } : Room).frames ∧ 68 ≤ ({ frames := 3, cells := 0, slots := 0, locals := 68 } : Room).locals := ⟨Nat.le_refl _, Nat.le_refl _⟩
  generalize ({ frames := 3, cells := 0, slots := 0, locals := 68 } : Room) = R at hR ⊢
  clear hsz
  generalize (hA z LM sz) = A at hw ⊢
  have hx := X.1
  have hb := X.2.1
  unfold M_looks at h
  refine lv_aload_n hx hb dX11_looks_0 rfl (lv_at hl 0 rfl) ?_
  refine lv_iload_n hx hb dX11_looks_1 rfl (lv_at hl 1 rfl) ?_
  refine hm_calli hw (hm_runV (rest := []) hCl_true X hw (cM_isWearer  h) ykM_isWearer kw1593 rfl LM_0 rfl hl.1 rfl rfl rfl (Nat.le_of_ble_eq_true rfl) ⟨Nat.le_trans (Nat.le_of_ble_eq_true rfl) hR.1, Nat.le_trans (Nat.le_of_ble_eq_true rfl) hR.2⟩ ⟨Nat.zero_le _, Nat.zero_le _⟩ dX11_looks_2) (fun r1 u3 H locs hp hw => ?_)
  obtain ⟨I2, rfl, h⟩ := hp
  refine lv_if_ne (tgt := 10) hx hb dX11_looks_5 (by decide) (fun hc => ?_) (fun hc => ?_)
  · have h := Eq.mp (if_neg hc) h
    refine lv_iload_n hx hb dX11_looks_10 rfl (lv_at hl 2 rfl) ?_
    refine lv_aload_n hx hb dX11_looks_11 rfl (lv_at hl 0 rfl) ?_
    refine hm_calli hw (hm_runV (rest := [_]) hCl_true X hw (cM_all  h) ykM_all kw1333 rfl LM_0 rfl hl.1 rfl rfl rfl (Nat.le_of_ble_eq_true rfl) ⟨Nat.le_trans (Nat.le_of_ble_eq_true rfl) hR.1, Nat.le_trans (Nat.le_of_ble_eq_true rfl) hR.2⟩ ⟨Nat.zero_le _, Nat.zero_le _⟩ dX11_looks_12) (fun r4 u5 H locs hp hw => ?_)
    obtain ⟨rfl, h⟩ := hp
    refine lv_iconst (v := 1) hx hb dX11_looks_15 (by decide) ?_
    refine lv_iload_n hx hb dX11_looks_16 rfl (lv_at hl 1 rfl) ?_
    refine lv_ishl hx hb dX11_looks_17 ?_
    refine lv_iconst (v := (-1)) hx hb dX11_looks_18 (by decide) ?_
    refine lv_ixor hx hb dX11_looks_19 ?_
    refine lv_iand hx hb dX11_looks_20 ?_
    refine lv_iconst (v := (-1)) hx hb dX11_looks_21 (by decide) ?_
    refine lv_ixor hx hb dX11_looks_22 ?_
    refine lv_iand hx hb dX11_looks_23 ?_
    refine lv_if_eq (tgt := 29) hx hb dX11_looks_24 (by decide) (fun hc => ?_) (fun hc => ?_)
    · have h := Eq.mp (if_pos hc) h
      refine lv_aload_n hx hb dX11_looks_29 rfl (lv_at hl 0 rfl) ?_
      refine hm_getr X hw lkM_26 LM_0 (b := 2) rfl dX11_looks_30 ?_
      refine lv_iload_n hx hb dX11_looks_33 rfl (lv_at hl 1 rfl) ?_
      obtain ⟨hi, h⟩ := h
      refine hm_iald X hw LM_2 hi dX11_looks_34 ?_
      refine lv_iload_n hx hb dX11_looks_35 rfl (lv_at hl 2 rfl) ?_
      refine lv_icmp_eq (tgt := 43) hx hb dX11_looks_36 (by decide) (fun hc => ?_) (fun hc => ?_)
      · have h := Eq.mp (if_pos hc) h
        refine lv_iconst (v := 0) hx hb dX11_looks_43 (by decide) ?_
        exact wkM_looks_b44 X hr hlk hR   h hw (lv_sub hl [0, 1, 2] rfl)
      · have h := Eq.mp (if_neg hc) h
        refine lv_iconst (v := 1) hx hb dX11_looks_39 (by decide) ?_
        refine lv_goto (tgt := 44) hx hb dX11_looks_40 (by decide) ?_
        exact wkM_looks_b44 X hr hlk hR   h hw (lv_sub hl [0, 1, 2] rfl)
    · have h := Eq.mp (if_neg hc) h
      refine lv_iconst (v := 0) hx hb dX11_looks_27 (by decide) ?_
      exact hm_zret X hr hlk hw zb_0 ⟨_, rfl, h⟩ dX11_looks_28
  · have h := Eq.mp (if_pos hc) h
    refine lv_iconst (v := 0) hx hb dX11_looks_8 (by decide) ?_
    exact hm_zret X hr hlk hw zb_0 ⟨_, rfl, h⟩ dX11_looks_9

theorem wkM_round_l58 {J : HJ} {Q : Int32 → HI → Prop} (X : hX p m c s args RX11 cX11_round 4) (hr : meth.sig.returnType = (some .boolean)) (hlk : meth.locks = false) (hR : 3 ≤ R.frames ∧ 68 ≤ R.locals)   : ∀ (n : Nat) (I : HI) (x3 : Int32) {ls : Array Slot} {H : Heap} {locs : List Loc}, M_round_l58 Q n I x3 → hW D cA z Ev0 (I, J, T, FM, LM) A s H locs → lv_has ls 4 [(0, .ref (z + 0)), (3, .int x3)] → W p l e R s m args below meth c H locs 0 0 (MQ below (va_Qi (pI J T FM LM Q) (hB D cA z A) A) args s 0 0 A) (F0 m 58 ls []) := by
  have hx := X.1
  have hb := X.2.1
  intro n
  induction n with
  | zero => intro I x3 ls H locs h; exact False.elim h
  | succ n ih =>
    intro I x3 ls H locs h hw hl
    rw [M_round_l58] at h
    refine lv_iload_n hx hb dX11_round_58 rfl (lv_at hl 1 rfl) ?_
    refine lv_aload_n hx hb dX11_round_59 rfl (lv_at hl 0 rfl) ?_
    refine hm_geti X hw lkM_7 LM_0 dX11_round_60 ?_
    refine lv_icmp_ge (tgt := 101) hx hb dX11_round_63 (by decide) (fun hc => ?_) (fun hc => ?_)
    · have h := Eq.mp (if_pos hc) h
      refine lv_aload_n hx hb dX11_round_101 rfl (lv_at hl 0 rfl) ?_
      refine lv_iconst (v := 0) hx hb dX11_round_102 (by decide) ?_
      refine hm_puti X hw lkM_195 LM_0 rfl rfl dX11_round_103 (fun H locs hw => ?_)
      refine lv_iconst (v := 1) hx hb dX11_round_106 (by decide) ?_
      exact hm_zret X hr hlk hw zb_1 ⟨_, rfl, h⟩ dX11_round_107
    · have h := Eq.mp (if_neg hc) h
      refine lv_aload_n hx hb dX11_round_66 rfl (lv_at hl 0 rfl) ?_
      refine hm_getr X hw lkM_32 LM_0 (b := 4) rfl dX11_round_67 ?_
      refine lv_iload_n hx hb dX11_round_70 rfl (lv_at hl 1 rfl) ?_
      obtain ⟨hi, h⟩ := h
      refine hm_iald X hw LM_4 hi dX11_round_71 ?_
      refine lv_iconst (v := 1) hx hb dX11_round_72 (by decide) ?_
      refine lv_icmp_eq (tgt := 95) hx hb dX11_round_73 (by decide) (fun hc => ?_) (fun hc => ?_)
      · have h := Eq.mp (if_pos hc) h
        refine lv_iinc (v := x3 + 1) (lv' := [(3, _), (0, _)]) hx hb dX11_round_95 hl (k := 1) rfl rfl (by decide) rfl (fun ls hl => ?_)
        refine lv_goto (tgt := 58) hx hb dX11_round_98 (by decide) ?_
        exact ih _ _ h hw (lv_sub hl [1, 0] rfl)
      · have h := Eq.mp (if_neg hc) h
        refine lv_aload_n hx hb dX11_round_76 rfl (lv_at hl 0 rfl) ?_
        refine hm_getr X hw lkM_47 LM_0 (b := 9) rfl dX11_round_77 ?_
        refine lv_iload_n hx hb dX11_round_80 rfl (lv_at hl 1 rfl) ?_
        obtain ⟨hi, h⟩ := h
        refine hm_iald X hw LM_9 hi dX11_round_81 ?_
        refine lv_aload_n hx hb dX11_round_82 rfl (lv_at hl 0 rfl) ?_
        refine lv_iload_n hx hb dX11_round_83 rfl (lv_at hl 1 rfl) ?_
        refine hm_calli hw (hm_runV (rest := [_]) hCl_true X hw (cM_hears  h) ykM_hears kw1348 rfl LM_0 rfl hl.1 rfl rfl rfl (Nat.le_of_ble_eq_true rfl) ⟨Nat.le_trans (Nat.le_of_ble_eq_true rfl) hR.1, Nat.le_trans (Nat.le_of_ble_eq_true rfl) hR.2⟩ ⟨Nat.zero_le _, Nat.zero_le _⟩ dX11_round_84) (fun r6 u7 H locs hp hw => ?_)
        obtain ⟨rfl, h⟩ := hp
        refine lv_icmp_eq (tgt := 95) hx hb dX11_round_87 (by decide) (fun hc => ?_) (fun hc => ?_)
        · have h := Eq.mp (if_pos hc) h
          refine lv_iinc (v := x3 + 1) (lv' := [(3, _), (0, _)]) hx hb dX11_round_95 hl (k := 1) rfl rfl (by decide) rfl (fun ls hl => ?_)
          refine lv_goto (tgt := 58) hx hb dX11_round_98 (by decide) ?_
          exact ih _ _ h hw (lv_sub hl [1, 0] rfl)
        · have h := Eq.mp (if_neg hc) h
          refine lv_aload_n hx hb dX11_round_90 rfl (lv_at hl 0 rfl) ?_
          refine lv_iload_n hx hb dX11_round_91 rfl (lv_at hl 1 rfl) ?_
          refine hm_callv hw (hm_runV (rest := []) hCl_true X hw (cM_blank  h) ykM_blank kw1337 rfl LM_0 rfl hl.1 rfl rfl rfl (Nat.le_of_ble_eq_true rfl) ⟨Nat.le_trans (Nat.le_of_ble_eq_true rfl) hR.1, Nat.le_trans (Nat.le_of_ble_eq_true rfl) hR.2⟩ ⟨Nat.zero_le _, Nat.zero_le _⟩ dX11_round_92) (fun u9 H locs hp hw => ?_)
          obtain ⟨I8, rfl, h⟩ := hp
          refine lv_iinc (v := x3 + 1) (lv' := [(3, _), (0, _)]) hx hb dX11_round_95 hl (k := 1) rfl rfl (by decide) rfl (fun ls hl => ?_)
          refine lv_goto (tgt := 58) hx hb dX11_round_98 (by decide) ?_
          exact ih _ _ h hw (lv_sub hl [1, 0] rfl)

theorem wkM_round_l24 {J : HJ} {x1 : Int32} {x2 : Int32} {Q : Int32 → HI → Prop} (X : hX p m c s args RX11 cX11_round 4) (hr : meth.sig.returnType = (some .boolean)) (hlk : meth.locks = false) (hR : 3 ≤ R.frames ∧ 68 ≤ R.locals)   : ∀ (n : Nat) (I : HI) (x3 : Int32) {ls : Array Slot} {H : Heap} {locs : List Loc}, M_round_l24 x1 x2 Q n I x3 → hW D cA z Ev0 (I, J, T, FM, LM) A s H locs → lv_has ls 4 [(0, .ref (z + 0)), (1, .int x1), (2, .int x2), (3, .int x3)] → W p l e R s m args below meth c H locs 0 0 (MQ below (va_Qi (pI J T FM LM Q) (hB D cA z A) A) args s 0 0 A) (F0 m 24 ls []) := by
  have hx := X.1
  have hb := X.2.1
  intro n
  induction n with
  | zero => intro I x3 ls H locs h; exact False.elim h
  | succ n ih =>
    intro I x3 ls H locs h hw hl
    rw [M_round_l24] at h
    refine lv_iload_n hx hb dX11_round_24 rfl (lv_at hl 3 rfl) ?_
    refine lv_aload_n hx hb dX11_round_25 rfl (lv_at hl 0 rfl) ?_
    refine hm_geti X hw lkM_7 LM_0 dX11_round_26 ?_
    refine lv_icmp_ge (tgt := 49) hx hb dX11_round_29 (by decide) (fun hc => ?_) (fun hc => ?_)
    · have h := Eq.mp (if_pos hc) h
      refine lv_aload_n hx hb dX11_round_49 rfl (lv_at hl 0 rfl) ?_
      refine hm_getr X hw lkM_29 LM_0 (b := 3) rfl dX11_round_50 ?_
      refine lv_iload_n hx hb dX11_round_53 rfl (lv_at hl 1 rfl) ?_
      refine lv_iload_n hx hb dX11_round_54 rfl (lv_at hl 2 rfl) ?_
      obtain ⟨hi, h⟩ := h
      refine hm_iast X hw LM_3 hi dX11_round_55 (fun H locs hw => ?_)
      refine lv_iconst (v := 0) hx hb dX11_round_56 (by decide) ?_
      refine lv_istore_n (lv' := [(3, _), (0, _), (1, _), (2, _)]) hx hb dX11_round_57 rfl hl (by decide) rfl (fun ls hl => ?_)
      obtain ⟨n2, h⟩ := h
      exact wkM_round_l58 X hr hlk hR   n2 _ _ h hw (lv_sub hl [1, 0] rfl)
    · have h := Eq.mp (if_neg hc) h
      refine lv_aload_n hx hb dX11_round_32 rfl (lv_at hl 0 rfl) ?_
      refine hm_getr X hw lkM_47 LM_0 (b := 9) rfl dX11_round_33 ?_
      refine lv_iload_n hx hb dX11_round_36 rfl (lv_at hl 3 rfl) ?_
      refine lv_aload_n hx hb dX11_round_37 rfl (lv_at hl 0 rfl) ?_
      refine lv_iload_n hx hb dX11_round_38 rfl (lv_at hl 3 rfl) ?_
      refine hm_calli hw (hm_runV (rest := [_, _]) hCl_true X hw (cM_hears  h) ykM_hears kw1348 rfl LM_0 rfl hl.1 rfl rfl rfl (Nat.le_of_ble_eq_true rfl) ⟨Nat.le_trans (Nat.le_of_ble_eq_true rfl) hR.1, Nat.le_trans (Nat.le_of_ble_eq_true rfl) hR.2⟩ ⟨Nat.zero_le _, Nat.zero_le _⟩ dX11_round_39) (fun r10 u11 H locs hp hw => ?_)
      obtain ⟨rfl, h⟩ := hp
      obtain ⟨hi, h⟩ := h
      refine hm_iast X hw LM_9 hi dX11_round_42 (fun H locs hw => ?_)
      refine lv_iinc (v := x3 + 1) (lv' := [(3, _), (0, _), (1, _), (2, _)]) hx hb dX11_round_43 hl (k := 3) rfl rfl (by decide) rfl (fun ls hl => ?_)
      refine lv_goto (tgt := 24) hx hb dX11_round_46 (by decide) ?_
      exact ih _ _ h hw (lv_sub hl [1, 2, 3, 0] rfl)

theorem cM_round {l : Launch} {D : va_G} {cA : Nat → ClassId} {z sz : Nat} {I : HI} {J : HJ} {x1 : Int32} {x2 : Int32} {Q : Int32 → HI → Prop}  (h : M_round I x1 x2 Q) : Met l yX11_round (hws0 yX11_round cX11_round 4 (some .boolean)) { frames := 3, cells := 0, slots := 0, locals := 68 } (hPc D cA z Ev0 (I, J, T, FM, LM) sz [.ref (z + 0), .int x1, .int x2]) (va_Qi (pI J T FM LM Q) (hB D cA z (hA z LM sz)) (hA z LM sz)) 0 0 (hA z LM sz) := by
  refine hm_met (I, J, T, FM, LM) [.ref (z + 0), .int x1, .int x2] rfl (by decide) (Nat.le_of_ble_eq_true rfl) ?_
  intro p e s m below meth c ls X hr hlk hnm hxt hsz hw hl
  have hl : lv_has ls 4 [(0, .ref (z + 0)), (1, .int x1), (2, .int x2)] := hl
  have hR : 3 ≤ ({ frames := 3, cells := 0, slots := 0, locals := 68 } : Room).frames ∧ 68 ≤ ({ frames := 3, cells := 0, slots := 0, locals := 68 } : Room).locals := ⟨Nat.le_refl _, Nat.le_refl _⟩
  generalize ({ frames := 3, cells := 0, slots := 0, locals := 68 } : Room) = R at hR ⊢
  clear hsz
  generalize (hA z LM sz) = A at hw ⊢
  have hx := X.1
  have hb := X.2.1
  unfold M_round at h
  refine lv_aload_n hx hb dX11_round_0 rfl (lv_at hl 0 rfl) ?_
  refine lv_iload_n hx hb dX11_round_1 rfl (lv_at hl 1 rfl) ?_
  refine hm_calli hw (hm_runV (rest := []) hCl_true X hw (cM_isWearer  h) ykM_isWearer kw1593 rfl LM_0 rfl hl.1 rfl rfl rfl (Nat.le_of_ble_eq_true rfl) ⟨Nat.le_trans (Nat.le_of_ble_eq_true rfl) hR.1, Nat.le_trans (Nat.le_of_ble_eq_true rfl) hR.2⟩ ⟨Nat.zero_le _, Nat.zero_le _⟩ dX11_round_2) (fun r1 u3 H locs hp hw => ?_)
  obtain ⟨I2, rfl, h⟩ := hp
  refine lv_if_ne (tgt := 10) hx hb dX11_round_5 (by decide) (fun hc => ?_) (fun hc => ?_)
  · have h := Eq.mp (if_neg hc) h
    refine lv_iload_n hx hb dX11_round_10 rfl (lv_at hl 2 rfl) ?_
    refine lv_iconst (v := 0) hx hb dX11_round_11 (by decide) ?_
    refine lv_bipush (v := 7) hx hb dX11_round_12 (by decide) ?_
    refine hm_calli hw (hm_runS (rest := []) hCl_true X hw (cM_within  h) ykM_within kw1586 rfl hl.1 rfl rfl rfl (Nat.le_of_ble_eq_true rfl) ⟨Nat.le_trans (Nat.le_of_ble_eq_true rfl) hR.1, Nat.le_trans (Nat.le_of_ble_eq_true rfl) hR.2⟩ ⟨Nat.zero_le _, Nat.zero_le _⟩ dX11_round_14) (fun r4 u5 H locs hp hw => ?_)
    obtain ⟨rfl, h⟩ := hp
    refine lv_if_ne (tgt := 22) hx hb dX11_round_17 (by decide) (fun hc => ?_) (fun hc => ?_)
    · have h := Eq.mp (if_neg hc) h
      refine lv_iconst (v := 0) hx hb dX11_round_22 (by decide) ?_
      refine lv_istore_n (lv' := [(3, _), (0, _), (1, _), (2, _)]) hx hb dX11_round_23 rfl hl (by decide) rfl (fun ls hl => ?_)
      obtain ⟨n2, h⟩ := h
      exact wkM_round_l24 X hr hlk hR   n2 _ _ h hw (lv_sub hl [1, 2, 3, 0] rfl)
    · have h := Eq.mp (if_pos hc) h
      refine lv_iconst (v := 0) hx hb dX11_round_20 (by decide) ?_
      exact hm_zret X hr hlk hw zb_0 ⟨_, rfl, h⟩ dX11_round_21
  · have h := Eq.mp (if_pos hc) h
    refine lv_iconst (v := 0) hx hb dX11_round_8 (by decide) ?_
    exact hm_zret X hr hlk hw zb_0 ⟨_, rfl, h⟩ dX11_round_9

theorem cM_heap {l : Launch} {D : va_G} {cA : Nat → ClassId} {z sz : Nat} {I : HI} {J : HJ} {x1 : Int32} {x2 : Int32} {Q : Int32 → HI → Prop}  (h : M_heap I x1 x2 Q) : Met l yX11_heap (hws0 yX11_heap cX11_heap 3 (some .boolean)) { frames := 1, cells := 0, slots := 0, locals := 22 } (hPc D cA z Ev0 (I, J, T, FM, LM) sz [.ref (z + 0), .int x1, .int x2]) (va_Qi (pI J T FM LM Q) (hB D cA z (hA z LM sz)) (hA z LM sz)) 0 0 (hA z LM sz) := by
  refine hm_met (I, J, T, FM, LM) [.ref (z + 0), .int x1, .int x2] rfl (by decide) (Nat.le_of_ble_eq_true rfl) ?_
  intro p e s m below meth c ls X hr hlk hnm hxt hsz hw hl
  have hl : lv_has ls 3 [(0, .ref (z + 0)), (1, .int x1), (2, .int x2)] := hl
  have hR : 1 ≤ ({ frames := 1, cells := 0, slots := 0, locals := 22 } : Room).frames ∧ 22 ≤ ({ frames := 1, cells := 0, slots := 0, locals := 22 } : Room).locals := ⟨Nat.le_refl _, Nat.le_refl _⟩
  generalize ({ frames := 1, cells := 0, slots := 0, locals := 22 } : Room) = R at hR ⊢
  clear hsz
  generalize (hA z LM sz) = A at hw ⊢
  have hx := X.1
  have hb := X.2.1
  unfold M_heap at h
  refine lv_aload_n hx hb dX11_heap_0 rfl (lv_at hl 0 rfl) ?_
  refine lv_iconst (v := 0) hx hb dX11_heap_1 (by decide) ?_
  refine hm_puti X hw lkM_174 LM_0 rfl rfl dX11_heap_2 (fun H locs hw => ?_)
  refine lv_iload_n hx hb dX11_heap_5 rfl (lv_at hl 1 rfl) ?_
  refine lv_iconst (v := 0) hx hb dX11_heap_6 (by decide) ?_
  refine lv_aload_n hx hb dX11_heap_7 rfl (lv_at hl 0 rfl) ?_
  refine hm_geti X hw lkM_13 LM_0 dX11_heap_8 ?_
  refine lv_iconst (v := 1) hx hb dX11_heap_11 (by decide) ?_
  refine lv_isub hx hb dX11_heap_12 ?_
  refine hm_calli hw (hm_runS (rest := []) hCl_true X hw (cM_within  h) ykM_within kw1586 rfl hl.1 rfl rfl rfl (Nat.le_of_ble_eq_true rfl) ⟨Nat.le_trans (Nat.le_of_ble_eq_true rfl) hR.1, Nat.le_trans (Nat.le_of_ble_eq_true rfl) hR.2⟩ ⟨Nat.zero_le _, Nat.zero_le _⟩ dX11_heap_13) (fun r1 u2 H locs hp hw => ?_)
  obtain ⟨rfl, h⟩ := hp
  refine lv_if_eq (tgt := 29) hx hb dX11_heap_16 (by decide) (fun hc => ?_) (fun hc => ?_)
  · have h := Eq.mp (if_pos hc) h
    refine lv_iconst (v := 0) hx hb dX11_heap_29 (by decide) ?_
    exact hm_zret X hr hlk hw zb_0 ⟨_, rfl, h⟩ dX11_heap_30
  · have h := Eq.mp (if_neg hc) h
    refine lv_iload_n hx hb dX11_heap_19 rfl (lv_at hl 2 rfl) ?_
    refine lv_iconst (v := 0) hx hb dX11_heap_20 (by decide) ?_
    refine lv_bipush (v := 9) hx hb dX11_heap_21 (by decide) ?_
    refine hm_calli hw (hm_runS (rest := []) hCl_true X hw (cM_within  h) ykM_within kw1586 rfl hl.1 rfl rfl rfl (Nat.le_of_ble_eq_true rfl) ⟨Nat.le_trans (Nat.le_of_ble_eq_true rfl) hR.1, Nat.le_trans (Nat.le_of_ble_eq_true rfl) hR.2⟩ ⟨Nat.zero_le _, Nat.zero_le _⟩ dX11_heap_23) (fun r3 u4 H locs hp hw => ?_)
    obtain ⟨rfl, h⟩ := hp
    refine lv_if_ne (tgt := 31) hx hb dX11_heap_26 (by decide) (fun hc => ?_) (fun hc => ?_)
    · have h := Eq.mp (if_neg hc) h
      refine lv_aload_n hx hb dX11_heap_31 rfl (lv_at hl 0 rfl) ?_
      refine hm_getr X hw lkM_22 LM_0 (b := 1) rfl dX11_heap_32 ?_
      refine lv_iload_n hx hb dX11_heap_35 rfl (lv_at hl 1 rfl) ?_
      refine lv_iload_n hx hb dX11_heap_36 rfl (lv_at hl 2 rfl) ?_
      obtain ⟨hi, h⟩ := h
      refine hm_iast X hw LM_1 hi dX11_heap_37 (fun H locs hw => ?_)
      refine lv_iconst (v := 1) hx hb dX11_heap_38 (by decide) ?_
      exact hm_zret X hr hlk hw zb_1 ⟨_, rfl, h⟩ dX11_heap_39
    · have h := Eq.mp (if_pos hc) h
      refine lv_iconst (v := 0) hx hb dX11_heap_29 (by decide) ?_
      exact hm_zret X hr hlk hw zb_0 ⟨_, rfl, h⟩ dX11_heap_30

theorem cM_law {l : Launch} {D : va_G} {cA : Nat → ClassId} {z sz : Nat} {I : HI} {J : HJ} {x1 : Int32} {x2 : Int32} {Q : Int32 → HI → Prop}  (h : M_law I x1 x2 Q) : Met l yX11_law (hws0 yX11_law cX11_law 3 (some .boolean)) { frames := 1, cells := 0, slots := 0, locals := 22 } (hPc D cA z Ev0 (I, J, T, FM, LM) sz [.ref (z + 0), .int x1, .int x2]) (va_Qi (pI J T FM LM Q) (hB D cA z (hA z LM sz)) (hA z LM sz)) 0 0 (hA z LM sz) := by
  refine hm_met (I, J, T, FM, LM) [.ref (z + 0), .int x1, .int x2] rfl (by decide) (Nat.le_of_ble_eq_true rfl) ?_
  intro p e s m below meth c ls X hr hlk hnm hxt hsz hw hl
  have hl : lv_has ls 3 [(0, .ref (z + 0)), (1, .int x1), (2, .int x2)] := hl
  have hR : 1 ≤ ({ frames := 1, cells := 0, slots := 0, locals := 22 } : Room).frames ∧ 22 ≤ ({ frames := 1, cells := 0, slots := 0, locals := 22 } : Room).locals := ⟨Nat.le_refl _, Nat.le_refl _⟩
  generalize ({ frames := 1, cells := 0, slots := 0, locals := 22 } : Room) = R at hR ⊢
  clear hsz
  generalize (hA z LM sz) = A at hw ⊢
  have hx := X.1
  have hb := X.2.1
  unfold M_law at h
  refine lv_aload_n hx hb dX11_law_0 rfl (lv_at hl 0 rfl) ?_
  refine lv_iconst (v := 0) hx hb dX11_law_1 (by decide) ?_
  refine hm_puti X hw lkM_174 LM_0 rfl rfl dX11_law_2 (fun H locs hw => ?_)
  refine lv_iload_n hx hb dX11_law_5 rfl (lv_at hl 1 rfl) ?_
  refine lv_iconst (v := 0) hx hb dX11_law_6 (by decide) ?_
  refine lv_iconst (v := 3) hx hb dX11_law_7 (by decide) ?_
  refine hm_calli hw (hm_runS (rest := []) hCl_true X hw (cM_within  h) ykM_within kw1586 rfl hl.1 rfl rfl rfl (Nat.le_of_ble_eq_true rfl) ⟨Nat.le_trans (Nat.le_of_ble_eq_true rfl) hR.1, Nat.le_trans (Nat.le_of_ble_eq_true rfl) hR.2⟩ ⟨Nat.zero_le _, Nat.zero_le _⟩ dX11_law_8) (fun r1 u2 H locs hp hw => ?_)
  obtain ⟨rfl, h⟩ := hp
  refine lv_if_eq (tgt := 24) hx hb dX11_law_11 (by decide) (fun hc => ?_) (fun hc => ?_)
  · have h := Eq.mp (if_pos hc) h
    refine lv_iconst (v := 0) hx hb dX11_law_24 (by decide) ?_
    exact hm_zret X hr hlk hw zb_0 ⟨_, rfl, h⟩ dX11_law_25
  · have h := Eq.mp (if_neg hc) h
    refine lv_iload_n hx hb dX11_law_14 rfl (lv_at hl 2 rfl) ?_
    refine lv_iconst (v := 0) hx hb dX11_law_15 (by decide) ?_
    refine lv_bipush (v := 8) hx hb dX11_law_16 (by decide) ?_
    refine hm_calli hw (hm_runS (rest := []) hCl_true X hw (cM_within  h) ykM_within kw1586 rfl hl.1 rfl rfl rfl (Nat.le_of_ble_eq_true rfl) ⟨Nat.le_trans (Nat.le_of_ble_eq_true rfl) hR.1, Nat.le_trans (Nat.le_of_ble_eq_true rfl) hR.2⟩ ⟨Nat.zero_le _, Nat.zero_le _⟩ dX11_law_18) (fun r3 u4 H locs hp hw => ?_)
    obtain ⟨rfl, h⟩ := hp
    refine lv_if_ne (tgt := 26) hx hb dX11_law_21 (by decide) (fun hc => ?_) (fun hc => ?_)
    · have h := Eq.mp (if_neg hc) h
      refine lv_aload_n hx hb dX11_law_26 rfl (lv_at hl 0 rfl) ?_
      refine lv_iload_n hx hb dX11_law_27 rfl (lv_at hl 1 rfl) ?_
      refine hm_puti X hw lkM_211 LM_0 rfl rfl dX11_law_28 (fun H locs hw => ?_)
      refine lv_aload_n hx hb dX11_law_31 rfl (lv_at hl 0 rfl) ?_
      refine lv_iload_n hx hb dX11_law_32 rfl (lv_at hl 2 rfl) ?_
      refine hm_puti X hw lkM_19 LM_0 rfl rfl dX11_law_33 (fun H locs hw => ?_)
      refine lv_iconst (v := 1) hx hb dX11_law_36 (by decide) ?_
      exact hm_zret X hr hlk hw zb_1 ⟨_, rfl, h⟩ dX11_law_37
    · have h := Eq.mp (if_pos hc) h
      refine lv_iconst (v := 0) hx hb dX11_law_24 (by decide) ?_
      exact hm_zret X hr hlk hw zb_0 ⟨_, rfl, h⟩ dX11_law_25

theorem wkM_lays_l3 {J : HJ} {x1 : Int32} {Q : HI → Prop} (X : hX p m c s args RX11 cX11_lays 3) (hr : meth.sig.returnType = none) (hlk : meth.locks = false) (hR : 0 ≤ R.frames ∧ 0 ≤ R.locals)   : ∀ (n : Nat) (I : HI) (x2 : Int32) {ls : Array Slot} {H : Heap} {locs : List Loc}, M_lays_l3 x1 Q n I x2 → hW D cA z Ev0 (I, J, T, FM, LM) A s H locs → lv_has ls 3 [(0, .ref (z + 0)), (1, .int x1), (2, .int x2)] → W p l e R s m args below meth c H locs 0 0 (MQ below (va_Qv (pIv J T FM LM Q) (hB D cA z A) A) args s 0 0 A) (F0 m 3 ls []) := by
  have hx := X.1
  have hb := X.2.1
  intro n
  induction n with
  | zero => intro I x2 ls H locs h; exact False.elim h
  | succ n ih =>
    intro I x2 ls H locs h hw hl
    rw [M_lays_l3] at h
    refine lv_iload_n hx hb dX11_lays_3 rfl (lv_at hl 2 rfl) ?_
    refine lv_if_lt (tgt := 39) hx hb dX11_lays_4 (by decide) (fun hc => ?_) (fun hc => ?_)
    · have h := Eq.mp (if_pos hc) h
      exact hm_vret X hr hlk hw ⟨_, rfl, h⟩ dX11_lays_39
    · have h := Eq.mp (if_neg hc) h
      refine lv_aload_n hx hb dX11_lays_7 rfl (lv_at hl 0 rfl) ?_
      refine hm_getr X hw lkM_50 LM_0 (b := 10) rfl dX11_lays_8 ?_
      refine lv_aload_n hx hb dX11_lays_11 rfl (lv_at hl 0 rfl) ?_
      refine hm_geti X hw lkM_214 LM_0 dX11_lays_12 ?_
      refine lv_iload_n hx hb dX11_lays_15 rfl (lv_at hl 1 rfl) ?_
      refine lv_iload_n hx hb dX11_lays_16 rfl (lv_at hl 2 rfl) ?_
      refine lv_ishr hx hb dX11_lays_17 ?_
      refine lv_sipush (v := 255) hx hb dX11_lays_18 (by decide) ?_
      refine lv_iand hx hb dX11_lays_21 ?_
      obtain ⟨hi, h⟩ := h
      refine hm_iast X hw LM_10 hi dX11_lays_22 (fun H locs hw => ?_)
      refine lv_aload_n hx hb dX11_lays_23 rfl (lv_at hl 0 rfl) ?_
      refine lv_dup hx hb dX11_lays_24 rfl ?_
      refine hm_geti X hw lkM_214 LM_0 dX11_lays_25 ?_
      refine lv_iconst (v := 1) hx hb dX11_lays_28 (by decide) ?_
      refine lv_iadd hx hb dX11_lays_29 ?_
      refine hm_puti X hw lkM_214 LM_0 rfl rfl dX11_lays_30 (fun H locs hw => ?_)
      refine lv_iinc (v := x2 + (-8)) (lv' := [(2, _), (0, _), (1, _)]) hx hb dX11_lays_33 hl (k := 2) rfl rfl (by decide) rfl (fun ls hl => ?_)
      refine lv_goto (tgt := 3) hx hb dX11_lays_36 (by decide) ?_
      exact ih _ _ h hw (lv_sub hl [1, 2, 0] rfl)

theorem cM_lays {l : Launch} {D : va_G} {cA : Nat → ClassId} {z sz : Nat} {I : HI} {J : HJ} {x1 : Int32} {Q : HI → Prop}  (h : M_lays I x1 Q) : Met l yX11_lays (hws0 yX11_lays cX11_lays 3 none) { frames := 0, cells := 0, slots := 0, locals := 0 } (hPc D cA z Ev0 (I, J, T, FM, LM) sz [.ref (z + 0), .int x1]) (va_Qv (pIv J T FM LM Q) (hB D cA z (hA z LM sz)) (hA z LM sz)) 0 0 (hA z LM sz) := by
  refine hm_met (I, J, T, FM, LM) [.ref (z + 0), .int x1] rfl (by decide) (Nat.le_of_ble_eq_true rfl) ?_
  intro p e s m below meth c ls X hr hlk hnm hxt hsz hw hl
  have hl : lv_has ls 3 [(0, .ref (z + 0)), (1, .int x1)] := hl
  have hR : 0 ≤ ({ frames := 0, cells := 0, slots := 0, locals := 0 } : Room).frames ∧ 0 ≤ ({ frames := 0, cells := 0, slots := 0, locals := 0 } : Room).locals := ⟨Nat.le_refl _, Nat.le_refl _⟩
  generalize ({ frames := 0, cells := 0, slots := 0, locals := 0 } : Room) = R at hR ⊢
  clear hsz
  generalize (hA z LM sz) = A at hw ⊢
  have hx := X.1
  have hb := X.2.1
  unfold M_lays at h
  refine lv_bipush (v := 24) hx hb dX11_lays_0 (by decide) ?_
  refine lv_istore_n (lv' := [(2, _), (0, _), (1, _)]) hx hb dX11_lays_2 rfl hl (by decide) rfl (fun ls hl => ?_)
  obtain ⟨n2, h⟩ := h
  exact wkM_lays_l3 X hr hlk hR   n2 _ _ h hw (lv_sub hl [1, 2, 0] rfl)

theorem cM_feed {l : Launch} {D : va_G} {cA : Nat → ClassId} {z sz : Nat} {I : HI} {J : HJ} {x1 : Int32} {x2 : Int32} {x3 : Int32} {x4 : Int32} {x5 : Int32} {Q : Int32 → HI → Prop}  (h : M_feed I x1 x2 x3 x4 x5 Q) : Met l yX11_feed (hws0 yX11_feed cX11_feed 6 (some .int)) { frames := 1, cells := 0, slots := 0, locals := 22 } (hPc D cA z Ev0 (I, J, T, FM, LM) sz [.ref (z + 0), .int x1, .int x2, .int x3, .int x4, .int x5]) (va_Qi (pI J T FM LM Q) (hB D cA z (hA z LM sz)) (hA z LM sz)) 0 0 (hA z LM sz) := by
  refine hm_met (I, J, T, FM, LM) [.ref (z + 0), .int x1, .int x2, .int x3, .int x4, .int x5] rfl (by decide) (Nat.le_of_ble_eq_true rfl) ?_
  intro p e s m below meth c ls X hr hlk hnm hxt hsz hw hl
  have hl : lv_has ls 6 [(0, .ref (z + 0)), (1, .int x1), (2, .int x2), (3, .int x3), (4, .int x4), (5, .int x5)] := hl
  have hR : 1 ≤ ({ frames := 1, cells := 0, slots := 0, locals := 22 } : Room).frames ∧ 22 ≤ ({ frames := 1, cells := 0, slots := 0, locals := 22 } : Room).locals := ⟨Nat.le_refl _, Nat.le_refl _⟩
  generalize ({ frames := 1, cells := 0, slots := 0, locals := 22 } : Room) = R at hR ⊢
  clear hsz
  generalize (hA z LM sz) = A at hw ⊢
  have hx := X.1
  have hb := X.2.1
  unfold M_feed at h
  refine lv_aload_n hx hb dX11_feed_0 rfl (lv_at hl 0 rfl) ?_
  refine lv_iconst (v := 0) hx hb dX11_feed_1 (by decide) ?_
  refine hm_puti X hw lkM_174 LM_0 rfl rfl dX11_feed_2 (fun H locs hw => ?_)
  refine lv_aload_n hx hb dX11_feed_5 rfl (lv_at hl 0 rfl) ?_
  refine hm_geti X hw lkM_214 LM_0 dX11_feed_6 ?_
  refine lv_bipush (v := 20) hx hb dX11_feed_9 (by decide) ?_
  refine lv_iadd hx hb dX11_feed_11 ?_
  refine lv_sipush (v := 500) hx hb dX11_feed_12 (by decide) ?_
  refine lv_icmp_le (tgt := 20) hx hb dX11_feed_15 (by decide) (fun hc => ?_) (fun hc => ?_)
  · have h := Eq.mp (if_pos hc) h
    refine lv_aload_n hx hb dX11_feed_20 rfl (lv_at hl 0 rfl) ?_
    refine lv_iload_n hx hb dX11_feed_21 rfl (lv_at hl 1 rfl) ?_
    refine hm_callv hw (hm_runV (rest := []) hCl_true X hw (cM_lays  h) ykM_lays kw1617 rfl LM_0 rfl hl.1 rfl rfl rfl (Nat.le_of_ble_eq_true rfl) ⟨Nat.le_trans (Nat.le_of_ble_eq_true rfl) hR.1, Nat.le_trans (Nat.le_of_ble_eq_true rfl) hR.2⟩ ⟨Nat.zero_le _, Nat.zero_le _⟩ dX11_feed_22) (fun u2 H locs hp hw => ?_)
    obtain ⟨I1, rfl, h⟩ := hp
    refine lv_aload_n hx hb dX11_feed_25 rfl (lv_at hl 0 rfl) ?_
    refine lv_iload_n hx hb dX11_feed_26 rfl (lv_at hl 2 rfl) ?_
    refine hm_callv hw (hm_runV (rest := []) hCl_true X hw (cM_lays  h) ykM_lays kw1617 rfl LM_0 rfl hl.1 rfl rfl rfl (Nat.le_of_ble_eq_true rfl) ⟨Nat.le_trans (Nat.le_of_ble_eq_true rfl) hR.1, Nat.le_trans (Nat.le_of_ble_eq_true rfl) hR.2⟩ ⟨Nat.zero_le _, Nat.zero_le _⟩ dX11_feed_27) (fun u4 H locs hp hw => ?_)
    obtain ⟨I3, rfl, h⟩ := hp
    refine lv_aload_n hx hb dX11_feed_30 rfl (lv_at hl 0 rfl) ?_
    refine lv_iload_n hx hb dX11_feed_31 rfl (lv_at hl 3 rfl) ?_
    refine hm_callv hw (hm_runV (rest := []) hCl_true X hw (cM_lays  h) ykM_lays kw1617 rfl LM_0 rfl hl.1 rfl rfl rfl (Nat.le_of_ble_eq_true rfl) ⟨Nat.le_trans (Nat.le_of_ble_eq_true rfl) hR.1, Nat.le_trans (Nat.le_of_ble_eq_true rfl) hR.2⟩ ⟨Nat.zero_le _, Nat.zero_le _⟩ dX11_feed_32) (fun u6 H locs hp hw => ?_)
    obtain ⟨I5, rfl, h⟩ := hp
    refine lv_aload_n hx hb dX11_feed_35 rfl (lv_at hl 0 rfl) ?_
    refine lv_iload hx hb dX11_feed_36 (lv_at hl 4 rfl) ?_
    refine hm_callv hw (hm_runV (rest := []) hCl_true X hw (cM_lays  h) ykM_lays kw1617 rfl LM_0 rfl hl.1 rfl rfl rfl (Nat.le_of_ble_eq_true rfl) ⟨Nat.le_trans (Nat.le_of_ble_eq_true rfl) hR.1, Nat.le_trans (Nat.le_of_ble_eq_true rfl) hR.2⟩ ⟨Nat.zero_le _, Nat.zero_le _⟩ dX11_feed_38) (fun u8 H locs hp hw => ?_)
    obtain ⟨I7, rfl, h⟩ := hp
    refine lv_aload_n hx hb dX11_feed_41 rfl (lv_at hl 0 rfl) ?_
    refine lv_iload hx hb dX11_feed_42 (lv_at hl 5 rfl) ?_
    refine hm_callv hw (hm_runV (rest := []) hCl_true X hw (cM_lays  h) ykM_lays kw1617 rfl LM_0 rfl hl.1 rfl rfl rfl (Nat.le_of_ble_eq_true rfl) ⟨Nat.le_trans (Nat.le_of_ble_eq_true rfl) hR.1, Nat.le_trans (Nat.le_of_ble_eq_true rfl) hR.2⟩ ⟨Nat.zero_le _, Nat.zero_le _⟩ dX11_feed_44) (fun u10 H locs hp hw => ?_)
    obtain ⟨I9, rfl, h⟩ := hp
    refine lv_aload_n hx hb dX11_feed_47 rfl (lv_at hl 0 rfl) ?_
    refine hm_geti X hw lkM_214 LM_0 dX11_feed_48 ?_
    exact hm_iret X hr hlk hw ⟨_, rfl, h⟩ dX11_feed_51
  · have h := Eq.mp (if_neg hc) h
    refine lv_iconst (v := (-1)) hx hb dX11_feed_18 (by decide) ?_
    exact hm_iret X hr hlk hw ⟨_, rfl, h⟩ dX11_feed_19

end
end
