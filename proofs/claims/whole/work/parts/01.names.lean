-- ===== PART A: goes FIRST, ahead of the names: the tables' words, and 'selects' of the private methods out of them =====
/-- a private method of a class that the tables say can be made, by its rows of tables_1 -/
def lw_okq (q : MethodName × Nat) : Prop := (q.1.cls ≠ "java/lang/invoke/MethodHandle" ∧ q.1.cls ≠ "java/lang/invoke/VarHandle") ∧ Cond.instantiable q.1.cls q.2 ∈ tables_1 ∧ Cond.privateMethod q.1 ∈ tables_1 ∧ Cond.instanceMethod q.1 ∈ tables_1
theorem lw_p0 : lw_okq (⟨"GaugeNet", "putBytes", "(I)V"⟩, 12) := ⟨⟨by decide +kernel, by decide +kernel⟩, List.mem_of_getElem? (i := 21) (by decide +kernel), List.mem_of_getElem? (i := 347) (by decide +kernel), List.mem_of_getElem? (i := 348) (by decide +kernel)⟩
theorem lw_p1 : lw_okq (⟨"GaugeNet$Tokens", "take", "([BII)I"⟩, 4) := ⟨⟨by decide +kernel, by decide +kernel⟩, List.mem_of_getElem? (i := 35) (by decide +kernel), List.mem_of_getElem? (i := 376) (by decide +kernel), List.mem_of_getElem? (i := 377) (by decide +kernel)⟩
theorem lw_p2 : lw_okq (⟨"GaugeNet$Tokens", "takeLetters", "([BII)I"⟩, 4) := ⟨⟨by decide +kernel, by decide +kernel⟩, List.mem_of_getElem? (i := 35) (by decide +kernel), List.mem_of_getElem? (i := 383) (by decide +kernel), List.mem_of_getElem? (i := 384) (by decide +kernel)⟩
theorem lw_p3 : lw_okq (⟨"GaugeNet$Tokens", "put", "(IIJ)V"⟩, 4) := ⟨⟨by decide +kernel, by decide +kernel⟩, List.mem_of_getElem? (i := 35) (by decide +kernel), List.mem_of_getElem? (i := 454) (by decide +kernel), List.mem_of_getElem? (i := 455) (by decide +kernel)⟩
theorem lw_p4 : lw_okq (⟨"GaugeNet$Tokens", "takeDigits", "([BII)I"⟩, 4) := ⟨⟨by decide +kernel, by decide +kernel⟩, List.mem_of_getElem? (i := 35) (by decide +kernel), List.mem_of_getElem? (i := 461) (by decide +kernel), List.mem_of_getElem? (i := 462) (by decide +kernel)⟩
theorem lw_p5 : lw_okq (⟨"GaugeNet$Parser", "begin", "()V"⟩, 11) := ⟨⟨by decide +kernel, by decide +kernel⟩, List.mem_of_getElem? (i := 29) (by decide +kernel), List.mem_of_getElem? (i := 470) (by decide +kernel), List.mem_of_getElem? (i := 471) (by decide +kernel)⟩
theorem lw_p6 : lw_okq (⟨"GaugeNet$Parser", "kind", "()I"⟩, 11) := ⟨⟨by decide +kernel, by decide +kernel⟩, List.mem_of_getElem? (i := 29) (by decide +kernel), List.mem_of_getElem? (i := 481) (by decide +kernel), List.mem_of_getElem? (i := 482) (by decide +kernel)⟩
theorem lw_p7 : lw_okq (⟨"GaugeNet$Parser", "parseUnknown", "()V"⟩, 11) := ⟨⟨by decide +kernel, by decide +kernel⟩, List.mem_of_getElem? (i := 29) (by decide +kernel), List.mem_of_getElem? (i := 489) (by decide +kernel), List.mem_of_getElem? (i := 490) (by decide +kernel)⟩
theorem lw_p8 : lw_okq (⟨"GaugeNet$Parser", "acceptHead", "(III)Z"⟩, 11) := ⟨⟨by decide +kernel, by decide +kernel⟩, List.mem_of_getElem? (i := 29) (by decide +kernel), List.mem_of_getElem? (i := 493) (by decide +kernel), List.mem_of_getElem? (i := 494) (by decide +kernel)⟩
theorem lw_p9 : lw_okq (⟨"GaugeNet$Parser", "stop", "(I)Z"⟩, 11) := ⟨⟨by decide +kernel, by decide +kernel⟩, List.mem_of_getElem? (i := 29) (by decide +kernel), List.mem_of_getElem? (i := 497) (by decide +kernel), List.mem_of_getElem? (i := 498) (by decide +kernel)⟩
theorem lw_p10 : lw_okq (⟨"GaugeNet$Parser", "accept", "(I)Z"⟩, 11) := ⟨⟨by decide +kernel, by decide +kernel⟩, List.mem_of_getElem? (i := 29) (by decide +kernel), List.mem_of_getElem? (i := 505) (by decide +kernel), List.mem_of_getElem? (i := 506) (by decide +kernel)⟩
theorem lw_p11 : lw_okq (⟨"GaugeNet$Parser", "find", "(J)I"⟩, 11) := ⟨⟨by decide +kernel, by decide +kernel⟩, List.mem_of_getElem? (i := 29) (by decide +kernel), List.mem_of_getElem? (i := 513) (by decide +kernel), List.mem_of_getElem? (i := 514) (by decide +kernel)⟩
theorem lw_p12 : lw_okq (⟨"GaugeNet$Parser", "keep", "(II)V"⟩, 11) := ⟨⟨by decide +kernel, by decide +kernel⟩, List.mem_of_getElem? (i := 29) (by decide +kernel), List.mem_of_getElem? (i := 517) (by decide +kernel), List.mem_of_getElem? (i := 518) (by decide +kernel)⟩
theorem lw_p13 : lw_okq (⟨"GaugeNet$Parser", "parseEq", "()V"⟩, 11) := ⟨⟨by decide +kernel, by decide +kernel⟩, List.mem_of_getElem? (i := 29) (by decide +kernel), List.mem_of_getElem? (i := 521) (by decide +kernel), List.mem_of_getElem? (i := 522) (by decide +kernel)⟩
theorem lw_p14 : lw_okq (⟨"GaugeNet$Parser", "parsePositions", "(I)Z"⟩, 11) := ⟨⟨by decide +kernel, by decide +kernel⟩, List.mem_of_getElem? (i := 29) (by decide +kernel), List.mem_of_getElem? (i := 525) (by decide +kernel), List.mem_of_getElem? (i := 526) (by decide +kernel)⟩
theorem lw_p15 : lw_okq (⟨"GaugeNet$Parser", "parsePosition", "(I)Z"⟩, 11) := ⟨⟨by decide +kernel, by decide +kernel⟩, List.mem_of_getElem? (i := 29) (by decide +kernel), List.mem_of_getElem? (i := 533) (by decide +kernel), List.mem_of_getElem? (i := 534) (by decide +kernel)⟩
def lw_privs_1 : List (MethodName × Nat) := [(⟨"GaugeNet", "putBytes", "(I)V"⟩, 12), (⟨"GaugeNet$Tokens", "take", "([BII)I"⟩, 4), (⟨"GaugeNet$Tokens", "takeLetters", "([BII)I"⟩, 4), (⟨"GaugeNet$Tokens", "put", "(IIJ)V"⟩, 4), (⟨"GaugeNet$Tokens", "takeDigits", "([BII)I"⟩, 4), (⟨"GaugeNet$Parser", "begin", "()V"⟩, 11), (⟨"GaugeNet$Parser", "kind", "()I"⟩, 11), (⟨"GaugeNet$Parser", "parseUnknown", "()V"⟩, 11), (⟨"GaugeNet$Parser", "acceptHead", "(III)Z"⟩, 11), (⟨"GaugeNet$Parser", "stop", "(I)Z"⟩, 11), (⟨"GaugeNet$Parser", "accept", "(I)Z"⟩, 11), (⟨"GaugeNet$Parser", "find", "(J)I"⟩, 11), (⟨"GaugeNet$Parser", "keep", "(II)V"⟩, 11), (⟨"GaugeNet$Parser", "parseEq", "()V"⟩, 11), (⟨"GaugeNet$Parser", "parsePositions", "(I)Z"⟩, 11), (⟨"GaugeNet$Parser", "parsePosition", "(I)Z"⟩, 11)]
theorem lw_r1 : ∀ q ∈ lw_privs_1, lw_okq q := List.forall_mem_cons.mpr ⟨lw_p0, List.forall_mem_cons.mpr ⟨lw_p1, List.forall_mem_cons.mpr ⟨lw_p2, List.forall_mem_cons.mpr ⟨lw_p3, List.forall_mem_cons.mpr ⟨lw_p4, List.forall_mem_cons.mpr ⟨lw_p5, List.forall_mem_cons.mpr ⟨lw_p6, List.forall_mem_cons.mpr ⟨lw_p7, List.forall_mem_cons.mpr ⟨lw_p8, List.forall_mem_cons.mpr ⟨lw_p9, List.forall_mem_cons.mpr ⟨lw_p10, List.forall_mem_cons.mpr ⟨lw_p11, List.forall_mem_cons.mpr ⟨lw_p12, List.forall_mem_cons.mpr ⟨lw_p13, List.forall_mem_cons.mpr ⟨lw_p14, List.forall_mem_cons.mpr ⟨lw_p15, fun _ h => absurd h List.not_mem_nil⟩⟩⟩⟩⟩⟩⟩⟩⟩⟩⟩⟩⟩⟩⟩⟩
theorem lw_p16 : lw_okq (⟨"GaugeNet$Parser", "intWithin", "(II)I"⟩, 11) := ⟨⟨by decide +kernel, by decide +kernel⟩, List.mem_of_getElem? (i := 29) (by decide +kernel), List.mem_of_getElem? (i := 537) (by decide +kernel), List.mem_of_getElem? (i := 538) (by decide +kernel)⟩
theorem lw_p17 : lw_okq (⟨"GaugeNet$Parser", "parseTerm", "(I)Z"⟩, 11) := ⟨⟨by decide +kernel, by decide +kernel⟩, List.mem_of_getElem? (i := 29) (by decide +kernel), List.mem_of_getElem? (i := 541) (by decide +kernel), List.mem_of_getElem? (i := 542) (by decide +kernel)⟩
theorem lw_p18 : lw_okq (⟨"GaugeNet$Parser", "parseNamed", "(II)Z"⟩, 11) := ⟨⟨by decide +kernel, by decide +kernel⟩, List.mem_of_getElem? (i := 29) (by decide +kernel), List.mem_of_getElem? (i := 545) (by decide +kernel), List.mem_of_getElem? (i := 546) (by decide +kernel)⟩
theorem lw_p19 : lw_okq (⟨"GaugeNet$Parser", "numberNamed", "(I)I"⟩, 11) := ⟨⟨by decide +kernel, by decide +kernel⟩, List.mem_of_getElem? (i := 29) (by decide +kernel), List.mem_of_getElem? (i := 549) (by decide +kernel), List.mem_of_getElem? (i := 550) (by decide +kernel)⟩
theorem lw_p20 : lw_okq (⟨"GaugeNet$Parser", "parseGauge", "(I)V"⟩, 11) := ⟨⟨by decide +kernel, by decide +kernel⟩, List.mem_of_getElem? (i := 29) (by decide +kernel), List.mem_of_getElem? (i := 568) (by decide +kernel), List.mem_of_getElem? (i := 569) (by decide +kernel)⟩
theorem lw_p21 : lw_okq (⟨"GaugeNet$Parser", "parseNoise", "(I)Z"⟩, 11) := ⟨⟨by decide +kernel, by decide +kernel⟩, List.mem_of_getElem? (i := 29) (by decide +kernel), List.mem_of_getElem? (i := 575) (by decide +kernel), List.mem_of_getElem? (i := 576) (by decide +kernel)⟩
theorem lw_p22 : lw_okq (⟨"GaugeNet$Parser", "parseCost", "(I)Z"⟩, 11) := ⟨⟨by decide +kernel, by decide +kernel⟩, List.mem_of_getElem? (i := 29) (by decide +kernel), List.mem_of_getElem? (i := 583) (by decide +kernel), List.mem_of_getElem? (i := 584) (by decide +kernel)⟩
theorem lw_p23 : lw_okq (⟨"GaugeNet$Parser", "parseFault", "()V"⟩, 11) := ⟨⟨by decide +kernel, by decide +kernel⟩, List.mem_of_getElem? (i := 29) (by decide +kernel), List.mem_of_getElem? (i := 591) (by decide +kernel), List.mem_of_getElem? (i := 592) (by decide +kernel)⟩
theorem lw_p24 : lw_okq (⟨"GaugeNet", "makeReady", "()V"⟩, 12) := ⟨⟨by decide +kernel, by decide +kernel⟩, List.mem_of_getElem? (i := 21) (by decide +kernel), List.mem_of_getElem? (i := 661) (by decide +kernel), List.mem_of_getElem? (i := 662) (by decide +kernel)⟩
theorem lw_p25 : lw_okq (⟨"GaugeNet$Pairs", "countOne", "(LGaugeNet$Works;I)I"⟩, 2) := ⟨⟨by decide +kernel, by decide +kernel⟩, List.mem_of_getElem? (i := 171) (by decide +kernel), List.mem_of_getElem? (i := 672) (by decide +kernel), List.mem_of_getElem? (i := 673) (by decide +kernel)⟩
theorem lw_p26 : lw_okq (⟨"GaugeNet$Tests", "addIfTest", "(LGaugeNet$Pairs;II)V"⟩, 5) := ⟨⟨by decide +kernel, by decide +kernel⟩, List.mem_of_getElem? (i := 185) (by decide +kernel), List.mem_of_getElem? (i := 693) (by decide +kernel), List.mem_of_getElem? (i := 694) (by decide +kernel)⟩
theorem lw_p27 : lw_okq (⟨"GaugeNet$Pairs", "pairRow", "(I)V"⟩, 2) := ⟨⟨by decide +kernel, by decide +kernel⟩, List.mem_of_getElem? (i := 171) (by decide +kernel), List.mem_of_getElem? (i := 718) (by decide +kernel), List.mem_of_getElem? (i := 719) (by decide +kernel)⟩
theorem lw_p28 : lw_okq (⟨"GaugeNet", "testAt", "(I)I"⟩, 12) := ⟨⟨by decide +kernel, by decide +kernel⟩, List.mem_of_getElem? (i := 21) (by decide +kernel), List.mem_of_getElem? (i := 746) (by decide +kernel), List.mem_of_getElem? (i := 747) (by decide +kernel)⟩
theorem lw_p29 : lw_okq (⟨"GaugeNet$Telling", "setNets", "(LGaugeNet$Works;III)V"⟩, 1) := ⟨⟨by decide +kernel, by decide +kernel⟩, List.mem_of_getElem? (i := 240) (by decide +kernel), List.mem_of_getElem? (i := 797) (by decide +kernel), List.mem_of_getElem? (i := 798) (by decide +kernel)⟩
theorem lw_p30 : lw_okq (⟨"GaugeNet$Telling", "isAllTold", "(LGaugeNet$Works;LGaugeNet$Pairs;I)Z"⟩, 1) := ⟨⟨by decide +kernel, by decide +kernel⟩, List.mem_of_getElem? (i := 240) (by decide +kernel), List.mem_of_getElem? (i := 807) (by decide +kernel), List.mem_of_getElem? (i := 808) (by decide +kernel)⟩
theorem lw_p31 : lw_okq (⟨"GaugeNet$Telling", "isSeen", "(LGaugeNet$Pairs;I)Z"⟩, 1) := ⟨⟨by decide +kernel, by decide +kernel⟩, List.mem_of_getElem? (i := 240) (by decide +kernel), List.mem_of_getElem? (i := 812) (by decide +kernel), List.mem_of_getElem? (i := 813) (by decide +kernel)⟩
def lw_privs_2 : List (MethodName × Nat) := [(⟨"GaugeNet$Parser", "intWithin", "(II)I"⟩, 11), (⟨"GaugeNet$Parser", "parseTerm", "(I)Z"⟩, 11), (⟨"GaugeNet$Parser", "parseNamed", "(II)Z"⟩, 11), (⟨"GaugeNet$Parser", "numberNamed", "(I)I"⟩, 11), (⟨"GaugeNet$Parser", "parseGauge", "(I)V"⟩, 11), (⟨"GaugeNet$Parser", "parseNoise", "(I)Z"⟩, 11), (⟨"GaugeNet$Parser", "parseCost", "(I)Z"⟩, 11), (⟨"GaugeNet$Parser", "parseFault", "()V"⟩, 11), (⟨"GaugeNet", "makeReady", "()V"⟩, 12), (⟨"GaugeNet$Pairs", "countOne", "(LGaugeNet$Works;I)I"⟩, 2), (⟨"GaugeNet$Tests", "addIfTest", "(LGaugeNet$Pairs;II)V"⟩, 5), (⟨"GaugeNet$Pairs", "pairRow", "(I)V"⟩, 2), (⟨"GaugeNet", "testAt", "(I)I"⟩, 12), (⟨"GaugeNet$Telling", "setNets", "(LGaugeNet$Works;III)V"⟩, 1), (⟨"GaugeNet$Telling", "isAllTold", "(LGaugeNet$Works;LGaugeNet$Pairs;I)Z"⟩, 1), (⟨"GaugeNet$Telling", "isSeen", "(LGaugeNet$Pairs;I)Z"⟩, 1)]
theorem lw_r2 : ∀ q ∈ lw_privs_2, lw_okq q := List.forall_mem_cons.mpr ⟨lw_p16, List.forall_mem_cons.mpr ⟨lw_p17, List.forall_mem_cons.mpr ⟨lw_p18, List.forall_mem_cons.mpr ⟨lw_p19, List.forall_mem_cons.mpr ⟨lw_p20, List.forall_mem_cons.mpr ⟨lw_p21, List.forall_mem_cons.mpr ⟨lw_p22, List.forall_mem_cons.mpr ⟨lw_p23, List.forall_mem_cons.mpr ⟨lw_p24, List.forall_mem_cons.mpr ⟨lw_p25, List.forall_mem_cons.mpr ⟨lw_p26, List.forall_mem_cons.mpr ⟨lw_p27, List.forall_mem_cons.mpr ⟨lw_p28, List.forall_mem_cons.mpr ⟨lw_p29, List.forall_mem_cons.mpr ⟨lw_p30, List.forall_mem_cons.mpr ⟨lw_p31, fun _ h => absurd h List.not_mem_nil⟩⟩⟩⟩⟩⟩⟩⟩⟩⟩⟩⟩⟩⟩⟩⟩
theorem lw_p32 : lw_okq (⟨"GaugeNet$Telling", "isParted", "(LGaugeNet$Pairs;II)Z"⟩, 1) := ⟨⟨by decide +kernel, by decide +kernel⟩, List.mem_of_getElem? (i := 240) (by decide +kernel), List.mem_of_getElem? (i := 817) (by decide +kernel), List.mem_of_getElem? (i := 818) (by decide +kernel)⟩
theorem lw_p33 : lw_okq (⟨"GaugeNet$Telling", "isToldWith", "(LGaugeNet$Works;LGaugeNet$Pairs;IZ)Z"⟩, 1) := ⟨⟨by decide +kernel, by decide +kernel⟩, List.mem_of_getElem? (i := 240) (by decide +kernel), List.mem_of_getElem? (i := 834) (by decide +kernel), List.mem_of_getElem? (i := 835) (by decide +kernel)⟩
theorem lw_p34 : lw_okq (⟨"GaugeNet", "runRoutine", "(II)Z"⟩, 12) := ⟨⟨by decide +kernel, by decide +kernel⟩, List.mem_of_getElem? (i := 21) (by decide +kernel), List.mem_of_getElem? (i := 872) (by decide +kernel), List.mem_of_getElem? (i := 873) (by decide +kernel)⟩
theorem lw_p35 : lw_okq (⟨"GaugeNet$Routine", "nextRow", "(LGaugeNet$Works;)I"⟩, 4) := ⟨⟨by decide +kernel, by decide +kernel⟩, List.mem_of_getElem? (i := 250) (by decide +kernel), List.mem_of_getElem? (i := 880) (by decide +kernel), List.mem_of_getElem? (i := 881) (by decide +kernel)⟩
theorem lw_p36 : lw_okq (⟨"GaugeNet", "makeWeighed", "()V"⟩, 12) := ⟨⟨by decide +kernel, by decide +kernel⟩, List.mem_of_getElem? (i := 21) (by decide +kernel), List.mem_of_getElem? (i := 903) (by decide +kernel), List.mem_of_getElem? (i := 904) (by decide +kernel)⟩
theorem lw_p37 : lw_okq (⟨"GaugeNet$Elimination", "fillGrid", "(LGaugeNet$Works;I)V"⟩, 8) := ⟨⟨by decide +kernel, by decide +kernel⟩, List.mem_of_getElem? (i := 191) (by decide +kernel), List.mem_of_getElem? (i := 915) (by decide +kernel), List.mem_of_getElem? (i := 916) (by decide +kernel)⟩
theorem lw_p38 : lw_okq (⟨"GaugeNet$Elimination", "fillColumn", "(LGaugeNet$Works;II)V"⟩, 8) := ⟨⟨by decide +kernel, by decide +kernel⟩, List.mem_of_getElem? (i := 191) (by decide +kernel), List.mem_of_getElem? (i := 924) (by decide +kernel), List.mem_of_getElem? (i := 925) (by decide +kernel)⟩
theorem lw_p39 : lw_okq (⟨"GaugeNet$Elimination", "put", "(IIJ)V"⟩, 8) := ⟨⟨by decide +kernel, by decide +kernel⟩, List.mem_of_getElem? (i := 191) (by decide +kernel), List.mem_of_getElem? (i := 929) (by decide +kernel), List.mem_of_getElem? (i := 930) (by decide +kernel)⟩
theorem lw_p40 : lw_okq (⟨"GaugeNet$Elimination", "lineWith", "(I)I"⟩, 8) := ⟨⟨by decide +kernel, by decide +kernel⟩, List.mem_of_getElem? (i := 191) (by decide +kernel), List.mem_of_getElem? (i := 935) (by decide +kernel), List.mem_of_getElem? (i := 936) (by decide +kernel)⟩
theorem lw_p41 : lw_okq (⟨"GaugeNet$Elimination", "get", "(II)J"⟩, 8) := ⟨⟨by decide +kernel, by decide +kernel⟩, List.mem_of_getElem? (i := 191) (by decide +kernel), List.mem_of_getElem? (i := 939) (by decide +kernel), List.mem_of_getElem? (i := 940) (by decide +kernel)⟩
theorem lw_p42 : lw_okq (⟨"GaugeNet$Elimination", "solveLine", "(II)V"⟩, 8) := ⟨⟨by decide +kernel, by decide +kernel⟩, List.mem_of_getElem? (i := 191) (by decide +kernel), List.mem_of_getElem? (i := 943) (by decide +kernel), List.mem_of_getElem? (i := 944) (by decide +kernel)⟩
theorem lw_p43 : lw_okq (⟨"GaugeNet$Elimination", "swapLines", "(II)V"⟩, 8) := ⟨⟨by decide +kernel, by decide +kernel⟩, List.mem_of_getElem? (i := 191) (by decide +kernel), List.mem_of_getElem? (i := 947) (by decide +kernel), List.mem_of_getElem? (i := 948) (by decide +kernel)⟩
theorem lw_p44 : lw_okq (⟨"GaugeNet$Elimination", "clearColumn", "(IIJ)V"⟩, 8) := ⟨⟨by decide +kernel, by decide +kernel⟩, List.mem_of_getElem? (i := 191) (by decide +kernel), List.mem_of_getElem? (i := 951) (by decide +kernel), List.mem_of_getElem? (i := 952) (by decide +kernel)⟩
theorem lw_p45 : lw_okq (⟨"GaugeNet$Elimination", "collect", "()V"⟩, 8) := ⟨⟨by decide +kernel, by decide +kernel⟩, List.mem_of_getElem? (i := 191) (by decide +kernel), List.mem_of_getElem? (i := 955) (by decide +kernel), List.mem_of_getElem? (i := 956) (by decide +kernel)⟩
theorem lw_p46 : lw_okq (⟨"GaugeNet$Elimination", "makeLeast", "()V"⟩, 8) := ⟨⟨by decide +kernel, by decide +kernel⟩, List.mem_of_getElem? (i := 191) (by decide +kernel), List.mem_of_getElem? (i := 959) (by decide +kernel), List.mem_of_getElem? (i := 960) (by decide +kernel)⟩
theorem lw_p47 : lw_okq (⟨"GaugeNet", "runningTestAt", "(I)I"⟩, 12) := ⟨⟨by decide +kernel, by decide +kernel⟩, List.mem_of_getElem? (i := 21) (by decide +kernel), List.mem_of_getElem? (i := 982) (by decide +kernel), List.mem_of_getElem? (i := 983) (by decide +kernel)⟩
def lw_privs_3 : List (MethodName × Nat) := [(⟨"GaugeNet$Telling", "isParted", "(LGaugeNet$Pairs;II)Z"⟩, 1), (⟨"GaugeNet$Telling", "isToldWith", "(LGaugeNet$Works;LGaugeNet$Pairs;IZ)Z"⟩, 1), (⟨"GaugeNet", "runRoutine", "(II)Z"⟩, 12), (⟨"GaugeNet$Routine", "nextRow", "(LGaugeNet$Works;)I"⟩, 4), (⟨"GaugeNet", "makeWeighed", "()V"⟩, 12), (⟨"GaugeNet$Elimination", "fillGrid", "(LGaugeNet$Works;I)V"⟩, 8), (⟨"GaugeNet$Elimination", "fillColumn", "(LGaugeNet$Works;II)V"⟩, 8), (⟨"GaugeNet$Elimination", "put", "(IIJ)V"⟩, 8), (⟨"GaugeNet$Elimination", "lineWith", "(I)I"⟩, 8), (⟨"GaugeNet$Elimination", "get", "(II)J"⟩, 8), (⟨"GaugeNet$Elimination", "solveLine", "(II)V"⟩, 8), (⟨"GaugeNet$Elimination", "swapLines", "(II)V"⟩, 8), (⟨"GaugeNet$Elimination", "clearColumn", "(IIJ)V"⟩, 8), (⟨"GaugeNet$Elimination", "collect", "()V"⟩, 8), (⟨"GaugeNet$Elimination", "makeLeast", "()V"⟩, 8), (⟨"GaugeNet", "runningTestAt", "(I)I"⟩, 12)]
theorem lw_r3 : ∀ q ∈ lw_privs_3, lw_okq q := List.forall_mem_cons.mpr ⟨lw_p32, List.forall_mem_cons.mpr ⟨lw_p33, List.forall_mem_cons.mpr ⟨lw_p34, List.forall_mem_cons.mpr ⟨lw_p35, List.forall_mem_cons.mpr ⟨lw_p36, List.forall_mem_cons.mpr ⟨lw_p37, List.forall_mem_cons.mpr ⟨lw_p38, List.forall_mem_cons.mpr ⟨lw_p39, List.forall_mem_cons.mpr ⟨lw_p40, List.forall_mem_cons.mpr ⟨lw_p41, List.forall_mem_cons.mpr ⟨lw_p42, List.forall_mem_cons.mpr ⟨lw_p43, List.forall_mem_cons.mpr ⟨lw_p44, List.forall_mem_cons.mpr ⟨lw_p45, List.forall_mem_cons.mpr ⟨lw_p46, List.forall_mem_cons.mpr ⟨lw_p47, fun _ h => absurd h List.not_mem_nil⟩⟩⟩⟩⟩⟩⟩⟩⟩⟩⟩⟩⟩⟩⟩⟩
theorem lw_p48 : lw_okq (⟨"GaugeNet$Noises", "step", "()J"⟩, 3) := ⟨⟨by decide +kernel, by decide +kernel⟩, List.mem_of_getElem? (i := 271) (by decide +kernel), List.mem_of_getElem? (i := 1051) (by decide +kernel), List.mem_of_getElem? (i := 1052) (by decide +kernel)⟩
theorem lw_p49 : lw_okq (⟨"GaugeNet", "hearRings", "()V"⟩, 12) := ⟨⟨by decide +kernel, by decide +kernel⟩, List.mem_of_getElem? (i := 21) (by decide +kernel), List.mem_of_getElem? (i := 1060) (by decide +kernel), List.mem_of_getElem? (i := 1061) (by decide +kernel)⟩
theorem lw_p50 : lw_okq (⟨"GaugeNet$Blame", "countSetsOf", "(ZII)I"⟩, 4) := ⟨⟨by decide +kernel, by decide +kernel⟩, List.mem_of_getElem? (i := 287) (by decide +kernel), List.mem_of_getElem? (i := 1078) (by decide +kernel), List.mem_of_getElem? (i := 1079) (by decide +kernel)⟩
theorem lw_p51 : lw_okq (⟨"GaugeNet$Blame", "isSet", "(IZ)Z"⟩, 4) := ⟨⟨by decide +kernel, by decide +kernel⟩, List.mem_of_getElem? (i := 287) (by decide +kernel), List.mem_of_getElem? (i := 1084) (by decide +kernel), List.mem_of_getElem? (i := 1085) (by decide +kernel)⟩
theorem lw_p52 : lw_okq (⟨"GaugeNet$Blame", "isEnough", "(I)Z"⟩, 4) := ⟨⟨by decide +kernel, by decide +kernel⟩, List.mem_of_getElem? (i := 287) (by decide +kernel), List.mem_of_getElem? (i := 1088) (by decide +kernel), List.mem_of_getElem? (i := 1089) (by decide +kernel)⟩
theorem lw_p53 : lw_okq (⟨"GaugeNet$Blame", "gatherCommon", "(LGaugeNet$Works;LGaugeNet$Tests;I)V"⟩, 4) := ⟨⟨by decide +kernel, by decide +kernel⟩, List.mem_of_getElem? (i := 287) (by decide +kernel), List.mem_of_getElem? (i := 1138) (by decide +kernel), List.mem_of_getElem? (i := 1139) (by decide +kernel)⟩
theorem lw_p54 : lw_okq (⟨"GaugeNetModel", "put", "(I)V"⟩, 59) := ⟨⟨by decide +kernel, by decide +kernel⟩, List.mem_of_getElem? (i := 1164) (by decide +kernel), List.mem_of_getElem? (i := 1358) (by decide +kernel), List.mem_of_getElem? (i := 1359) (by decide +kernel)⟩
theorem lw_p55 : lw_okq (⟨"GaugeNetModel", "cut", "()V"⟩, 59) := ⟨⟨by decide +kernel, by decide +kernel⟩, List.mem_of_getElem? (i := 1164) (by decide +kernel), List.mem_of_getElem? (i := 1370) (by decide +kernel), List.mem_of_getElem? (i := 1371) (by decide +kernel)⟩
theorem lw_p56 : lw_okq (⟨"GaugeNetModel", "byteAt", "(I)I"⟩, 59) := ⟨⟨by decide +kernel, by decide +kernel⟩, List.mem_of_getElem? (i := 1164) (by decide +kernel), List.mem_of_getElem? (i := 1374) (by decide +kernel), List.mem_of_getElem? (i := 1375) (by decide +kernel)⟩
theorem lw_p57 : lw_okq (⟨"GaugeNetModel", "token", "(IIIJ)V"⟩, 59) := ⟨⟨by decide +kernel, by decide +kernel⟩, List.mem_of_getElem? (i := 1164) (by decide +kernel), List.mem_of_getElem? (i := 1378) (by decide +kernel), List.mem_of_getElem? (i := 1379) (by decide +kernel)⟩
theorem lw_p58 : lw_okq (⟨"GaugeNetModel", "is", "(I)Z"⟩, 59) := ⟨⟨by decide +kernel, by decide +kernel⟩, List.mem_of_getElem? (i := 1164) (by decide +kernel), List.mem_of_getElem? (i := 1391) (by decide +kernel), List.mem_of_getElem? (i := 1392) (by decide +kernel)⟩
theorem lw_p59 : lw_okq (⟨"GaugeNetModel", "tell", "()V"⟩, 59) := ⟨⟨by decide +kernel, by decide +kernel⟩, List.mem_of_getElem? (i := 1164) (by decide +kernel), List.mem_of_getElem? (i := 1395) (by decide +kernel), List.mem_of_getElem? (i := 1396) (by decide +kernel)⟩
theorem lw_p60 : lw_okq (⟨"GaugeNetModel", "fail", "(I)V"⟩, 59) := ⟨⟨by decide +kernel, by decide +kernel⟩, List.mem_of_getElem? (i := 1164) (by decide +kernel), List.mem_of_getElem? (i := 1399) (by decide +kernel), List.mem_of_getElem? (i := 1400) (by decide +kernel)⟩
theorem lw_p61 : lw_okq (⟨"GaugeNetModel", "tellUnknown", "()V"⟩, 59) := ⟨⟨by decide +kernel, by decide +kernel⟩, List.mem_of_getElem? (i := 1164) (by decide +kernel), List.mem_of_getElem? (i := 1403) (by decide +kernel), List.mem_of_getElem? (i := 1404) (by decide +kernel)⟩
theorem lw_p62 : lw_okq (⟨"GaugeNetModel", "goesOn", "()V"⟩, 59) := ⟨⟨by decide +kernel, by decide +kernel⟩, List.mem_of_getElem? (i := 1164) (by decide +kernel), List.mem_of_getElem? (i := 1407) (by decide +kernel), List.mem_of_getElem? (i := 1408) (by decide +kernel)⟩
theorem lw_p63 : lw_okq (⟨"GaugeNetModel", "named", "()I"⟩, 59) := ⟨⟨by decide +kernel, by decide +kernel⟩, List.mem_of_getElem? (i := 1164) (by decide +kernel), List.mem_of_getElem? (i := 1411) (by decide +kernel), List.mem_of_getElem? (i := 1412) (by decide +kernel)⟩
def lw_privs_4 : List (MethodName × Nat) := [(⟨"GaugeNet$Noises", "step", "()J"⟩, 3), (⟨"GaugeNet", "hearRings", "()V"⟩, 12), (⟨"GaugeNet$Blame", "countSetsOf", "(ZII)I"⟩, 4), (⟨"GaugeNet$Blame", "isSet", "(IZ)Z"⟩, 4), (⟨"GaugeNet$Blame", "isEnough", "(I)Z"⟩, 4), (⟨"GaugeNet$Blame", "gatherCommon", "(LGaugeNet$Works;LGaugeNet$Tests;I)V"⟩, 4), (⟨"GaugeNetModel", "put", "(I)V"⟩, 59), (⟨"GaugeNetModel", "cut", "()V"⟩, 59), (⟨"GaugeNetModel", "byteAt", "(I)I"⟩, 59), (⟨"GaugeNetModel", "token", "(IIIJ)V"⟩, 59), (⟨"GaugeNetModel", "is", "(I)Z"⟩, 59), (⟨"GaugeNetModel", "tell", "()V"⟩, 59), (⟨"GaugeNetModel", "fail", "(I)V"⟩, 59), (⟨"GaugeNetModel", "tellUnknown", "()V"⟩, 59), (⟨"GaugeNetModel", "goesOn", "()V"⟩, 59), (⟨"GaugeNetModel", "named", "()I"⟩, 59)]
theorem lw_r4 : ∀ q ∈ lw_privs_4, lw_okq q := List.forall_mem_cons.mpr ⟨lw_p48, List.forall_mem_cons.mpr ⟨lw_p49, List.forall_mem_cons.mpr ⟨lw_p50, List.forall_mem_cons.mpr ⟨lw_p51, List.forall_mem_cons.mpr ⟨lw_p52, List.forall_mem_cons.mpr ⟨lw_p53, List.forall_mem_cons.mpr ⟨lw_p54, List.forall_mem_cons.mpr ⟨lw_p55, List.forall_mem_cons.mpr ⟨lw_p56, List.forall_mem_cons.mpr ⟨lw_p57, List.forall_mem_cons.mpr ⟨lw_p58, List.forall_mem_cons.mpr ⟨lw_p59, List.forall_mem_cons.mpr ⟨lw_p60, List.forall_mem_cons.mpr ⟨lw_p61, List.forall_mem_cons.mpr ⟨lw_p62, List.forall_mem_cons.mpr ⟨lw_p63, fun _ h => absurd h List.not_mem_nil⟩⟩⟩⟩⟩⟩⟩⟩⟩⟩⟩⟩⟩⟩⟩⟩
theorem lw_p64 : lw_okq (⟨"GaugeNetModel", "must", "(I)V"⟩, 59) := ⟨⟨by decide +kernel, by decide +kernel⟩, List.mem_of_getElem? (i := 1164) (by decide +kernel), List.mem_of_getElem? (i := 1415) (by decide +kernel), List.mem_of_getElem? (i := 1416) (by decide +kernel)⟩
theorem lw_p65 : lw_okq (⟨"GaugeNetModel", "wrong", "(II)V"⟩, 59) := ⟨⟨by decide +kernel, by decide +kernel⟩, List.mem_of_getElem? (i := 1164) (by decide +kernel), List.mem_of_getElem? (i := 1419) (by decide +kernel), List.mem_of_getElem? (i := 1420) (by decide +kernel)⟩
theorem lw_p66 : lw_okq (⟨"GaugeNetModel", "knows", "(III)V"⟩, 59) := ⟨⟨by decide +kernel, by decide +kernel⟩, List.mem_of_getElem? (i := 1164) (by decide +kernel), List.mem_of_getElem? (i := 1423) (by decide +kernel), List.mem_of_getElem? (i := 1424) (by decide +kernel)⟩
theorem lw_p67 : lw_okq (⟨"GaugeNetModel", "tellEq", "()V"⟩, 59) := ⟨⟨by decide +kernel, by decide +kernel⟩, List.mem_of_getElem? (i := 1164) (by decide +kernel), List.mem_of_getElem? (i := 1427) (by decide +kernel), List.mem_of_getElem? (i := 1428) (by decide +kernel)⟩
theorem lw_p68 : lw_okq (⟨"GaugeNetModel", "toldInt", "(II)I"⟩, 59) := ⟨⟨by decide +kernel, by decide +kernel⟩, List.mem_of_getElem? (i := 1164) (by decide +kernel), List.mem_of_getElem? (i := 1431) (by decide +kernel), List.mem_of_getElem? (i := 1432) (by decide +kernel)⟩
theorem lw_p69 : lw_okq (⟨"GaugeNetModel", "tellTerm", "(I)V"⟩, 59) := ⟨⟨by decide +kernel, by decide +kernel⟩, List.mem_of_getElem? (i := 1164) (by decide +kernel), List.mem_of_getElem? (i := 1435) (by decide +kernel), List.mem_of_getElem? (i := 1436) (by decide +kernel)⟩
theorem lw_p70 : lw_okq (⟨"GaugeNetModel", "known", "(II)I"⟩, 59) := ⟨⟨by decide +kernel, by decide +kernel⟩, List.mem_of_getElem? (i := 1164) (by decide +kernel), List.mem_of_getElem? (i := 1439) (by decide +kernel), List.mem_of_getElem? (i := 1440) (by decide +kernel)⟩
theorem lw_p71 : lw_okq (⟨"GaugeNetModel", "tellGauge", "()V"⟩, 59) := ⟨⟨by decide +kernel, by decide +kernel⟩, List.mem_of_getElem? (i := 1164) (by decide +kernel), List.mem_of_getElem? (i := 1443) (by decide +kernel), List.mem_of_getElem? (i := 1444) (by decide +kernel)⟩
theorem lw_p72 : lw_okq (⟨"GaugeNetModel", "tellFault", "()V"⟩, 59) := ⟨⟨by decide +kernel, by decide +kernel⟩, List.mem_of_getElem? (i := 1164) (by decide +kernel), List.mem_of_getElem? (i := 1447) (by decide +kernel), List.mem_of_getElem? (i := 1448) (by decide +kernel)⟩
theorem lw_p73 : lw_okq (⟨"GaugeNetModel", "isGauge", "(I)Z"⟩, 59) := ⟨⟨by decide +kernel, by decide +kernel⟩, List.mem_of_getElem? (i := 1164) (by decide +kernel), List.mem_of_getElem? (i := 1466) (by decide +kernel), List.mem_of_getElem? (i := 1467) (by decide +kernel)⟩
theorem lw_p74 : lw_okq (⟨"GaugeNetModel", "netNow", "()I"⟩, 59) := ⟨⟨by decide +kernel, by decide +kernel⟩, List.mem_of_getElem? (i := 1164) (by decide +kernel), List.mem_of_getElem? (i := 1489) (by decide +kernel), List.mem_of_getElem? (i := 1490) (by decide +kernel)⟩
theorem lw_p75 : lw_okq (⟨"GaugeNetModel", "netOf", "(III)I"⟩, 59) := ⟨⟨by decide +kernel, by decide +kernel⟩, List.mem_of_getElem? (i := 1164) (by decide +kernel), List.mem_of_getElem? (i := 1493) (by decide +kernel), List.mem_of_getElem? (i := 1494) (by decide +kernel)⟩
theorem lw_p76 : lw_okq (⟨"GaugeNetModel", "pairsOf", "(II)I"⟩, 59) := ⟨⟨by decide +kernel, by decide +kernel⟩, List.mem_of_getElem? (i := 1164) (by decide +kernel), List.mem_of_getElem? (i := 1501) (by decide +kernel), List.mem_of_getElem? (i := 1502) (by decide +kernel)⟩
theorem lw_p77 : lw_okq (⟨"GaugeNetModel", "finds", "(II)Z"⟩, 59) := ⟨⟨by decide +kernel, by decide +kernel⟩, List.mem_of_getElem? (i := 1164) (by decide +kernel), List.mem_of_getElem? (i := 1505) (by decide +kernel), List.mem_of_getElem? (i := 1506) (by decide +kernel)⟩
theorem lw_p78 : lw_okq (⟨"GaugeNetModel", "has", "(II)Z"⟩, 59) := ⟨⟨by decide +kernel, by decide +kernel⟩, List.mem_of_getElem? (i := 1164) (by decide +kernel), List.mem_of_getElem? (i := 1509) (by decide +kernel), List.mem_of_getElem? (i := 1510) (by decide +kernel)⟩
theorem lw_p79 : lw_okq (⟨"GaugeNetModel", "numberOf", "(II)I"⟩, 59) := ⟨⟨by decide +kernel, by decide +kernel⟩, List.mem_of_getElem? (i := 1164) (by decide +kernel), List.mem_of_getElem? (i := 1513) (by decide +kernel), List.mem_of_getElem? (i := 1514) (by decide +kernel)⟩
def lw_privs_5 : List (MethodName × Nat) := [(⟨"GaugeNetModel", "must", "(I)V"⟩, 59), (⟨"GaugeNetModel", "wrong", "(II)V"⟩, 59), (⟨"GaugeNetModel", "knows", "(III)V"⟩, 59), (⟨"GaugeNetModel", "tellEq", "()V"⟩, 59), (⟨"GaugeNetModel", "toldInt", "(II)I"⟩, 59), (⟨"GaugeNetModel", "tellTerm", "(I)V"⟩, 59), (⟨"GaugeNetModel", "known", "(II)I"⟩, 59), (⟨"GaugeNetModel", "tellGauge", "()V"⟩, 59), (⟨"GaugeNetModel", "tellFault", "()V"⟩, 59), (⟨"GaugeNetModel", "isGauge", "(I)Z"⟩, 59), (⟨"GaugeNetModel", "netNow", "()I"⟩, 59), (⟨"GaugeNetModel", "netOf", "(III)I"⟩, 59), (⟨"GaugeNetModel", "pairsOf", "(II)I"⟩, 59), (⟨"GaugeNetModel", "finds", "(II)Z"⟩, 59), (⟨"GaugeNetModel", "has", "(II)Z"⟩, 59), (⟨"GaugeNetModel", "numberOf", "(II)I"⟩, 59)]
theorem lw_r5 : ∀ q ∈ lw_privs_5, lw_okq q := List.forall_mem_cons.mpr ⟨lw_p64, List.forall_mem_cons.mpr ⟨lw_p65, List.forall_mem_cons.mpr ⟨lw_p66, List.forall_mem_cons.mpr ⟨lw_p67, List.forall_mem_cons.mpr ⟨lw_p68, List.forall_mem_cons.mpr ⟨lw_p69, List.forall_mem_cons.mpr ⟨lw_p70, List.forall_mem_cons.mpr ⟨lw_p71, List.forall_mem_cons.mpr ⟨lw_p72, List.forall_mem_cons.mpr ⟨lw_p73, List.forall_mem_cons.mpr ⟨lw_p74, List.forall_mem_cons.mpr ⟨lw_p75, List.forall_mem_cons.mpr ⟨lw_p76, List.forall_mem_cons.mpr ⟨lw_p77, List.forall_mem_cons.mpr ⟨lw_p78, List.forall_mem_cons.mpr ⟨lw_p79, fun _ h => absurd h List.not_mem_nil⟩⟩⟩⟩⟩⟩⟩⟩⟩⟩⟩⟩⟩⟩⟩⟩
theorem lw_p80 : lw_okq (⟨"GaugeNetModel", "isMoreIn", "(II)Z"⟩, 59) := ⟨⟨by decide +kernel, by decide +kernel⟩, List.mem_of_getElem? (i := 1164) (by decide +kernel), List.mem_of_getElem? (i := 1521) (by decide +kernel), List.mem_of_getElem? (i := 1522) (by decide +kernel)⟩
theorem lw_p81 : lw_okq (⟨"GaugeNetModel", "seeks", "()V"⟩, 59) := ⟨⟨by decide +kernel, by decide +kernel⟩, List.mem_of_getElem? (i := 1164) (by decide +kernel), List.mem_of_getElem? (i := 1533) (by decide +kernel), List.mem_of_getElem? (i := 1534) (by decide +kernel)⟩
theorem lw_p82 : lw_okq (⟨"GaugeNetModel", "unknownsOf", "(I)I"⟩, 59) := ⟨⟨by decide +kernel, by decide +kernel⟩, List.mem_of_getElem? (i := 1164) (by decide +kernel), List.mem_of_getElem? (i := 1540) (by decide +kernel), List.mem_of_getElem? (i := 1541) (by decide +kernel)⟩
theorem lw_p83 : lw_okq (⟨"GaugeNetModel", "weighs", "(II)Z"⟩, 59) := ⟨⟨by decide +kernel, by decide +kernel⟩, List.mem_of_getElem? (i := 1164) (by decide +kernel), List.mem_of_getElem? (i := 1544) (by decide +kernel), List.mem_of_getElem? (i := 1545) (by decide +kernel)⟩
theorem lw_p84 : lw_okq (⟨"GaugeNetModel", "minorWithout", "(II)J"⟩, 59) := ⟨⟨by decide +kernel, by decide +kernel⟩, List.mem_of_getElem? (i := 1164) (by decide +kernel), List.mem_of_getElem? (i := 1548) (by decide +kernel), List.mem_of_getElem? (i := 1549) (by decide +kernel)⟩
theorem lw_p85 : lw_okq (⟨"GaugeNetModel", "isTest", "(I)Z"⟩, 59) := ⟨⟨by decide +kernel, by decide +kernel⟩, List.mem_of_getElem? (i := 1164) (by decide +kernel), List.mem_of_getElem? (i := 1559) (by decide +kernel), List.mem_of_getElem? (i := 1560) (by decide +kernel)⟩
theorem lw_p86 : lw_okq (⟨"GaugeNetModel", "isFault", "(I)Z"⟩, 59) := ⟨⟨by decide +kernel, by decide +kernel⟩, List.mem_of_getElem? (i := 1164) (by decide +kernel), List.mem_of_getElem? (i := 1567) (by decide +kernel), List.mem_of_getElem? (i := 1568) (by decide +kernel)⟩
theorem lw_p87 : lw_okq (⟨"GaugeNetModel", "faultRow", "(I)I"⟩, 59) := ⟨⟨by decide +kernel, by decide +kernel⟩, List.mem_of_getElem? (i := 1164) (by decide +kernel), List.mem_of_getElem? (i := 1571) (by decide +kernel), List.mem_of_getElem? (i := 1572) (by decide +kernel)⟩
theorem lw_p88 : lw_okq (⟨"GaugeNetModel", "isSeenIn", "(II)Z"⟩, 59) := ⟨⟨by decide +kernel, by decide +kernel⟩, List.mem_of_getElem? (i := 1164) (by decide +kernel), List.mem_of_getElem? (i := 1579) (by decide +kernel), List.mem_of_getElem? (i := 1580) (by decide +kernel)⟩
theorem lw_p89 : lw_okq (⟨"GaugeNetModel", "isPartedIn", "(III)Z"⟩, 59) := ⟨⟨by decide +kernel, by decide +kernel⟩, List.mem_of_getElem? (i := 1164) (by decide +kernel), List.mem_of_getElem? (i := 1587) (by decide +kernel), List.mem_of_getElem? (i := 1588) (by decide +kernel)⟩
theorem lw_p90 : lw_okq (⟨"GaugeNetModel", "isAllTold", "(IIII)Z"⟩, 59) := ⟨⟨by decide +kernel, by decide +kernel⟩, List.mem_of_getElem? (i := 1164) (by decide +kernel), List.mem_of_getElem? (i := 1595) (by decide +kernel), List.mem_of_getElem? (i := 1596) (by decide +kernel)⟩
theorem lw_p91 : lw_okq (⟨"GaugeNetModel", "costBy", "(I)I"⟩, 59) := ⟨⟨by decide +kernel, by decide +kernel⟩, List.mem_of_getElem? (i := 1164) (by decide +kernel), List.mem_of_getElem? (i := 1603) (by decide +kernel), List.mem_of_getElem? (i := 1604) (by decide +kernel)⟩
theorem lw_p92 : lw_okq (⟨"GaugeNetModel", "does", "(IZ)Z"⟩, 59) := ⟨⟨by decide +kernel, by decide +kernel⟩, List.mem_of_getElem? (i := 1164) (by decide +kernel), List.mem_of_getElem? (i := 1611) (by decide +kernel), List.mem_of_getElem? (i := 1612) (by decide +kernel)⟩
theorem lw_p93 : lw_okq (⟨"GaugeNetModel", "staysWithout", "(I)Z"⟩, 59) := ⟨⟨by decide +kernel, by decide +kernel⟩, List.mem_of_getElem? (i := 1164) (by decide +kernel), List.mem_of_getElem? (i := 1619) (by decide +kernel), List.mem_of_getElem? (i := 1620) (by decide +kernel)⟩
theorem lw_p94 : lw_okq (⟨"GaugeNetModel", "isTaken", "(II)Z"⟩, 59) := ⟨⟨by decide +kernel, by decide +kernel⟩, List.mem_of_getElem? (i := 1164) (by decide +kernel), List.mem_of_getElem? (i := 1623) (by decide +kernel), List.mem_of_getElem? (i := 1624) (by decide +kernel)⟩
theorem lw_p95 : lw_okq (⟨"GaugeNetModel", "routine", "(II)I"⟩, 59) := ⟨⟨by decide +kernel, by decide +kernel⟩, List.mem_of_getElem? (i := 1164) (by decide +kernel), List.mem_of_getElem? (i := 1635) (by decide +kernel), List.mem_of_getElem? (i := 1636) (by decide +kernel)⟩
def lw_privs_6 : List (MethodName × Nat) := [(⟨"GaugeNetModel", "isMoreIn", "(II)Z"⟩, 59), (⟨"GaugeNetModel", "seeks", "()V"⟩, 59), (⟨"GaugeNetModel", "unknownsOf", "(I)I"⟩, 59), (⟨"GaugeNetModel", "weighs", "(II)Z"⟩, 59), (⟨"GaugeNetModel", "minorWithout", "(II)J"⟩, 59), (⟨"GaugeNetModel", "isTest", "(I)Z"⟩, 59), (⟨"GaugeNetModel", "isFault", "(I)Z"⟩, 59), (⟨"GaugeNetModel", "faultRow", "(I)I"⟩, 59), (⟨"GaugeNetModel", "isSeenIn", "(II)Z"⟩, 59), (⟨"GaugeNetModel", "isPartedIn", "(III)Z"⟩, 59), (⟨"GaugeNetModel", "isAllTold", "(IIII)Z"⟩, 59), (⟨"GaugeNetModel", "costBy", "(I)I"⟩, 59), (⟨"GaugeNetModel", "does", "(IZ)Z"⟩, 59), (⟨"GaugeNetModel", "staysWithout", "(I)Z"⟩, 59), (⟨"GaugeNetModel", "isTaken", "(II)Z"⟩, 59), (⟨"GaugeNetModel", "routine", "(II)I"⟩, 59)]
theorem lw_r6 : ∀ q ∈ lw_privs_6, lw_okq q := List.forall_mem_cons.mpr ⟨lw_p80, List.forall_mem_cons.mpr ⟨lw_p81, List.forall_mem_cons.mpr ⟨lw_p82, List.forall_mem_cons.mpr ⟨lw_p83, List.forall_mem_cons.mpr ⟨lw_p84, List.forall_mem_cons.mpr ⟨lw_p85, List.forall_mem_cons.mpr ⟨lw_p86, List.forall_mem_cons.mpr ⟨lw_p87, List.forall_mem_cons.mpr ⟨lw_p88, List.forall_mem_cons.mpr ⟨lw_p89, List.forall_mem_cons.mpr ⟨lw_p90, List.forall_mem_cons.mpr ⟨lw_p91, List.forall_mem_cons.mpr ⟨lw_p92, List.forall_mem_cons.mpr ⟨lw_p93, List.forall_mem_cons.mpr ⟨lw_p94, List.forall_mem_cons.mpr ⟨lw_p95, fun _ h => absurd h List.not_mem_nil⟩⟩⟩⟩⟩⟩⟩⟩⟩⟩⟩⟩⟩⟩⟩⟩
theorem lw_p96 : lw_okq (⟨"GaugeNetModel", "isRun", "(I)Z"⟩, 59) := ⟨⟨by decide +kernel, by decide +kernel⟩, List.mem_of_getElem? (i := 1164) (by decide +kernel), List.mem_of_getElem? (i := 1655) (by decide +kernel), List.mem_of_getElem? (i := 1656) (by decide +kernel)⟩
theorem lw_p97 : lw_okq (⟨"GaugeNetModel", "noughtOf", "(I)J"⟩, 59) := ⟨⟨by decide +kernel, by decide +kernel⟩, List.mem_of_getElem? (i := 1164) (by decide +kernel), List.mem_of_getElem? (i := 1664) (by decide +kernel), List.mem_of_getElem? (i := 1665) (by decide +kernel)⟩
theorem lw_p98 : lw_okq (⟨"GaugeNetModel", "boundOf", "(I)J"⟩, 59) := ⟨⟨by decide +kernel, by decide +kernel⟩, List.mem_of_getElem? (i := 1164) (by decide +kernel), List.mem_of_getElem? (i := 1673) (by decide +kernel), List.mem_of_getElem? (i := 1674) (by decide +kernel)⟩
theorem lw_p99 : lw_okq (⟨"GaugeNetModel", "isRinging", "(I)Z"⟩, 59) := ⟨⟨by decide +kernel, by decide +kernel⟩, List.mem_of_getElem? (i := 1164) (by decide +kernel), List.mem_of_getElem? (i := 1685) (by decide +kernel), List.mem_of_getElem? (i := 1686) (by decide +kernel)⟩
theorem lw_p100 : lw_okq (⟨"GaugeNetModel", "weightIn", "(II)J"⟩, 59) := ⟨⟨by decide +kernel, by decide +kernel⟩, List.mem_of_getElem? (i := 1164) (by decide +kernel), List.mem_of_getElem? (i := 1693) (by decide +kernel), List.mem_of_getElem? (i := 1694) (by decide +kernel)⟩
theorem lw_p101 : lw_okq (⟨"GaugeNetModel", "noise", "(II)I"⟩, 59) := ⟨⟨by decide +kernel, by decide +kernel⟩, List.mem_of_getElem? (i := 1164) (by decide +kernel), List.mem_of_getElem? (i := 1703) (by decide +kernel), List.mem_of_getElem? (i := 1704) (by decide +kernel)⟩
theorem lw_p102 : lw_okq (⟨"GaugeNetModel", "hears", "()V"⟩, 59) := ⟨⟨by decide +kernel, by decide +kernel⟩, List.mem_of_getElem? (i := 1164) (by decide +kernel), List.mem_of_getElem? (i := 1711) (by decide +kernel), List.mem_of_getElem? (i := 1712) (by decide +kernel)⟩
theorem lw_p103 : lw_okq (⟨"GaugeNetModel", "hits", "(Z)V"⟩, 59) := ⟨⟨by decide +kernel, by decide +kernel⟩, List.mem_of_getElem? (i := 1164) (by decide +kernel), List.mem_of_getElem? (i := 1715) (by decide +kernel), List.mem_of_getElem? (i := 1716) (by decide +kernel)⟩
theorem lw_p104 : lw_okq (⟨"GaugeNetModel", "isHit", "(I)Z"⟩, 59) := ⟨⟨by decide +kernel, by decide +kernel⟩, List.mem_of_getElem? (i := 1164) (by decide +kernel), List.mem_of_getElem? (i := 1719) (by decide +kernel), List.mem_of_getElem? (i := 1720) (by decide +kernel)⟩
theorem lw_p105 : lw_okq (⟨"GaugeNetModel", "rowsOf", "(I)I"⟩, 59) := ⟨⟨by decide +kernel, by decide +kernel⟩, List.mem_of_getElem? (i := 1164) (by decide +kernel), List.mem_of_getElem? (i := 1723) (by decide +kernel), List.mem_of_getElem? (i := 1724) (by decide +kernel)⟩
theorem lw_p106 : lw_okq (⟨"GaugeNetModel", "isQuiet", "(I)Z"⟩, 59) := ⟨⟨by decide +kernel, by decide +kernel⟩, List.mem_of_getElem? (i := 1164) (by decide +kernel), List.mem_of_getElem? (i := 1727) (by decide +kernel), List.mem_of_getElem? (i := 1728) (by decide +kernel)⟩
theorem lw_p107 : lw_okq (⟨"GaugeNetModel", "isRow", "(I)Z"⟩, 59) := ⟨⟨by decide +kernel, by decide +kernel⟩, List.mem_of_getElem? (i := 1164) (by decide +kernel), List.mem_of_getElem? (i := 1747) (by decide +kernel), List.mem_of_getElem? (i := 1748) (by decide +kernel)⟩
theorem lw_p108 : lw_okq (⟨"GaugeNetModel", "firstSet", "(II)I"⟩, 59) := ⟨⟨by decide +kernel, by decide +kernel⟩, List.mem_of_getElem? (i := 1164) (by decide +kernel), List.mem_of_getElem? (i := 1755) (by decide +kernel), List.mem_of_getElem? (i := 1756) (by decide +kernel)⟩
def lw_privs_7 : List (MethodName × Nat) := [(⟨"GaugeNetModel", "isRun", "(I)Z"⟩, 59), (⟨"GaugeNetModel", "noughtOf", "(I)J"⟩, 59), (⟨"GaugeNetModel", "boundOf", "(I)J"⟩, 59), (⟨"GaugeNetModel", "isRinging", "(I)Z"⟩, 59), (⟨"GaugeNetModel", "weightIn", "(II)J"⟩, 59), (⟨"GaugeNetModel", "noise", "(II)I"⟩, 59), (⟨"GaugeNetModel", "hears", "()V"⟩, 59), (⟨"GaugeNetModel", "hits", "(Z)V"⟩, 59), (⟨"GaugeNetModel", "isHit", "(I)Z"⟩, 59), (⟨"GaugeNetModel", "rowsOf", "(I)I"⟩, 59), (⟨"GaugeNetModel", "isQuiet", "(I)Z"⟩, 59), (⟨"GaugeNetModel", "isRow", "(I)Z"⟩, 59), (⟨"GaugeNetModel", "firstSet", "(II)I"⟩, 59)]
theorem lw_r7 : ∀ q ∈ lw_privs_7, lw_okq q := List.forall_mem_cons.mpr ⟨lw_p96, List.forall_mem_cons.mpr ⟨lw_p97, List.forall_mem_cons.mpr ⟨lw_p98, List.forall_mem_cons.mpr ⟨lw_p99, List.forall_mem_cons.mpr ⟨lw_p100, List.forall_mem_cons.mpr ⟨lw_p101, List.forall_mem_cons.mpr ⟨lw_p102, List.forall_mem_cons.mpr ⟨lw_p103, List.forall_mem_cons.mpr ⟨lw_p104, List.forall_mem_cons.mpr ⟨lw_p105, List.forall_mem_cons.mpr ⟨lw_p106, List.forall_mem_cons.mpr ⟨lw_p107, List.forall_mem_cons.mpr ⟨lw_p108, fun _ h => absurd h List.not_mem_nil⟩⟩⟩⟩⟩⟩⟩⟩⟩⟩⟩⟩⟩
def lw_privs : List (MethodName × Nat) := lw_privs_1 ++ (lw_privs_2 ++ (lw_privs_3 ++ (lw_privs_4 ++ (lw_privs_5 ++ (lw_privs_6 ++ (lw_privs_7))))))
def lw_tbl : List Cond := k2_sels lw_privs ++ tables_1
theorem lw_privs_ok : ∀ q ∈ lw_privs, lw_okq q := by
  show ∀ q ∈ lw_privs_1 ++ (lw_privs_2 ++ (lw_privs_3 ++ (lw_privs_4 ++ (lw_privs_5 ++ (lw_privs_6 ++ (lw_privs_7)))))), lw_okq q
  exact List.forall_mem_append.mpr ⟨lw_r1, List.forall_mem_append.mpr ⟨lw_r2, List.forall_mem_append.mpr ⟨lw_r3, List.forall_mem_append.mpr ⟨lw_r4, List.forall_mem_append.mpr ⟨lw_r5, List.forall_mem_append.mpr ⟨lw_r6, lw_r7⟩⟩⟩⟩⟩⟩
-- ===== end of PART A; then your names; then what follows =====
def RX0 : String := "GaugeNet$Blame"
def TX0 : u_T := fun k => match k with
  | 0 => ("GaugeNet$Blame", "rung", "[Z", true)
  | 1 => ("GaugeNet$Blame", "quietFaults", "I", false)
  | 2 => ("GaugeNet$Blame", "faults", "I", false)
  | _ => ("GaugeNet$Blame", "common", "[I", true)
def tyX0 : Nat → FieldType := fun k => match k with
  | 0 => .array .boolean
  | 1 => .int
  | 2 => .int
  | _ => .array .int
abbrev wsX00 : List Cond := u_ws RX0 TX0 4
theorem nmX0 : ∀ a, a < 4 → ∀ b, b < 4 → a ≠ b → (TX0 a).2.1 ≠ (TX0 b).2.1 := by decide +kernel
theorem tyX0_ok : ∀ k, k < 4 → parseFieldDescriptor (TX0 k).2.2.1 = some (tyX0 k) := by decide +kernel
def yX0_init : MethodName := ⟨RX0, "<init>", "()V"⟩
def yX0_hear : MethodName := ⟨RX0, "hear", "(LGaugeNet$Works;LGaugeNet$Tests;)V"⟩
def yX0_isEnough : MethodName := ⟨RX0, "isEnough", "(I)Z"⟩
def yX0_isSet : MethodName := ⟨RX0, "isSet", "(IZ)Z"⟩
def yX0_countSets : MethodName := ⟨RX0, "countSets", "(Z)I"⟩
def yX0_countSetsOf : MethodName := ⟨RX0, "countSetsOf", "(ZII)I"⟩
def yX0_setAt : MethodName := ⟨RX0, "setAt", "(ZI)I"⟩
def yX0_bestLook : MethodName := ⟨RX0, "bestLook", "()I"⟩
def yX0_isHiding : MethodName := ⟨RX0, "isHiding", "(LGaugeNet$Works;LGaugeNet$Tests;II)Z"⟩
def yX0_ringsFrom : MethodName := ⟨RX0, "ringsFrom", "(LGaugeNet$Works;LGaugeNet$Tests;III)J"⟩
def yX0_firstBlamed : MethodName := ⟨RX0, "firstBlamed", "(LGaugeNet$Works;LGaugeNet$Tests;II)I"⟩
def yX0_firstOf : MethodName := ⟨RX0, "firstOf", "(I)I"⟩
def yX0_countJudged : MethodName := ⟨RX0, "countJudged", "(LGaugeNet$Works;LGaugeNet$Tests;III)I"⟩
def yX0_gatherCommon : MethodName := ⟨RX0, "gatherCommon", "(LGaugeNet$Works;LGaugeNet$Tests;I)V"⟩
def RX1 : String := "GaugeNet$Elimination"
def TX1 : u_T := fun k => match k with
  | 0 => ("GaugeNet$Elimination", "grid", "[J", true)
  | 1 => ("GaugeNet$Elimination", "columnOfLine", "[I", true)
  | 2 => ("GaugeNet$Elimination", "found", "[J", true)
  | 3 => ("GaugeNet$Elimination", "lines", "I", false)
  | 4 => ("GaugeNet$Elimination", "columns", "I", false)
  | 5 => ("GaugeNet$Elimination", "solvedLines", "I", false)
  | 6 => ("GaugeNet$Elimination", "freeColumn", "I", false)
  | _ => ("GaugeNet$Elimination", "pivot", "J", false)
def tyX1 : Nat → FieldType := fun k => match k with
  | 0 => .array .long
  | 1 => .array .int
  | 2 => .array .long
  | 3 => .int
  | 4 => .int
  | 5 => .int
  | 6 => .int
  | _ => .long
abbrev wsX10 : List Cond := u_ws RX1 TX1 8
theorem nmX1 : ∀ a, a < 8 → ∀ b, b < 8 → a ≠ b → (TX1 a).2.1 ≠ (TX1 b).2.1 := by decide +kernel
theorem tyX1_ok : ∀ k, k < 8 → parseFieldDescriptor (TX1 k).2.2.1 = some (tyX1 k) := by decide +kernel
def yX1_init : MethodName := ⟨RX1, "<init>", "()V"⟩
def yX1_solve : MethodName := ⟨RX1, "solve", "(LGaugeNet$Works;I)Z"⟩
def yX1_weightAt : MethodName := ⟨RX1, "weightAt", "(I)J"⟩
def yX1_fillGrid : MethodName := ⟨RX1, "fillGrid", "(LGaugeNet$Works;I)V"⟩
def yX1_fillColumn : MethodName := ⟨RX1, "fillColumn", "(LGaugeNet$Works;II)V"⟩
def yX1_get : MethodName := ⟨RX1, "get", "(II)J"⟩
def yX1_put : MethodName := ⟨RX1, "put", "(IIJ)V"⟩
def yX1_lineWith : MethodName := ⟨RX1, "lineWith", "(I)I"⟩
def yX1_solveLine : MethodName := ⟨RX1, "solveLine", "(II)V"⟩
def yX1_swapLines : MethodName := ⟨RX1, "swapLines", "(II)V"⟩
def yX1_clearColumn : MethodName := ⟨RX1, "clearColumn", "(IIJ)V"⟩
def yX1_collect : MethodName := ⟨RX1, "collect", "()V"⟩
def yX1_makeLeast : MethodName := ⟨RX1, "makeLeast", "()V"⟩
def RX2 : String := "GaugeNet$Noises"
def TX2 : u_T := fun k => match k with
  | 0 => ("GaugeNet$Noises", "weights", "[J", true)
  | 1 => ("GaugeNet$Noises", "most", "[I", true)
  | _ => ("GaugeNet$Noises", "now", "[I", true)
def tyX2 : Nat → FieldType := fun k => match k with
  | 0 => .array .long
  | 1 => .array .int
  | _ => .array .int
abbrev wsX20 : List Cond := u_ws RX2 TX2 3
theorem nmX2 : ∀ a, a < 3 → ∀ b, b < 3 → a ≠ b → (TX2 a).2.1 ≠ (TX2 b).2.1 := by decide +kernel
theorem tyX2_ok : ∀ k, k < 3 → parseFieldDescriptor (TX2 k).2.2.1 = some (tyX2 k) := by decide +kernel
def yX2_init : MethodName := ⟨RX2, "<init>", "()V"⟩
def yX2_countAbove : MethodName := ⟨RX2, "countAbove", "(LGaugeNet$Works;LGaugeNet$Tests;IJJ)I"⟩
def yX2_step : MethodName := ⟨RX2, "step", "()J"⟩
def RX3 : String := "GaugeNet$Pairs"
def TX3 : u_T := fun k => match k with
  | 0 => ("GaugeNet$Pairs", "most", "[B", true)
  | _ => ("GaugeNet$Pairs", "taken", "[Z", true)
def tyX3 : Nat → FieldType := fun k => match k with
  | 0 => .array .byte
  | _ => .array .boolean
abbrev wsX30 : List Cond := u_ws RX3 TX3 2
theorem nmX3 : ∀ a, a < 2 → ∀ b, b < 2 → a ≠ b → (TX3 a).2.1 ≠ (TX3 b).2.1 := by decide +kernel
theorem tyX3_ok : ∀ k, k < 2 → parseFieldDescriptor (TX3 k).2.2.1 = some (tyX3 k) := by decide +kernel
def yX3_init : MethodName := ⟨RX3, "<init>", "()V"⟩
def yX3_countAll : MethodName := ⟨RX3, "countAll", "(LGaugeNet$Works;)V"⟩
def yX3_countOne : MethodName := ⟨RX3, "countOne", "(LGaugeNet$Works;I)I"⟩
def yX3_of : MethodName := ⟨RX3, "of", "(I)I"⟩
def yX3_isMore : MethodName := ⟨RX3, "isMore", "(II)Z"⟩
def yX3_isParted : MethodName := ⟨RX3, "isParted", "(III)Z"⟩
def yX3_without : MethodName := ⟨RX3, "without", "(II)I"⟩
def yX3_leftOut : MethodName := ⟨RX3, "leftOut", "(LGaugeNet$Works;I)I"⟩
def yX3_pairRow : MethodName := ⟨RX3, "pairRow", "(I)V"⟩
def RX4 : String := "GaugeNet$Parser"
def TX4 : u_T := fun k => match k with
  | 0 => ("GaugeNet$Parser", "tokens", "LGaugeNet$Tokens;", true)
  | 1 => ("GaugeNet$Parser", "works", "LGaugeNet$Works;", false)
  | 2 => ("GaugeNet$Parser", "at", "I", false)
  | 3 => ("GaugeNet$Parser", "fault", "I", false)
  | 4 => ("GaugeNet$Parser", "place", "I", false)
  | 5 => ("GaugeNet$Parser", "keptFault", "I", false)
  | 6 => ("GaugeNet$Parser", "keptPlace", "I", false)
  | 7 => ("GaugeNet$Parser", "names", "[J", true)
  | 8 => ("GaugeNet$Parser", "nameKinds", "[I", true)
  | 9 => ("GaugeNet$Parser", "nameNumbers", "[I", true)
  | _ => ("GaugeNet$Parser", "nameCount", "I", false)
def tyX4 : Nat → FieldType := fun k => match k with
  | 0 => .object "GaugeNet$Tokens"
  | 1 => .object "GaugeNet$Works"
  | 2 => .int
  | 3 => .int
  | 4 => .int
  | 5 => .int
  | 6 => .int
  | 7 => .array .long
  | 8 => .array .int
  | 9 => .array .int
  | _ => .int
abbrev wsX40 : List Cond := u_ws RX4 TX4 11
theorem nmX4 : ∀ a, a < 11 → ∀ b, b < 11 → a ≠ b → (TX4 a).2.1 ≠ (TX4 b).2.1 := by decide +kernel
theorem tyX4_ok : ∀ k, k < 11 → parseFieldDescriptor (TX4 k).2.2.1 = some (tyX4 k) := by decide +kernel
def yX4_init : MethodName := ⟨RX4, "<init>", "()V"⟩
def yX4_parse : MethodName := ⟨RX4, "parse", "([BI)I"⟩
def yX4_begin : MethodName := ⟨RX4, "begin", "()V"⟩
def yX4_exchange : MethodName := ⟨RX4, "exchange", "(LGaugeNet$Works;)LGaugeNet$Works;"⟩
def yX4_kind : MethodName := ⟨RX4, "kind", "()I"⟩
def yX4_stop : MethodName := ⟨RX4, "stop", "(I)Z"⟩
def yX4_keep : MethodName := ⟨RX4, "keep", "(II)V"⟩
def yX4_accept : MethodName := ⟨RX4, "accept", "(I)Z"⟩
def yX4_acceptHead : MethodName := ⟨RX4, "acceptHead", "(III)Z"⟩
def yX4_find : MethodName := ⟨RX4, "find", "(J)I"⟩
def yX4_numberNamed : MethodName := ⟨RX4, "numberNamed", "(I)I"⟩
def yX4_parseUnknown : MethodName := ⟨RX4, "parseUnknown", "()V"⟩
def yX4_parseEq : MethodName := ⟨RX4, "parseEq", "()V"⟩
def yX4_parsePositions : MethodName := ⟨RX4, "parsePositions", "(I)Z"⟩
def yX4_parsePosition : MethodName := ⟨RX4, "parsePosition", "(I)Z"⟩
def yX4_intWithin : MethodName := ⟨RX4, "intWithin", "(II)I"⟩
def yX4_parseTerm : MethodName := ⟨RX4, "parseTerm", "(I)Z"⟩
def yX4_parseNamed : MethodName := ⟨RX4, "parseNamed", "(II)Z"⟩
def yX4_parseGauge : MethodName := ⟨RX4, "parseGauge", "(I)V"⟩
def yX4_parseNoise : MethodName := ⟨RX4, "parseNoise", "(I)Z"⟩
def yX4_parseCost : MethodName := ⟨RX4, "parseCost", "(I)Z"⟩
def yX4_parseFault : MethodName := ⟨RX4, "parseFault", "()V"⟩
def RX5 : String := "GaugeNet$Routine"
def TX5 : u_T := fun k => match k with
  | 0 => ("GaugeNet$Routine", "used", "[I", true)
  | 1 => ("GaugeNet$Routine", "count", "I", false)
  | 2 => ("GaugeNet$Routine", "left", "I", false)
  | _ => ("GaugeNet$Routine", "foundUnknowns", "I", false)
def tyX5 : Nat → FieldType := fun k => match k with
  | 0 => .array .int
  | 1 => .int
  | 2 => .int
  | _ => .int
abbrev wsX50 : List Cond := u_ws RX5 TX5 4
theorem nmX5 : ∀ a, a < 4 → ∀ b, b < 4 → a ≠ b → (TX5 a).2.1 ≠ (TX5 b).2.1 := by decide +kernel
theorem tyX5_ok : ∀ k, k < 4 → parseFieldDescriptor (TX5 k).2.2.1 = some (tyX5 k) := by decide +kernel
def yX5_init : MethodName := ⟨RX5, "<init>", "()V"⟩
def yX5_run : MethodName := ⟨RX5, "run", "(LGaugeNet$Works;I)V"⟩
def yX5_rowAt : MethodName := ⟨RX5, "rowAt", "(I)I"⟩
def yX5_nextRow : MethodName := ⟨RX5, "nextRow", "(LGaugeNet$Works;)I"⟩
def RX6 : String := "GaugeNet$Telling"
def TX6 : u_T := fun k => match k with
  | _ => ("GaugeNet$Telling", "nets", "[I", true)
def tyX6 : Nat → FieldType := fun k => match k with
  | _ => .array .int
abbrev wsX60 : List Cond := u_ws RX6 TX6 1
theorem nmX6 : ∀ a, a < 1 → ∀ b, b < 1 → a ≠ b → (TX6 a).2.1 ≠ (TX6 b).2.1 := by decide +kernel
theorem tyX6_ok : ∀ k, k < 1 → parseFieldDescriptor (TX6 k).2.2.1 = some (tyX6 k) := by decide +kernel
def yX6_init : MethodName := ⟨RX6, "<init>", "()V"⟩
def yX6_isToldBy : MethodName := ⟨RX6, "isToldBy", "(LGaugeNet$Works;LGaugeNet$Pairs;I)Z"⟩
def yX6_setNets : MethodName := ⟨RX6, "setNets", "(LGaugeNet$Works;III)V"⟩
def yX6_isAllTold : MethodName := ⟨RX6, "isAllTold", "(LGaugeNet$Works;LGaugeNet$Pairs;I)Z"⟩
def yX6_isSeen : MethodName := ⟨RX6, "isSeen", "(LGaugeNet$Pairs;I)Z"⟩
def yX6_isParted : MethodName := ⟨RX6, "isParted", "(LGaugeNet$Pairs;II)Z"⟩
def yX6_cheapestAdded : MethodName := ⟨RX6, "cheapestAdded", "(LGaugeNet$Works;LGaugeNet$Pairs;Z)I"⟩
def yX6_isToldWith : MethodName := ⟨RX6, "isToldWith", "(LGaugeNet$Works;LGaugeNet$Pairs;IZ)Z"⟩
def yX6_dearestTaken : MethodName := ⟨RX6, "dearestTaken", "(LGaugeNet$Works;LGaugeNet$Pairs;)I"⟩
def yX6_isToldWithout : MethodName := ⟨RX6, "isToldWithout", "(LGaugeNet$Works;LGaugeNet$Pairs;I)Z"⟩
def yX6_isKept : MethodName := ⟨RX6, "isKept", "(LGaugeNet$Works;LGaugeNet$Pairs;III)Z"⟩
def yX6_fewestPositions : MethodName := ⟨RX6, "fewestPositions", "(LGaugeNet$Works;LGaugeNet$Pairs;)I"⟩
def RX7 : String := "GaugeNet$Tests"
def TX7 : u_T := fun k => match k with
  | 0 => ("GaugeNet$Tests", "rowSets", "[I", true)
  | 1 => ("GaugeNet$Tests", "states", "[I", true)
  | 2 => ("GaugeNet$Tests", "weights", "[J", true)
  | 3 => ("GaugeNet$Tests", "elimination", "LGaugeNet$Elimination;", true)
  | _ => ("GaugeNet$Tests", "count", "I", false)
def tyX7 : Nat → FieldType := fun k => match k with
  | 0 => .array .int
  | 1 => .array .int
  | 2 => .array .long
  | 3 => .object "GaugeNet$Elimination"
  | _ => .int
abbrev wsX70 : List Cond := u_ws RX7 TX7 5
theorem nmX7 : ∀ a, a < 5 → ∀ b, b < 5 → a ≠ b → (TX7 a).2.1 ≠ (TX7 b).2.1 := by decide +kernel
theorem tyX7_ok : ∀ k, k < 5 → parseFieldDescriptor (TX7 k).2.2.1 = some (tyX7 k) := by decide +kernel
def yX7_init : MethodName := ⟨RX7, "<init>", "()V"⟩
def yX7_gather : MethodName := ⟨RX7, "gather", "(LGaugeNet$Works;LGaugeNet$Pairs;)V"⟩
def yX7_addIfTest : MethodName := ⟨RX7, "addIfTest", "(LGaugeNet$Pairs;II)V"⟩
def yX7_isTest : MethodName := ⟨RX7, "isTest", "(LGaugeNet$Pairs;II)Z"⟩
def yX7_rowsOf : MethodName := ⟨RX7, "rowsOf", "(I)I"⟩
def yX7_isIn : MethodName := ⟨RX7, "isIn", "(II)Z"⟩
def yX7_hasRow : MethodName := ⟨RX7, "hasRow", "(II)Z"⟩
def yX7_countIn : MethodName := ⟨RX7, "countIn", "(I)I"⟩
def yX7_find : MethodName := ⟨RX7, "find", "(II)I"⟩
def yX7_weigh : MethodName := ⟨RX7, "weigh", "(LGaugeNet$Works;I)V"⟩
def yX7_canRun : MethodName := ⟨RX7, "canRun", "(I)Z"⟩
def yX7_weightOf : MethodName := ⟨RX7, "weightOf", "(II)J"⟩
def yX7_noughtOf : MethodName := ⟨RX7, "noughtOf", "(LGaugeNet$Works;I)J"⟩
def yX7_boundOf : MethodName := ⟨RX7, "boundOf", "(LGaugeNet$Works;I)J"⟩
def yX7_isRinging : MethodName := ⟨RX7, "isRinging", "(LGaugeNet$Works;I)Z"⟩
def RX8 : String := "GaugeNet$Tokens"
def TX8 : u_T := fun k => match k with
  | 0 => ("GaugeNet$Tokens", "kinds", "[I", true)
  | 1 => ("GaugeNet$Tokens", "places", "[I", true)
  | 2 => ("GaugeNet$Tokens", "values", "[J", true)
  | _ => ("GaugeNet$Tokens", "count", "I", false)
def tyX8 : Nat → FieldType := fun k => match k with
  | 0 => .array .int
  | 1 => .array .int
  | 2 => .array .long
  | _ => .int
abbrev wsX80 : List Cond := u_ws RX8 TX8 4
theorem nmX8 : ∀ a, a < 4 → ∀ b, b < 4 → a ≠ b → (TX8 a).2.1 ≠ (TX8 b).2.1 := by decide +kernel
theorem tyX8_ok : ∀ k, k < 4 → parseFieldDescriptor (TX8 k).2.2.1 = some (tyX8 k) := by decide +kernel
def yX8_init : MethodName := ⟨RX8, "<init>", "()V"⟩
def yX8_part : MethodName := ⟨RX8, "part", "([BI)V"⟩
def yX8_kindAt : MethodName := ⟨RX8, "kindAt", "(I)I"⟩
def yX8_placeAt : MethodName := ⟨RX8, "placeAt", "(I)I"⟩
def yX8_valueAt : MethodName := ⟨RX8, "valueAt", "(I)J"⟩
def yX8_put : MethodName := ⟨RX8, "put", "(IIJ)V"⟩
def yX8_take : MethodName := ⟨RX8, "take", "([BII)I"⟩
def yX8_takeLetters : MethodName := ⟨RX8, "takeLetters", "([BII)I"⟩
def yX8_takeDigits : MethodName := ⟨RX8, "takeDigits", "([BII)I"⟩
def yX8_behindBlanks : MethodName := ⟨RX8, "behindBlanks", "([BII)I"⟩
def yX8_signAt : MethodName := ⟨RX8, "signAt", "([BII)I"⟩
def yX8_isBlank : MethodName := ⟨RX8, "isBlank", "(I)Z"⟩
def yX8_isLetter : MethodName := ⟨RX8, "isLetter", "(I)Z"⟩
def yX8_isDigit : MethodName := ⟨RX8, "isDigit", "(I)Z"⟩
def yX8_withLetter : MethodName := ⟨RX8, "withLetter", "(JI)J"⟩
def yX8_nameOf : MethodName := ⟨RX8, "nameOf", "(Ljava/lang/String;)J"⟩
def yX8_kindOfLetters : MethodName := ⟨RX8, "kindOfLetters", "(J)I"⟩
def yX8_kindOfSign : MethodName := ⟨RX8, "kindOfSign", "(I)I"⟩
def RX9 : String := "GaugeNet$Works"
def TX9 : u_T := fun k => match k with
  | 0 => ("GaugeNet$Works", "unknowns", "I", false)
  | 1 => ("GaugeNet$Works", "eqs", "I", false)
  | 2 => ("GaugeNet$Works", "gauges", "I", false)
  | 3 => ("GaugeNet$Works", "faults", "I", false)
  | 4 => ("GaugeNet$Works", "position", "I", false)
  | 5 => ("GaugeNet$Works", "inBits", "I", false)
  | 6 => ("GaugeNet$Works", "deadBits", "I", false)
  | 7 => ("GaugeNet$Works", "numbers", "[I", true)
  | 8 => ("GaugeNet$Works", "constants", "[I", true)
  | 9 => ("GaugeNet$Works", "holds", "[I", true)
  | 10 => ("GaugeNet$Works", "noiseOfGauge", "[I", true)
  | 11 => ("GaugeNet$Works", "costOfGauge", "[I", true)
  | 12 => ("GaugeNet$Works", "readings", "[I", true)
  | 13 => ("GaugeNet$Works", "rowOfFault", "[I", true)
  | _ => ("GaugeNet$Works", "has", "[I", true)
def tyX9 : Nat → FieldType := fun k => match k with
  | 0 => .int
  | 1 => .int
  | 2 => .int
  | 3 => .int
  | 4 => .int
  | 5 => .int
  | 6 => .int
  | 7 => .array .int
  | 8 => .array .int
  | 9 => .array .int
  | 10 => .array .int
  | 11 => .array .int
  | 12 => .array .int
  | 13 => .array .int
  | _ => .array .int
abbrev wsX90 : List Cond := u_ws RX9 TX9 15
theorem nmX9 : ∀ a, a < 15 → ∀ b, b < 15 → a ≠ b → (TX9 a).2.1 ≠ (TX9 b).2.1 := by decide +kernel
theorem tyX9_ok : ∀ k, k < 15 → parseFieldDescriptor (TX9 k).2.2.1 = some (tyX9 k) := by decide +kernel
def yX9_init : MethodName := ⟨RX9, "<init>", "()V"⟩
def yX9_clear : MethodName := ⟨RX9, "clear", "()V"⟩
def yX9_isUnknown : MethodName := ⟨RX9, "isUnknown", "(I)Z"⟩
def yX9_isEq : MethodName := ⟨RX9, "isEq", "(I)Z"⟩
def yX9_isGauge : MethodName := ⟨RX9, "isGauge", "(I)Z"⟩
def yX9_isFault : MethodName := ⟨RX9, "isFault", "(I)Z"⟩
def yX9_isRow : MethodName := ⟨RX9, "isRow", "(I)Z"⟩
def yX9_rowOf : MethodName := ⟨RX9, "rowOf", "(I)I"⟩
def yX9_hasOf : MethodName := ⟨RX9, "hasOf", "(I)I"⟩
def yX9_numberIn : MethodName := ⟨RX9, "numberIn", "(II)I"⟩
def yX9_addNumber : MethodName := ⟨RX9, "addNumber", "(III)V"⟩
def yX9_hold : MethodName := ⟨RX9, "hold", "(II)V"⟩
def yX9_addConstant : MethodName := ⟨RX9, "addConstant", "(II)V"⟩
def yX9_putNoise : MethodName := ⟨RX9, "putNoise", "(II)V"⟩
def yX9_putCost : MethodName := ⟨RX9, "putCost", "(II)V"⟩
def yX9_putRowOfFault : MethodName := ⟨RX9, "putRowOfFault", "(II)V"⟩
def yX9_constantOf : MethodName := ⟨RX9, "constantOf", "(I)J"⟩
def yX9_noiseOf : MethodName := ⟨RX9, "noiseOf", "(I)I"⟩
def yX9_costOf : MethodName := ⟨RX9, "costOf", "(I)I"⟩
def yX9_netAt : MethodName := ⟨RX9, "netAt", "(III)I"⟩
def yX9_netNow : MethodName := ⟨RX9, "netNow", "()I"⟩
def yX9_faultsOf : MethodName := ⟨RX9, "faultsOf", "(I)I"⟩
def RX10 : String := "GaugeNet"
def TX10 : u_T := fun k => match k with
  | 0 => ("GaugeNet", "tape", "[B", true)
  | 1 => ("GaugeNet", "tapeLength", "I", false)
  | 2 => ("GaugeNet", "faultPlace", "I", false)
  | 3 => ("GaugeNet", "parser", "LGaugeNet$Parser;", true)
  | 4 => ("GaugeNet", "works", "LGaugeNet$Works;", false)
  | 5 => ("GaugeNet", "ready", "Z", false)
  | 6 => ("GaugeNet", "pairs", "LGaugeNet$Pairs;", true)
  | 7 => ("GaugeNet", "allTests", "LGaugeNet$Tests;", true)
  | 8 => ("GaugeNet", "telling", "LGaugeNet$Telling;", true)
  | 9 => ("GaugeNet", "routine", "LGaugeNet$Routine;", true)
  | 10 => ("GaugeNet", "noises", "LGaugeNet$Noises;", true)
  | _ => ("GaugeNet", "blame", "LGaugeNet$Blame;", true)
def tyX10 : Nat → FieldType := fun k => match k with
  | 0 => .array .byte
  | 1 => .int
  | 2 => .int
  | 3 => .object "GaugeNet$Parser"
  | 4 => .object "GaugeNet$Works"
  | 5 => .boolean
  | 6 => .object "GaugeNet$Pairs"
  | 7 => .object "GaugeNet$Tests"
  | 8 => .object "GaugeNet$Telling"
  | 9 => .object "GaugeNet$Routine"
  | 10 => .object "GaugeNet$Noises"
  | _ => .object "GaugeNet$Blame"
abbrev wsX100 : List Cond := u_ws RX10 TX10 12
theorem nmX10 : ∀ a, a < 12 → ∀ b, b < 12 → a ≠ b → (TX10 a).2.1 ≠ (TX10 b).2.1 := by decide +kernel
theorem tyX10_ok : ∀ k, k < 12 → parseFieldDescriptor (TX10 k).2.2.1 = some (tyX10 k) := by decide +kernel
def yX10_init : MethodName := ⟨RX10, "<init>", "()V"⟩
def yX10_feed : MethodName := ⟨RX10, "feed", "(IIIII)I"⟩
def yX10_putBytes : MethodName := ⟨RX10, "putBytes", "(I)V"⟩
def yX10_back : MethodName := ⟨RX10, "back", "(I)I"⟩
def yX10_read : MethodName := ⟨RX10, "read", "()I"⟩
def yX10_place : MethodName := ⟨RX10, "place", "()I"⟩
def yX10_position : MethodName := ⟨RX10, "position", "(I)Z"⟩
def yX10_in : MethodName := ⟨RX10, "in", "(IZ)Z"⟩
def yX10_dead : MethodName := ⟨RX10, "dead", "(IZ)Z"⟩
def yX10_reading : MethodName := ⟨RX10, "reading", "(II)Z"⟩
def yX10_number : MethodName := ⟨RX10, "number", "(II)I"⟩
def yX10_net : MethodName := ⟨RX10, "net", "()I"⟩
def yX10_pairs : MethodName := ⟨RX10, "pairs", "()I"⟩
def yX10_row : MethodName := ⟨RX10, "row", "(I)I"⟩
def yX10_unknown : MethodName := ⟨RX10, "unknown", "(I)I"⟩
def yX10_tests : MethodName := ⟨RX10, "tests", "()I"⟩
def yX10_test : MethodName := ⟨RX10, "test", "(I)I"⟩
def yX10_parts : MethodName := ⟨RX10, "parts", "(II)I"⟩
def yX10_seen : MethodName := ⟨RX10, "seen", "(I)I"⟩
def yX10_parted : MethodName := ⟨RX10, "parted", "(II)I"⟩
def yX10_told : MethodName := ⟨RX10, "told", "(I)I"⟩
def yX10_adding : MethodName := ⟨RX10, "adding", "(Z)I"⟩
def yX10_taking : MethodName := ⟨RX10, "taking", "()I"⟩
def yX10_positions : MethodName := ⟨RX10, "positions", "()I"⟩
def yX10_cost : MethodName := ⟨RX10, "cost", "(I)I"⟩
def yX10_uses : MethodName := ⟨RX10, "uses", "(II)I"⟩
def yX10_use : MethodName := ⟨RX10, "use", "(III)I"⟩
def yX10_ring : MethodName := ⟨RX10, "ring", "(II)I"⟩
def yX10_runRoutine : MethodName := ⟨RX10, "runRoutine", "(II)Z"⟩
def yX10_runs : MethodName := ⟨RX10, "runs", "(I)I"⟩
def yX10_weight : MethodName := ⟨RX10, "weight", "(II)J"⟩
def yX10_nought : MethodName := ⟨RX10, "nought", "(I)J"⟩
def yX10_bound : MethodName := ⟨RX10, "bound", "(I)J"⟩
def yX10_rings : MethodName := ⟨RX10, "rings", "(I)I"⟩
def yX10_from : MethodName := ⟨RX10, "from", "(II)J"⟩
def yX10_odds : MethodName := ⟨RX10, "odds", "(IIIJ)I"⟩
def yX10_sets : MethodName := ⟨RX10, "sets", "(Z)I"⟩
def yX10_set : MethodName := ⟨RX10, "set", "(ZI)I"⟩
def yX10_look : MethodName := ⟨RX10, "look", "()I"⟩
def yX10_hearRings : MethodName := ⟨RX10, "hearRings", "()V"⟩
def yX10_hide : MethodName := ⟨RX10, "hide", "(II)I"⟩
def yX10_still : MethodName := ⟨RX10, "still", "(I)I"⟩
def yX10_judged : MethodName := ⟨RX10, "judged", "(III)I"⟩
def yX10_mistaken : MethodName := ⟨RX10, "mistaken", "(II)I"⟩
def yX10_count : MethodName := ⟨RX10, "count", "(I)I"⟩
def yX10_makeReady : MethodName := ⟨RX10, "makeReady", "()V"⟩
def yX10_makeWeighed : MethodName := ⟨RX10, "makeWeighed", "()V"⟩
def yX10_testAt : MethodName := ⟨RX10, "testAt", "(I)I"⟩
def yX10_runningTestAt : MethodName := ⟨RX10, "runningTestAt", "(I)I"⟩
def yX10_hasBit : MethodName := ⟨RX10, "hasBit", "(II)Z"⟩
def yX10_withBit : MethodName := ⟨RX10, "withBit", "(IIZ)I"⟩
def yX10_divisorOfBoth : MethodName := ⟨RX10, "divisorOfBoth", "(JJ)J"⟩
def RX11 : String := "GaugeNetModel"
def TX11 : u_T := fun k => match k with
  | 0 => ("GaugeNetModel", "thrown", "I", false)
  | 1 => ("GaugeNetModel", "tape", "[B", true)
  | 2 => ("GaugeNetModel", "taped", "I", false)
  | 3 => ("GaugeNetModel", "text", "[B", true)
  | 4 => ("GaugeNetModel", "size", "I", false)
  | 5 => ("GaugeNetModel", "tKind", "[I", true)
  | 6 => ("GaugeNetModel", "tPlace", "[I", true)
  | 7 => ("GaugeNetModel", "tValue", "[I", true)
  | 8 => ("GaugeNetModel", "tName", "[J", true)
  | 9 => ("GaugeNetModel", "keys", "[J", true)
  | 10 => ("GaugeNetModel", "tokens", "I", false)
  | 11 => ("GaugeNetModel", "t", "I", false)
  | 12 => ("GaugeNetModel", "open", "I", false)
  | 13 => ("GaugeNetModel", "fault", "I", false)
  | 14 => ("GaugeNetModel", "faultPlace", "I", false)
  | 15 => ("GaugeNetModel", "worst", "I", false)
  | 16 => ("GaugeNetModel", "worstPlace", "I", false)
  | 17 => ("GaugeNetModel", "place", "I", false)
  | 18 => ("GaugeNetModel", "live", "I", false)
  | 19 => ("GaugeNetModel", "side", "I", false)
  | 20 => ("GaugeNetModel", "names", "I", false)
  | 21 => ("GaugeNetModel", "nameOf", "[J", true)
  | 22 => ("GaugeNetModel", "nameSort", "[I", true)
  | 23 => ("GaugeNetModel", "nameAt", "[I", true)
  | 24 => ("GaugeNetModel", "unknowns", "[I", true)
  | 25 => ("GaugeNetModel", "eqs", "[I", true)
  | 26 => ("GaugeNetModel", "numbers", "[I", true)
  | 27 => ("GaugeNetModel", "eqIn", "[I", true)
  | 28 => ("GaugeNetModel", "gauges", "[I", true)
  | 29 => ("GaugeNetModel", "gaugeOf", "[I", true)
  | 30 => ("GaugeNetModel", "noiseOf", "[I", true)
  | 31 => ("GaugeNetModel", "costOf", "[I", true)
  | 32 => ("GaugeNetModel", "isMaybe", "[Z", true)
  | 33 => ("GaugeNetModel", "faults", "[I", true)
  | 34 => ("GaugeNetModel", "rowOf", "[I", true)
  | 35 => ("GaugeNetModel", "position", "I", false)
  | 36 => ("GaugeNetModel", "inSet", "I", false)
  | 37 => ("GaugeNetModel", "deadSet", "I", false)
  | 38 => ("GaugeNetModel", "readings", "[I", true)
  | 39 => ("GaugeNetModel", "namedSet", "I", false)
  | 40 => ("GaugeNetModel", "pairOf", "[I", true)
  | 41 => ("GaugeNetModel", "isSeenNow", "[Z", true)
  | 42 => ("GaugeNetModel", "asker", "[I", true)
  | 43 => ("GaugeNetModel", "asked", "[I", true)
  | 44 => ("GaugeNetModel", "isTested", "Z", false)
  | 45 => ("GaugeNetModel", "tests", "I", false)
  | 46 => ("GaugeNetModel", "testOf", "[I", true)
  | 47 => ("GaugeNetModel", "weightOf", "[J", true)
  | 48 => ("GaugeNetModel", "runsAt", "[Z", true)
  | 49 => ("GaugeNetModel", "holdsOne", "[Z", true)
  | 50 => ("GaugeNetModel", "testRows", "[I", true)
  | 51 => ("GaugeNetModel", "testUnknowns", "[I", true)
  | 52 => ("GaugeNetModel", "minors", "[J", true)
  | 53 => ("GaugeNetModel", "used", "I", false)
  | 54 => ("GaugeNetModel", "usedRow", "[I", true)
  | 55 => ("GaugeNetModel", "noiseNow", "[I", true)
  | 56 => ("GaugeNetModel", "isRing", "[Z", true)
  | 57 => ("GaugeNetModel", "sets", "I", false)
  | _ => ("GaugeNetModel", "setOf", "[I", true)
def tyX11 : Nat → FieldType := fun k => match k with
  | 0 => .int
  | 1 => .array .byte
  | 2 => .int
  | 3 => .array .byte
  | 4 => .int
  | 5 => .array .int
  | 6 => .array .int
  | 7 => .array .int
  | 8 => .array .long
  | 9 => .array .long
  | 10 => .int
  | 11 => .int
  | 12 => .int
  | 13 => .int
  | 14 => .int
  | 15 => .int
  | 16 => .int
  | 17 => .int
  | 18 => .int
  | 19 => .int
  | 20 => .int
  | 21 => .array .long
  | 22 => .array .int
  | 23 => .array .int
  | 24 => .array .int
  | 25 => .array .int
  | 26 => .array .int
  | 27 => .array .int
  | 28 => .array .int
  | 29 => .array .int
  | 30 => .array .int
  | 31 => .array .int
  | 32 => .array .boolean
  | 33 => .array .int
  | 34 => .array .int
  | 35 => .int
  | 36 => .int
  | 37 => .int
  | 38 => .array .int
  | 39 => .int
  | 40 => .array .int
  | 41 => .array .boolean
  | 42 => .array .int
  | 43 => .array .int
  | 44 => .boolean
  | 45 => .int
  | 46 => .array .int
  | 47 => .array .long
  | 48 => .array .boolean
  | 49 => .array .boolean
  | 50 => .array .int
  | 51 => .array .int
  | 52 => .array .long
  | 53 => .int
  | 54 => .array .int
  | 55 => .array .int
  | 56 => .array .boolean
  | 57 => .int
  | _ => .array .int
abbrev wsX110 : List Cond := u_ws RX11 TX11 59
theorem nmX11 : ∀ a, a < 59 → ∀ b, b < 59 → a ≠ b → (TX11 a).2.1 ≠ (TX11 b).2.1 := by decide +kernel
theorem tyX11_ok : ∀ k, k < 59 → parseFieldDescriptor (TX11 k).2.2.1 = some (tyX11 k) := by decide +kernel
def yX11_init : MethodName := ⟨RX11, "<init>", "()V"⟩
def yX11_feed : MethodName := ⟨RX11, "feed", "(IIIII)I"⟩
def yX11_put : MethodName := ⟨RX11, "put", "(I)V"⟩
def yX11_back : MethodName := ⟨RX11, "back", "(I)I"⟩
def yX11_byteAt : MethodName := ⟨RX11, "byteAt", "(I)I"⟩
def yX11_isDigit : MethodName := ⟨RX11, "isDigit", "(I)Z"⟩
def yX11_isLetter : MethodName := ⟨RX11, "isLetter", "(I)Z"⟩
def yX11_appends : MethodName := ⟨RX11, "appends", "(JI)J"⟩
def yX11_word : MethodName := ⟨RX11, "word", "(IIIIIII)J"⟩
def yX11_token : MethodName := ⟨RX11, "token", "(IIIJ)V"⟩
def yX11_cut : MethodName := ⟨RX11, "cut", "()V"⟩
def yX11_sign : MethodName := ⟨RX11, "sign", "(I)I"⟩
def yX11_is : MethodName := ⟨RX11, "is", "(I)Z"⟩
def yX11_fail : MethodName := ⟨RX11, "fail", "(I)V"⟩
def yX11_wrong : MethodName := ⟨RX11, "wrong", "(II)V"⟩
def yX11_goesOn : MethodName := ⟨RX11, "goesOn", "()V"⟩
def yX11_must : MethodName := ⟨RX11, "must", "(I)V"⟩
def yX11_read : MethodName := ⟨RX11, "read", "()I"⟩
def yX11_place : MethodName := ⟨RX11, "place", "()I"⟩
def yX11_tell : MethodName := ⟨RX11, "tell", "()V"⟩
def yX11_named : MethodName := ⟨RX11, "named", "()I"⟩
def yX11_knows : MethodName := ⟨RX11, "knows", "(III)V"⟩
def yX11_known : MethodName := ⟨RX11, "known", "(II)I"⟩
def yX11_toldInt : MethodName := ⟨RX11, "toldInt", "(II)I"⟩
def yX11_tellUnknown : MethodName := ⟨RX11, "tellUnknown", "()V"⟩
def yX11_tellEq : MethodName := ⟨RX11, "tellEq", "()V"⟩
def yX11_tellTerm : MethodName := ⟨RX11, "tellTerm", "(I)V"⟩
def yX11_tellGauge : MethodName := ⟨RX11, "tellGauge", "()V"⟩
def yX11_tellFault : MethodName := ⟨RX11, "tellFault", "()V"⟩
def yX11_inRange : MethodName := ⟨RX11, "inRange", "(III)Z"⟩
def yX11_isGauge : MethodName := ⟨RX11, "isGauge", "(I)Z"⟩
def yX11_isFault : MethodName := ⟨RX11, "isFault", "(I)Z"⟩
def yX11_isRow : MethodName := ⟨RX11, "isRow", "(I)Z"⟩
def yX11_faultRow : MethodName := ⟨RX11, "faultRow", "(I)I"⟩
def yX11_numberOf : MethodName := ⟨RX11, "numberOf", "(II)I"⟩
def yX11_has : MethodName := ⟨RX11, "has", "(II)Z"⟩
def yX11_netOf : MethodName := ⟨RX11, "netOf", "(III)I"⟩
def yX11_netNow : MethodName := ⟨RX11, "netNow", "()I"⟩
def yX11_bits : MethodName := ⟨RX11, "bits", "(I)I"⟩
def yX11_pairsOf : MethodName := ⟨RX11, "pairsOf", "(II)I"⟩
def yX11_finds : MethodName := ⟨RX11, "finds", "(II)Z"⟩
def yX11_isMoreIn : MethodName := ⟨RX11, "isMoreIn", "(II)Z"⟩
def yX11_position : MethodName := ⟨RX11, "position", "(I)Z"⟩
def yX11_with : MethodName := ⟨RX11, "with", "(IIZ)I"⟩
def yX11_in : MethodName := ⟨RX11, "in", "(IZ)Z"⟩
def yX11_dead : MethodName := ⟨RX11, "dead", "(IZ)Z"⟩
def yX11_reading : MethodName := ⟨RX11, "reading", "(II)Z"⟩
def yX11_number : MethodName := ⟨RX11, "number", "(II)I"⟩
def yX11_net : MethodName := ⟨RX11, "net", "()I"⟩
def yX11_pairs : MethodName := ⟨RX11, "pairs", "()I"⟩
def yX11_row : MethodName := ⟨RX11, "row", "(I)I"⟩
def yX11_unknown : MethodName := ⟨RX11, "unknown", "(I)I"⟩
def yX11_unknownsOf : MethodName := ⟨RX11, "unknownsOf", "(I)I"⟩
def yX11_seeks : MethodName := ⟨RX11, "seeks", "()V"⟩
def yX11_minorWithout : MethodName := ⟨RX11, "minorWithout", "(II)J"⟩
def yX11_common : MethodName := ⟨RX11, "common", "(JJ)J"⟩
def yX11_weighs : MethodName := ⟨RX11, "weighs", "(II)Z"⟩
def yX11_isTest : MethodName := ⟨RX11, "isTest", "(I)Z"⟩
def yX11_isRun : MethodName := ⟨RX11, "isRun", "(I)Z"⟩
def yX11_tests : MethodName := ⟨RX11, "tests", "()I"⟩
def yX11_test : MethodName := ⟨RX11, "test", "(I)I"⟩
def yX11_parts : MethodName := ⟨RX11, "parts", "(II)I"⟩
def yX11_isSeenIn : MethodName := ⟨RX11, "isSeenIn", "(II)Z"⟩
def yX11_isPartedIn : MethodName := ⟨RX11, "isPartedIn", "(III)Z"⟩
def yX11_seen : MethodName := ⟨RX11, "seen", "(I)I"⟩
def yX11_parted : MethodName := ⟨RX11, "parted", "(II)I"⟩
def yX11_isAllTold : MethodName := ⟨RX11, "isAllTold", "(IIII)Z"⟩
def yX11_told : MethodName := ⟨RX11, "told", "(I)I"⟩
def yX11_costBy : MethodName := ⟨RX11, "costBy", "(I)I"⟩
def yX11_cost : MethodName := ⟨RX11, "cost", "(I)I"⟩
def yX11_does : MethodName := ⟨RX11, "does", "(IZ)Z"⟩
def yX11_adding : MethodName := ⟨RX11, "adding", "(Z)I"⟩
def yX11_isTaken : MethodName := ⟨RX11, "isTaken", "(II)Z"⟩
def yX11_staysWithout : MethodName := ⟨RX11, "staysWithout", "(I)Z"⟩
def yX11_taking : MethodName := ⟨RX11, "taking", "()I"⟩
def yX11_positions : MethodName := ⟨RX11, "positions", "()I"⟩
def yX11_routine : MethodName := ⟨RX11, "routine", "(II)I"⟩
def yX11_uses : MethodName := ⟨RX11, "uses", "(II)I"⟩
def yX11_use : MethodName := ⟨RX11, "use", "(III)I"⟩
def yX11_ring : MethodName := ⟨RX11, "ring", "(II)I"⟩
def yX11_runs : MethodName := ⟨RX11, "runs", "(I)I"⟩
def yX11_weight : MethodName := ⟨RX11, "weight", "(II)J"⟩
def yX11_noughtOf : MethodName := ⟨RX11, "noughtOf", "(I)J"⟩
def yX11_size : MethodName := ⟨RX11, "size", "(J)J"⟩
def yX11_boundOf : MethodName := ⟨RX11, "boundOf", "(I)J"⟩
def yX11_isRinging : MethodName := ⟨RX11, "isRinging", "(I)Z"⟩
def yX11_nought : MethodName := ⟨RX11, "nought", "(I)J"⟩
def yX11_bound : MethodName := ⟨RX11, "bound", "(I)J"⟩
def yX11_rings : MethodName := ⟨RX11, "rings", "(I)I"⟩
def yX11_weightIn : MethodName := ⟨RX11, "weightIn", "(II)J"⟩
def yX11_from : MethodName := ⟨RX11, "from", "(II)J"⟩
def yX11_odds : MethodName := ⟨RX11, "odds", "(IIIJ)I"⟩
def yX11_noise : MethodName := ⟨RX11, "noise", "(II)I"⟩
def yX11_hears : MethodName := ⟨RX11, "hears", "()V"⟩
def yX11_rowsOf : MethodName := ⟨RX11, "rowsOf", "(I)I"⟩
def yX11_isHit : MethodName := ⟨RX11, "isHit", "(I)Z"⟩
def yX11_isQuiet : MethodName := ⟨RX11, "isQuiet", "(I)Z"⟩
def yX11_hits : MethodName := ⟨RX11, "hits", "(Z)V"⟩
def yX11_sets : MethodName := ⟨RX11, "sets", "(Z)I"⟩
def yX11_set : MethodName := ⟨RX11, "set", "(ZI)I"⟩
def yX11_look : MethodName := ⟨RX11, "look", "()I"⟩
def yX11_hide : MethodName := ⟨RX11, "hide", "(II)I"⟩
def yX11_still : MethodName := ⟨RX11, "still", "(I)I"⟩
def yX11_firstSet : MethodName := ⟨RX11, "firstSet", "(II)I"⟩
def yX11_judged : MethodName := ⟨RX11, "judged", "(III)I"⟩
def yX11_mistaken : MethodName := ⟨RX11, "mistaken", "(II)I"⟩
def yX11_count : MethodName := ⟨RX11, "count", "(I)I"⟩
def RJx145de : String := "java/io/Serializable"
def RJx9f9b0 : String := "java/lang/CharSequence"
def RJxb160c : String := "java/lang/Comparable"
def RJ6 : String := "java/lang/Integer"
def yJ6_bitCount_0f7a4 : MethodName := ⟨RJ6, "bitCount", "(I)I"⟩
def RJ9 : String := "java/lang/Math"
def yJ9_abs_067f4 : MethodName := ⟨RJ9, "abs", "(J)J"⟩
def yJ9_max_7cf53 : MethodName := ⟨RJ9, "max", "(II)I"⟩
def yJ9_min_7cf53 : MethodName := ⟨RJ9, "min", "(II)I"⟩
def RJ0 : String := "java/lang/String"
def yJ0_length_8abf5 : MethodName := ⟨RJ0, "length", "()I"⟩
def yJ0_charAt_5068e : MethodName := ⟨RJ0, "charAt", "(I)C"⟩
def yJ0_coder_7d493 : MethodName := ⟨RJ0, "coder", "()B"⟩
def yJ0_isLatin1_aae02 : MethodName := ⟨RJ0, "isLatin1", "()Z"⟩
def yJ0_checkIndex_df160 : MethodName := ⟨RJ0, "checkIndex", "(II)V"⟩
def RJ1 : String := "java/lang/StringLatin1"
def yJ1_charAt_3b067 : MethodName := ⟨RJ1, "charAt", "([BI)C"⟩
def RJ2 : String := "java/lang/StringUTF16"
def yJ2_getChar_3b067 : MethodName := ⟨RJ2, "getChar", "([BI)C"⟩
def yJ2_length_9d52b : MethodName := ⟨RJ2, "length", "([B)I"⟩
def yJ2_charAt_3b067 : MethodName := ⟨RJ2, "charAt", "([BI)C"⟩
def yJ2_checkIndex_2214a : MethodName := ⟨RJ2, "checkIndex", "(I[B)V"⟩
def RJxfd54e : String := "java/lang/constant/Constable"
def RJx3cf43 : String := "java/lang/constant/ConstantDesc"
def RJ7 : String := "java/util/Arrays"
def yJ7_fill_d0a16 : MethodName := ⟨RJ7, "fill", "([JJ)V"⟩
def yJ7_fill_53178 : MethodName := ⟨RJ7, "fill", "([II)V"⟩
def RJ3 : String := "jdk/internal/util/Preconditions"
def yJ3_checkIndex_8e157 : MethodName := ⟨RJ3, "checkIndex", "(IILjava/util/function/BiFunction;)I"⟩
def RL : String := "GaugeNetLaw"
abbrev vwCl : List vw_C := [(RX0, TX0, 4), (RX1, TX1, 8), (RX2, TX2, 3), (RX3, TX3, 2), (RX4, TX4, 11), (RX5, TX5, 4), (RX6, TX6, 1), (RX7, TX7, 5), (RX8, TX8, 4), (RX9, TX9, 15), (RX10, TX10, 12), (RX11, TX11, 59)]
