-- ===== PART A: goes FIRST, ahead of the names: the tables' words, and 'selects' of the private methods out of them =====
/-- a private method of a class that the tables say can be made, by its rows of tables_1 -/
def lw_okq (q : MethodName × Nat) : Prop := (q.1.cls ≠ "java/lang/invoke/MethodHandle" ∧ q.1.cls ≠ "java/lang/invoke/VarHandle") ∧ Cond.instantiable q.1.cls q.2 ∈ tables_1 ∧ Cond.privateMethod q.1 ∈ tables_1 ∧ Cond.instanceMethod q.1 ∈ tables_1
theorem lw_p0 : lw_okq (⟨"BirdCodes", "putFour", "(I)V"⟩, 14) := ⟨⟨by decide +kernel, by decide +kernel⟩, List.mem_of_getElem? (i := 21) (by decide +kernel), List.mem_of_getElem? (i := 532) (by decide +kernel), List.mem_of_getElem? (i := 533) (by decide +kernel)⟩
theorem lw_p1 : lw_okq (⟨"BirdCodes$Reader", "advance", "()V"⟩, 12) := ⟨⟨by decide +kernel, by decide +kernel⟩, List.mem_of_getElem? (i := 29) (by decide +kernel), List.mem_of_getElem? (i := 548) (by decide +kernel), List.mem_of_getElem? (i := 549) (by decide +kernel)⟩
theorem lw_p2 : lw_okq (⟨"BirdCodes$Reader", "here", "()I"⟩, 12) := ⟨⟨by decide +kernel, by decide +kernel⟩, List.mem_of_getElem? (i := 29) (by decide +kernel), List.mem_of_getElem? (i := 552) (by decide +kernel), List.mem_of_getElem? (i := 553) (by decide +kernel)⟩
theorem lw_p3 : lw_okq (⟨"BirdCodes$Reader", "advanceWord", "()V"⟩, 12) := ⟨⟨by decide +kernel, by decide +kernel⟩, List.mem_of_getElem? (i := 29) (by decide +kernel), List.mem_of_getElem? (i := 559) (by decide +kernel), List.mem_of_getElem? (i := 560) (by decide +kernel)⟩
theorem lw_p4 : lw_okq (⟨"BirdCodes$Reader", "advanceNumber", "()V"⟩, 12) := ⟨⟨by decide +kernel, by decide +kernel⟩, List.mem_of_getElem? (i := 29) (by decide +kernel), List.mem_of_getElem? (i := 566) (by decide +kernel), List.mem_of_getElem? (i := 567) (by decide +kernel)⟩
theorem lw_p5 : lw_okq (⟨"BirdCodes$Reader", "readLine", "()Z"⟩, 12) := ⟨⟨by decide +kernel, by decide +kernel⟩, List.mem_of_getElem? (i := 29) (by decide +kernel), List.mem_of_getElem? (i := 571) (by decide +kernel), List.mem_of_getElem? (i := 572) (by decide +kernel)⟩
theorem lw_p6 : lw_okq (⟨"BirdCodes$Reader", "refuse", "(I)Z"⟩, 12) := ⟨⟨by decide +kernel, by decide +kernel⟩, List.mem_of_getElem? (i := 29) (by decide +kernel), List.mem_of_getElem? (i := 580) (by decide +kernel), List.mem_of_getElem? (i := 581) (by decide +kernel)⟩
theorem lw_p7 : lw_okq (⟨"BirdCodes$Reader", "isOneTooMany", "(I)Z"⟩, 12) := ⟨⟨by decide +kernel, by decide +kernel⟩, List.mem_of_getElem? (i := 29) (by decide +kernel), List.mem_of_getElem? (i := 584) (by decide +kernel), List.mem_of_getElem? (i := 585) (by decide +kernel)⟩
theorem lw_p8 : lw_okq (⟨"BirdCodes$Reader", "readName", "(I)Z"⟩, 12) := ⟨⟨by decide +kernel, by decide +kernel⟩, List.mem_of_getElem? (i := 29) (by decide +kernel), List.mem_of_getElem? (i := 591) (by decide +kernel), List.mem_of_getElem? (i := 592) (by decide +kernel)⟩
theorem lw_p9 : lw_okq (⟨"BirdCodes$Reader", "isToldOfBird", "(I)Z"⟩, 12) := ⟨⟨by decide +kernel, by decide +kernel⟩, List.mem_of_getElem? (i := 29) (by decide +kernel), List.mem_of_getElem? (i := 599) (by decide +kernel), List.mem_of_getElem? (i := 600) (by decide +kernel)⟩
theorem lw_p10 : lw_okq (⟨"BirdCodes$Reader", "readNumbers", "(I)Z"⟩, 12) := ⟨⟨by decide +kernel, by decide +kernel⟩, List.mem_of_getElem? (i := 29) (by decide +kernel), List.mem_of_getElem? (i := 607) (by decide +kernel), List.mem_of_getElem? (i := 608) (by decide +kernel)⟩
theorem lw_p11 : lw_okq (⟨"BirdCodes$Reader", "take", "(I)V"⟩, 12) := ⟨⟨by decide +kernel, by decide +kernel⟩, List.mem_of_getElem? (i := 29) (by decide +kernel), List.mem_of_getElem? (i := 617) (by decide +kernel), List.mem_of_getElem? (i := 618) (by decide +kernel)⟩
theorem lw_p12 : lw_okq (⟨"BirdCodes$Reader", "takeHome", "()V"⟩, 12) := ⟨⟨by decide +kernel, by decide +kernel⟩, List.mem_of_getElem? (i := 29) (by decide +kernel), List.mem_of_getElem? (i := 629) (by decide +kernel), List.mem_of_getElem? (i := 630) (by decide +kernel)⟩
theorem lw_p13 : lw_okq (⟨"BirdCodes$Reader", "takeOfBird", "(I)V"⟩, 12) := ⟨⟨by decide +kernel, by decide +kernel⟩, List.mem_of_getElem? (i := 29) (by decide +kernel), List.mem_of_getElem? (i := 633) (by decide +kernel), List.mem_of_getElem? (i := 634) (by decide +kernel)⟩
theorem lw_p14 : lw_okq (⟨"BirdCodes", "isBird", "(I)Z"⟩, 14) := ⟨⟨by decide +kernel, by decide +kernel⟩, List.mem_of_getElem? (i := 21) (by decide +kernel), List.mem_of_getElem? (i := 671) (by decide +kernel), List.mem_of_getElem? (i := 672) (by decide +kernel)⟩
theorem lw_p15 : lw_okq (⟨"BirdCodes$Ear", "addBird", "(LBirdCodes$Bird;I)V"⟩, 10) := ⟨⟨by decide +kernel, by decide +kernel⟩, List.mem_of_getElem? (i := 268) (by decide +kernel), List.mem_of_getElem? (i := 721) (by decide +kernel), List.mem_of_getElem? (i := 722) (by decide +kernel)⟩
def lw_privs_1 : List (MethodName × Nat) := [(⟨"BirdCodes", "putFour", "(I)V"⟩, 14), (⟨"BirdCodes$Reader", "advance", "()V"⟩, 12), (⟨"BirdCodes$Reader", "here", "()I"⟩, 12), (⟨"BirdCodes$Reader", "advanceWord", "()V"⟩, 12), (⟨"BirdCodes$Reader", "advanceNumber", "()V"⟩, 12), (⟨"BirdCodes$Reader", "readLine", "()Z"⟩, 12), (⟨"BirdCodes$Reader", "refuse", "(I)Z"⟩, 12), (⟨"BirdCodes$Reader", "isOneTooMany", "(I)Z"⟩, 12), (⟨"BirdCodes$Reader", "readName", "(I)Z"⟩, 12), (⟨"BirdCodes$Reader", "isToldOfBird", "(I)Z"⟩, 12), (⟨"BirdCodes$Reader", "readNumbers", "(I)Z"⟩, 12), (⟨"BirdCodes$Reader", "take", "(I)V"⟩, 12), (⟨"BirdCodes$Reader", "takeHome", "()V"⟩, 12), (⟨"BirdCodes$Reader", "takeOfBird", "(I)V"⟩, 12), (⟨"BirdCodes", "isBird", "(I)Z"⟩, 14), (⟨"BirdCodes$Ear", "addBird", "(LBirdCodes$Bird;I)V"⟩, 10)]
theorem lw_r1 : ∀ q ∈ lw_privs_1, lw_okq q := List.forall_mem_cons.mpr ⟨lw_p0, List.forall_mem_cons.mpr ⟨lw_p1, List.forall_mem_cons.mpr ⟨lw_p2, List.forall_mem_cons.mpr ⟨lw_p3, List.forall_mem_cons.mpr ⟨lw_p4, List.forall_mem_cons.mpr ⟨lw_p5, List.forall_mem_cons.mpr ⟨lw_p6, List.forall_mem_cons.mpr ⟨lw_p7, List.forall_mem_cons.mpr ⟨lw_p8, List.forall_mem_cons.mpr ⟨lw_p9, List.forall_mem_cons.mpr ⟨lw_p10, List.forall_mem_cons.mpr ⟨lw_p11, List.forall_mem_cons.mpr ⟨lw_p12, List.forall_mem_cons.mpr ⟨lw_p13, List.forall_mem_cons.mpr ⟨lw_p14, List.forall_mem_cons.mpr ⟨lw_p15, fun _ h => absurd h List.not_mem_nil⟩⟩⟩⟩⟩⟩⟩⟩⟩⟩⟩⟩⟩⟩⟩⟩
theorem lw_p16 : lw_okq (⟨"BirdCodes$Ear", "addNoise", "(III)V"⟩, 10) := ⟨⟨by decide +kernel, by decide +kernel⟩, List.mem_of_getElem? (i := 268) (by decide +kernel), List.mem_of_getElem? (i := 741) (by decide +kernel), List.mem_of_getElem? (i := 742) (by decide +kernel)⟩
theorem lw_p17 : lw_okq (⟨"BirdCodes", "huntOver", "(III)V"⟩, 14) := ⟨⟨by decide +kernel, by decide +kernel⟩, List.mem_of_getElem? (i := 21) (by decide +kernel), List.mem_of_getElem? (i := 789) (by decide +kernel), List.mem_of_getElem? (i := 790) (by decide +kernel)⟩
theorem lw_p18 : lw_okq (⟨"BirdCodes$Hunter", "judgeRival", "(I)V"⟩, 4) := ⟨⟨by decide +kernel, by decide +kernel⟩, List.mem_of_getElem? (i := 310) (by decide +kernel), List.mem_of_getElem? (i := 813) (by decide +kernel), List.mem_of_getElem? (i := 814) (by decide +kernel)⟩
theorem lw_p19 : lw_okq (⟨"BirdCodes", "isPeakRight", "(II)Z"⟩, 14) := ⟨⟨by decide +kernel, by decide +kernel⟩, List.mem_of_getElem? (i := 21) (by decide +kernel), List.mem_of_getElem? (i := 828) (by decide +kernel), List.mem_of_getElem? (i := 829) (by decide +kernel)⟩
theorem lw_p20 : lw_okq (⟨"BirdCodes", "isAcquiredAs", "(IIIII)Z"⟩, 14) := ⟨⟨by decide +kernel, by decide +kernel⟩, List.mem_of_getElem? (i := 21) (by decide +kernel), List.mem_of_getElem? (i := 837) (by decide +kernel), List.mem_of_getElem? (i := 838) (by decide +kernel)⟩
theorem lw_p21 : lw_okq (⟨"BirdCodes", "followAll", "(LBirdCodes$State;I)I"⟩, 14) := ⟨⟨by decide +kernel, by decide +kernel⟩, List.mem_of_getElem? (i := 21) (by decide +kernel), List.mem_of_getElem? (i := 890) (by decide +kernel), List.mem_of_getElem? (i := 891) (by decide +kernel)⟩
theorem lw_p22 : lw_okq (⟨"BirdCodes", "followOne", "(LBirdCodes$Channel;)V"⟩, 14) := ⟨⟨by decide +kernel, by decide +kernel⟩, List.mem_of_getElem? (i := 21) (by decide +kernel), List.mem_of_getElem? (i := 902) (by decide +kernel), List.mem_of_getElem? (i := 903) (by decide +kernel)⟩
theorem lw_p23 : lw_okq (⟨"BirdCodes", "isChannel", "(I)Z"⟩, 14) := ⟨⟨by decide +kernel, by decide +kernel⟩, List.mem_of_getElem? (i := 21) (by decide +kernel), List.mem_of_getElem? (i := 936) (by decide +kernel), List.mem_of_getElem? (i := 937) (by decide +kernel)⟩
theorem lw_p24 : lw_okq (⟨"BirdCodes", "readFrames", "(LBirdCodes$Channel;)V"⟩, 14) := ⟨⟨by decide +kernel, by decide +kernel⟩, List.mem_of_getElem? (i := 21) (by decide +kernel), List.mem_of_getElem? (i := 956) (by decide +kernel), List.mem_of_getElem? (i := 957) (by decide +kernel)⟩
theorem lw_p25 : lw_okq (⟨"BirdCodes$Frames", "readWord", "(II)Z"⟩, 5) := ⟨⟨by decide +kernel, by decide +kernel⟩, List.mem_of_getElem? (i := 420) (by decide +kernel), List.mem_of_getElem? (i := 965) (by decide +kernel), List.mem_of_getElem? (i := 966) (by decide +kernel)⟩
theorem lw_p26 : lw_okq (⟨"BirdCodes", "measuredRange", "(II)I"⟩, 14) := ⟨⟨by decide +kernel, by decide +kernel⟩, List.mem_of_getElem? (i := 21) (by decide +kernel), List.mem_of_getElem? (i := 1010) (by decide +kernel), List.mem_of_getElem? (i := 1011) (by decide +kernel)⟩
theorem lw_p27 : lw_okq (⟨"BirdCodes$Solver", "tryPoint", "(IIII)V"⟩, 10) := ⟨⟨by decide +kernel, by decide +kernel⟩, List.mem_of_getElem? (i := 444) (by decide +kernel), List.mem_of_getElem? (i := 1031) (by decide +kernel), List.mem_of_getElem? (i := 1032) (by decide +kernel)⟩
theorem lw_p28 : lw_okq (⟨"BirdCodes$Solver", "bestClock", "(I)I"⟩, 10) := ⟨⟨by decide +kernel, by decide +kernel⟩, List.mem_of_getElem? (i := 444) (by decide +kernel), List.mem_of_getElem? (i := 1036) (by decide +kernel), List.mem_of_getElem? (i := 1037) (by decide +kernel)⟩
theorem lw_p29 : lw_okq (⟨"BirdCodes", "hasBoth", "(I)Z"⟩, 14) := ⟨⟨by decide +kernel, by decide +kernel⟩, List.mem_of_getElem? (i := 21) (by decide +kernel), List.mem_of_getElem? (i := 1051) (by decide +kernel), List.mem_of_getElem? (i := 1052) (by decide +kernel)⟩
theorem lw_p30 : lw_okq (⟨"java/lang/Throwable", "fillInStackTrace", "(I)Ljava/lang/Throwable;"⟩, 6) := ⟨⟨by decide +kernel, by decide +kernel⟩, List.mem_of_getElem? (i := 1146) (by decide +kernel), List.mem_of_getElem? (i := 1144) (by decide +kernel), List.mem_of_getElem? (i := 1145) (by decide +kernel)⟩
theorem lw_p31 : lw_okq (⟨"BirdCodesModel", "plain", "()V"⟩, 45) := ⟨⟨by decide +kernel, by decide +kernel⟩, List.mem_of_getElem? (i := 1197) (by decide +kernel), List.mem_of_getElem? (i := 1203) (by decide +kernel), List.mem_of_getElem? (i := 1204) (by decide +kernel)⟩
def lw_privs_2 : List (MethodName × Nat) := [(⟨"BirdCodes$Ear", "addNoise", "(III)V"⟩, 10), (⟨"BirdCodes", "huntOver", "(III)V"⟩, 14), (⟨"BirdCodes$Hunter", "judgeRival", "(I)V"⟩, 4), (⟨"BirdCodes", "isPeakRight", "(II)Z"⟩, 14), (⟨"BirdCodes", "isAcquiredAs", "(IIIII)Z"⟩, 14), (⟨"BirdCodes", "followAll", "(LBirdCodes$State;I)I"⟩, 14), (⟨"BirdCodes", "followOne", "(LBirdCodes$Channel;)V"⟩, 14), (⟨"BirdCodes", "isChannel", "(I)Z"⟩, 14), (⟨"BirdCodes", "readFrames", "(LBirdCodes$Channel;)V"⟩, 14), (⟨"BirdCodes$Frames", "readWord", "(II)Z"⟩, 5), (⟨"BirdCodes", "measuredRange", "(II)I"⟩, 14), (⟨"BirdCodes$Solver", "tryPoint", "(IIII)V"⟩, 10), (⟨"BirdCodes$Solver", "bestClock", "(I)I"⟩, 10), (⟨"BirdCodes", "hasBoth", "(I)Z"⟩, 14), (⟨"java/lang/Throwable", "fillInStackTrace", "(I)Ljava/lang/Throwable;"⟩, 6), (⟨"BirdCodesModel", "plain", "()V"⟩, 45)]
theorem lw_r2 : ∀ q ∈ lw_privs_2, lw_okq q := List.forall_mem_cons.mpr ⟨lw_p16, List.forall_mem_cons.mpr ⟨lw_p17, List.forall_mem_cons.mpr ⟨lw_p18, List.forall_mem_cons.mpr ⟨lw_p19, List.forall_mem_cons.mpr ⟨lw_p20, List.forall_mem_cons.mpr ⟨lw_p21, List.forall_mem_cons.mpr ⟨lw_p22, List.forall_mem_cons.mpr ⟨lw_p23, List.forall_mem_cons.mpr ⟨lw_p24, List.forall_mem_cons.mpr ⟨lw_p25, List.forall_mem_cons.mpr ⟨lw_p26, List.forall_mem_cons.mpr ⟨lw_p27, List.forall_mem_cons.mpr ⟨lw_p28, List.forall_mem_cons.mpr ⟨lw_p29, List.forall_mem_cons.mpr ⟨lw_p30, List.forall_mem_cons.mpr ⟨lw_p31, fun _ h => absurd h List.not_mem_nil⟩⟩⟩⟩⟩⟩⟩⟩⟩⟩⟩⟩⟩⟩⟩⟩
theorem lw_p32 : lw_okq (⟨"BirdCodesModel", "keepText", "()V"⟩, 45) := ⟨⟨by decide +kernel, by decide +kernel⟩, List.mem_of_getElem? (i := 1197) (by decide +kernel), List.mem_of_getElem? (i := 1207) (by decide +kernel), List.mem_of_getElem? (i := 1208) (by decide +kernel)⟩
theorem lw_p33 : lw_okq (⟨"BirdCodesModel", "layCodes", "()V"⟩, 45) := ⟨⟨by decide +kernel, by decide +kernel⟩, List.mem_of_getElem? (i := 1197) (by decide +kernel), List.mem_of_getElem? (i := 1214) (by decide +kernel), List.mem_of_getElem? (i := 1215) (by decide +kernel)⟩
theorem lw_p34 : lw_okq (⟨"BirdCodesModel", "lay", "(II)V"⟩, 45) := ⟨⟨by decide +kernel, by decide +kernel⟩, List.mem_of_getElem? (i := 1197) (by decide +kernel), List.mem_of_getElem? (i := 1224) (by decide +kernel), List.mem_of_getElem? (i := 1225) (by decide +kernel)⟩
theorem lw_p35 : lw_okq (⟨"BirdCodesModel", "token", "()V"⟩, 45) := ⟨⟨by decide +kernel, by decide +kernel⟩, List.mem_of_getElem? (i := 1197) (by decide +kernel), List.mem_of_getElem? (i := 1377) (by decide +kernel), List.mem_of_getElem? (i := 1378) (by decide +kernel)⟩
theorem lw_p36 : lw_okq (⟨"BirdCodesModel", "isSmall", "(I)Z"⟩, 45) := ⟨⟨by decide +kernel, by decide +kernel⟩, List.mem_of_getElem? (i := 1197) (by decide +kernel), List.mem_of_getElem? (i := 1381) (by decide +kernel), List.mem_of_getElem? (i := 1382) (by decide +kernel)⟩
theorem lw_p37 : lw_okq (⟨"BirdCodesModel", "wordAt", "(II)I"⟩, 45) := ⟨⟨by decide +kernel, by decide +kernel⟩, List.mem_of_getElem? (i := 1197) (by decide +kernel), List.mem_of_getElem? (i := 1385) (by decide +kernel), List.mem_of_getElem? (i := 1386) (by decide +kernel)⟩
theorem lw_p38 : lw_okq (⟨"BirdCodesModel", "packed", "(II)I"⟩, 45) := ⟨⟨by decide +kernel, by decide +kernel⟩, List.mem_of_getElem? (i := 1197) (by decide +kernel), List.mem_of_getElem? (i := 1389) (by decide +kernel), List.mem_of_getElem? (i := 1390) (by decide +kernel)⟩
theorem lw_p39 : lw_okq (⟨"BirdCodesModel", "isDigit", "(I)Z"⟩, 45) := ⟨⟨by decide +kernel, by decide +kernel⟩, List.mem_of_getElem? (i := 1197) (by decide +kernel), List.mem_of_getElem? (i := 1393) (by decide +kernel), List.mem_of_getElem? (i := 1394) (by decide +kernel)⟩
theorem lw_p40 : lw_okq (⟨"BirdCodesModel", "lineRead", "()Z"⟩, 45) := ⟨⟨by decide +kernel, by decide +kernel⟩, List.mem_of_getElem? (i := 1197) (by decide +kernel), List.mem_of_getElem? (i := 1398) (by decide +kernel), List.mem_of_getElem? (i := 1399) (by decide +kernel)⟩
theorem lw_p41 : lw_okq (⟨"BirdCodesModel", "wrong", "(I)Z"⟩, 45) := ⟨⟨by decide +kernel, by decide +kernel⟩, List.mem_of_getElem? (i := 1197) (by decide +kernel), List.mem_of_getElem? (i := 1402) (by decide +kernel), List.mem_of_getElem? (i := 1403) (by decide +kernel)⟩
theorem lw_p42 : lw_okq (⟨"BirdCodesModel", "birdLine", "()Z"⟩, 45) := ⟨⟨by decide +kernel, by decide +kernel⟩, List.mem_of_getElem? (i := 1197) (by decide +kernel), List.mem_of_getElem? (i := 1406) (by decide +kernel), List.mem_of_getElem? (i := 1407) (by decide +kernel)⟩
theorem lw_p43 : lw_okq (⟨"BirdCodesModel", "nameAt", "(IZ)I"⟩, 45) := ⟨⟨by decide +kernel, by decide +kernel⟩, List.mem_of_getElem? (i := 1197) (by decide +kernel), List.mem_of_getElem? (i := 1410) (by decide +kernel), List.mem_of_getElem? (i := 1411) (by decide +kernel)⟩
theorem lw_p44 : lw_okq (⟨"BirdCodesModel", "readOf", "(II)I"⟩, 45) := ⟨⟨by decide +kernel, by decide +kernel⟩, List.mem_of_getElem? (i := 1197) (by decide +kernel), List.mem_of_getElem? (i := 1414) (by decide +kernel), List.mem_of_getElem? (i := 1415) (by decide +kernel)⟩
theorem lw_p45 : lw_okq (⟨"BirdCodesModel", "birdOf", "(II)I"⟩, 45) := ⟨⟨by decide +kernel, by decide +kernel⟩, List.mem_of_getElem? (i := 1197) (by decide +kernel), List.mem_of_getElem? (i := 1418) (by decide +kernel), List.mem_of_getElem? (i := 1419) (by decide +kernel)⟩
theorem lw_p46 : lw_okq (⟨"BirdCodesModel", "read", "(III)V"⟩, 45) := ⟨⟨by decide +kernel, by decide +kernel⟩, List.mem_of_getElem? (i := 1197) (by decide +kernel), List.mem_of_getElem? (i := 1422) (by decide +kernel), List.mem_of_getElem? (i := 1423) (by decide +kernel)⟩
theorem lw_p47 : lw_okq (⟨"BirdCodesModel", "number", "(II)Z"⟩, 45) := ⟨⟨by decide +kernel, by decide +kernel⟩, List.mem_of_getElem? (i := 1197) (by decide +kernel), List.mem_of_getElem? (i := 1426) (by decide +kernel), List.mem_of_getElem? (i := 1427) (by decide +kernel)⟩
def lw_privs_3 : List (MethodName × Nat) := [(⟨"BirdCodesModel", "keepText", "()V"⟩, 45), (⟨"BirdCodesModel", "layCodes", "()V"⟩, 45), (⟨"BirdCodesModel", "lay", "(II)V"⟩, 45), (⟨"BirdCodesModel", "token", "()V"⟩, 45), (⟨"BirdCodesModel", "isSmall", "(I)Z"⟩, 45), (⟨"BirdCodesModel", "wordAt", "(II)I"⟩, 45), (⟨"BirdCodesModel", "packed", "(II)I"⟩, 45), (⟨"BirdCodesModel", "isDigit", "(I)Z"⟩, 45), (⟨"BirdCodesModel", "lineRead", "()Z"⟩, 45), (⟨"BirdCodesModel", "wrong", "(I)Z"⟩, 45), (⟨"BirdCodesModel", "birdLine", "()Z"⟩, 45), (⟨"BirdCodesModel", "nameAt", "(IZ)I"⟩, 45), (⟨"BirdCodesModel", "readOf", "(II)I"⟩, 45), (⟨"BirdCodesModel", "birdOf", "(II)I"⟩, 45), (⟨"BirdCodesModel", "read", "(III)V"⟩, 45), (⟨"BirdCodesModel", "number", "(II)Z"⟩, 45)]
theorem lw_r3 : ∀ q ∈ lw_privs_3, lw_okq q := List.forall_mem_cons.mpr ⟨lw_p32, List.forall_mem_cons.mpr ⟨lw_p33, List.forall_mem_cons.mpr ⟨lw_p34, List.forall_mem_cons.mpr ⟨lw_p35, List.forall_mem_cons.mpr ⟨lw_p36, List.forall_mem_cons.mpr ⟨lw_p37, List.forall_mem_cons.mpr ⟨lw_p38, List.forall_mem_cons.mpr ⟨lw_p39, List.forall_mem_cons.mpr ⟨lw_p40, List.forall_mem_cons.mpr ⟨lw_p41, List.forall_mem_cons.mpr ⟨lw_p42, List.forall_mem_cons.mpr ⟨lw_p43, List.forall_mem_cons.mpr ⟨lw_p44, List.forall_mem_cons.mpr ⟨lw_p45, List.forall_mem_cons.mpr ⟨lw_p46, List.forall_mem_cons.mpr ⟨lw_p47, fun _ h => absurd h List.not_mem_nil⟩⟩⟩⟩⟩⟩⟩⟩⟩⟩⟩⟩⟩⟩⟩⟩
theorem lw_p48 : lw_okq (⟨"BirdCodesModel", "heardLine", "()Z"⟩, 45) := ⟨⟨by decide +kernel, by decide +kernel⟩, List.mem_of_getElem? (i := 1197) (by decide +kernel), List.mem_of_getElem? (i := 1433) (by decide +kernel), List.mem_of_getElem? (i := 1434) (by decide +kernel)⟩
theorem lw_p49 : lw_okq (⟨"BirdCodesModel", "birdRead", "(I)Z"⟩, 45) := ⟨⟨by decide +kernel, by decide +kernel⟩, List.mem_of_getElem? (i := 1197) (by decide +kernel), List.mem_of_getElem? (i := 1437) (by decide +kernel), List.mem_of_getElem? (i := 1438) (by decide +kernel)⟩
theorem lw_p50 : lw_okq (⟨"BirdCodesModel", "oneLine", "(II)Z"⟩, 45) := ⟨⟨by decide +kernel, by decide +kernel⟩, List.mem_of_getElem? (i := 1197) (by decide +kernel), List.mem_of_getElem? (i := 1441) (by decide +kernel), List.mem_of_getElem? (i := 1442) (by decide +kernel)⟩
theorem lw_p51 : lw_okq (⟨"BirdCodesModel", "sendLine", "()Z"⟩, 45) := ⟨⟨by decide +kernel, by decide +kernel⟩, List.mem_of_getElem? (i := 1197) (by decide +kernel), List.mem_of_getElem? (i := 1445) (by decide +kernel), List.mem_of_getElem? (i := 1446) (by decide +kernel)⟩
theorem lw_p52 : lw_okq (⟨"BirdCodesModel", "placeLine", "()Z"⟩, 45) := ⟨⟨by decide +kernel, by decide +kernel⟩, List.mem_of_getElem? (i := 1197) (by decide +kernel), List.mem_of_getElem? (i := 1449) (by decide +kernel), List.mem_of_getElem? (i := 1450) (by decide +kernel)⟩
theorem lw_p53 : lw_okq (⟨"BirdCodesModel", "homeLine", "()Z"⟩, 45) := ⟨⟨by decide +kernel, by decide +kernel⟩, List.mem_of_getElem? (i := 1197) (by decide +kernel), List.mem_of_getElem? (i := 1453) (by decide +kernel), List.mem_of_getElem? (i := 1454) (by decide +kernel)⟩
theorem lw_p54 : lw_okq (⟨"BirdCodesModel", "wordLine", "()Z"⟩, 45) := ⟨⟨by decide +kernel, by decide +kernel⟩, List.mem_of_getElem? (i := 1197) (by decide +kernel), List.mem_of_getElem? (i := 1457) (by decide +kernel), List.mem_of_getElem? (i := 1458) (by decide +kernel)⟩
theorem lw_p55 : lw_okq (⟨"BirdCodesModel", "isBird", "(I)Z"⟩, 45) := ⟨⟨by decide +kernel, by decide +kernel⟩, List.mem_of_getElem? (i := 1197) (by decide +kernel), List.mem_of_getElem? (i := 1473) (by decide +kernel), List.mem_of_getElem? (i := 1474) (by decide +kernel)⟩
theorem lw_p56 : lw_okq (⟨"BirdCodesModel", "fails", "(I)I"⟩, 45) := ⟨⟨by decide +kernel, by decide +kernel⟩, List.mem_of_getElem? (i := 1197) (by decide +kernel), List.mem_of_getElem? (i := 1477) (by decide +kernel), List.mem_of_getElem? (i := 1478) (by decide +kernel)⟩
theorem lw_p57 : lw_okq (⟨"BirdCodesModel", "chipBy", "(II)I"⟩, 45) := ⟨⟨by decide +kernel, by decide +kernel⟩, List.mem_of_getElem? (i := 1197) (by decide +kernel), List.mem_of_getElem? (i := 1485) (by decide +kernel), List.mem_of_getElem? (i := 1486) (by decide +kernel)⟩
theorem lw_p58 : lw_okq (⟨"BirdCodesModel", "crossed", "(III)I"⟩, 45) := ⟨⟨by decide +kernel, by decide +kernel⟩, List.mem_of_getElem? (i := 1197) (by decide +kernel), List.mem_of_getElem? (i := 1497) (by decide +kernel), List.mem_of_getElem? (i := 1498) (by decide +kernel)⟩
theorem lw_p59 : lw_okq (⟨"BirdCodesModel", "worstOf", "(III)I"⟩, 45) := ⟨⟨by decide +kernel, by decide +kernel⟩, List.mem_of_getElem? (i := 1197) (by decide +kernel), List.mem_of_getElem? (i := 1505) (by decide +kernel), List.mem_of_getElem? (i := 1506) (by decide +kernel)⟩
theorem lw_p60 : lw_okq (⟨"BirdCodesModel", "sentBit", "(II)I"⟩, 45) := ⟨⟨by decide +kernel, by decide +kernel⟩, List.mem_of_getElem? (i := 1197) (by decide +kernel), List.mem_of_getElem? (i := 1517) (by decide +kernel), List.mem_of_getElem? (i := 1518) (by decide +kernel)⟩
theorem lw_p61 : lw_okq (⟨"BirdCodesModel", "laySamples", "(I)V"⟩, 45) := ⟨⟨by decide +kernel, by decide +kernel⟩, List.mem_of_getElem? (i := 1197) (by decide +kernel), List.mem_of_getElem? (i := 1532) (by decide +kernel), List.mem_of_getElem? (i := 1533) (by decide +kernel)⟩
theorem lw_p62 : lw_okq (⟨"BirdCodesModel", "adds", "(III)V"⟩, 45) := ⟨⟨by decide +kernel, by decide +kernel⟩, List.mem_of_getElem? (i := 1197) (by decide +kernel), List.mem_of_getElem? (i := 1546) (by decide +kernel), List.mem_of_getElem? (i := 1547) (by decide +kernel)⟩
theorem lw_p63 : lw_okq (⟨"BirdCodesModel", "isLoud", "(II)Z"⟩, 45) := ⟨⟨by decide +kernel, by decide +kernel⟩, List.mem_of_getElem? (i := 1197) (by decide +kernel), List.mem_of_getElem? (i := 1550) (by decide +kernel), List.mem_of_getElem? (i := 1551) (by decide +kernel)⟩
def lw_privs_4 : List (MethodName × Nat) := [(⟨"BirdCodesModel", "heardLine", "()Z"⟩, 45), (⟨"BirdCodesModel", "birdRead", "(I)Z"⟩, 45), (⟨"BirdCodesModel", "oneLine", "(II)Z"⟩, 45), (⟨"BirdCodesModel", "sendLine", "()Z"⟩, 45), (⟨"BirdCodesModel", "placeLine", "()Z"⟩, 45), (⟨"BirdCodesModel", "homeLine", "()Z"⟩, 45), (⟨"BirdCodesModel", "wordLine", "()Z"⟩, 45), (⟨"BirdCodesModel", "isBird", "(I)Z"⟩, 45), (⟨"BirdCodesModel", "fails", "(I)I"⟩, 45), (⟨"BirdCodesModel", "chipBy", "(II)I"⟩, 45), (⟨"BirdCodesModel", "crossed", "(III)I"⟩, 45), (⟨"BirdCodesModel", "worstOf", "(III)I"⟩, 45), (⟨"BirdCodesModel", "sentBit", "(II)I"⟩, 45), (⟨"BirdCodesModel", "laySamples", "(I)V"⟩, 45), (⟨"BirdCodesModel", "adds", "(III)V"⟩, 45), (⟨"BirdCodesModel", "isLoud", "(II)Z"⟩, 45)]
theorem lw_r4 : ∀ q ∈ lw_privs_4, lw_okq q := List.forall_mem_cons.mpr ⟨lw_p48, List.forall_mem_cons.mpr ⟨lw_p49, List.forall_mem_cons.mpr ⟨lw_p50, List.forall_mem_cons.mpr ⟨lw_p51, List.forall_mem_cons.mpr ⟨lw_p52, List.forall_mem_cons.mpr ⟨lw_p53, List.forall_mem_cons.mpr ⟨lw_p54, List.forall_mem_cons.mpr ⟨lw_p55, List.forall_mem_cons.mpr ⟨lw_p56, List.forall_mem_cons.mpr ⟨lw_p57, List.forall_mem_cons.mpr ⟨lw_p58, List.forall_mem_cons.mpr ⟨lw_p59, List.forall_mem_cons.mpr ⟨lw_p60, List.forall_mem_cons.mpr ⟨lw_p61, List.forall_mem_cons.mpr ⟨lw_p62, List.forall_mem_cons.mpr ⟨lw_p63, fun _ h => absurd h List.not_mem_nil⟩⟩⟩⟩⟩⟩⟩⟩⟩⟩⟩⟩⟩⟩⟩⟩
theorem lw_p64 : lw_okq (⟨"BirdCodesModel", "startIn", "(II)I"⟩, 45) := ⟨⟨by decide +kernel, by decide +kernel⟩, List.mem_of_getElem? (i := 1197) (by decide +kernel), List.mem_of_getElem? (i := 1554) (by decide +kernel), List.mem_of_getElem? (i := 1555) (by decide +kernel)⟩
theorem lw_p65 : lw_okq (⟨"BirdCodesModel", "cosOf", "(I)I"⟩, 45) := ⟨⟨by decide +kernel, by decide +kernel⟩, List.mem_of_getElem? (i := 1197) (by decide +kernel), List.mem_of_getElem? (i := 1567) (by decide +kernel), List.mem_of_getElem? (i := 1568) (by decide +kernel)⟩
theorem lw_p66 : lw_okq (⟨"BirdCodesModel", "sinOf", "(I)I"⟩, 45) := ⟨⟨by decide +kernel, by decide +kernel⟩, List.mem_of_getElem? (i := 1197) (by decide +kernel), List.mem_of_getElem? (i := 1571) (by decide +kernel), List.mem_of_getElem? (i := 1572) (by decide +kernel)⟩
theorem lw_p67 : lw_okq (⟨"BirdCodesModel", "turnsBack", "(III)V"⟩, 45) := ⟨⟨by decide +kernel, by decide +kernel⟩, List.mem_of_getElem? (i := 1197) (by decide +kernel), List.mem_of_getElem? (i := 1579) (by decide +kernel), List.mem_of_getElem? (i := 1580) (by decide +kernel)⟩
theorem lw_p68 : lw_okq (⟨"BirdCodesModel", "powerBy", "(II)I"⟩, 45) := ⟨⟨by decide +kernel, by decide +kernel⟩, List.mem_of_getElem? (i := 1197) (by decide +kernel), List.mem_of_getElem? (i := 1583) (by decide +kernel), List.mem_of_getElem? (i := 1584) (by decide +kernel)⟩
theorem lw_p69 : lw_okq (⟨"BirdCodesModel", "isRange", "(III)Z"⟩, 45) := ⟨⟨by decide +kernel, by decide +kernel⟩, List.mem_of_getElem? (i := 1197) (by decide +kernel), List.mem_of_getElem? (i := 1591) (by decide +kernel), List.mem_of_getElem? (i := 1592) (by decide +kernel)⟩
theorem lw_p70 : lw_okq (⟨"BirdCodesModel", "hunts", "(III)V"⟩, 45) := ⟨⟨by decide +kernel, by decide +kernel⟩, List.mem_of_getElem? (i := 1197) (by decide +kernel), List.mem_of_getElem? (i := 1595) (by decide +kernel), List.mem_of_getElem? (i := 1596) (by decide +kernel)⟩
theorem lw_p71 : lw_okq (⟨"BirdCodesModel", "addsPowers", "(II)V"⟩, 45) := ⟨⟨by decide +kernel, by decide +kernel⟩, List.mem_of_getElem? (i := 1197) (by decide +kernel), List.mem_of_getElem? (i := 1599) (by decide +kernel), List.mem_of_getElem? (i := 1600) (by decide +kernel)⟩
theorem lw_p72 : lw_okq (⟨"BirdCodesModel", "laysPeak", "()V"⟩, 45) := ⟨⟨by decide +kernel, by decide +kernel⟩, List.mem_of_getElem? (i := 1197) (by decide +kernel), List.mem_of_getElem? (i := 1603) (by decide +kernel), List.mem_of_getElem? (i := 1604) (by decide +kernel)⟩
theorem lw_p73 : lw_okq (⟨"BirdCodesModel", "isAcquired", "()Z"⟩, 45) := ⟨⟨by decide +kernel, by decide +kernel⟩, List.mem_of_getElem? (i := 1197) (by decide +kernel), List.mem_of_getElem? (i := 1610) (by decide +kernel), List.mem_of_getElem? (i := 1611) (by decide +kernel)⟩
theorem lw_p74 : lw_okq (⟨"BirdCodesModel", "isTrue", "(II)Z"⟩, 45) := ⟨⟨by decide +kernel, by decide +kernel⟩, List.mem_of_getElem? (i := 1197) (by decide +kernel), List.mem_of_getElem? (i := 1619) (by decide +kernel), List.mem_of_getElem? (i := 1620) (by decide +kernel)⟩
theorem lw_p75 : lw_okq (⟨"BirdCodesModel", "asTold", "()V"⟩, 45) := ⟨⟨by decide +kernel, by decide +kernel⟩, List.mem_of_getElem? (i := 1197) (by decide +kernel), List.mem_of_getElem? (i := 1627) (by decide +kernel), List.mem_of_getElem? (i := 1628) (by decide +kernel)⟩
theorem lw_p76 : lw_okq (⟨"BirdCodesModel", "copyBank", "(II)V"⟩, 45) := ⟨⟨by decide +kernel, by decide +kernel⟩, List.mem_of_getElem? (i := 1197) (by decide +kernel), List.mem_of_getElem? (i := 1652) (by decide +kernel), List.mem_of_getElem? (i := 1653) (by decide +kernel)⟩
theorem lw_p77 : lw_okq (⟨"BirdCodesModel", "of", "(I)I"⟩, 45) := ⟨⟨by decide +kernel, by decide +kernel⟩, List.mem_of_getElem? (i := 1197) (by decide +kernel), List.mem_of_getElem? (i := 1660) (by decide +kernel), List.mem_of_getElem? (i := 1661) (by decide +kernel)⟩
theorem lw_p78 : lw_okq (⟨"BirdCodesModel", "canUndo", "()V"⟩, 45) := ⟨⟨by decide +kernel, by decide +kernel⟩, List.mem_of_getElem? (i := 1197) (by decide +kernel), List.mem_of_getElem? (i := 1672) (by decide +kernel), List.mem_of_getElem? (i := 1673) (by decide +kernel)⟩
theorem lw_p79 : lw_okq (⟨"BirdCodesModel", "put", "(III)V"⟩, 45) := ⟨⟨by decide +kernel, by decide +kernel⟩, List.mem_of_getElem? (i := 1197) (by decide +kernel), List.mem_of_getElem? (i := 1676) (by decide +kernel), List.mem_of_getElem? (i := 1677) (by decide +kernel)⟩
def lw_privs_5 : List (MethodName × Nat) := [(⟨"BirdCodesModel", "startIn", "(II)I"⟩, 45), (⟨"BirdCodesModel", "cosOf", "(I)I"⟩, 45), (⟨"BirdCodesModel", "sinOf", "(I)I"⟩, 45), (⟨"BirdCodesModel", "turnsBack", "(III)V"⟩, 45), (⟨"BirdCodesModel", "powerBy", "(II)I"⟩, 45), (⟨"BirdCodesModel", "isRange", "(III)Z"⟩, 45), (⟨"BirdCodesModel", "hunts", "(III)V"⟩, 45), (⟨"BirdCodesModel", "addsPowers", "(II)V"⟩, 45), (⟨"BirdCodesModel", "laysPeak", "()V"⟩, 45), (⟨"BirdCodesModel", "isAcquired", "()Z"⟩, 45), (⟨"BirdCodesModel", "isTrue", "(II)Z"⟩, 45), (⟨"BirdCodesModel", "asTold", "()V"⟩, 45), (⟨"BirdCodesModel", "copyBank", "(II)V"⟩, 45), (⟨"BirdCodesModel", "of", "(I)I"⟩, 45), (⟨"BirdCodesModel", "canUndo", "()V"⟩, 45), (⟨"BirdCodesModel", "put", "(III)V"⟩, 45)]
theorem lw_r5 : ∀ q ∈ lw_privs_5, lw_okq q := List.forall_mem_cons.mpr ⟨lw_p64, List.forall_mem_cons.mpr ⟨lw_p65, List.forall_mem_cons.mpr ⟨lw_p66, List.forall_mem_cons.mpr ⟨lw_p67, List.forall_mem_cons.mpr ⟨lw_p68, List.forall_mem_cons.mpr ⟨lw_p69, List.forall_mem_cons.mpr ⟨lw_p70, List.forall_mem_cons.mpr ⟨lw_p71, List.forall_mem_cons.mpr ⟨lw_p72, List.forall_mem_cons.mpr ⟨lw_p73, List.forall_mem_cons.mpr ⟨lw_p74, List.forall_mem_cons.mpr ⟨lw_p75, List.forall_mem_cons.mpr ⟨lw_p76, List.forall_mem_cons.mpr ⟨lw_p77, List.forall_mem_cons.mpr ⟨lw_p78, List.forall_mem_cons.mpr ⟨lw_p79, fun _ h => absurd h List.not_mem_nil⟩⟩⟩⟩⟩⟩⟩⟩⟩⟩⟩⟩⟩⟩⟩⟩
theorem lw_p80 : lw_okq (⟨"BirdCodesModel", "followed", "(I)I"⟩, 45) := ⟨⟨by decide +kernel, by decide +kernel⟩, List.mem_of_getElem? (i := 1197) (by decide +kernel), List.mem_of_getElem? (i := 1688) (by decide +kernel), List.mem_of_getElem? (i := 1689) (by decide +kernel)⟩
theorem lw_p81 : lw_okq (⟨"BirdCodesModel", "isFollowed", "(I)Z"⟩, 45) := ⟨⟨by decide +kernel, by decide +kernel⟩, List.mem_of_getElem? (i := 1197) (by decide +kernel), List.mem_of_getElem? (i := 1692) (by decide +kernel), List.mem_of_getElem? (i := 1693) (by decide +kernel)⟩
theorem lw_p82 : lw_okq (⟨"BirdCodesModel", "at", "(II)I"⟩, 45) := ⟨⟨by decide +kernel, by decide +kernel⟩, List.mem_of_getElem? (i := 1197) (by decide +kernel), List.mem_of_getElem? (i := 1696) (by decide +kernel), List.mem_of_getElem? (i := 1697) (by decide +kernel)⟩
theorem lw_p83 : lw_okq (⟨"BirdCodesModel", "logs", "(II)V"⟩, 45) := ⟨⟨by decide +kernel, by decide +kernel⟩, List.mem_of_getElem? (i := 1197) (by decide +kernel), List.mem_of_getElem? (i := 1700) (by decide +kernel), List.mem_of_getElem? (i := 1701) (by decide +kernel)⟩
theorem lw_p84 : lw_okq (⟨"BirdCodesModel", "isChannel", "(I)Z"⟩, 45) := ⟨⟨by decide +kernel, by decide +kernel⟩, List.mem_of_getElem? (i := 1197) (by decide +kernel), List.mem_of_getElem? (i := 1709) (by decide +kernel), List.mem_of_getElem? (i := 1710) (by decide +kernel)⟩
theorem lw_p85 : lw_okq (⟨"BirdCodesModel", "layFrames", "(I)V"⟩, 45) := ⟨⟨by decide +kernel, by decide +kernel⟩, List.mem_of_getElem? (i := 1197) (by decide +kernel), List.mem_of_getElem? (i := 1721) (by decide +kernel), List.mem_of_getElem? (i := 1722) (by decide +kernel)⟩
theorem lw_p86 : lw_okq (⟨"BirdCodesModel", "sixteen", "(II)I"⟩, 45) := ⟨⟨by decide +kernel, by decide +kernel⟩, List.mem_of_getElem? (i := 1197) (by decide +kernel), List.mem_of_getElem? (i := 1725) (by decide +kernel), List.mem_of_getElem? (i := 1726) (by decide +kernel)⟩
theorem lw_p87 : lw_okq (⟨"BirdCodesModel", "farFrom", "(IIII)I"⟩, 45) := ⟨⟨by decide +kernel, by decide +kernel⟩, List.mem_of_getElem? (i := 1197) (by decide +kernel), List.mem_of_getElem? (i := 1754) (by decide +kernel), List.mem_of_getElem? (i := 1755) (by decide +kernel)⟩
theorem lw_p88 : lw_okq (⟨"BirdCodesModel", "ranged", "()I"⟩, 45) := ⟨⟨by decide +kernel, by decide +kernel⟩, List.mem_of_getElem? (i := 1197) (by decide +kernel), List.mem_of_getElem? (i := 1769) (by decide +kernel), List.mem_of_getElem? (i := 1770) (by decide +kernel)⟩
theorem lw_p89 : lw_okq (⟨"BirdCodesModel", "isRanged", "(I)Z"⟩, 45) := ⟨⟨by decide +kernel, by decide +kernel⟩, List.mem_of_getElem? (i := 1197) (by decide +kernel), List.mem_of_getElem? (i := 1773) (by decide +kernel), List.mem_of_getElem? (i := 1774) (by decide +kernel)⟩
theorem lw_p90 : lw_okq (⟨"BirdCodesModel", "layFix", "(I)V"⟩, 45) := ⟨⟨by decide +kernel, by decide +kernel⟩, List.mem_of_getElem? (i := 1197) (by decide +kernel), List.mem_of_getElem? (i := 1777) (by decide +kernel), List.mem_of_getElem? (i := 1778) (by decide +kernel)⟩
theorem lw_p91 : lw_okq (⟨"BirdCodesModel", "restAt", "(IIII)I"⟩, 45) := ⟨⟨by decide +kernel, by decide +kernel⟩, List.mem_of_getElem? (i := 1197) (by decide +kernel), List.mem_of_getElem? (i := 1781) (by decide +kernel), List.mem_of_getElem? (i := 1782) (by decide +kernel)⟩
theorem lw_p92 : lw_okq (⟨"BirdCodesModel", "lostMany", "()I"⟩, 45) := ⟨⟨by decide +kernel, by decide +kernel⟩, List.mem_of_getElem? (i := 1197) (by decide +kernel), List.mem_of_getElem? (i := 1805) (by decide +kernel), List.mem_of_getElem? (i := 1806) (by decide +kernel)⟩
theorem lw_p93 : lw_okq (⟨"BirdCodesModel", "birdsWith", "(I)I"⟩, 45) := ⟨⟨by decide +kernel, by decide +kernel⟩, List.mem_of_getElem? (i := 1197) (by decide +kernel), List.mem_of_getElem? (i := 1813) (by decide +kernel), List.mem_of_getElem? (i := 1814) (by decide +kernel)⟩
def lw_privs_6 : List (MethodName × Nat) := [(⟨"BirdCodesModel", "followed", "(I)I"⟩, 45), (⟨"BirdCodesModel", "isFollowed", "(I)Z"⟩, 45), (⟨"BirdCodesModel", "at", "(II)I"⟩, 45), (⟨"BirdCodesModel", "logs", "(II)V"⟩, 45), (⟨"BirdCodesModel", "isChannel", "(I)Z"⟩, 45), (⟨"BirdCodesModel", "layFrames", "(I)V"⟩, 45), (⟨"BirdCodesModel", "sixteen", "(II)I"⟩, 45), (⟨"BirdCodesModel", "farFrom", "(IIII)I"⟩, 45), (⟨"BirdCodesModel", "ranged", "()I"⟩, 45), (⟨"BirdCodesModel", "isRanged", "(I)Z"⟩, 45), (⟨"BirdCodesModel", "layFix", "(I)V"⟩, 45), (⟨"BirdCodesModel", "restAt", "(IIII)I"⟩, 45), (⟨"BirdCodesModel", "lostMany", "()I"⟩, 45), (⟨"BirdCodesModel", "birdsWith", "(I)I"⟩, 45)]
theorem lw_r6 : ∀ q ∈ lw_privs_6, lw_okq q := List.forall_mem_cons.mpr ⟨lw_p80, List.forall_mem_cons.mpr ⟨lw_p81, List.forall_mem_cons.mpr ⟨lw_p82, List.forall_mem_cons.mpr ⟨lw_p83, List.forall_mem_cons.mpr ⟨lw_p84, List.forall_mem_cons.mpr ⟨lw_p85, List.forall_mem_cons.mpr ⟨lw_p86, List.forall_mem_cons.mpr ⟨lw_p87, List.forall_mem_cons.mpr ⟨lw_p88, List.forall_mem_cons.mpr ⟨lw_p89, List.forall_mem_cons.mpr ⟨lw_p90, List.forall_mem_cons.mpr ⟨lw_p91, List.forall_mem_cons.mpr ⟨lw_p92, List.forall_mem_cons.mpr ⟨lw_p93, fun _ h => absurd h List.not_mem_nil⟩⟩⟩⟩⟩⟩⟩⟩⟩⟩⟩⟩⟩⟩
def lw_privs : List (MethodName × Nat) := lw_privs_1 ++ (lw_privs_2 ++ (lw_privs_3 ++ (lw_privs_4 ++ (lw_privs_5 ++ (lw_privs_6)))))
def lw_tbl : List Cond := k2_sels lw_privs ++ tables_1
theorem lw_privs_ok : ∀ q ∈ lw_privs, lw_okq q := by
  show ∀ q ∈ lw_privs_1 ++ (lw_privs_2 ++ (lw_privs_3 ++ (lw_privs_4 ++ (lw_privs_5 ++ (lw_privs_6))))), lw_okq q
  exact List.forall_mem_append.mpr ⟨lw_r1, List.forall_mem_append.mpr ⟨lw_r2, List.forall_mem_append.mpr ⟨lw_r3, List.forall_mem_append.mpr ⟨lw_r4, List.forall_mem_append.mpr ⟨lw_r5, lw_r6⟩⟩⟩⟩⟩

def RX0 : String := "BirdCodes$Bird"
def TX0 : u_T := fun k => match k with
  | 0 => ("BirdCodes$Bird", "name", "I", false)
  | 1 => ("BirdCodes$Bird", "delay", "I", false)
  | 2 => ("BirdCodes$Bird", "code", "I", false)
  | 3 => ("BirdCodes$Bird", "start", "I", false)
  | 4 => ("BirdCodes$Bird", "shift", "I", false)
  | 5 => ("BirdCodes$Bird", "turn", "I", false)
  | 6 => ("BirdCodes$Bird", "strength", "I", false)
  | 7 => ("BirdCodes$Bird", "drift", "I", false)
  | 8 => ("BirdCodes$Bird", "fade", "I", false)
  | 9 => ("BirdCodes$Bird", "placed", "Z", false)
  | 10 => ("BirdCodes$Bird", "x", "I", false)
  | 11 => ("BirdCodes$Bird", "y", "I", false)
  | 12 => ("BirdCodes$Bird", "z", "I", false)
  | 13 => ("BirdCodes$Bird", "subframes", "[I", true)
  | _ => ("BirdCodes$Bird", "sends", "I", false)
def tyX0 : Nat → FieldType := fun k => match k with
  | 0 => .int
  | 1 => .int
  | 2 => .int
  | 3 => .int
  | 4 => .int
  | 5 => .int
  | 6 => .int
  | 7 => .int
  | 8 => .int
  | 9 => .boolean
  | 10 => .int
  | 11 => .int
  | 12 => .int
  | 13 => .array .int
  | _ => .int
theorem nmX0 : ∀ a, a < 15 → ∀ b, b < 15 → a ≠ b → (TX0 a).2.1 ≠ (TX0 b).2.1 := by decide +kernel
theorem tyX0_ok : ∀ k, k < 15 → parseFieldDescriptor (TX0 k).2.2.1 = some (tyX0 k) := by decide +kernel
abbrev cX0_init : ByteArray := prog_2_method_1_code
def yX0_init : MethodName := ⟨RX0, "<init>", "()V"⟩
abbrev cX0_begin : ByteArray := prog_2_method_2_code
def yX0_begin : MethodName := ⟨RX0, "begin", "(II)V"⟩
abbrev cX0_isHeard : ByteArray := prog_2_method_3_code
def yX0_isHeard : MethodName := ⟨RX0, "isHeard", "()Z"⟩
abbrev cX0_isHeardIn : ByteArray := prog_2_method_4_code
def yX0_isHeardIn : MethodName := ⟨RX0, "isHeardIn", "(I)Z"⟩
abbrev cX0_startIn : ByteArray := prog_2_method_5_code
def yX0_startIn : MethodName := ⟨RX0, "startIn", "(I)I"⟩
abbrev cX0_bitAt : ByteArray := prog_2_method_6_code
def yX0_bitAt : MethodName := ⟨RX0, "bitAt", "(I)I"⟩
abbrev cX0_addSubframe : ByteArray := prog_2_method_7_code
def yX0_addSubframe : MethodName := ⟨RX0, "addSubframe", "(I)V"⟩
abbrev cX0_told : ByteArray := prog_2_method_8_code
def yX0_told : MethodName := ⟨RX0, "told", "(I)I"⟩
def RX1 : String := "BirdCodes$Channel"
def TX1 : u_T := fun k => match k with
  | 0 => ("BirdCodes$Channel", "bird", "I", false)
  | 1 => ("BirdCodes$Channel", "point", "I", false)
  | 2 => ("BirdCodes$Channel", "shift", "I", false)
  | 3 => ("BirdCodes$Channel", "turn", "I", false)
  | 4 => ("BirdCodes$Channel", "base", "I", false)
  | 5 => ("BirdCodes$Channel", "next", "I", false)
  | 6 => ("BirdCodes$Channel", "weak", "I", false)
  | 7 => ("BirdCodes$Channel", "lost", "I", false)
  | 8 => ("BirdCodes$Channel", "log", "J", false)
  | _ => ("BirdCodes$Channel", "logLength", "I", false)
def tyX1 : Nat → FieldType := fun k => match k with
  | 0 => .int
  | 1 => .int
  | 2 => .int
  | 3 => .int
  | 4 => .int
  | 5 => .int
  | 6 => .int
  | 7 => .int
  | 8 => .long
  | _ => .int
theorem nmX1 : ∀ a, a < 10 → ∀ b, b < 10 → a ≠ b → (TX1 a).2.1 ≠ (TX1 b).2.1 := by decide +kernel
theorem tyX1_ok : ∀ k, k < 10 → parseFieldDescriptor (TX1 k).2.2.1 = some (tyX1 k) := by decide +kernel
abbrev cX1_init : ByteArray := prog_3_method_1_code
def yX1_init : MethodName := ⟨RX1, "<init>", "()V"⟩
abbrev cX1_begin : ByteArray := prog_3_method_2_code
def yX1_begin : MethodName := ⟨RX1, "begin", "(IIII)V"⟩
abbrev cX1_copyFrom : ByteArray := prog_3_method_3_code
def yX1_copyFrom : MethodName := ⟨RX1, "copyFrom", "(LBirdCodes$Channel;)V"⟩
abbrev cX1_isLost : ByteArray := prog_3_method_4_code
def yX1_isLost : MethodName := ⟨RX1, "isLost", "()Z"⟩
abbrev cX1_canFollow : ByteArray := prog_3_method_5_code
def yX1_canFollow : MethodName := ⟨RX1, "canFollow", "()Z"⟩
abbrev cX1_startOfPoint : ByteArray := prog_3_method_6_code
def yX1_startOfPoint : MethodName := ⟨RX1, "startOfPoint", "()I"⟩
abbrev cX1_movePoint : ByteArray := prog_3_method_7_code
def yX1_movePoint : MethodName := ⟨RX1, "movePoint", "(II)V"⟩
abbrev cX1_moveTurn : ByteArray := prog_3_method_8_code
def yX1_moveTurn : MethodName := ⟨RX1, "moveTurn", "(II)V"⟩
abbrev cX1_write : ByteArray := prog_3_method_9_code
def yX1_write : MethodName := ⟨RX1, "write", "(I)V"⟩
abbrev cX1_hold : ByteArray := prog_3_method_10_code
def yX1_hold : MethodName := ⟨RX1, "hold", "(I)V"⟩
abbrev cX1_logBit : ByteArray := prog_3_method_11_code
def yX1_logBit : MethodName := ⟨RX1, "logBit", "(I)I"⟩
abbrev cX1_told : ByteArray := prog_3_method_12_code
def yX1_told : MethodName := ⟨RX1, "told", "(I)I"⟩
def RX2 : String := "BirdCodes$Ear"
def TX2 : u_T := fun k => match k with
  | 0 => ("BirdCodes$Ear", "re", "[I", true)
  | 1 => ("BirdCodes$Ear", "im", "[I", true)
  | 2 => ("BirdCodes$Ear", "i", "I", false)
  | 3 => ("BirdCodes$Ear", "q", "I", false)
  | 4 => ("BirdCodes$Ear", "held", "I", false)
  | 5 => ("BirdCodes$Ear", "minus", "[I", true)
  | 6 => ("BirdCodes$Ear", "minusCount", "I", false)
  | 7 => ("BirdCodes$Ear", "turned", "[J", true)
  | 8 => ("BirdCodes$Ear", "pairs", "[J", true)
  | _ => ("BirdCodes$Ear", "total", "J", false)
def tyX2 : Nat → FieldType := fun k => match k with
  | 0 => .array .int
  | 1 => .array .int
  | 2 => .int
  | 3 => .int
  | 4 => .int
  | 5 => .array .int
  | 6 => .int
  | 7 => .array .long
  | 8 => .array .long
  | _ => .long
theorem nmX2 : ∀ a, a < 10 → ∀ b, b < 10 → a ≠ b → (TX2 a).2.1 ≠ (TX2 b).2.1 := by decide +kernel
theorem tyX2_ok : ∀ k, k < 10 → parseFieldDescriptor (TX2 k).2.2.1 = some (tyX2 k) := by decide +kernel
abbrev cX2_init : ByteArray := prog_4_method_1_code
def yX2_init : MethodName := ⟨RX2, "<init>", "()V"⟩
abbrev cX2_forget : ByteArray := prog_4_method_2_code
def yX2_forget : MethodName := ⟨RX2, "forget", "()V"⟩
abbrev cX2_hear : ByteArray := prog_4_method_3_code
def yX2_hear : MethodName := ⟨RX2, "hear", "(LBirdCodes$World;I)V"⟩
abbrev cX2_hearAs : ByteArray := prog_4_method_4_code
def yX2_hearAs : MethodName := ⟨RX2, "hearAs", "(LBirdCodes$World;IIII)V"⟩
abbrev cX2_addBird : ByteArray := prog_4_method_5_code
def yX2_addBird : MethodName := ⟨RX2, "addBird", "(LBirdCodes$Bird;I)V"⟩
abbrev cX2_addNoise : ByteArray := prog_4_method_6_code
def yX2_addNoise : MethodName := ⟨RX2, "addNoise", "(III)V"⟩
abbrev cX2_angleOf : ByteArray := prog_4_method_7_code
def yX2_angleOf : MethodName := ⟨RX2, "angleOf", "(III)I"⟩
abbrev cX2_takeCode : ByteArray := prog_4_method_8_code
def yX2_takeCode : MethodName := ⟨RX2, "takeCode", "(I)V"⟩
abbrev cX2_turnBack : ByteArray := prog_4_method_9_code
def yX2_turnBack : MethodName := ⟨RX2, "turnBack", "(III)V"⟩
abbrev cX2_sumAt : ByteArray := prog_4_method_10_code
def yX2_sumAt : MethodName := ⟨RX2, "sumAt", "(I)V"⟩
abbrev cX2_power : ByteArray := prog_4_method_11_code
def yX2_power : MethodName := ⟨RX2, "power", "()I"⟩
def RX3 : String := "BirdCodes$Frames"
def TX3 : u_T := fun k => match k with
  | 0 => ("BirdCodes$Frames", "found", "I", false)
  | 1 => ("BirdCodes$Frames", "wrong", "I", false)
  | 2 => ("BirdCodes$Frames", "places", "[I", true)
  | 3 => ("BirdCodes$Frames", "words", "[I", true)
  | _ => ("BirdCodes$Frames", "turnedOver", "[I", true)
def tyX3 : Nat → FieldType := fun k => match k with
  | 0 => .int
  | 1 => .int
  | 2 => .array .int
  | 3 => .array .int
  | _ => .array .int
theorem nmX3 : ∀ a, a < 5 → ∀ b, b < 5 → a ≠ b → (TX3 a).2.1 ≠ (TX3 b).2.1 := by decide +kernel
theorem tyX3_ok : ∀ k, k < 5 → parseFieldDescriptor (TX3 k).2.2.1 = some (tyX3 k) := by decide +kernel
abbrev cX3_init : ByteArray := prog_5_method_1_code
def yX3_init : MethodName := ⟨RX3, "<init>", "()V"⟩
abbrev cX3_read : ByteArray := prog_5_method_2_code
def yX3_read : MethodName := ⟨RX3, "read", "(JI)V"⟩
abbrev cX3_readWord : ByteArray := prog_5_method_3_code
def yX3_readWord : MethodName := ⟨RX3, "readWord", "(II)Z"⟩
abbrev cX3_told : ByteArray := prog_5_method_4_code
def yX3_told : MethodName := ⟨RX3, "told", "(II)I"⟩
def RX4 : String := "BirdCodes$Hunter"
def TX4 : u_T := fun k => match k with
  | 0 => ("BirdCodes$Hunter", "cells", "[I", true)
  | 1 => ("BirdCodes$Hunter", "peak", "I", false)
  | 2 => ("BirdCodes$Hunter", "peakPower", "I", false)
  | _ => ("BirdCodes$Hunter", "rival", "I", false)
def tyX4 : Nat → FieldType := fun k => match k with
  | 0 => .array .int
  | 1 => .int
  | 2 => .int
  | _ => .int
theorem nmX4 : ∀ a, a < 4 → ∀ b, b < 4 → a ≠ b → (TX4 a).2.1 ≠ (TX4 b).2.1 := by decide +kernel
theorem tyX4_ok : ∀ k, k < 4 → parseFieldDescriptor (TX4 k).2.2.1 = some (tyX4 k) := by decide +kernel
abbrev cX4_init : ByteArray := prog_6_method_1_code
def yX4_init : MethodName := ⟨RX4, "<init>", "()V"⟩
abbrev cX4_begin : ByteArray := prog_6_method_2_code
def yX4_begin : MethodName := ⟨RX4, "begin", "()V"⟩
abbrev cX4_add : ByteArray := prog_6_method_3_code
def yX4_add : MethodName := ⟨RX4, "add", "(LBirdCodes$Ear;II)V"⟩
abbrev cX4_judge : ByteArray := prog_6_method_4_code
def yX4_judge : MethodName := ⟨RX4, "judge", "()V"⟩
abbrev cX4_judgeRival : ByteArray := prog_6_method_5_code
def yX4_judgeRival : MethodName := ⟨RX4, "judgeRival", "(I)V"⟩
abbrev cX4_isAcquired : ByteArray := prog_6_method_6_code
def yX4_isAcquired : MethodName := ⟨RX4, "isAcquired", "(I)Z"⟩
def RX5 : String := "BirdCodes$Past"
def TX5 : u_T := fun k => match k with
  | 0 => ("BirdCodes$Past", "states", "[LBirdCodes$State;", true)
  | 1 => ("BirdCodes$Past", "newest", "I", false)
  | _ => ("BirdCodes$Past", "size", "I", false)
def tyX5 : Nat → FieldType := fun k => match k with
  | 0 => .array (.object "BirdCodes$State")
  | 1 => .int
  | _ => .int
theorem nmX5 : ∀ a, a < 3 → ∀ b, b < 3 → a ≠ b → (TX5 a).2.1 ≠ (TX5 b).2.1 := by decide +kernel
theorem tyX5_ok : ∀ k, k < 3 → parseFieldDescriptor (TX5 k).2.2.1 = some (tyX5 k) := by decide +kernel
abbrev cX5_init : ByteArray := prog_7_method_1_code
def yX5_init : MethodName := ⟨RX5, "<init>", "()V"⟩
abbrev cX5_forget : ByteArray := prog_7_method_2_code
def yX5_forget : MethodName := ⟨RX5, "forget", "()V"⟩
abbrev cX5_push : ByteArray := prog_7_method_3_code
def yX5_push : MethodName := ⟨RX5, "push", "(LBirdCodes$State;)V"⟩
abbrev cX5_pop : ByteArray := prog_7_method_4_code
def yX5_pop : MethodName := ⟨RX5, "pop", "(LBirdCodes$State;)V"⟩
def RX6 : String := "BirdCodes$Reader"
def TX6 : u_T := fun k => match k with
  | 0 => ("BirdCodes$Reader", "faultKind", "I", false)
  | 1 => ("BirdCodes$Reader", "faultPlace", "I", false)
  | 2 => ("BirdCodes$Reader", "bytes", "[I", false)
  | 3 => ("BirdCodes$Reader", "length", "I", false)
  | 4 => ("BirdCodes$Reader", "at", "I", false)
  | 5 => ("BirdCodes$Reader", "token", "I", false)
  | 6 => ("BirdCodes$Reader", "tokenPlace", "I", false)
  | 7 => ("BirdCodes$Reader", "tokenValue", "I", false)
  | 8 => ("BirdCodes$Reader", "world", "LBirdCodes$World;", false)
  | 9 => ("BirdCodes$Reader", "name", "I", false)
  | 10 => ("BirdCodes$Reader", "bird", "LBirdCodes$Bird;", false)
  | _ => ("BirdCodes$Reader", "numbers", "[I", true)
def tyX6 : Nat → FieldType := fun k => match k with
  | 0 => .int
  | 1 => .int
  | 2 => .array .int
  | 3 => .int
  | 4 => .int
  | 5 => .int
  | 6 => .int
  | 7 => .int
  | 8 => .object "BirdCodes$World"
  | 9 => .int
  | 10 => .object "BirdCodes$Bird"
  | _ => .array .int
theorem nmX6 : ∀ a, a < 12 → ∀ b, b < 12 → a ≠ b → (TX6 a).2.1 ≠ (TX6 b).2.1 := by decide +kernel
theorem tyX6_ok : ∀ k, k < 12 → parseFieldDescriptor (TX6 k).2.2.1 = some (tyX6 k) := by decide +kernel
abbrev cX6_init : ByteArray := prog_8_method_1_code
def yX6_init : MethodName := ⟨RX6, "<init>", "()V"⟩
abbrev cX6_readAll : ByteArray := prog_8_method_2_code
def yX6_readAll : MethodName := ⟨RX6, "readAll", "([IILBirdCodes$World;)I"⟩
abbrev cX6_refuse : ByteArray := prog_8_method_3_code
def yX6_refuse : MethodName := ⟨RX6, "refuse", "(I)Z"⟩
abbrev cX6_readLine : ByteArray := prog_8_method_4_code
def yX6_readLine : MethodName := ⟨RX6, "readLine", "()Z"⟩
abbrev cX6_isOnce : ByteArray := prog_8_method_5_code
def yX6_isOnce : MethodName := ⟨RX6, "isOnce", "(I)Z"⟩
abbrev cX6_isOneTooMany : ByteArray := prog_8_method_6_code
def yX6_isOneTooMany : MethodName := ⟨RX6, "isOneTooMany", "(I)Z"⟩
abbrev cX6_readName : ByteArray := prog_8_method_7_code
def yX6_readName : MethodName := ⟨RX6, "readName", "(I)Z"⟩
abbrev cX6_isToldOfBird : ByteArray := prog_8_method_8_code
def yX6_isToldOfBird : MethodName := ⟨RX6, "isToldOfBird", "(I)Z"⟩
abbrev cX6_readNumbers : ByteArray := prog_8_method_9_code
def yX6_readNumbers : MethodName := ⟨RX6, "readNumbers", "(I)Z"⟩
abbrev cX6_take : ByteArray := prog_8_method_10_code
def yX6_take : MethodName := ⟨RX6, "take", "(I)V"⟩
abbrev cX6_takeHome : ByteArray := prog_8_method_11_code
def yX6_takeHome : MethodName := ⟨RX6, "takeHome", "()V"⟩
abbrev cX6_takeOfBird : ByteArray := prog_8_method_12_code
def yX6_takeOfBird : MethodName := ⟨RX6, "takeOfBird", "(I)V"⟩
abbrev cX6_wordNumber : ByteArray := prog_8_method_13_code
def yX6_wordNumber : MethodName := ⟨RX6, "wordNumber", "(I)I"⟩
abbrev cX6_here : ByteArray := prog_8_method_14_code
def yX6_here : MethodName := ⟨RX6, "here", "()I"⟩
abbrev cX6_advance : ByteArray := prog_8_method_15_code
def yX6_advance : MethodName := ⟨RX6, "advance", "()V"⟩
abbrev cX6_isLetter : ByteArray := prog_8_method_16_code
def yX6_isLetter : MethodName := ⟨RX6, "isLetter", "(I)Z"⟩
abbrev cX6_isDigit : ByteArray := prog_8_method_17_code
def yX6_isDigit : MethodName := ⟨RX6, "isDigit", "(I)Z"⟩
abbrev cX6_advanceWord : ByteArray := prog_8_method_18_code
def yX6_advanceWord : MethodName := ⟨RX6, "advanceWord", "()V"⟩
abbrev cX6_advanceNumber : ByteArray := prog_8_method_19_code
def yX6_advanceNumber : MethodName := ⟨RX6, "advanceNumber", "()V"⟩
def RX7 : String := "BirdCodes$Solver"
def TX7 : u_T := fun k => match k with
  | 0 => ("BirdCodes$Solver", "used", "I", false)
  | 1 => ("BirdCodes$Solver", "rest", "I", false)
  | 2 => ("BirdCodes$Solver", "within", "I", false)
  | 3 => ("BirdCodes$Solver", "x", "I", false)
  | 4 => ("BirdCodes$Solver", "y", "I", false)
  | 5 => ("BirdCodes$Solver", "z", "I", false)
  | 6 => ("BirdCodes$Solver", "clock", "I", false)
  | 7 => ("BirdCodes$Solver", "birds", "[LBirdCodes$Bird;", true)
  | 8 => ("BirdCodes$Solver", "ranges", "[I", true)
  | _ => ("BirdCodes$Solver", "ways", "[I", true)
def tyX7 : Nat → FieldType := fun k => match k with
  | 0 => .int
  | 1 => .int
  | 2 => .int
  | 3 => .int
  | 4 => .int
  | 5 => .int
  | 6 => .int
  | 7 => .array (.object "BirdCodes$Bird")
  | 8 => .array .int
  | _ => .array .int
theorem nmX7 : ∀ a, a < 10 → ∀ b, b < 10 → a ≠ b → (TX7 a).2.1 ≠ (TX7 b).2.1 := by decide +kernel
theorem tyX7_ok : ∀ k, k < 10 → parseFieldDescriptor (TX7 k).2.2.1 = some (tyX7 k) := by decide +kernel
abbrev cX7_init : ByteArray := prog_9_method_1_code
def yX7_init : MethodName := ⟨RX7, "<init>", "()V"⟩
abbrev cX7_way : ByteArray := prog_9_method_2_code
def yX7_way : MethodName := ⟨RX7, "way", "(III)I"⟩
abbrev cX7_gather : ByteArray := prog_9_method_3_code
def yX7_gather : MethodName := ⟨RX7, "gather", "(LBirdCodes$World;LBirdCodes$State;I)V"⟩
abbrev cX7_solve : ByteArray := prog_9_method_4_code
def yX7_solve : MethodName := ⟨RX7, "solve", "(I)V"⟩
abbrev cX7_tryPoint : ByteArray := prog_9_method_5_code
def yX7_tryPoint : MethodName := ⟨RX7, "tryPoint", "(IIII)V"⟩
abbrev cX7_bestClock : ByteArray := prog_9_method_6_code
def yX7_bestClock : MethodName := ⟨RX7, "bestClock", "(I)I"⟩
abbrev cX7_told : ByteArray := prog_9_method_7_code
def yX7_told : MethodName := ⟨RX7, "told", "(I)I"⟩
def RX8 : String := "BirdCodes$State"
def TX8 : u_T := fun k => match k with
  | 0 => ("BirdCodes$State", "channels", "[LBirdCodes$Channel;", true)
  | 1 => ("BirdCodes$State", "channelCount", "I", false)
  | _ => ("BirdCodes$State", "ranges", "[I", true)
def tyX8 : Nat → FieldType := fun k => match k with
  | 0 => .array (.object "BirdCodes$Channel")
  | 1 => .int
  | _ => .array .int
theorem nmX8 : ∀ a, a < 3 → ∀ b, b < 3 → a ≠ b → (TX8 a).2.1 ≠ (TX8 b).2.1 := by decide +kernel
theorem tyX8_ok : ∀ k, k < 3 → parseFieldDescriptor (TX8 k).2.2.1 = some (tyX8 k) := by decide +kernel
abbrev cX8_init : ByteArray := prog_10_method_1_code
def yX8_init : MethodName := ⟨RX8, "<init>", "()V"⟩
abbrev cX8_empty : ByteArray := prog_10_method_2_code
def yX8_empty : MethodName := ⟨RX8, "empty", "()V"⟩
abbrev cX8_copyFrom : ByteArray := prog_10_method_3_code
def yX8_copyFrom : MethodName := ⟨RX8, "copyFrom", "(LBirdCodes$State;)V"⟩
abbrev cX8_howManyLost : ByteArray := prog_10_method_4_code
def yX8_howManyLost : MethodName := ⟨RX8, "howManyLost", "()I"⟩
abbrev cX8_howManyRanges : ByteArray := prog_10_method_5_code
def yX8_howManyRanges : MethodName := ⟨RX8, "howManyRanges", "()I"⟩
def RX9 : String := "BirdCodes$World"
def TX9 : u_T := fun k => match k with
  | 0 => ("BirdCodes$World", "birds", "[LBirdCodes$Bird;", true)
  | 1 => ("BirdCodes$World", "birdCount", "I", false)
  | 2 => ("BirdCodes$World", "sendCount", "I", false)
  | 3 => ("BirdCodes$World", "first", "I", false)
  | 4 => ("BirdCodes$World", "second", "I", false)
  | 5 => ("BirdCodes$World", "firstOut", "I", false)
  | 6 => ("BirdCodes$World", "secondOut", "I", false)
  | 7 => ("BirdCodes$World", "noise", "I", false)
  | 8 => ("BirdCodes$World", "seed", "I", false)
  | 9 => ("BirdCodes$World", "ratio", "I", false)
  | 10 => ("BirdCodes$World", "homeTold", "Z", false)
  | 11 => ("BirdCodes$World", "homeX", "I", false)
  | 12 => ("BirdCodes$World", "homeY", "I", false)
  | 13 => ("BirdCodes$World", "homeZ", "I", false)
  | 14 => ("BirdCodes$World", "homeClock", "I", false)
  | _ => ("BirdCodes$World", "onceTold", "I", false)
def tyX9 : Nat → FieldType := fun k => match k with
  | 0 => .array (.object "BirdCodes$Bird")
  | 1 => .int
  | 2 => .int
  | 3 => .int
  | 4 => .int
  | 5 => .int
  | 6 => .int
  | 7 => .int
  | 8 => .int
  | 9 => .int
  | 10 => .boolean
  | 11 => .int
  | 12 => .int
  | 13 => .int
  | 14 => .int
  | _ => .int
theorem nmX9 : ∀ a, a < 16 → ∀ b, b < 16 → a ≠ b → (TX9 a).2.1 ≠ (TX9 b).2.1 := by decide +kernel
theorem tyX9_ok : ∀ k, k < 16 → parseFieldDescriptor (TX9 k).2.2.1 = some (tyX9 k) := by decide +kernel
abbrev cX9_init : ByteArray := prog_11_method_1_code
def yX9_init : MethodName := ⟨RX9, "<init>", "()V"⟩
abbrev cX9_begin : ByteArray := prog_11_method_2_code
def yX9_begin : MethodName := ⟨RX9, "begin", "()V"⟩
abbrev cX9_settle : ByteArray := prog_11_method_3_code
def yX9_settle : MethodName := ⟨RX9, "settle", "()V"⟩
abbrev cX9_codeOf : ByteArray := prog_11_method_4_code
def yX9_codeOf : MethodName := ⟨RX9, "codeOf", "(I)I"⟩
abbrev cX9_codeOfBird : ByteArray := prog_11_method_5_code
def yX9_codeOfBird : MethodName := ⟨RX9, "codeOfBird", "(I)I"⟩
abbrev cX9_numberOf : ByteArray := prog_11_method_6_code
def yX9_numberOf : MethodName := ⟨RX9, "numberOf", "(I)I"⟩
abbrev cX9_addBird : ByteArray := prog_11_method_7_code
def yX9_addBird : MethodName := ⟨RX9, "addBird", "(II)V"⟩
abbrev cX9_howManyHeard : ByteArray := prog_11_method_8_code
def yX9_howManyHeard : MethodName := ⟨RX9, "howManyHeard", "()I"⟩
abbrev cX9_howManyPlaced : ByteArray := prog_11_method_9_code
def yX9_howManyPlaced : MethodName := ⟨RX9, "howManyPlaced", "()I"⟩
def RX10 : String := "BirdCodes"
def TX10 : u_T := fun k => match k with
  | 0 => ("BirdCodes", "tape", "[I", true)
  | 1 => ("BirdCodes", "tapeLength", "I", false)
  | 2 => ("BirdCodes", "reader", "LBirdCodes$Reader;", true)
  | 3 => ("BirdCodes", "told", "LBirdCodes$World;", false)
  | 4 => ("BirdCodes", "spare", "LBirdCodes$World;", false)
  | 5 => ("BirdCodes", "ear", "LBirdCodes$Ear;", true)
  | 6 => ("BirdCodes", "hunter", "LBirdCodes$Hunter;", true)
  | 7 => ("BirdCodes", "now", "LBirdCodes$State;", true)
  | 8 => ("BirdCodes", "image", "LBirdCodes$State;", true)
  | 9 => ("BirdCodes", "imaged", "Z", false)
  | 10 => ("BirdCodes", "trial", "LBirdCodes$State;", true)
  | 11 => ("BirdCodes", "past", "LBirdCodes$Past;", true)
  | 12 => ("BirdCodes", "frames", "LBirdCodes$Frames;", true)
  | _ => ("BirdCodes", "solver", "LBirdCodes$Solver;", true)
def tyX10 : Nat → FieldType := fun k => match k with
  | 0 => .array .int
  | 1 => .int
  | 2 => .object "BirdCodes$Reader"
  | 3 => .object "BirdCodes$World"
  | 4 => .object "BirdCodes$World"
  | 5 => .object "BirdCodes$Ear"
  | 6 => .object "BirdCodes$Hunter"
  | 7 => .object "BirdCodes$State"
  | 8 => .object "BirdCodes$State"
  | 9 => .boolean
  | 10 => .object "BirdCodes$State"
  | 11 => .object "BirdCodes$Past"
  | 12 => .object "BirdCodes$Frames"
  | _ => .object "BirdCodes$Solver"
theorem nmX10 : ∀ a, a < 14 → ∀ b, b < 14 → a ≠ b → (TX10 a).2.1 ≠ (TX10 b).2.1 := by decide +kernel
theorem tyX10_ok : ∀ k, k < 14 → parseFieldDescriptor (TX10 k).2.2.1 = some (tyX10 k) := by decide +kernel
abbrev cX10_init : ByteArray := prog_1_method_1_code
def yX10_init : MethodName := ⟨RX10, "<init>", "()V"⟩
abbrev cX10_feed : ByteArray := prog_1_method_2_code
def yX10_feed : MethodName := ⟨RX10, "feed", "(IIIII)I"⟩
abbrev cX10_putFour : ByteArray := prog_1_method_3_code
def yX10_putFour : MethodName := ⟨RX10, "putFour", "(I)V"⟩
abbrev cX10_text : ByteArray := prog_1_method_4_code
def yX10_text : MethodName := ⟨RX10, "text", "(I)I"⟩
abbrev cX10_fault : ByteArray := prog_1_method_5_code
def yX10_fault : MethodName := ⟨RX10, "fault", "(I)I"⟩
abbrev cX10_named : ByteArray := prog_1_method_6_code
def yX10_named : MethodName := ⟨RX10, "named", "(I)I"⟩
abbrev cX10_bird : ByteArray := prog_1_method_7_code
def yX10_bird : MethodName := ⟨RX10, "bird", "(II)I"⟩
abbrev cX10_isBird : ByteArray := prog_1_method_8_code
def yX10_isBird : MethodName := ⟨RX10, "isBird", "(I)Z"⟩
abbrev cX10_isPeriod : ByteArray := prog_1_method_9_code
def yX10_isPeriod : MethodName := ⟨RX10, "isPeriod", "(I)Z"⟩
abbrev cX10_arePeriods : ByteArray := prog_1_method_10_code
def yX10_arePeriods : MethodName := ⟨RX10, "arePeriods", "(III)Z"⟩
abbrev cX10_chip : ByteArray := prog_1_method_11_code
def yX10_chip : MethodName := ⟨RX10, "chip", "(II)I"⟩
abbrev cX10_period : ByteArray := prog_1_method_12_code
def yX10_period : MethodName := ⟨RX10, "period", "(I)I"⟩
abbrev cX10_stepped : ByteArray := prog_1_method_13_code
def yX10_stepped : MethodName := ⟨RX10, "stepped", "(II)I"⟩
abbrev cX10_goesOut : ByteArray := prog_1_method_14_code
def yX10_goesOut : MethodName := ⟨RX10, "goesOut", "(I)I"⟩
abbrev cX10_around : ByteArray := prog_1_method_15_code
def yX10_around : MethodName := ⟨RX10, "around", "(II)I"⟩
abbrev cX10_crossOf : ByteArray := prog_1_method_16_code
def yX10_crossOf : MethodName := ⟨RX10, "crossOf", "(III)I"⟩
abbrev cX10_worstOf : ByteArray := prog_1_method_17_code
def yX10_worstOf : MethodName := ⟨RX10, "worstOf", "(III)I"⟩
abbrev cX10_cross : ByteArray := prog_1_method_18_code
def yX10_cross : MethodName := ⟨RX10, "cross", "(III)I"⟩
abbrev cX10_worst : ByteArray := prog_1_method_19_code
def yX10_worst : MethodName := ⟨RX10, "worst", "(II)I"⟩
abbrev cX10_quiet : ByteArray := prog_1_method_20_code
def yX10_quiet : MethodName := ⟨RX10, "quiet", "()I"⟩
abbrev cX10_sample : ByteArray := prog_1_method_21_code
def yX10_sample : MethodName := ⟨RX10, "sample", "(II)I"⟩
abbrev cX10_bit : ByteArray := prog_1_method_22_code
def yX10_bit : MethodName := ⟨RX10, "bit", "(II)I"⟩
abbrev cX10_sum : ByteArray := prog_1_method_23_code
def yX10_sum : MethodName := ⟨RX10, "sum", "(IIIII)I"⟩
abbrev cX10_huntOver : ByteArray := prog_1_method_24_code
def yX10_huntOver : MethodName := ⟨RX10, "huntOver", "(III)V"⟩
abbrev cX10_isAcquiredAs : ByteArray := prog_1_method_25_code
def yX10_isAcquiredAs : MethodName := ⟨RX10, "isAcquiredAs", "(IIIII)Z"⟩
abbrev cX10_isPeakRight : ByteArray := prog_1_method_26_code
def yX10_isPeakRight : MethodName := ⟨RX10, "isPeakRight", "(II)Z"⟩
abbrev cX10_hunt : ByteArray := prog_1_method_27_code
def yX10_hunt : MethodName := ⟨RX10, "hunt", "(IIII)I"⟩
abbrev cX10_listen : ByteArray := prog_1_method_28_code
def yX10_listen : MethodName := ⟨RX10, "listen", "(II)I"⟩
abbrev cX10_clear : ByteArray := prog_1_method_29_code
def yX10_clear : MethodName := ⟨RX10, "clear", "(III)I"⟩
abbrev cX10_limit : ByteArray := prog_1_method_30_code
def yX10_limit : MethodName := ⟨RX10, "limit", "(II)I"⟩
abbrev cX10_chance : ByteArray := prog_1_method_31_code
def yX10_chance : MethodName := ⟨RX10, "chance", "(IIII)I"⟩
abbrev cX10_clearest : ByteArray := prog_1_method_32_code
def yX10_clearest : MethodName := ⟨RX10, "clearest", "(III)I"⟩
abbrev cX10_tune : ByteArray := prog_1_method_33_code
def yX10_tune : MethodName := ⟨RX10, "tune", "(III)I"⟩
abbrev cX10_isChannel : ByteArray := prog_1_method_34_code
def yX10_isChannel : MethodName := ⟨RX10, "isChannel", "(I)Z"⟩
abbrev cX10_lock : ByteArray := prog_1_method_35_code
def yX10_lock : MethodName := ⟨RX10, "lock", "(II)I"⟩
abbrev cX10_drop : ByteArray := prog_1_method_36_code
def yX10_drop : MethodName := ⟨RX10, "drop", "()I"⟩
abbrev cX10_follow : ByteArray := prog_1_method_37_code
def yX10_follow : MethodName := ⟨RX10, "follow", "(I)I"⟩
abbrev cX10_followAll : ByteArray := prog_1_method_38_code
def yX10_followAll : MethodName := ⟨RX10, "followAll", "(LBirdCodes$State;I)I"⟩
abbrev cX10_followOne : ByteArray := prog_1_method_39_code
def yX10_followOne : MethodName := ⟨RX10, "followOne", "(LBirdCodes$Channel;)V"⟩
abbrev cX10_channel : ByteArray := prog_1_method_40_code
def yX10_channel : MethodName := ⟨RX10, "channel", "(II)I"⟩
abbrev cX10_logged : ByteArray := prog_1_method_41_code
def yX10_logged : MethodName := ⟨RX10, "logged", "(II)I"⟩
abbrev cX10_readFrames : ByteArray := prog_1_method_42_code
def yX10_readFrames : MethodName := ⟨RX10, "readFrames", "(LBirdCodes$Channel;)V"⟩
abbrev cX10_frame : ByteArray := prog_1_method_43_code
def yX10_frame : MethodName := ⟨RX10, "frame", "(III)I"⟩
abbrev cX10_bad : ByteArray := prog_1_method_44_code
def yX10_bad : MethodName := ⟨RX10, "bad", "(I)I"⟩
abbrev cX10_errors : ByteArray := prog_1_method_45_code
def yX10_errors : MethodName := ⟨RX10, "errors", "(I)I"⟩
abbrev cX10_latest : ByteArray := prog_1_method_46_code
def yX10_latest : MethodName := ⟨RX10, "latest", "(II)I"⟩
abbrev cX10_off : ByteArray := prog_1_method_47_code
def yX10_off : MethodName := ⟨RX10, "off", "(I)I"⟩
abbrev cX10_apart : ByteArray := prog_1_method_48_code
def yX10_apart : MethodName := ⟨RX10, "apart", "(II)I"⟩
abbrev cX10_tried : ByteArray := prog_1_method_49_code
def yX10_tried : MethodName := ⟨RX10, "tried", "(II)I"⟩
abbrev cX10_range : ByteArray := prog_1_method_50_code
def yX10_range : MethodName := ⟨RX10, "range", "(II)I"⟩
abbrev cX10_measure : ByteArray := prog_1_method_51_code
def yX10_measure : MethodName := ⟨RX10, "measure", "(I)I"⟩
abbrev cX10_measuredRange : ByteArray := prog_1_method_52_code
def yX10_measuredRange : MethodName := ⟨RX10, "measuredRange", "(II)I"⟩
abbrev cX10_fix : ByteArray := prog_1_method_53_code
def yX10_fix : MethodName := ⟨RX10, "fix", "(I)I"⟩
abbrev cX10_fixWithout : ByteArray := prog_1_method_54_code
def yX10_fixWithout : MethodName := ⟨RX10, "fixWithout", "(II)I"⟩
abbrev cX10_hasBoth : ByteArray := prog_1_method_55_code
def yX10_hasBoth : MethodName := ⟨RX10, "hasBoth", "(I)Z"⟩
abbrev cX10_suspect : ByteArray := prog_1_method_56_code
def yX10_suspect : MethodName := ⟨RX10, "suspect", "()I"⟩
abbrev cX10_spread : ByteArray := prog_1_method_57_code
def yX10_spread : MethodName := ⟨RX10, "spread", "(I)I"⟩
abbrev cX10_distance : ByteArray := prog_1_method_58_code
def yX10_distance : MethodName := ⟨RX10, "distance", "(II)I"⟩
abbrev cX10_undo : ByteArray := prog_1_method_59_code
def yX10_undo : MethodName := ⟨RX10, "undo", "()I"⟩
abbrev cX10_keep : ByteArray := prog_1_method_60_code
def yX10_keep : MethodName := ⟨RX10, "keep", "()I"⟩
abbrev cX10_back : ByteArray := prog_1_method_61_code
def yX10_back : MethodName := ⟨RX10, "back", "()I"⟩
abbrev cX10_count : ByteArray := prog_1_method_62_code
def yX10_count : MethodName := ⟨RX10, "count", "(I)I"⟩
abbrev cX10_nextNumber : ByteArray := prog_1_method_63_code
def yX10_nextNumber : MethodName := ⟨RX10, "nextNumber", "(I)I"⟩
abbrev cX10_noiseOf : ByteArray := prog_1_method_64_code
def yX10_noiseOf : MethodName := ⟨RX10, "noiseOf", "(II)I"⟩
abbrev cX10_parityOf : ByteArray := prog_1_method_65_code
def yX10_parityOf : MethodName := ⟨RX10, "parityOf", "(I)I"⟩
abbrev cX10_subframe : ByteArray := prog_1_method_66_code
def yX10_subframe : MethodName := ⟨RX10, "subframe", "(II)I"⟩
def RX11 : String := "BirdCodesModel"
def TX11 : u_T := fun k => match k with
  | 0 => ("BirdCodesModel", "tape", "[I", true)
  | 1 => ("BirdCodesModel", "tapeSize", "I", false)
  | 2 => ("BirdCodesModel", "thrown", "I", false)
  | 3 => ("BirdCodesModel", "words", "[I", true)
  | 4 => ("BirdCodesModel", "fault", "I", false)
  | 5 => ("BirdCodesModel", "faultPlace", "I", false)
  | 6 => ("BirdCodesModel", "stop", "I", false)
  | 7 => ("BirdCodesModel", "next", "I", false)
  | 8 => ("BirdCodesModel", "kind", "I", false)
  | 9 => ("BirdCodesModel", "which", "I", false)
  | 10 => ("BirdCodesModel", "at", "I", false)
  | 11 => ("BirdCodesModel", "birds", "I", false)
  | 12 => ("BirdCodesModel", "birdsRead", "I", false)
  | 13 => ("BirdCodesModel", "bird", "[I", true)
  | 14 => ("BirdCodesModel", "sends", "I", false)
  | 15 => ("BirdCodesModel", "sendsRead", "I", false)
  | 16 => ("BirdCodesModel", "sent", "[I", true)
  | 17 => ("BirdCodesModel", "told", "[I", true)
  | 18 => ("BirdCodesModel", "isTold", "[Z", true)
  | 19 => ("BirdCodesModel", "got", "I", false)
  | 20 => ("BirdCodesModel", "code", "[I", true)
  | 21 => ("BirdCodesModel", "table", "[I", true)
  | 22 => ("BirdCodesModel", "noiseBy", "I", false)
  | 23 => ("BirdCodesModel", "seedBy", "I", false)
  | 24 => ("BirdCodesModel", "only", "I", false)
  | 25 => ("BirdCodesModel", "re", "[I", true)
  | 26 => ("BirdCodesModel", "im", "[I", true)
  | 27 => ("BirdCodesModel", "backRe", "[I", true)
  | 28 => ("BirdCodesModel", "backIm", "[I", true)
  | 29 => ("BirdCodesModel", "sumI", "I", false)
  | 30 => ("BirdCodesModel", "sumQ", "I", false)
  | 31 => ("BirdCodesModel", "power", "[J", true)
  | 32 => ("BirdCodesModel", "peak", "I", false)
  | 33 => ("BirdCodesModel", "rival", "J", false)
  | 34 => ("BirdCodesModel", "all", "[I", true)
  | 35 => ("BirdCodesModel", "bank", "I", false)
  | 36 => ("BirdCodesModel", "undos", "I", false)
  | 37 => ("BirdCodesModel", "isImage", "Z", false)
  | 38 => ("BirdCodesModel", "framePlace", "[I", true)
  | 39 => ("BirdCodesModel", "frameBits", "[I", true)
  | 40 => ("BirdCodesModel", "isOver", "[Z", true)
  | 41 => ("BirdCodesModel", "frames", "I", false)
  | 42 => ("BirdCodesModel", "bads", "I", false)
  | 43 => ("BirdCodesModel", "fixed", "[I", true)
  | _ => ("BirdCodesModel", "clock", "I", false)
def tyX11 : Nat → FieldType := fun k => match k with
  | 0 => .array .int
  | 1 => .int
  | 2 => .int
  | 3 => .array .int
  | 4 => .int
  | 5 => .int
  | 6 => .int
  | 7 => .int
  | 8 => .int
  | 9 => .int
  | 10 => .int
  | 11 => .int
  | 12 => .int
  | 13 => .array .int
  | 14 => .int
  | 15 => .int
  | 16 => .array .int
  | 17 => .array .int
  | 18 => .array .boolean
  | 19 => .int
  | 20 => .array .int
  | 21 => .array .int
  | 22 => .int
  | 23 => .int
  | 24 => .int
  | 25 => .array .int
  | 26 => .array .int
  | 27 => .array .int
  | 28 => .array .int
  | 29 => .int
  | 30 => .int
  | 31 => .array .long
  | 32 => .int
  | 33 => .long
  | 34 => .array .int
  | 35 => .int
  | 36 => .int
  | 37 => .boolean
  | 38 => .array .int
  | 39 => .array .int
  | 40 => .array .boolean
  | 41 => .int
  | 42 => .int
  | 43 => .array .int
  | _ => .int
theorem nmX11 : ∀ a, a < 45 → ∀ b, b < 45 → a ≠ b → (TX11 a).2.1 ≠ (TX11 b).2.1 := by decide +kernel
theorem tyX11_ok : ∀ k, k < 45 → parseFieldDescriptor (TX11 k).2.2.1 = some (tyX11 k) := by decide +kernel
abbrev cX11_init : ByteArray := prog_13_method_1_code
def yX11_init : MethodName := ⟨RX11, "<init>", "()V"⟩
abbrev cX11_thrown : ByteArray := prog_13_method_2_code
def yX11_thrown : MethodName := ⟨RX11, "thrown", "()I"⟩
abbrev cX11_feed : ByteArray := prog_13_method_3_code
def yX11_feed : MethodName := ⟨RX11, "feed", "(IIIII)I"⟩
abbrev cX11_isIn : ByteArray := prog_13_method_4_code
def yX11_isIn : MethodName := ⟨RX11, "isIn", "(III)Z"⟩
abbrev cX11_wrong : ByteArray := prog_13_method_5_code
def yX11_wrong : MethodName := ⟨RX11, "wrong", "(I)Z"⟩
abbrev cX11_wordAt : ByteArray := prog_13_method_6_code
def yX11_wordAt : MethodName := ⟨RX11, "wordAt", "(II)I"⟩
abbrev cX11_isSmall : ByteArray := prog_13_method_7_code
def yX11_isSmall : MethodName := ⟨RX11, "isSmall", "(I)Z"⟩
abbrev cX11_isDigit : ByteArray := prog_13_method_8_code
def yX11_isDigit : MethodName := ⟨RX11, "isDigit", "(I)Z"⟩
abbrev cX11_token : ByteArray := prog_13_method_9_code
def yX11_token : MethodName := ⟨RX11, "token", "()V"⟩
abbrev cX11_packed : ByteArray := prog_13_method_10_code
def yX11_packed : MethodName := ⟨RX11, "packed", "(II)I"⟩
abbrev cX11_plain : ByteArray := prog_13_method_11_code
def yX11_plain : MethodName := ⟨RX11, "plain", "()V"⟩
abbrev cX11_copies : ByteArray := prog_13_method_12_code
def yX11_copies : MethodName := ⟨RX11, "copies", "([II)V"⟩
abbrev cX11_keepText : ByteArray := prog_13_method_13_code
def yX11_keepText : MethodName := ⟨RX11, "keepText", "()V"⟩
abbrev cX11_birdOf : ByteArray := prog_13_method_14_code
def yX11_birdOf : MethodName := ⟨RX11, "birdOf", "(II)I"⟩
abbrev cX11_readOf : ByteArray := prog_13_method_15_code
def yX11_readOf : MethodName := ⟨RX11, "readOf", "(II)I"⟩
abbrev cX11_read : ByteArray := prog_13_method_16_code
def yX11_read : MethodName := ⟨RX11, "read", "(III)V"⟩
abbrev cX11_nameAt : ByteArray := prog_13_method_17_code
def yX11_nameAt : MethodName := ⟨RX11, "nameAt", "(IZ)I"⟩
abbrev cX11_number : ByteArray := prog_13_method_18_code
def yX11_number : MethodName := ⟨RX11, "number", "(II)Z"⟩
abbrev cX11_birdRead : ByteArray := prog_13_method_19_code
def yX11_birdRead : MethodName := ⟨RX11, "birdRead", "(I)Z"⟩
abbrev cX11_birdLine : ByteArray := prog_13_method_20_code
def yX11_birdLine : MethodName := ⟨RX11, "birdLine", "()Z"⟩
abbrev cX11_heardLine : ByteArray := prog_13_method_21_code
def yX11_heardLine : MethodName := ⟨RX11, "heardLine", "()Z"⟩
abbrev cX11_oneLine : ByteArray := prog_13_method_22_code
def yX11_oneLine : MethodName := ⟨RX11, "oneLine", "(II)Z"⟩
abbrev cX11_sendLine : ByteArray := prog_13_method_23_code
def yX11_sendLine : MethodName := ⟨RX11, "sendLine", "()Z"⟩
abbrev cX11_placeLine : ByteArray := prog_13_method_24_code
def yX11_placeLine : MethodName := ⟨RX11, "placeLine", "()Z"⟩
abbrev cX11_homeLine : ByteArray := prog_13_method_25_code
def yX11_homeLine : MethodName := ⟨RX11, "homeLine", "()Z"⟩
abbrev cX11_wordLine : ByteArray := prog_13_method_26_code
def yX11_wordLine : MethodName := ⟨RX11, "wordLine", "()Z"⟩
abbrev cX11_lineRead : ByteArray := prog_13_method_27_code
def yX11_lineRead : MethodName := ⟨RX11, "lineRead", "()Z"⟩
abbrev cX11_text : ByteArray := prog_13_method_28_code
def yX11_text : MethodName := ⟨RX11, "text", "(I)I"⟩
abbrev cX11_fault : ByteArray := prog_13_method_29_code
def yX11_fault : MethodName := ⟨RX11, "fault", "(I)I"⟩
abbrev cX11_named : ByteArray := prog_13_method_30_code
def yX11_named : MethodName := ⟨RX11, "named", "(I)I"⟩
abbrev cX11_isBird : ByteArray := prog_13_method_31_code
def yX11_isBird : MethodName := ⟨RX11, "isBird", "(I)Z"⟩
abbrev cX11_fails : ByteArray := prog_13_method_32_code
def yX11_fails : MethodName := ⟨RX11, "fails", "(I)I"⟩
abbrev cX11_bird : ByteArray := prog_13_method_33_code
def yX11_bird : MethodName := ⟨RX11, "bird", "(II)I"⟩
abbrev cX11_isOdd : ByteArray := prog_13_method_34_code
def yX11_isOdd : MethodName := ⟨RX11, "isOdd", "(I)I"⟩
abbrev cX11_stepped : ByteArray := prog_13_method_35_code
def yX11_stepped : MethodName := ⟨RX11, "stepped", "(II)I"⟩
abbrev cX11_layCodes : ByteArray := prog_13_method_36_code
def yX11_layCodes : MethodName := ⟨RX11, "layCodes", "()V"⟩
abbrev cX11_chipBy : ByteArray := prog_13_method_37_code
def yX11_chipBy : MethodName := ⟨RX11, "chipBy", "(II)I"⟩
abbrev cX11_chip : ByteArray := prog_13_method_38_code
def yX11_chip : MethodName := ⟨RX11, "chip", "(II)I"⟩
abbrev cX11_period : ByteArray := prog_13_method_39_code
def yX11_period : MethodName := ⟨RX11, "period", "(I)I"⟩
abbrev cX11_crossed : ByteArray := prog_13_method_40_code
def yX11_crossed : MethodName := ⟨RX11, "crossed", "(III)I"⟩
abbrev cX11_cross : ByteArray := prog_13_method_41_code
def yX11_cross : MethodName := ⟨RX11, "cross", "(III)I"⟩
abbrev cX11_worstOf : ByteArray := prog_13_method_42_code
def yX11_worstOf : MethodName := ⟨RX11, "worstOf", "(III)I"⟩
abbrev cX11_worst : ByteArray := prog_13_method_43_code
def yX11_worst : MethodName := ⟨RX11, "worst", "(II)I"⟩
abbrev cX11_quiet : ByteArray := prog_13_method_44_code
def yX11_quiet : MethodName := ⟨RX11, "quiet", "()I"⟩
abbrev cX11_parityOf : ByteArray := prog_13_method_45_code
def yX11_parityOf : MethodName := ⟨RX11, "parityOf", "(I)I"⟩
abbrev cX11_frameOf : ByteArray := prog_13_method_46_code
def yX11_frameOf : MethodName := ⟨RX11, "frameOf", "(II)I"⟩
abbrev cX11_sentBit : ByteArray := prog_13_method_47_code
def yX11_sentBit : MethodName := ⟨RX11, "sentBit", "(II)I"⟩
abbrev cX11_bit : ByteArray := prog_13_method_48_code
def yX11_bit : MethodName := ⟨RX11, "bit", "(II)I"⟩
abbrev cX11_rest : ByteArray := prog_13_method_49_code
def yX11_rest : MethodName := ⟨RX11, "rest", "(II)I"⟩
abbrev cX11_quotient : ByteArray := prog_13_method_50_code
def yX11_quotient : MethodName := ⟨RX11, "quotient", "(II)I"⟩
abbrev cX11_startIn : ByteArray := prog_13_method_51_code
def yX11_startIn : MethodName := ⟨RX11, "startIn", "(II)I"⟩
abbrev cX11_isLoud : ByteArray := prog_13_method_52_code
def yX11_isLoud : MethodName := ⟨RX11, "isLoud", "(II)Z"⟩
abbrev cX11_cosOf : ByteArray := prog_13_method_53_code
def yX11_cosOf : MethodName := ⟨RX11, "cosOf", "(I)I"⟩
abbrev cX11_sinOf : ByteArray := prog_13_method_54_code
def yX11_sinOf : MethodName := ⟨RX11, "sinOf", "(I)I"⟩
abbrev cX11_angleOf : ByteArray := prog_13_method_55_code
def yX11_angleOf : MethodName := ⟨RX11, "angleOf", "(III)I"⟩
abbrev cX11_made : ByteArray := prog_13_method_56_code
def yX11_made : MethodName := ⟨RX11, "made", "(J)J"⟩
abbrev cX11_errorOf : ByteArray := prog_13_method_57_code
def yX11_errorOf : MethodName := ⟨RX11, "errorOf", "(JI)I"⟩
abbrev cX11_laySamples : ByteArray := prog_13_method_58_code
def yX11_laySamples : MethodName := ⟨RX11, "laySamples", "(I)V"⟩
abbrev cX11_adds : ByteArray := prog_13_method_59_code
def yX11_adds : MethodName := ⟨RX11, "adds", "(III)V"⟩
abbrev cX11_sample : ByteArray := prog_13_method_60_code
def yX11_sample : MethodName := ⟨RX11, "sample", "(II)I"⟩
abbrev cX11_turnsBack : ByteArray := prog_13_method_61_code
def yX11_turnsBack : MethodName := ⟨RX11, "turnsBack", "(III)V"⟩
abbrev cX11_powerBy : ByteArray := prog_13_method_62_code
def yX11_powerBy : MethodName := ⟨RX11, "powerBy", "(II)I"⟩
abbrev cX11_sum : ByteArray := prog_13_method_63_code
def yX11_sum : MethodName := ⟨RX11, "sum", "(IIIII)I"⟩
abbrev cX11_apart : ByteArray := prog_13_method_64_code
def yX11_apart : MethodName := ⟨RX11, "apart", "(III)I"⟩
abbrev cX11_addsPowers : ByteArray := prog_13_method_65_code
def yX11_addsPowers : MethodName := ⟨RX11, "addsPowers", "(II)V"⟩
abbrev cX11_hunts : ByteArray := prog_13_method_66_code
def yX11_hunts : MethodName := ⟨RX11, "hunts", "(III)V"⟩
abbrev cX11_laysPeak : ByteArray := prog_13_method_67_code
def yX11_laysPeak : MethodName := ⟨RX11, "laysPeak", "()V"⟩
abbrev cX11_isAcquired : ByteArray := prog_13_method_68_code
def yX11_isAcquired : MethodName := ⟨RX11, "isAcquired", "()Z"⟩
abbrev cX11_isRange : ByteArray := prog_13_method_69_code
def yX11_isRange : MethodName := ⟨RX11, "isRange", "(III)Z"⟩
abbrev cX11_hunt : ByteArray := prog_13_method_70_code
def yX11_hunt : MethodName := ⟨RX11, "hunt", "(IIII)I"⟩
abbrev cX11_isTrue : ByteArray := prog_13_method_71_code
def yX11_isTrue : MethodName := ⟨RX11, "isTrue", "(II)Z"⟩
abbrev cX11_listen : ByteArray := prog_13_method_72_code
def yX11_listen : MethodName := ⟨RX11, "listen", "(II)I"⟩
abbrev cX11_asTold : ByteArray := prog_13_method_73_code
def yX11_asTold : MethodName := ⟨RX11, "asTold", "()V"⟩
abbrev cX11_clear : ByteArray := prog_13_method_74_code
def yX11_clear : MethodName := ⟨RX11, "clear", "(III)I"⟩
abbrev cX11_limit : ByteArray := prog_13_method_75_code
def yX11_limit : MethodName := ⟨RX11, "limit", "(II)I"⟩
abbrev cX11_chance : ByteArray := prog_13_method_76_code
def yX11_chance : MethodName := ⟨RX11, "chance", "(IIII)I"⟩
abbrev cX11_clearest : ByteArray := prog_13_method_77_code
def yX11_clearest : MethodName := ⟨RX11, "clearest", "(III)I"⟩
abbrev cX11_tune : ByteArray := prog_13_method_78_code
def yX11_tune : MethodName := ⟨RX11, "tune", "(III)I"⟩
abbrev cX11_of : ByteArray := prog_13_method_79_code
def yX11_of : MethodName := ⟨RX11, "of", "(I)I"⟩
abbrev cX11_lay : ByteArray := prog_13_method_80_code
def yX11_lay : MethodName := ⟨RX11, "lay", "(II)V"⟩
abbrev cX11_at : ByteArray := prog_13_method_81_code
def yX11_at : MethodName := ⟨RX11, "at", "(II)I"⟩
abbrev cX11_put : ByteArray := prog_13_method_82_code
def yX11_put : MethodName := ⟨RX11, "put", "(III)V"⟩
abbrev cX11_copyBank : ByteArray := prog_13_method_83_code
def yX11_copyBank : MethodName := ⟨RX11, "copyBank", "(II)V"⟩
abbrev cX11_canUndo : ByteArray := prog_13_method_84_code
def yX11_canUndo : MethodName := ⟨RX11, "canUndo", "()V"⟩
abbrev cX11_undo : ByteArray := prog_13_method_85_code
def yX11_undo : MethodName := ⟨RX11, "undo", "()I"⟩
abbrev cX11_keep : ByteArray := prog_13_method_86_code
def yX11_keep : MethodName := ⟨RX11, "keep", "()I"⟩
abbrev cX11_back : ByteArray := prog_13_method_87_code
def yX11_back : MethodName := ⟨RX11, "back", "()I"⟩
abbrev cX11_isChannel : ByteArray := prog_13_method_88_code
def yX11_isChannel : MethodName := ⟨RX11, "isChannel", "(I)Z"⟩
abbrev cX11_lock : ByteArray := prog_13_method_89_code
def yX11_lock : MethodName := ⟨RX11, "lock", "(II)I"⟩
abbrev cX11_drop : ByteArray := prog_13_method_90_code
def yX11_drop : MethodName := ⟨RX11, "drop", "()I"⟩
abbrev cX11_logs : ByteArray := prog_13_method_91_code
def yX11_logs : MethodName := ⟨RX11, "logs", "(II)V"⟩
abbrev cX11_isFollowed : ByteArray := prog_13_method_92_code
def yX11_isFollowed : MethodName := ⟨RX11, "isFollowed", "(I)Z"⟩
abbrev cX11_followed : ByteArray := prog_13_method_93_code
def yX11_followed : MethodName := ⟨RX11, "followed", "(I)I"⟩
abbrev cX11_follow : ByteArray := prog_13_method_94_code
def yX11_follow : MethodName := ⟨RX11, "follow", "(I)I"⟩
abbrev cX11_channel : ByteArray := prog_13_method_95_code
def yX11_channel : MethodName := ⟨RX11, "channel", "(II)I"⟩
abbrev cX11_logged : ByteArray := prog_13_method_96_code
def yX11_logged : MethodName := ⟨RX11, "logged", "(II)I"⟩
abbrev cX11_sixteen : ByteArray := prog_13_method_97_code
def yX11_sixteen : MethodName := ⟨RX11, "sixteen", "(II)I"⟩
abbrev cX11_layFrames : ByteArray := prog_13_method_98_code
def yX11_layFrames : MethodName := ⟨RX11, "layFrames", "(I)V"⟩
abbrev cX11_frame : ByteArray := prog_13_method_99_code
def yX11_frame : MethodName := ⟨RX11, "frame", "(III)I"⟩
abbrev cX11_bad : ByteArray := prog_13_method_100_code
def yX11_bad : MethodName := ⟨RX11, "bad", "(I)I"⟩
abbrev cX11_errors : ByteArray := prog_13_method_101_code
def yX11_errors : MethodName := ⟨RX11, "errors", "(I)I"⟩
abbrev cX11_latest : ByteArray := prog_13_method_102_code
def yX11_latest : MethodName := ⟨RX11, "latest", "(II)I"⟩
abbrev cX11_off : ByteArray := prog_13_method_103_code
def yX11_off : MethodName := ⟨RX11, "off", "(I)I"⟩
abbrev cX11_rootOf : ByteArray := prog_13_method_104_code
def yX11_rootOf : MethodName := ⟨RX11, "rootOf", "(I)I"⟩
abbrev cX11_far : ByteArray := prog_13_method_105_code
def yX11_far : MethodName := ⟨RX11, "far", "(III)I"⟩
abbrev cX11_farFrom : ByteArray := prog_13_method_106_code
def yX11_farFrom : MethodName := ⟨RX11, "farFrom", "(IIII)I"⟩
abbrev cX11_range : ByteArray := prog_13_method_107_code
def yX11_range : MethodName := ⟨RX11, "range", "(II)I"⟩
abbrev cX11_measure : ByteArray := prog_13_method_108_code
def yX11_measure : MethodName := ⟨RX11, "measure", "(I)I"⟩
abbrev cX11_isRanged : ByteArray := prog_13_method_109_code
def yX11_isRanged : MethodName := ⟨RX11, "isRanged", "(I)Z"⟩
abbrev cX11_ranged : ByteArray := prog_13_method_110_code
def yX11_ranged : MethodName := ⟨RX11, "ranged", "()I"⟩
abbrev cX11_restAt : ByteArray := prog_13_method_111_code
def yX11_restAt : MethodName := ⟨RX11, "restAt", "(IIII)I"⟩
abbrev cX11_layFix : ByteArray := prog_13_method_112_code
def yX11_layFix : MethodName := ⟨RX11, "layFix", "(I)V"⟩
abbrev cX11_fix : ByteArray := prog_13_method_113_code
def yX11_fix : MethodName := ⟨RX11, "fix", "(I)I"⟩
abbrev cX11_fixWithout : ByteArray := prog_13_method_114_code
def yX11_fixWithout : MethodName := ⟨RX11, "fixWithout", "(II)I"⟩
abbrev cX11_suspect : ByteArray := prog_13_method_115_code
def yX11_suspect : MethodName := ⟨RX11, "suspect", "()I"⟩
abbrev cX11_spread : ByteArray := prog_13_method_116_code
def yX11_spread : MethodName := ⟨RX11, "spread", "(I)I"⟩
abbrev cX11_distance : ByteArray := prog_13_method_117_code
def yX11_distance : MethodName := ⟨RX11, "distance", "(II)I"⟩
abbrev cX11_lostMany : ByteArray := prog_13_method_118_code
def yX11_lostMany : MethodName := ⟨RX11, "lostMany", "()I"⟩
abbrev cX11_tried : ByteArray := prog_13_method_119_code
def yX11_tried : MethodName := ⟨RX11, "tried", "(II)I"⟩
abbrev cX11_birdsWith : ByteArray := prog_13_method_120_code
def yX11_birdsWith : MethodName := ⟨RX11, "birdsWith", "(I)I"⟩
abbrev cX11_count : ByteArray := prog_13_method_121_code
def yX11_count : MethodName := ⟨RX11, "count", "(I)I"⟩
def RJx145de : String := "java/io/Serializable"
def TJx145de : u_T := fun k => match k with
  | _ => ("", "", "", false)
def tyJx145de : Nat → FieldType := fun k => match k with
  | _ => .int
theorem nmJx145de : ∀ a, a < 0 → ∀ b, b < 0 → a ≠ b → (TJx145de a).2.1 ≠ (TJx145de b).2.1 := by decide +kernel
theorem tyJx145de_ok : ∀ k, k < 0 → parseFieldDescriptor (TJx145de k).2.2.1 = some (tyJx145de k) := by decide +kernel
def RJ6 : String := "java/lang/Integer"
def TJ6 : u_T := fun k => match k with
  | _ => ("", "", "", false)
def tyJ6 : Nat → FieldType := fun k => match k with
  | _ => .int
theorem nmJ6 : ∀ a, a < 0 → ∀ b, b < 0 → a ≠ b → (TJ6 a).2.1 ≠ (TJ6 b).2.1 := by decide +kernel
theorem tyJ6_ok : ∀ k, k < 0 → parseFieldDescriptor (TJ6 k).2.2.1 = some (tyJ6 k) := by decide +kernel
abbrev cJ6_bitCount_0f7a4 : ByteArray := prog_17_method_49_code
def yJ6_bitCount_0f7a4 : MethodName := ⟨RJ6, "bitCount", "(I)I"⟩
def RJ9 : String := "java/lang/Math"
def TJ9 : u_T := fun k => match k with
  | _ => ("", "", "", false)
def tyJ9 : Nat → FieldType := fun k => match k with
  | _ => .int
theorem nmJ9 : ∀ a, a < 0 → ∀ b, b < 0 → a ≠ b → (TJ9 a).2.1 ≠ (TJ9 b).2.1 := by decide +kernel
theorem tyJ9_ok : ∀ k, k < 0 → parseFieldDescriptor (TJ9 k).2.2.1 = some (tyJ9 k) := by decide +kernel
abbrev cJ9_floorDiv_7cf53 : ByteArray := prog_18_method_47_code
def yJ9_floorDiv_7cf53 : MethodName := ⟨RJ9, "floorDiv", "(II)I"⟩
abbrev cJ9_abs_0f7a4 : ByteArray := prog_18_method_59_code
def yJ9_abs_0f7a4 : MethodName := ⟨RJ9, "abs", "(I)I"⟩
abbrev cJ9_max_7cf53 : ByteArray := prog_18_method_65_code
def yJ9_max_7cf53 : MethodName := ⟨RJ9, "max", "(II)I"⟩
abbrev cJ9_min_7cf53 : ByteArray := prog_18_method_69_code
def yJ9_min_7cf53 : MethodName := ⟨RJ9, "min", "(II)I"⟩
def RJ0 : String := "java/lang/String"
def TJ0 : u_T := fun k => match k with
  | _ => ("", "", "", false)
def tyJ0 : Nat → FieldType := fun k => match k with
  | _ => .int
theorem nmJ0 : ∀ a, a < 0 → ∀ b, b < 0 → a ≠ b → (TJ0 a).2.1 ≠ (TJ0 b).2.1 := by decide +kernel
theorem tyJ0_ok : ∀ k, k < 0 → parseFieldDescriptor (TJ0 k).2.2.1 = some (tyJ0 k) := by decide +kernel
def RL : String := "BirdCodesLaw"
abbrev cL_bird : ByteArray := method_3_code
abbrev cL_law : ByteArray := code
