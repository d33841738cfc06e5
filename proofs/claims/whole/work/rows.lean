section
-- ===== PART A: goes FIRST, ahead of the names: the tables' words, and 'selects' of the private methods out of them =====
/-- a private method of a class that the tables say can be made, by its rows of tables_1 -/
def lw_okq (q : MethodName × Nat) : Prop := (q.1.cls ≠ "java/lang/invoke/MethodHandle" ∧ q.1.cls ≠ "java/lang/invoke/VarHandle") ∧ Cond.instantiable q.1.cls q.2 ∈ tables_1 ∧ Cond.privateMethod q.1 ∈ tables_1 ∧ Cond.instanceMethod q.1 ∈ tables_1
theorem lw_p0 : lw_okq (⟨"EdgeMoves", "refuse", "(I)I"⟩, 14) := ⟨⟨by decide +kernel, by decide +kernel⟩, List.mem_of_getElem? (i := 18) (by decide +kernel), List.mem_of_getElem? (i := 287) (by decide +kernel), List.mem_of_getElem? (i := 288) (by decide +kernel)⟩
theorem lw_p1 : lw_okq (⟨"EdgeMoves", "isClear", "(I)Z"⟩, 14) := ⟨⟨by decide +kernel, by decide +kernel⟩, List.mem_of_getElem? (i := 18) (by decide +kernel), List.mem_of_getElem? (i := 377) (by decide +kernel), List.mem_of_getElem? (i := 378) (by decide +kernel)⟩
theorem lw_p2 : lw_okq (⟨"EdgeMoves$Handover", "involved", "(I)I"⟩, 3) := ⟨⟨by decide +kernel, by decide +kernel⟩, List.mem_of_getElem? (i := 143) (by decide +kernel), List.mem_of_getElem? (i := 389) (by decide +kernel), List.mem_of_getElem? (i := 390) (by decide +kernel)⟩
theorem lw_p3 : lw_okq (⟨"EdgeMoves$Reader", "nextByte", "()I"⟩, 4) := ⟨⟨by decide +kernel, by decide +kernel⟩, List.mem_of_getElem? (i := 124) (by decide +kernel), List.mem_of_getElem? (i := 444) (by decide +kernel), List.mem_of_getElem? (i := 445) (by decide +kernel)⟩
theorem lw_p4 : lw_okq (⟨"EdgeMoves$Reader", "readBlock", "()Z"⟩, 4) := ⟨⟨by decide +kernel, by decide +kernel⟩, List.mem_of_getElem? (i := 124) (by decide +kernel), List.mem_of_getElem? (i := 452) (by decide +kernel), List.mem_of_getElem? (i := 453) (by decide +kernel)⟩
theorem lw_p5 : lw_okq (⟨"EdgeMoves$Reader", "failAt", "(I)Z"⟩, 4) := ⟨⟨by decide +kernel, by decide +kernel⟩, List.mem_of_getElem? (i := 124) (by decide +kernel), List.mem_of_getElem? (i := 458) (by decide +kernel), List.mem_of_getElem? (i := 459) (by decide +kernel)⟩
theorem lw_p6 : lw_okq (⟨"EdgeMoves$Reader", "readNumber", "()I"⟩, 4) := ⟨⟨by decide +kernel, by decide +kernel⟩, List.mem_of_getElem? (i := 124) (by decide +kernel), List.mem_of_getElem? (i := 465) (by decide +kernel), List.mem_of_getElem? (i := 466) (by decide +kernel)⟩
theorem lw_p7 : lw_okq (⟨"EdgeMoves$Reader", "readEnd", "()Z"⟩, 4) := ⟨⟨by decide +kernel, by decide +kernel⟩, List.mem_of_getElem? (i := 124) (by decide +kernel), List.mem_of_getElem? (i := 472) (by decide +kernel), List.mem_of_getElem? (i := 473) (by decide +kernel)⟩
theorem lw_p8 : lw_okq (⟨"EdgeMoves$Reader", "readEdge", "()Z"⟩, 4) := ⟨⟨by decide +kernel, by decide +kernel⟩, List.mem_of_getElem? (i := 124) (by decide +kernel), List.mem_of_getElem? (i := 476) (by decide +kernel), List.mem_of_getElem? (i := 477) (by decide +kernel)⟩
theorem lw_p9 : lw_okq (⟨"EdgeMoves$Reader", "readNumberBelow", "(I)I"⟩, 4) := ⟨⟨by decide +kernel, by decide +kernel⟩, List.mem_of_getElem? (i := 124) (by decide +kernel), List.mem_of_getElem? (i := 480) (by decide +kernel), List.mem_of_getElem? (i := 481) (by decide +kernel)⟩
theorem lw_p10 : lw_okq (⟨"EdgeMoves$Reader", "readArguments", "(LEdgeMoves$Block;LEdgeMoves$Edge;)Z"⟩, 4) := ⟨⟨by decide +kernel, by decide +kernel⟩, List.mem_of_getElem? (i := 124) (by decide +kernel), List.mem_of_getElem? (i := 488) (by decide +kernel), List.mem_of_getElem? (i := 489) (by decide +kernel)⟩
theorem lw_p11 : lw_okq (⟨"EdgeMoves", "refusalFor", "(IZ)I"⟩, 14) := ⟨⟨by decide +kernel, by decide +kernel⟩, List.mem_of_getElem? (i := 18) (by decide +kernel), List.mem_of_getElem? (i := 500) (by decide +kernel), List.mem_of_getElem? (i := 501) (by decide +kernel)⟩
theorem lw_p12 : lw_okq (⟨"EdgeMoves", "makePlan", "(LEdgeMoves$Plan;I)V"⟩, 14) := ⟨⟨by decide +kernel, by decide +kernel⟩, List.mem_of_getElem? (i := 18) (by decide +kernel), List.mem_of_getElem? (i := 504) (by decide +kernel), List.mem_of_getElem? (i := 505) (by decide +kernel)⟩
theorem lw_p13 : lw_okq (⟨"EdgeMoves$Plan", "openAll", "(LEdgeMoves$Handover;)V"⟩, 10) := ⟨⟨by decide +kernel, by decide +kernel⟩, List.mem_of_getElem? (i := 162) (by decide +kernel), List.mem_of_getElem? (i := 512) (by decide +kernel), List.mem_of_getElem? (i := 513) (by decide +kernel)⟩
theorem lw_p14 : lw_okq (⟨"EdgeMoves$Plan", "leastOpen", "(Z)I"⟩, 10) := ⟨⟨by decide +kernel, by decide +kernel⟩, List.mem_of_getElem? (i := 162) (by decide +kernel), List.mem_of_getElem? (i := 520) (by decide +kernel), List.mem_of_getElem? (i := 521) (by decide +kernel)⟩
theorem lw_p15 : lw_okq (⟨"EdgeMoves$Plan", "isWanted", "(I)Z"⟩, 10) := ⟨⟨by decide +kernel, by decide +kernel⟩, List.mem_of_getElem? (i := 162) (by decide +kernel), List.mem_of_getElem? (i := 524) (by decide +kernel), List.mem_of_getElem? (i := 525) (by decide +kernel)⟩
def lw_privs_1 : List (MethodName × Nat) := [(⟨"EdgeMoves", "refuse", "(I)I"⟩, 14), (⟨"EdgeMoves", "isClear", "(I)Z"⟩, 14), (⟨"EdgeMoves$Handover", "involved", "(I)I"⟩, 3), (⟨"EdgeMoves$Reader", "nextByte", "()I"⟩, 4), (⟨"EdgeMoves$Reader", "readBlock", "()Z"⟩, 4), (⟨"EdgeMoves$Reader", "failAt", "(I)Z"⟩, 4), (⟨"EdgeMoves$Reader", "readNumber", "()I"⟩, 4), (⟨"EdgeMoves$Reader", "readEnd", "()Z"⟩, 4), (⟨"EdgeMoves$Reader", "readEdge", "()Z"⟩, 4), (⟨"EdgeMoves$Reader", "readNumberBelow", "(I)I"⟩, 4), (⟨"EdgeMoves$Reader", "readArguments", "(LEdgeMoves$Block;LEdgeMoves$Edge;)Z"⟩, 4), (⟨"EdgeMoves", "refusalFor", "(IZ)I"⟩, 14), (⟨"EdgeMoves", "makePlan", "(LEdgeMoves$Plan;I)V"⟩, 14), (⟨"EdgeMoves$Plan", "openAll", "(LEdgeMoves$Handover;)V"⟩, 10), (⟨"EdgeMoves$Plan", "leastOpen", "(Z)I"⟩, 10), (⟨"EdgeMoves$Plan", "isWanted", "(I)Z"⟩, 10)]
theorem lw_r1 : ∀ q ∈ lw_privs_1, lw_okq q := List.forall_mem_cons.mpr ⟨lw_p0, List.forall_mem_cons.mpr ⟨lw_p1, List.forall_mem_cons.mpr ⟨lw_p2, List.forall_mem_cons.mpr ⟨lw_p3, List.forall_mem_cons.mpr ⟨lw_p4, List.forall_mem_cons.mpr ⟨lw_p5, List.forall_mem_cons.mpr ⟨lw_p6, List.forall_mem_cons.mpr ⟨lw_p7, List.forall_mem_cons.mpr ⟨lw_p8, List.forall_mem_cons.mpr ⟨lw_p9, List.forall_mem_cons.mpr ⟨lw_p10, List.forall_mem_cons.mpr ⟨lw_p11, List.forall_mem_cons.mpr ⟨lw_p12, List.forall_mem_cons.mpr ⟨lw_p13, List.forall_mem_cons.mpr ⟨lw_p14, List.forall_mem_cons.mpr ⟨lw_p15, fun _ h => absurd h List.not_mem_nil⟩⟩⟩⟩⟩⟩⟩⟩⟩⟩⟩⟩⟩⟩⟩⟩
theorem lw_p16 : lw_okq (⟨"EdgeMoves$Plan", "moveTo", "(I)V"⟩, 10) := ⟨⟨by decide +kernel, by decide +kernel⟩, List.mem_of_getElem? (i := 162) (by decide +kernel), List.mem_of_getElem? (i := 528) (by decide +kernel), List.mem_of_getElem? (i := 529) (by decide +kernel)⟩
theorem lw_p17 : lw_okq (⟨"EdgeMoves$Plan", "add", "(III)V"⟩, 10) := ⟨⟨by decide +kernel, by decide +kernel⟩, List.mem_of_getElem? (i := 162) (by decide +kernel), List.mem_of_getElem? (i := 532) (by decide +kernel), List.mem_of_getElem? (i := 533) (by decide +kernel)⟩
theorem lw_p18 : lw_okq (⟨"EdgeMoves$Plan", "close", "(I)V"⟩, 10) := ⟨⟨by decide +kernel, by decide +kernel⟩, List.mem_of_getElem? (i := 162) (by decide +kernel), List.mem_of_getElem? (i := 536) (by decide +kernel), List.mem_of_getElem? (i := 537) (by decide +kernel)⟩
theorem lw_p19 : lw_okq (⟨"EdgeMoves$Plan", "moveWhatLies", "(II)V"⟩, 10) := ⟨⟨by decide +kernel, by decide +kernel⟩, List.mem_of_getElem? (i := 162) (by decide +kernel), List.mem_of_getElem? (i := 540) (by decide +kernel), List.mem_of_getElem? (i := 541) (by decide +kernel)⟩
theorem lw_p20 : lw_okq (⟨"EdgeMoves$Plan", "breakRing", "(I)V"⟩, 10) := ⟨⟨by decide +kernel, by decide +kernel⟩, List.mem_of_getElem? (i := 162) (by decide +kernel), List.mem_of_getElem? (i := 544) (by decide +kernel), List.mem_of_getElem? (i := 545) (by decide +kernel)⟩
theorem lw_p21 : lw_okq (⟨"EdgeMoves$Plan", "ringSize", "(I)I"⟩, 10) := ⟨⟨by decide +kernel, by decide +kernel⟩, List.mem_of_getElem? (i := 162) (by decide +kernel), List.mem_of_getElem? (i := 548) (by decide +kernel), List.mem_of_getElem? (i := 549) (by decide +kernel)⟩
theorem lw_p22 : lw_okq (⟨"EdgeMoves$Plan", "openAt", "(I)I"⟩, 10) := ⟨⟨by decide +kernel, by decide +kernel⟩, List.mem_of_getElem? (i := 162) (by decide +kernel), List.mem_of_getElem? (i := 552) (by decide +kernel), List.mem_of_getElem? (i := 553) (by decide +kernel)⟩
theorem lw_p23 : lw_okq (⟨"EdgeMoves$Plan", "changeRing", "(II)V"⟩, 10) := ⟨⟨by decide +kernel, by decide +kernel⟩, List.mem_of_getElem? (i := 162) (by decide +kernel), List.mem_of_getElem? (i := 566) (by decide +kernel), List.mem_of_getElem? (i := 567) (by decide +kernel)⟩
theorem lw_p24 : lw_okq (⟨"EdgeMoves$Plan", "addSettings", "(LEdgeMoves$Handover;)V"⟩, 10) := ⟨⟨by decide +kernel, by decide +kernel⟩, List.mem_of_getElem? (i := 162) (by decide +kernel), List.mem_of_getElem? (i := 573) (by decide +kernel), List.mem_of_getElem? (i := 574) (by decide +kernel)⟩
theorem lw_p25 : lw_okq (⟨"EdgeMoves$Plan", "leastSetBehind", "(LEdgeMoves$Handover;I)I"⟩, 10) := ⟨⟨by decide +kernel, by decide +kernel⟩, List.mem_of_getElem? (i := 162) (by decide +kernel), List.mem_of_getElem? (i := 577) (by decide +kernel), List.mem_of_getElem? (i := 578) (by decide +kernel)⟩
theorem lw_p26 : lw_okq (⟨"EdgeMoves$Handover", "countInRingsOf", "(I)I"⟩, 3) := ⟨⟨by decide +kernel, by decide +kernel⟩, List.mem_of_getElem? (i := 143) (by decide +kernel), List.mem_of_getElem? (i := 616) (by decide +kernel), List.mem_of_getElem? (i := 617) (by decide +kernel)⟩
theorem lw_p27 : lw_okq (⟨"EdgeMoves$Handover", "ringSize", "(I)I"⟩, 3) := ⟨⟨by decide +kernel, by decide +kernel⟩, List.mem_of_getElem? (i := 143) (by decide +kernel), List.mem_of_getElem? (i := 621) (by decide +kernel), List.mem_of_getElem? (i := 622) (by decide +kernel)⟩
theorem lw_p28 : lw_okq (⟨"EdgeMoves$Handover", "countWanting", "(I)I"⟩, 3) := ⟨⟨by decide +kernel, by decide +kernel⟩, List.mem_of_getElem? (i := 143) (by decide +kernel), List.mem_of_getElem? (i := 625) (by decide +kernel), List.mem_of_getElem? (i := 626) (by decide +kernel)⟩
theorem lw_p29 : lw_okq (⟨"EdgeMoves$Handover", "openAt", "(I)I"⟩, 3) := ⟨⟨by decide +kernel, by decide +kernel⟩, List.mem_of_getElem? (i := 143) (by decide +kernel), List.mem_of_getElem? (i := 629) (by decide +kernel), List.mem_of_getElem? (i := 630) (by decide +kernel)⟩
theorem lw_p30 : lw_okq (⟨"EdgeMoves", "priceBy", "(II)I"⟩, 14) := ⟨⟨by decide +kernel, by decide +kernel⟩, List.mem_of_getElem? (i := 18) (by decide +kernel), List.mem_of_getElem? (i := 648) (by decide +kernel), List.mem_of_getElem? (i := 649) (by decide +kernel)⟩
theorem lw_p31 : lw_okq (⟨"EdgeMoves", "allClearTo", "(I)Z"⟩, 14) := ⟨⟨by decide +kernel, by decide +kernel⟩, List.mem_of_getElem? (i := 18) (by decide +kernel), List.mem_of_getElem? (i := 667) (by decide +kernel), List.mem_of_getElem? (i := 668) (by decide +kernel)⟩
def lw_privs_2 : List (MethodName × Nat) := [(⟨"EdgeMoves$Plan", "moveTo", "(I)V"⟩, 10), (⟨"EdgeMoves$Plan", "add", "(III)V"⟩, 10), (⟨"EdgeMoves$Plan", "close", "(I)V"⟩, 10), (⟨"EdgeMoves$Plan", "moveWhatLies", "(II)V"⟩, 10), (⟨"EdgeMoves$Plan", "breakRing", "(I)V"⟩, 10), (⟨"EdgeMoves$Plan", "ringSize", "(I)I"⟩, 10), (⟨"EdgeMoves$Plan", "openAt", "(I)I"⟩, 10), (⟨"EdgeMoves$Plan", "changeRing", "(II)V"⟩, 10), (⟨"EdgeMoves$Plan", "addSettings", "(LEdgeMoves$Handover;)V"⟩, 10), (⟨"EdgeMoves$Plan", "leastSetBehind", "(LEdgeMoves$Handover;I)I"⟩, 10), (⟨"EdgeMoves$Handover", "countInRingsOf", "(I)I"⟩, 3), (⟨"EdgeMoves$Handover", "ringSize", "(I)I"⟩, 3), (⟨"EdgeMoves$Handover", "countWanting", "(I)I"⟩, 3), (⟨"EdgeMoves$Handover", "openAt", "(I)I"⟩, 3), (⟨"EdgeMoves", "priceBy", "(II)I"⟩, 14), (⟨"EdgeMoves", "allClearTo", "(I)Z"⟩, 14)]
theorem lw_r2 : ∀ q ∈ lw_privs_2, lw_okq q := List.forall_mem_cons.mpr ⟨lw_p16, List.forall_mem_cons.mpr ⟨lw_p17, List.forall_mem_cons.mpr ⟨lw_p18, List.forall_mem_cons.mpr ⟨lw_p19, List.forall_mem_cons.mpr ⟨lw_p20, List.forall_mem_cons.mpr ⟨lw_p21, List.forall_mem_cons.mpr ⟨lw_p22, List.forall_mem_cons.mpr ⟨lw_p23, List.forall_mem_cons.mpr ⟨lw_p24, List.forall_mem_cons.mpr ⟨lw_p25, List.forall_mem_cons.mpr ⟨lw_p26, List.forall_mem_cons.mpr ⟨lw_p27, List.forall_mem_cons.mpr ⟨lw_p28, List.forall_mem_cons.mpr ⟨lw_p29, List.forall_mem_cons.mpr ⟨lw_p30, List.forall_mem_cons.mpr ⟨lw_p31, fun _ h => absurd h List.not_mem_nil⟩⟩⟩⟩⟩⟩⟩⟩⟩⟩⟩⟩⟩⟩⟩⟩
theorem lw_p32 : lw_okq (⟨"EdgeMoves$Plan", "isSame", "(ILEdgeMoves$Plan;I)Z"⟩, 10) := ⟨⟨by decide +kernel, by decide +kernel⟩, List.mem_of_getElem? (i := 162) (by decide +kernel), List.mem_of_getElem? (i := 675) (by decide +kernel), List.mem_of_getElem? (i := 676) (by decide +kernel)⟩
theorem lw_p33 : lw_okq (⟨"EdgeMoves$Memory", "put", "(II)V"⟩, 2) := ⟨⟨by decide +kernel, by decide +kernel⟩, List.mem_of_getElem? (i := 208) (by decide +kernel), List.mem_of_getElem? (i := 708) (by decide +kernel), List.mem_of_getElem? (i := 709) (by decide +kernel)⟩
theorem lw_p34 : lw_okq (⟨"EdgeMoves$Memory", "copy", "([III)V"⟩, 2) := ⟨⟨by decide +kernel, by decide +kernel⟩, List.mem_of_getElem? (i := 208) (by decide +kernel), List.mem_of_getElem? (i := 714) (by decide +kernel), List.mem_of_getElem? (i := 715) (by decide +kernel)⟩
theorem lw_p35 : lw_okq (⟨"EdgeMoves$Memory", "exchange", "(II)V"⟩, 2) := ⟨⟨by decide +kernel, by decide +kernel⟩, List.mem_of_getElem? (i := 208) (by decide +kernel), List.mem_of_getElem? (i := 722) (by decide +kernel), List.mem_of_getElem? (i := 723) (by decide +kernel)⟩
theorem lw_p36 : lw_okq (⟨"EdgeMoves", "shareOfWhole", "(II)I"⟩, 14) := ⟨⟨by decide +kernel, by decide +kernel⟩, List.mem_of_getElem? (i := 18) (by decide +kernel), List.mem_of_getElem? (i := 735) (by decide +kernel), List.mem_of_getElem? (i := 736) (by decide +kernel)⟩
theorem lw_p37 : lw_okq (⟨"EdgeMoves", "weighedPrice", "(I)I"⟩, 14) := ⟨⟨by decide +kernel, by decide +kernel⟩, List.mem_of_getElem? (i := 18) (by decide +kernel), List.mem_of_getElem? (i := 743) (by decide +kernel), List.mem_of_getElem? (i := 744) (by decide +kernel)⟩
theorem lw_p38 : lw_okq (⟨"EdgeMoves", "goOneFurther", "(I)V"⟩, 14) := ⟨⟨by decide +kernel, by decide +kernel⟩, List.mem_of_getElem? (i := 18) (by decide +kernel), List.mem_of_getElem? (i := 754) (by decide +kernel), List.mem_of_getElem? (i := 755) (by decide +kernel)⟩
theorem lw_p39 : lw_okq (⟨"EdgeMoves", "drawBlock", "(I)V"⟩, 14) := ⟨⟨by decide +kernel, by decide +kernel⟩, List.mem_of_getElem? (i := 18) (by decide +kernel), List.mem_of_getElem? (i := 763) (by decide +kernel), List.mem_of_getElem? (i := 764) (by decide +kernel)⟩
theorem lw_p40 : lw_okq (⟨"EdgeMoves", "drawEdge", "()V"⟩, 14) := ⟨⟨by decide +kernel, by decide +kernel⟩, List.mem_of_getElem? (i := 18) (by decide +kernel), List.mem_of_getElem? (i := 768) (by decide +kernel), List.mem_of_getElem? (i := 769) (by decide +kernel)⟩
theorem lw_p41 : lw_okq (⟨"EdgeMoves", "standing", "(I)I"⟩, 14) := ⟨⟨by decide +kernel, by decide +kernel⟩, List.mem_of_getElem? (i := 18) (by decide +kernel), List.mem_of_getElem? (i := 780) (by decide +kernel), List.mem_of_getElem? (i := 781) (by decide +kernel)⟩
theorem lw_p42 : lw_okq (⟨"EdgeMovesModel", "full", "()I"⟩, 28) := ⟨⟨by decide +kernel, by decide +kernel⟩, List.mem_of_getElem? (i := 800) (by decide +kernel), List.mem_of_getElem? (i := 899) (by decide +kernel), List.mem_of_getElem? (i := 900) (by decide +kernel)⟩
theorem lw_p43 : lw_okq (⟨"EdgeMovesModel", "newBlock", "()I"⟩, 28) := ⟨⟨by decide +kernel, by decide +kernel⟩, List.mem_of_getElem? (i := 800) (by decide +kernel), List.mem_of_getElem? (i := 903) (by decide +kernel), List.mem_of_getElem? (i := 904) (by decide +kernel)⟩
theorem lw_p44 : lw_okq (⟨"EdgeMovesModel", "isBlock", "(I)Z"⟩, 28) := ⟨⟨by decide +kernel, by decide +kernel⟩, List.mem_of_getElem? (i := 800) (by decide +kernel), List.mem_of_getElem? (i := 911) (by decide +kernel), List.mem_of_getElem? (i := 912) (by decide +kernel)⟩
theorem lw_p45 : lw_okq (⟨"EdgeMovesModel", "bad", "()I"⟩, 28) := ⟨⟨by decide +kernel, by decide +kernel⟩, List.mem_of_getElem? (i := 800) (by decide +kernel), List.mem_of_getElem? (i := 930) (by decide +kernel), List.mem_of_getElem? (i := 931) (by decide +kernel)⟩
theorem lw_p46 : lw_okq (⟨"EdgeMovesModel", "isTaken", "(II)Z"⟩, 28) := ⟨⟨by decide +kernel, by decide +kernel⟩, List.mem_of_getElem? (i := 800) (by decide +kernel), List.mem_of_getElem? (i := 934) (by decide +kernel), List.mem_of_getElem? (i := 935) (by decide +kernel)⟩
theorem lw_p47 : lw_okq (⟨"EdgeMovesModel", "no", "()I"⟩, 28) := ⟨⟨by decide +kernel, by decide +kernel⟩, List.mem_of_getElem? (i := 800) (by decide +kernel), List.mem_of_getElem? (i := 941) (by decide +kernel), List.mem_of_getElem? (i := 942) (by decide +kernel)⟩
def lw_privs_3 : List (MethodName × Nat) := [(⟨"EdgeMoves$Plan", "isSame", "(ILEdgeMoves$Plan;I)Z"⟩, 10), (⟨"EdgeMoves$Memory", "put", "(II)V"⟩, 2), (⟨"EdgeMoves$Memory", "copy", "([III)V"⟩, 2), (⟨"EdgeMoves$Memory", "exchange", "(II)V"⟩, 2), (⟨"EdgeMoves", "shareOfWhole", "(II)I"⟩, 14), (⟨"EdgeMoves", "weighedPrice", "(I)I"⟩, 14), (⟨"EdgeMoves", "goOneFurther", "(I)V"⟩, 14), (⟨"EdgeMoves", "drawBlock", "(I)V"⟩, 14), (⟨"EdgeMoves", "drawEdge", "()V"⟩, 14), (⟨"EdgeMoves", "standing", "(I)I"⟩, 14), (⟨"EdgeMovesModel", "full", "()I"⟩, 28), (⟨"EdgeMovesModel", "newBlock", "()I"⟩, 28), (⟨"EdgeMovesModel", "isBlock", "(I)Z"⟩, 28), (⟨"EdgeMovesModel", "bad", "()I"⟩, 28), (⟨"EdgeMovesModel", "isTaken", "(II)Z"⟩, 28), (⟨"EdgeMovesModel", "no", "()I"⟩, 28)]
theorem lw_r3 : ∀ q ∈ lw_privs_3, lw_okq q := List.forall_mem_cons.mpr ⟨lw_p32, List.forall_mem_cons.mpr ⟨lw_p33, List.forall_mem_cons.mpr ⟨lw_p34, List.forall_mem_cons.mpr ⟨lw_p35, List.forall_mem_cons.mpr ⟨lw_p36, List.forall_mem_cons.mpr ⟨lw_p37, List.forall_mem_cons.mpr ⟨lw_p38, List.forall_mem_cons.mpr ⟨lw_p39, List.forall_mem_cons.mpr ⟨lw_p40, List.forall_mem_cons.mpr ⟨lw_p41, List.forall_mem_cons.mpr ⟨lw_p42, List.forall_mem_cons.mpr ⟨lw_p43, List.forall_mem_cons.mpr ⟨lw_p44, List.forall_mem_cons.mpr ⟨lw_p45, List.forall_mem_cons.mpr ⟨lw_p46, List.forall_mem_cons.mpr ⟨lw_p47, fun _ h => absurd h List.not_mem_nil⟩⟩⟩⟩⟩⟩⟩⟩⟩⟩⟩⟩⟩⟩⟩⟩
theorem lw_p48 : lw_okq (⟨"EdgeMovesModel", "newParameter", "(II)I"⟩, 28) := ⟨⟨by decide +kernel, by decide +kernel⟩, List.mem_of_getElem? (i := 800) (by decide +kernel), List.mem_of_getElem? (i := 945) (by decide +kernel), List.mem_of_getElem? (i := 946) (by decide +kernel)⟩
theorem lw_p49 : lw_okq (⟨"EdgeMovesModel", "newEdge", "(III)I"⟩, 28) := ⟨⟨by decide +kernel, by decide +kernel⟩, List.mem_of_getElem? (i := 800) (by decide +kernel), List.mem_of_getElem? (i := 953) (by decide +kernel), List.mem_of_getElem? (i := 954) (by decide +kernel)⟩
theorem lw_p50 : lw_okq (⟨"EdgeMovesModel", "isEdge", "(I)Z"⟩, 28) := ⟨⟨by decide +kernel, by decide +kernel⟩, List.mem_of_getElem? (i := 800) (by decide +kernel), List.mem_of_getElem? (i := 961) (by decide +kernel), List.mem_of_getElem? (i := 962) (by decide +kernel)⟩
theorem lw_p51 : lw_okq (⟨"EdgeMovesModel", "manyOf", "(I)I"⟩, 28) := ⟨⟨by decide +kernel, by decide +kernel⟩, List.mem_of_getElem? (i := 800) (by decide +kernel), List.mem_of_getElem? (i := 965) (by decide +kernel), List.mem_of_getElem? (i := 966) (by decide +kernel)⟩
theorem lw_p52 : lw_okq (⟨"EdgeMovesModel", "mayBeGiven", "(III)Z"⟩, 28) := ⟨⟨by decide +kernel, by decide +kernel⟩, List.mem_of_getElem? (i := 800) (by decide +kernel), List.mem_of_getElem? (i := 969) (by decide +kernel), List.mem_of_getElem? (i := 970) (by decide +kernel)⟩
theorem lw_p53 : lw_okq (⟨"EdgeMovesModel", "parameterOf", "(II)I"⟩, 28) := ⟨⟨by decide +kernel, by decide +kernel⟩, List.mem_of_getElem? (i := 800) (by decide +kernel), List.mem_of_getElem? (i := 973) (by decide +kernel), List.mem_of_getElem? (i := 974) (by decide +kernel)⟩
theorem lw_p54 : lw_okq (⟨"EdgeMovesModel", "givenOf", "(II)I"⟩, 28) := ⟨⟨by decide +kernel, by decide +kernel⟩, List.mem_of_getElem? (i := 800) (by decide +kernel), List.mem_of_getElem? (i := 977) (by decide +kernel), List.mem_of_getElem? (i := 978) (by decide +kernel)⟩
theorem lw_p55 : lw_okq (⟨"EdgeMovesModel", "isClear", "(I)Z"⟩, 28) := ⟨⟨by decide +kernel, by decide +kernel⟩, List.mem_of_getElem? (i := 800) (by decide +kernel), List.mem_of_getElem? (i := 993) (by decide +kernel), List.mem_of_getElem? (i := 994) (by decide +kernel)⟩
theorem lw_p56 : lw_okq (⟨"EdgeMovesModel", "moves", "(II)Z"⟩, 28) := ⟨⟨by decide +kernel, by decide +kernel⟩, List.mem_of_getElem? (i := 800) (by decide +kernel), List.mem_of_getElem? (i := 997) (by decide +kernel), List.mem_of_getElem? (i := 998) (by decide +kernel)⟩
theorem lw_p57 : lw_okq (⟨"EdgeMovesModel", "isAcross", "(II)Z"⟩, 28) := ⟨⟨by decide +kernel, by decide +kernel⟩, List.mem_of_getElem? (i := 800) (by decide +kernel), List.mem_of_getElem? (i := 1001) (by decide +kernel), List.mem_of_getElem? (i := 1002) (by decide +kernel)⟩
theorem lw_p58 : lw_okq (⟨"EdgeMovesModel", "whereOf", "(I)I"⟩, 28) := ⟨⟨by decide +kernel, by decide +kernel⟩, List.mem_of_getElem? (i := 800) (by decide +kernel), List.mem_of_getElem? (i := 1008) (by decide +kernel), List.mem_of_getElem? (i := 1009) (by decide +kernel)⟩
theorem lw_p59 : lw_okq (⟨"EdgeMovesModel", "edgesFrom", "(I)I"⟩, 28) := ⟨⟨by decide +kernel, by decide +kernel⟩, List.mem_of_getElem? (i := 800) (by decide +kernel), List.mem_of_getElem? (i := 1012) (by decide +kernel), List.mem_of_getElem? (i := 1013) (by decide +kernel)⟩
theorem lw_p60 : lw_okq (⟨"EdgeMovesModel", "edgesTo", "(I)I"⟩, 28) := ⟨⟨by decide +kernel, by decide +kernel⟩, List.mem_of_getElem? (i := 800) (by decide +kernel), List.mem_of_getElem? (i := 1016) (by decide +kernel), List.mem_of_getElem? (i := 1017) (by decide +kernel)⟩
theorem lw_p61 : lw_okq (⟨"EdgeMovesModel", "setSteps", "(II)V"⟩, 28) := ⟨⟨by decide +kernel, by decide +kernel⟩, List.mem_of_getElem? (i := 800) (by decide +kernel), List.mem_of_getElem? (i := 1036) (by decide +kernel), List.mem_of_getElem? (i := 1037) (by decide +kernel)⟩
theorem lw_p62 : lw_okq (⟨"EdgeMovesModel", "setOpen", "(I)V"⟩, 28) := ⟨⟨by decide +kernel, by decide +kernel⟩, List.mem_of_getElem? (i := 800) (by decide +kernel), List.mem_of_getElem? (i := 1040) (by decide +kernel), List.mem_of_getElem? (i := 1041) (by decide +kernel)⟩
theorem lw_p63 : lw_okq (⟨"EdgeMovesModel", "openMany", "(I)I"⟩, 28) := ⟨⟨by decide +kernel, by decide +kernel⟩, List.mem_of_getElem? (i := 800) (by decide +kernel), List.mem_of_getElem? (i := 1044) (by decide +kernel), List.mem_of_getElem? (i := 1045) (by decide +kernel)⟩
def lw_privs_4 : List (MethodName × Nat) := [(⟨"EdgeMovesModel", "newParameter", "(II)I"⟩, 28), (⟨"EdgeMovesModel", "newEdge", "(III)I"⟩, 28), (⟨"EdgeMovesModel", "isEdge", "(I)Z"⟩, 28), (⟨"EdgeMovesModel", "manyOf", "(I)I"⟩, 28), (⟨"EdgeMovesModel", "mayBeGiven", "(III)Z"⟩, 28), (⟨"EdgeMovesModel", "parameterOf", "(II)I"⟩, 28), (⟨"EdgeMovesModel", "givenOf", "(II)I"⟩, 28), (⟨"EdgeMovesModel", "isClear", "(I)Z"⟩, 28), (⟨"EdgeMovesModel", "moves", "(II)Z"⟩, 28), (⟨"EdgeMovesModel", "isAcross", "(II)Z"⟩, 28), (⟨"EdgeMovesModel", "whereOf", "(I)I"⟩, 28), (⟨"EdgeMovesModel", "edgesFrom", "(I)I"⟩, 28), (⟨"EdgeMovesModel", "edgesTo", "(I)I"⟩, 28), (⟨"EdgeMovesModel", "setSteps", "(II)V"⟩, 28), (⟨"EdgeMovesModel", "setOpen", "(I)V"⟩, 28), (⟨"EdgeMovesModel", "openMany", "(I)I"⟩, 28)]
theorem lw_r4 : ∀ q ∈ lw_privs_4, lw_okq q := List.forall_mem_cons.mpr ⟨lw_p48, List.forall_mem_cons.mpr ⟨lw_p49, List.forall_mem_cons.mpr ⟨lw_p50, List.forall_mem_cons.mpr ⟨lw_p51, List.forall_mem_cons.mpr ⟨lw_p52, List.forall_mem_cons.mpr ⟨lw_p53, List.forall_mem_cons.mpr ⟨lw_p54, List.forall_mem_cons.mpr ⟨lw_p55, List.forall_mem_cons.mpr ⟨lw_p56, List.forall_mem_cons.mpr ⟨lw_p57, List.forall_mem_cons.mpr ⟨lw_p58, List.forall_mem_cons.mpr ⟨lw_p59, List.forall_mem_cons.mpr ⟨lw_p60, List.forall_mem_cons.mpr ⟨lw_p61, List.forall_mem_cons.mpr ⟨lw_p62, List.forall_mem_cons.mpr ⟨lw_p63, fun _ h => absurd h List.not_mem_nil⟩⟩⟩⟩⟩⟩⟩⟩⟩⟩⟩⟩⟩⟩⟩⟩
theorem lw_p64 : lw_okq (⟨"EdgeMovesModel", "leastOpen", "(IZ)I"⟩, 28) := ⟨⟨by decide +kernel, by decide +kernel⟩, List.mem_of_getElem? (i := 800) (by decide +kernel), List.mem_of_getElem? (i := 1048) (by decide +kernel), List.mem_of_getElem? (i := 1049) (by decide +kernel)⟩
theorem lw_p65 : lw_okq (⟨"EdgeMovesModel", "isWanted", "(II)Z"⟩, 28) := ⟨⟨by decide +kernel, by decide +kernel⟩, List.mem_of_getElem? (i := 800) (by decide +kernel), List.mem_of_getElem? (i := 1052) (by decide +kernel), List.mem_of_getElem? (i := 1053) (by decide +kernel)⟩
theorem lw_p66 : lw_okq (⟨"EdgeMovesModel", "breaks", "(III)V"⟩, 28) := ⟨⟨by decide +kernel, by decide +kernel⟩, List.mem_of_getElem? (i := 800) (by decide +kernel), List.mem_of_getElem? (i := 1056) (by decide +kernel), List.mem_of_getElem? (i := 1057) (by decide +kernel)⟩
theorem lw_p67 : lw_okq (⟨"EdgeMovesModel", "whoHas", "(II)I"⟩, 28) := ⟨⟨by decide +kernel, by decide +kernel⟩, List.mem_of_getElem? (i := 800) (by decide +kernel), List.mem_of_getElem? (i := 1060) (by decide +kernel), List.mem_of_getElem? (i := 1061) (by decide +kernel)⟩
theorem lw_p68 : lw_okq (⟨"EdgeMovesModel", "comes", "(III)V"⟩, 28) := ⟨⟨by decide +kernel, by decide +kernel⟩, List.mem_of_getElem? (i := 800) (by decide +kernel), List.mem_of_getElem? (i := 1070) (by decide +kernel), List.mem_of_getElem? (i := 1071) (by decide +kernel)⟩
theorem lw_p69 : lw_okq (⟨"EdgeMovesModel", "lies", "(III)V"⟩, 28) := ⟨⟨by decide +kernel, by decide +kernel⟩, List.mem_of_getElem? (i := 800) (by decide +kernel), List.mem_of_getElem? (i := 1074) (by decide +kernel), List.mem_of_getElem? (i := 1075) (by decide +kernel)⟩
theorem lw_p70 : lw_okq (⟨"EdgeMovesModel", "movesTo", "(II)V"⟩, 28) := ⟨⟨by decide +kernel, by decide +kernel⟩, List.mem_of_getElem? (i := 800) (by decide +kernel), List.mem_of_getElem? (i := 1078) (by decide +kernel), List.mem_of_getElem? (i := 1079) (by decide +kernel)⟩
theorem lw_p71 : lw_okq (⟨"EdgeMovesModel", "counted", "(I)I"⟩, 28) := ⟨⟨by decide +kernel, by decide +kernel⟩, List.mem_of_getElem? (i := 800) (by decide +kernel), List.mem_of_getElem? (i := 1082) (by decide +kernel), List.mem_of_getElem? (i := 1083) (by decide +kernel)⟩
theorem lw_p72 : lw_okq (⟨"EdgeMovesModel", "costBy", "(II)I"⟩, 28) := ⟨⟨by decide +kernel, by decide +kernel⟩, List.mem_of_getElem? (i := 800) (by decide +kernel), List.mem_of_getElem? (i := 1094) (by decide +kernel), List.mem_of_getElem? (i := 1095) (by decide +kernel)⟩
theorem lw_p73 : lw_okq (⟨"EdgeMovesModel", "ringOf", "(II)I"⟩, 28) := ⟨⟨by decide +kernel, by decide +kernel⟩, List.mem_of_getElem? (i := 800) (by decide +kernel), List.mem_of_getElem? (i := 1102) (by decide +kernel), List.mem_of_getElem? (i := 1103) (by decide +kernel)⟩
theorem lw_p74 : lw_okq (⟨"EdgeMovesModel", "wantedTimes", "(II)I"⟩, 28) := ⟨⟨by decide +kernel, by decide +kernel⟩, List.mem_of_getElem? (i := 800) (by decide +kernel), List.mem_of_getElem? (i := 1106) (by decide +kernel), List.mem_of_getElem? (i := 1107) (by decide +kernel)⟩
theorem lw_p75 : lw_okq (⟨"EdgeMovesModel", "asOther", "()V"⟩, 28) := ⟨⟨by decide +kernel, by decide +kernel⟩, List.mem_of_getElem? (i := 800) (by decide +kernel), List.mem_of_getElem? (i := 1123) (by decide +kernel), List.mem_of_getElem? (i := 1124) (by decide +kernel)⟩
theorem lw_p76 : lw_okq (⟨"EdgeMovesModel", "sameBack", "()I"⟩, 28) := ⟨⟨by decide +kernel, by decide +kernel⟩, List.mem_of_getElem? (i := 800) (by decide +kernel), List.mem_of_getElem? (i := 1127) (by decide +kernel), List.mem_of_getElem? (i := 1128) (by decide +kernel)⟩
theorem lw_p77 : lw_okq (⟨"EdgeMovesModel", "handsOver", "(I)V"⟩, 28) := ⟨⟨by decide +kernel, by decide +kernel⟩, List.mem_of_getElem? (i := 800) (by decide +kernel), List.mem_of_getElem? (i := 1144) (by decide +kernel), List.mem_of_getElem? (i := 1145) (by decide +kernel)⟩
theorem lw_p78 : lw_okq (⟨"EdgeMovesModel", "puts", "(II)V"⟩, 28) := ⟨⟨by decide +kernel, by decide +kernel⟩, List.mem_of_getElem? (i := 800) (by decide +kernel), List.mem_of_getElem? (i := 1148) (by decide +kernel), List.mem_of_getElem? (i := 1149) (by decide +kernel)⟩
theorem lw_p79 : lw_okq (⟨"EdgeMovesModel", "stepsOn", "(I)V"⟩, 28) := ⟨⟨by decide +kernel, by decide +kernel⟩, List.mem_of_getElem? (i := 800) (by decide +kernel), List.mem_of_getElem? (i := 1152) (by decide +kernel), List.mem_of_getElem? (i := 1153) (by decide +kernel)⟩
def lw_privs_5 : List (MethodName × Nat) := [(⟨"EdgeMovesModel", "leastOpen", "(IZ)I"⟩, 28), (⟨"EdgeMovesModel", "isWanted", "(II)Z"⟩, 28), (⟨"EdgeMovesModel", "breaks", "(III)V"⟩, 28), (⟨"EdgeMovesModel", "whoHas", "(II)I"⟩, 28), (⟨"EdgeMovesModel", "comes", "(III)V"⟩, 28), (⟨"EdgeMovesModel", "lies", "(III)V"⟩, 28), (⟨"EdgeMovesModel", "movesTo", "(II)V"⟩, 28), (⟨"EdgeMovesModel", "counted", "(I)I"⟩, 28), (⟨"EdgeMovesModel", "costBy", "(II)I"⟩, 28), (⟨"EdgeMovesModel", "ringOf", "(II)I"⟩, 28), (⟨"EdgeMovesModel", "wantedTimes", "(II)I"⟩, 28), (⟨"EdgeMovesModel", "asOther", "()V"⟩, 28), (⟨"EdgeMovesModel", "sameBack", "()I"⟩, 28), (⟨"EdgeMovesModel", "handsOver", "(I)V"⟩, 28), (⟨"EdgeMovesModel", "puts", "(II)V"⟩, 28), (⟨"EdgeMovesModel", "stepsOn", "(I)V"⟩, 28)]
theorem lw_r5 : ∀ q ∈ lw_privs_5, lw_okq q := List.forall_mem_cons.mpr ⟨lw_p64, List.forall_mem_cons.mpr ⟨lw_p65, List.forall_mem_cons.mpr ⟨lw_p66, List.forall_mem_cons.mpr ⟨lw_p67, List.forall_mem_cons.mpr ⟨lw_p68, List.forall_mem_cons.mpr ⟨lw_p69, List.forall_mem_cons.mpr ⟨lw_p70, List.forall_mem_cons.mpr ⟨lw_p71, List.forall_mem_cons.mpr ⟨lw_p72, List.forall_mem_cons.mpr ⟨lw_p73, List.forall_mem_cons.mpr ⟨lw_p74, List.forall_mem_cons.mpr ⟨lw_p75, List.forall_mem_cons.mpr ⟨lw_p76, List.forall_mem_cons.mpr ⟨lw_p77, List.forall_mem_cons.mpr ⟨lw_p78, List.forall_mem_cons.mpr ⟨lw_p79, fun _ h => absurd h List.not_mem_nil⟩⟩⟩⟩⟩⟩⟩⟩⟩⟩⟩⟩⟩⟩⟩⟩
theorem lw_p80 : lw_okq (⟨"EdgeMovesModel", "tells", "(I)I"⟩, 28) := ⟨⟨by decide +kernel, by decide +kernel⟩, List.mem_of_getElem? (i := 800) (by decide +kernel), List.mem_of_getElem? (i := 1184) (by decide +kernel), List.mem_of_getElem? (i := 1185) (by decide +kernel)⟩
theorem lw_p81 : lw_okq (⟨"EdgeMovesModel", "lays", "()V"⟩, 28) := ⟨⟨by decide +kernel, by decide +kernel⟩, List.mem_of_getElem? (i := 800) (by decide +kernel), List.mem_of_getElem? (i := 1205) (by decide +kernel), List.mem_of_getElem? (i := 1206) (by decide +kernel)⟩
theorem lw_p82 : lw_okq (⟨"EdgeMovesModel", "readsAll", "()I"⟩, 28) := ⟨⟨by decide +kernel, by decide +kernel⟩, List.mem_of_getElem? (i := 800) (by decide +kernel), List.mem_of_getElem? (i := 1209) (by decide +kernel), List.mem_of_getElem? (i := 1210) (by decide +kernel)⟩
theorem lw_p83 : lw_okq (⟨"EdgeMovesModel", "skip", "()V"⟩, 28) := ⟨⟨by decide +kernel, by decide +kernel⟩, List.mem_of_getElem? (i := 800) (by decide +kernel), List.mem_of_getElem? (i := 1213) (by decide +kernel), List.mem_of_getElem? (i := 1214) (by decide +kernel)⟩
theorem lw_p84 : lw_okq (⟨"EdgeMovesModel", "here", "()I"⟩, 28) := ⟨⟨by decide +kernel, by decide +kernel⟩, List.mem_of_getElem? (i := 800) (by decide +kernel), List.mem_of_getElem? (i := 1217) (by decide +kernel), List.mem_of_getElem? (i := 1218) (by decide +kernel)⟩
theorem lw_p85 : lw_okq (⟨"EdgeMovesModel", "readsBlock", "()Z"⟩, 28) := ⟨⟨by decide +kernel, by decide +kernel⟩, List.mem_of_getElem? (i := 800) (by decide +kernel), List.mem_of_getElem? (i := 1221) (by decide +kernel), List.mem_of_getElem? (i := 1222) (by decide +kernel)⟩
theorem lw_p86 : lw_okq (⟨"EdgeMovesModel", "number", "(II)Z"⟩, 28) := ⟨⟨by decide +kernel, by decide +kernel⟩, List.mem_of_getElem? (i := 800) (by decide +kernel), List.mem_of_getElem? (i := 1228) (by decide +kernel), List.mem_of_getElem? (i := 1229) (by decide +kernel)⟩
theorem lw_p87 : lw_okq (⟨"EdgeMovesModel", "figures", "(I)I"⟩, 28) := ⟨⟨by decide +kernel, by decide +kernel⟩, List.mem_of_getElem? (i := 800) (by decide +kernel), List.mem_of_getElem? (i := 1232) (by decide +kernel), List.mem_of_getElem? (i := 1233) (by decide +kernel)⟩
theorem lw_p88 : lw_okq (⟨"EdgeMovesModel", "ends", "()Z"⟩, 28) := ⟨⟨by decide +kernel, by decide +kernel⟩, List.mem_of_getElem? (i := 800) (by decide +kernel), List.mem_of_getElem? (i := 1236) (by decide +kernel), List.mem_of_getElem? (i := 1237) (by decide +kernel)⟩
theorem lw_p89 : lw_okq (⟨"EdgeMovesModel", "readsEdge", "()Z"⟩, 28) := ⟨⟨by decide +kernel, by decide +kernel⟩, List.mem_of_getElem? (i := 800) (by decide +kernel), List.mem_of_getElem? (i := 1240) (by decide +kernel), List.mem_of_getElem? (i := 1241) (by decide +kernel)⟩
theorem lw_p90 : lw_okq (⟨"EdgeMovesModel", "readsGiven", "(II)Z"⟩, 28) := ⟨⟨by decide +kernel, by decide +kernel⟩, List.mem_of_getElem? (i := 800) (by decide +kernel), List.mem_of_getElem? (i := 1244) (by decide +kernel), List.mem_of_getElem? (i := 1245) (by decide +kernel)⟩
theorem lw_p91 : lw_okq (⟨"EdgeMovesModel", "readsConstant", "()I"⟩, 28) := ⟨⟨by decide +kernel, by decide +kernel⟩, List.mem_of_getElem? (i := 800) (by decide +kernel), List.mem_of_getElem? (i := 1248) (by decide +kernel), List.mem_of_getElem? (i := 1249) (by decide +kernel)⟩
theorem lw_p92 : lw_okq (⟨"EdgeMovesModel", "takes", "()V"⟩, 28) := ⟨⟨by decide +kernel, by decide +kernel⟩, List.mem_of_getElem? (i := 800) (by decide +kernel), List.mem_of_getElem? (i := 1252) (by decide +kernel), List.mem_of_getElem? (i := 1253) (by decide +kernel)⟩
def lw_privs_6 : List (MethodName × Nat) := [(⟨"EdgeMovesModel", "tells", "(I)I"⟩, 28), (⟨"EdgeMovesModel", "lays", "()V"⟩, 28), (⟨"EdgeMovesModel", "readsAll", "()I"⟩, 28), (⟨"EdgeMovesModel", "skip", "()V"⟩, 28), (⟨"EdgeMovesModel", "here", "()I"⟩, 28), (⟨"EdgeMovesModel", "readsBlock", "()Z"⟩, 28), (⟨"EdgeMovesModel", "number", "(II)Z"⟩, 28), (⟨"EdgeMovesModel", "figures", "(I)I"⟩, 28), (⟨"EdgeMovesModel", "ends", "()Z"⟩, 28), (⟨"EdgeMovesModel", "readsEdge", "()Z"⟩, 28), (⟨"EdgeMovesModel", "readsGiven", "(II)Z"⟩, 28), (⟨"EdgeMovesModel", "readsConstant", "()I"⟩, 28), (⟨"EdgeMovesModel", "takes", "()V"⟩, 28)]
theorem lw_r6 : ∀ q ∈ lw_privs_6, lw_okq q := List.forall_mem_cons.mpr ⟨lw_p80, List.forall_mem_cons.mpr ⟨lw_p81, List.forall_mem_cons.mpr ⟨lw_p82, List.forall_mem_cons.mpr ⟨lw_p83, List.forall_mem_cons.mpr ⟨lw_p84, List.forall_mem_cons.mpr ⟨lw_p85, List.forall_mem_cons.mpr ⟨lw_p86, List.forall_mem_cons.mpr ⟨lw_p87, List.forall_mem_cons.mpr ⟨lw_p88, List.forall_mem_cons.mpr ⟨lw_p89, List.forall_mem_cons.mpr ⟨lw_p90, List.forall_mem_cons.mpr ⟨lw_p91, List.forall_mem_cons.mpr ⟨lw_p92, fun _ h => absurd h List.not_mem_nil⟩⟩⟩⟩⟩⟩⟩⟩⟩⟩⟩⟩⟩
def lw_privs : List (MethodName × Nat) := lw_privs_1 ++ (lw_privs_2 ++ (lw_privs_3 ++ (lw_privs_4 ++ (lw_privs_5 ++ (lw_privs_6)))))
def lw_tbl : List Cond := k2_sels lw_privs ++ tables_1
theorem lw_privs_ok : ∀ q ∈ lw_privs, lw_okq q := by
  show ∀ q ∈ lw_privs_1 ++ (lw_privs_2 ++ (lw_privs_3 ++ (lw_privs_4 ++ (lw_privs_5 ++ (lw_privs_6))))), lw_okq q
  exact List.forall_mem_append.mpr ⟨lw_r1, List.forall_mem_append.mpr ⟨lw_r2, List.forall_mem_append.mpr ⟨lw_r3, List.forall_mem_append.mpr ⟨lw_r4, List.forall_mem_append.mpr ⟨lw_r5, lw_r6⟩⟩⟩⟩⟩
-- ===== end of PART A; then your names; then what follows =====
end
section
/-! ===== BEGIN words of one list among another's, by their places ===== -/
theorem goodIn_r {big : List Cond} (ws : List Cond) (ps : List Nat) (hp : ws = ps.filterMap (fun i => big[i]?)) (h : ws.all goodWord = true) : GoodIn big ws := by
  intro w hw
  have h1 := List.all_eq_true.mp h w hw
  rw [hp] at hw
  obtain ⟨i, -, hi⟩ := List.mem_filterMap.mp hw
  have hm : w ∈ big := by first | exact List.mem_of_getElem? hi | exact List.getElem?_mem hi
  exact ⟨hm, good_of_word h1⟩
theorem goodIn_app {big a b : List Cond} (ha : GoodIn big a) (hb : GoodIn big b) : GoodIn big (a ++ b) := fun w h => (List.mem_append.mp h).elim (ha w) (hb w)
theorem goodIn_ca {big a b : List Cond} {c : Cond} (ha : GoodIn big (c :: a)) (hb : GoodIn big b) : GoodIn big (c :: (a ++ b)) := fun w h => (List.mem_cons.mp h).elim (fun e => ha w (List.mem_cons.mpr (Or.inl e))) (fun h => (List.mem_append.mp h).elim (fun h => ha w (List.mem_cons.mpr (Or.inr h))) (hb w))
theorem goodIn_sub {big ws : List Cond} (hm : ∀ w ∈ ws, w ∈ big) (h : ws.all goodWord = true) : GoodIn big ws := fun w hw => ⟨hm w hw, good_of_word (List.all_eq_true.mp h w hw)⟩
/-! ===== END ===== -/

/-! ===== BEGIN printed: names, fields, word lists, decode rows ===== -/
def RX0 : String := "EdgeMoves$Block"
def TX0 : u_T := fun k => match k with
  | 0 => ("EdgeMoves$Block", "parameters", "[I", true)
  | _ => ("EdgeMoves$Block", "count", "I", false)
def tyX0 : Nat → FieldType := fun k => match k with
  | 0 => .array .int
  | _ => .int
abbrev wsX00 : List Cond := u_ws RX0 TX0 2
theorem nmX0 : ∀ a, a < 2 → ∀ b, b < 2 → a ≠ b → (TX0 a).2.1 ≠ (TX0 b).2.1 := by decide +kernel
theorem tyX0_ok : ∀ k, k < 2 → parseFieldDescriptor (TX0 k).2.2.1 = some (tyX0 k) := by decide +kernel
abbrev cX0_init : ByteArray := prog_2_method_1_code
def yX0_init : MethodName := ⟨RX0, "<init>", "()V"⟩
abbrev cX0_hasRoomAt : ByteArray := prog_2_method_2_code
def yX0_hasRoomAt : MethodName := ⟨RX0, "hasRoomAt", "(I)Z"⟩
abbrev cX0_mix : ByteArray := prog_2_method_3_code
def yX0_mix : MethodName := ⟨RX0, "mix", "(J)J"⟩
def RX1 : String := "EdgeMoves$Dice"
def TX1 : u_T := fun k => match k with
  | _ => ("EdgeMoves$Dice", "x", "J", false)
def tyX1 : Nat → FieldType := fun k => match k with
  | _ => .long
abbrev wsX10 : List Cond := u_ws RX1 TX1 1
theorem nmX1 : ∀ a, a < 1 → ∀ b, b < 1 → a ≠ b → (TX1 a).2.1 ≠ (TX1 b).2.1 := by decide +kernel
theorem tyX1_ok : ∀ k, k < 1 → parseFieldDescriptor (TX1 k).2.2.1 = some (tyX1 k) := by decide +kernel
abbrev cX1_init : ByteArray := prog_3_method_1_code
def yX1_init : MethodName := ⟨RX1, "<init>", "()V"⟩
abbrev cX1_start : ByteArray := prog_3_method_2_code
def yX1_start : MethodName := ⟨RX1, "start", "(I)V"⟩
abbrev cX1_nextBelow : ByteArray := prog_3_method_3_code
def yX1_nextBelow : MethodName := ⟨RX1, "nextBelow", "(I)I"⟩
def RX2 : String := "EdgeMoves$Edge"
def TX2 : u_T := fun k => match k with
  | 0 => ("EdgeMoves$Edge", "arguments", "[I", true)
  | 1 => ("EdgeMoves$Edge", "from", "I", false)
  | 2 => ("EdgeMoves$Edge", "to", "I", false)
  | _ => ("EdgeMoves$Edge", "load", "I", false)
def tyX2 : Nat → FieldType := fun k => match k with
  | 0 => .array .int
  | 1 => .int
  | 2 => .int
  | _ => .int
abbrev wsX20 : List Cond := u_ws RX2 TX2 4
theorem nmX2 : ∀ a, a < 4 → ∀ b, b < 4 → a ≠ b → (TX2 a).2.1 ≠ (TX2 b).2.1 := by decide +kernel
theorem tyX2_ok : ∀ k, k < 4 → parseFieldDescriptor (TX2 k).2.2.1 = some (tyX2 k) := by decide +kernel
abbrev cX2_init : ByteArray := prog_4_method_1_code
def yX2_init : MethodName := ⟨RX2, "<init>", "()V"⟩
abbrev cX2_mix : ByteArray := prog_4_method_2_code
def yX2_mix : MethodName := ⟨RX2, "mix", "(JI)J"⟩
def RX3 : String := "EdgeMoves$Graph"
def TX3 : u_T := fun k => match k with
  | 0 => ("EdgeMoves$Graph", "blocks", "[LEdgeMoves$Block;", true)
  | 1 => ("EdgeMoves$Graph", "edges", "[LEdgeMoves$Edge;", true)
  | 2 => ("EdgeMoves$Graph", "blockCount", "I", false)
  | _ => ("EdgeMoves$Graph", "edgeCount", "I", false)
def tyX3 : Nat → FieldType := fun k => match k with
  | 0 => .array (.object "EdgeMoves$Block")
  | 1 => .array (.object "EdgeMoves$Edge")
  | 2 => .int
  | _ => .int
abbrev wsX30 : List Cond := u_ws RX3 TX3 4
theorem nmX3 : ∀ a, a < 4 → ∀ b, b < 4 → a ≠ b → (TX3 a).2.1 ≠ (TX3 b).2.1 := by decide +kernel
theorem tyX3_ok : ∀ k, k < 4 → parseFieldDescriptor (TX3 k).2.2.1 = some (tyX3 k) := by decide +kernel
abbrev cX3_init : ByteArray := prog_5_method_1_code
def yX3_init : MethodName := ⟨RX3, "<init>", "()V"⟩
abbrev cX3_removeAll : ByteArray := prog_5_method_2_code
def yX3_removeAll : MethodName := ⟨RX3, "removeAll", "()V"⟩
abbrev cX3_hasBlock : ByteArray := prog_5_method_3_code
def yX3_hasBlock : MethodName := ⟨RX3, "hasBlock", "(I)Z"⟩
abbrev cX3_hasEdge : ByteArray := prog_5_method_4_code
def yX3_hasEdge : MethodName := ⟨RX3, "hasEdge", "(I)Z"⟩
abbrev cX3_goalOf : ByteArray := prog_5_method_5_code
def yX3_goalOf : MethodName := ⟨RX3, "goalOf", "(I)LEdgeMoves$Block;"⟩
abbrev cX3_addBlock : ByteArray := prog_5_method_6_code
def yX3_addBlock : MethodName := ⟨RX3, "addBlock", "()I"⟩
abbrev cX3_addParameter : ByteArray := prog_5_method_7_code
def yX3_addParameter : MethodName := ⟨RX3, "addParameter", "(II)I"⟩
abbrev cX3_addEdge : ByteArray := prog_5_method_8_code
def yX3_addEdge : MethodName := ⟨RX3, "addEdge", "(III)I"⟩
abbrev cX3_countFrom : ByteArray := prog_5_method_9_code
def yX3_countFrom : MethodName := ⟨RX3, "countFrom", "(I)I"⟩
abbrev cX3_countTo : ByteArray := prog_5_method_10_code
def yX3_countTo : MethodName := ⟨RX3, "countTo", "(I)I"⟩
abbrev cX3_whereStepsGo : ByteArray := prog_5_method_11_code
def yX3_whereStepsGo : MethodName := ⟨RX3, "whereStepsGo", "(I)I"⟩
def RX4 : String := "EdgeMoves$Handover"
def TX4 : u_T := fun k => match k with
  | 0 => ("EdgeMoves$Handover", "parameters", "[I", false)
  | 1 => ("EdgeMoves$Handover", "arguments", "[I", false)
  | _ => ("EdgeMoves$Handover", "count", "I", false)
def tyX4 : Nat → FieldType := fun k => match k with
  | 0 => .array .int
  | 1 => .array .int
  | _ => .int
abbrev wsX40 : List Cond := u_ws RX4 TX4 3
theorem nmX4 : ∀ a, a < 3 → ∀ b, b < 3 → a ≠ b → (TX4 a).2.1 ≠ (TX4 b).2.1 := by decide +kernel
theorem tyX4_ok : ∀ k, k < 3 → parseFieldDescriptor (TX4 k).2.2.1 = some (tyX4 k) := by decide +kernel
abbrev cX4_init : ByteArray := prog_6_method_1_code
def yX4_init : MethodName := ⟨RX4, "<init>", "()V"⟩
abbrev cX4_look : ByteArray := prog_6_method_2_code
def yX4_look : MethodName := ⟨RX4, "look", "(LEdgeMoves$Block;LEdgeMoves$Edge;)V"⟩
abbrev cX4_isSet : ByteArray := prog_6_method_3_code
def yX4_isSet : MethodName := ⟨RX4, "isSet", "(I)Z"⟩
abbrev cX4_isOpen : ByteArray := prog_6_method_4_code
def yX4_isOpen : MethodName := ⟨RX4, "isOpen", "(I)Z"⟩
abbrev cX4_involved : ByteArray := prog_6_method_5_code
def yX4_involved : MethodName := ⟨RX4, "involved", "(I)I"⟩
abbrev cX4_isClear : ByteArray := prog_6_method_6_code
def yX4_isClear : MethodName := ⟨RX4, "isClear", "()Z"⟩
abbrev cX4_touches : ByteArray := prog_6_method_7_code
def yX4_touches : MethodName := ⟨RX4, "touches", "(I)Z"⟩
abbrev cX4_openAt : ByteArray := prog_6_method_8_code
def yX4_openAt : MethodName := ⟨RX4, "openAt", "(I)I"⟩
abbrev cX4_countWanting : ByteArray := prog_6_method_9_code
def yX4_countWanting : MethodName := ⟨RX4, "countWanting", "(I)I"⟩
abbrev cX4_ringSize : ByteArray := prog_6_method_10_code
def yX4_ringSize : MethodName := ⟨RX4, "ringSize", "(I)I"⟩
abbrev cX4_countInRingsOf : ByteArray := prog_6_method_11_code
def yX4_countInRingsOf : MethodName := ⟨RX4, "countInRingsOf", "(I)I"⟩
abbrev cX4_countRings : ByteArray := prog_6_method_12_code
def yX4_countRings : MethodName := ⟨RX4, "countRings", "()I"⟩
abbrev cX4_longestRing : ByteArray := prog_6_method_13_code
def yX4_longestRing : MethodName := ⟨RX4, "longestRing", "()I"⟩
abbrev cX4_countOpenOutsideRings : ByteArray := prog_6_method_14_code
def yX4_countOpenOutsideRings : MethodName := ⟨RX4, "countOpenOutsideRings", "()I"⟩
def RX5 : String := "EdgeMoves$Memory"
def TX5 : u_T := fun k => match k with
  | 0 => ("EdgeMoves$Memory", "bytes", "[I", true)
  | _ => ("EdgeMoves$Memory", "ahead", "[I", true)
def tyX5 : Nat → FieldType := fun k => match k with
  | 0 => .array .int
  | _ => .array .int
abbrev wsX50 : List Cond := u_ws RX5 TX5 2
theorem nmX5 : ∀ a, a < 2 → ∀ b, b < 2 → a ≠ b → (TX5 a).2.1 ≠ (TX5 b).2.1 := by decide +kernel
theorem tyX5_ok : ∀ k, k < 2 → parseFieldDescriptor (TX5 k).2.2.1 = some (tyX5 k) := by decide +kernel
abbrev cX5_init : ByteArray := prog_7_method_1_code
def yX5_init : MethodName := ⟨RX5, "<init>", "()V"⟩
abbrev cX5_fillBy : ByteArray := prog_7_method_2_code
def yX5_fillBy : MethodName := ⟨RX5, "fillBy", "(LEdgeMoves$Dice;I)V"⟩
abbrev cX5_copy : ByteArray := prog_7_method_3_code
def yX5_copy : MethodName := ⟨RX5, "copy", "([III)V"⟩
abbrev cX5_put : ByteArray := prog_7_method_4_code
def yX5_put : MethodName := ⟨RX5, "put", "(II)V"⟩
abbrev cX5_exchange : ByteArray := prog_7_method_5_code
def yX5_exchange : MethodName := ⟨RX5, "exchange", "(II)V"⟩
abbrev cX5_handOver : ByteArray := prog_7_method_6_code
def yX5_handOver : MethodName := ⟨RX5, "handOver", "(LEdgeMoves$Block;LEdgeMoves$Edge;)V"⟩
abbrev cX5_follow : ByteArray := prog_7_method_7_code
def yX5_follow : MethodName := ⟨RX5, "follow", "(LEdgeMoves$Plan;)V"⟩
abbrev cX5_hash : ByteArray := prog_7_method_8_code
def yX5_hash : MethodName := ⟨RX5, "hash", "()J"⟩
def RX6 : String := "EdgeMoves$Plan"
def TX6 : u_T := fun k => match k with
  | 0 => ("EdgeMoves$Plan", "sorts", "[I", true)
  | 1 => ("EdgeMoves$Plan", "goals", "[I", true)
  | 2 => ("EdgeMoves$Plan", "sources", "[I", true)
  | 3 => ("EdgeMoves$Plan", "count", "I", false)
  | 4 => ("EdgeMoves$Plan", "kind", "I", false)
  | 5 => ("EdgeMoves$Plan", "parameters", "[I", false)
  | 6 => ("EdgeMoves$Plan", "parameterCount", "I", false)
  | 7 => ("EdgeMoves$Plan", "places", "[I", true)
  | 8 => ("EdgeMoves$Plan", "opens", "[Z", true)
  | _ => ("EdgeMoves$Plan", "openCount", "I", false)
def tyX6 : Nat → FieldType := fun k => match k with
  | 0 => .array .int
  | 1 => .array .int
  | 2 => .array .int
  | 3 => .int
  | 4 => .int
  | 5 => .array .int
  | 6 => .int
  | 7 => .array .int
  | 8 => .array .boolean
  | _ => .int
abbrev wsX60 : List Cond := u_ws RX6 TX6 10
theorem nmX6 : ∀ a, a < 10 → ∀ b, b < 10 → a ≠ b → (TX6 a).2.1 ≠ (TX6 b).2.1 := by decide +kernel
theorem tyX6_ok : ∀ k, k < 10 → parseFieldDescriptor (TX6 k).2.2.1 = some (tyX6 k) := by decide +kernel
abbrev cX6_init : ByteArray := prog_8_method_1_code
def yX6_init : MethodName := ⟨RX6, "<init>", "()V"⟩
abbrev cX6_make : ByteArray := prog_8_method_2_code
def yX6_make : MethodName := ⟨RX6, "make", "(LEdgeMoves$Handover;I)V"⟩
abbrev cX6_openAll : ByteArray := prog_8_method_3_code
def yX6_openAll : MethodName := ⟨RX6, "openAll", "(LEdgeMoves$Handover;)V"⟩
abbrev cX6_add : ByteArray := prog_8_method_4_code
def yX6_add : MethodName := ⟨RX6, "add", "(III)V"⟩
abbrev cX6_isWanted : ByteArray := prog_8_method_5_code
def yX6_isWanted : MethodName := ⟨RX6, "isWanted", "(I)Z"⟩
abbrev cX6_leastOpen : ByteArray := prog_8_method_6_code
def yX6_leastOpen : MethodName := ⟨RX6, "leastOpen", "(Z)I"⟩
abbrev cX6_close : ByteArray := prog_8_method_7_code
def yX6_close : MethodName := ⟨RX6, "close", "(I)V"⟩
abbrev cX6_moveWhatLies : ByteArray := prog_8_method_8_code
def yX6_moveWhatLies : MethodName := ⟨RX6, "moveWhatLies", "(II)V"⟩
abbrev cX6_moveTo : ByteArray := prog_8_method_9_code
def yX6_moveTo : MethodName := ⟨RX6, "moveTo", "(I)V"⟩
abbrev cX6_openAt : ByteArray := prog_8_method_10_code
def yX6_openAt : MethodName := ⟨RX6, "openAt", "(I)I"⟩
abbrev cX6_ringSize : ByteArray := prog_8_method_11_code
def yX6_ringSize : MethodName := ⟨RX6, "ringSize", "(I)I"⟩
abbrev cX6_breakRing : ByteArray := prog_8_method_12_code
def yX6_breakRing : MethodName := ⟨RX6, "breakRing", "(I)V"⟩
abbrev cX6_changeRing : ByteArray := prog_8_method_13_code
def yX6_changeRing : MethodName := ⟨RX6, "changeRing", "(II)V"⟩
abbrev cX6_addSettings : ByteArray := prog_8_method_14_code
def yX6_addSettings : MethodName := ⟨RX6, "addSettings", "(LEdgeMoves$Handover;)V"⟩
abbrev cX6_leastSetBehind : ByteArray := prog_8_method_15_code
def yX6_leastSetBehind : MethodName := ⟨RX6, "leastSetBehind", "(LEdgeMoves$Handover;I)I"⟩
abbrev cX6_countSort : ByteArray := prog_8_method_16_code
def yX6_countSort : MethodName := ⟨RX6, "countSort", "(I)I"⟩
abbrev cX6_countToSpare : ByteArray := prog_8_method_17_code
def yX6_countToSpare : MethodName := ⟨RX6, "countToSpare", "()I"⟩
abbrev cX6_price : ByteArray := prog_8_method_18_code
def yX6_price : MethodName := ⟨RX6, "price", "()I"⟩
abbrev cX6_countSameAtEnd : ByteArray := prog_8_method_19_code
def yX6_countSameAtEnd : MethodName := ⟨RX6, "countSameAtEnd", "(LEdgeMoves$Plan;)I"⟩
abbrev cX6_isSame : ByteArray := prog_8_method_20_code
def yX6_isSame : MethodName := ⟨RX6, "isSame", "(ILEdgeMoves$Plan;I)Z"⟩
def RX7 : String := "EdgeMoves$Prices"
def TX7 : u_T := fun k => match k with
  | _ => ("", "", "", false)
def tyX7 : Nat → FieldType := fun k => match k with
  | _ => .int
abbrev wsX70 : List Cond := u_ws RX7 TX7 0
theorem nmX7 : ∀ a, a < 0 → ∀ b, b < 0 → a ≠ b → (TX7 a).2.1 ≠ (TX7 b).2.1 := by decide +kernel
theorem tyX7_ok : ∀ k, k < 0 → parseFieldDescriptor (TX7 k).2.2.1 = some (tyX7 k) := by decide +kernel
abbrev cX7_move : ByteArray := prog_9_method_2_code
def yX7_move : MethodName := ⟨RX7, "move", "(II)I"⟩
abbrev cX7_change : ByteArray := prog_9_method_3_code
def yX7_change : MethodName := ⟨RX7, "change", "(II)I"⟩
abbrev cX7_isRingChanged : ByteArray := prog_9_method_4_code
def yX7_isRingChanged : MethodName := ⟨RX7, "isRingChanged", "(III)Z"⟩
def RX8 : String := "EdgeMoves$Reader"
def TX8 : u_T := fun k => match k with
  | 0 => ("EdgeMoves$Reader", "text", "LEdgeMoves$Text;", true)
  | 1 => ("EdgeMoves$Reader", "into", "LEdgeMoves$Graph;", false)
  | 2 => ("EdgeMoves$Reader", "place", "I", false)
  | _ => ("EdgeMoves$Reader", "fault", "I", false)
def tyX8 : Nat → FieldType := fun k => match k with
  | 0 => .object "EdgeMoves$Text"
  | 1 => .object "EdgeMoves$Graph"
  | 2 => .int
  | _ => .int
abbrev wsX80 : List Cond := u_ws RX8 TX8 4
theorem nmX8 : ∀ a, a < 4 → ∀ b, b < 4 → a ≠ b → (TX8 a).2.1 ≠ (TX8 b).2.1 := by decide +kernel
theorem tyX8_ok : ∀ k, k < 4 → parseFieldDescriptor (TX8 k).2.2.1 = some (tyX8 k) := by decide +kernel
abbrev cX8_init : ByteArray := prog_10_method_1_code
def yX8_init : MethodName := ⟨RX8, "<init>", "(LEdgeMoves$Text;)V"⟩
abbrev cX8_readInto : ByteArray := prog_10_method_2_code
def yX8_readInto : MethodName := ⟨RX8, "readInto", "(LEdgeMoves$Graph;)I"⟩
abbrev cX8_failAt : ByteArray := prog_10_method_3_code
def yX8_failAt : MethodName := ⟨RX8, "failAt", "(I)Z"⟩
abbrev cX8_nextByte : ByteArray := prog_10_method_4_code
def yX8_nextByte : MethodName := ⟨RX8, "nextByte", "()I"⟩
abbrev cX8_isFigure : ByteArray := prog_10_method_5_code
def yX8_isFigure : MethodName := ⟨RX8, "isFigure", "(I)Z"⟩
abbrev cX8_readNumber : ByteArray := prog_10_method_6_code
def yX8_readNumber : MethodName := ⟨RX8, "readNumber", "()I"⟩
abbrev cX8_readNumberBelow : ByteArray := prog_10_method_7_code
def yX8_readNumberBelow : MethodName := ⟨RX8, "readNumberBelow", "(I)I"⟩
abbrev cX8_readBlock : ByteArray := prog_10_method_8_code
def yX8_readBlock : MethodName := ⟨RX8, "readBlock", "()Z"⟩
abbrev cX8_readEdge : ByteArray := prog_10_method_9_code
def yX8_readEdge : MethodName := ⟨RX8, "readEdge", "()Z"⟩
abbrev cX8_readEnd : ByteArray := prog_10_method_10_code
def yX8_readEnd : MethodName := ⟨RX8, "readEnd", "()Z"⟩
abbrev cX8_readArguments : ByteArray := prog_10_method_11_code
def yX8_readArguments : MethodName := ⟨RX8, "readArguments", "(LEdgeMoves$Block;LEdgeMoves$Edge;)Z"⟩
def RX9 : String := "EdgeMoves$Regions"
def TX9 : u_T := fun k => match k with
  | _ => ("", "", "", false)
def tyX9 : Nat → FieldType := fun k => match k with
  | _ => .int
abbrev wsX90 : List Cond := u_ws RX9 TX9 0
theorem nmX9 : ∀ a, a < 0 → ∀ b, b < 0 → a ≠ b → (TX9 a).2.1 ≠ (TX9 b).2.1 := by decide +kernel
theorem tyX9_ok : ∀ k, k < 0 → parseFieldDescriptor (TX9 k).2.2.1 = some (tyX9 k) := by decide +kernel
abbrev cX9_isWidth : ByteArray := prog_11_method_2_code
def yX9_isWidth : MethodName := ⟨RX9, "isWidth", "(I)Z"⟩
abbrev cX9_asTold : ByteArray := prog_11_method_3_code
def yX9_asTold : MethodName := ⟨RX9, "asTold", "(II)I"⟩
abbrev cX9_firstByte : ByteArray := prog_11_method_4_code
def yX9_firstByte : MethodName := ⟨RX9, "firstByte", "(I)I"⟩
abbrev cX9_width : ByteArray := prog_11_method_5_code
def yX9_width : MethodName := ⟨RX9, "width", "(I)I"⟩
abbrev cX9_isRegion : ByteArray := prog_11_method_6_code
def yX9_isRegion : MethodName := ⟨RX9, "isRegion", "(I)Z"⟩
abbrev cX9_shareByte : ByteArray := prog_11_method_7_code
def yX9_shareByte : MethodName := ⟨RX9, "shareByte", "(II)Z"⟩
abbrev cX9_areAcross : ByteArray := prog_11_method_8_code
def yX9_areAcross : MethodName := ⟨RX9, "areAcross", "(II)Z"⟩
abbrev cX9_toldConstant : ByteArray := prog_11_method_9_code
def yX9_toldConstant : MethodName := ⟨RX9, "toldConstant", "(I)I"⟩
abbrev cX9_isConstant : ByteArray := prog_11_method_10_code
def yX9_isConstant : MethodName := ⟨RX9, "isConstant", "(I)Z"⟩
abbrev cX9_isAsWide : ByteArray := prog_11_method_11_code
def yX9_isAsWide : MethodName := ⟨RX9, "isAsWide", "(II)Z"⟩
abbrev cX9_isArgumentFor : ByteArray := prog_11_method_12_code
def yX9_isArgumentFor : MethodName := ⟨RX9, "isArgumentFor", "(II)Z"⟩
def RX10 : String := "EdgeMoves$Text"
def TX10 : u_T := fun k => match k with
  | 0 => ("EdgeMoves$Text", "bytes", "[I", true)
  | _ => ("EdgeMoves$Text", "length", "I", false)
def tyX10 : Nat → FieldType := fun k => match k with
  | 0 => .array .int
  | _ => .int
abbrev wsX100 : List Cond := u_ws RX10 TX10 2
theorem nmX10 : ∀ a, a < 2 → ∀ b, b < 2 → a ≠ b → (TX10 a).2.1 ≠ (TX10 b).2.1 := by decide +kernel
theorem tyX10_ok : ∀ k, k < 2 → parseFieldDescriptor (TX10 k).2.2.1 = some (tyX10 k) := by decide +kernel
abbrev cX10_init : ByteArray := prog_12_method_1_code
def yX10_init : MethodName := ⟨RX10, "<init>", "()V"⟩
abbrev cX10_append : ByteArray := prog_12_method_2_code
def yX10_append : MethodName := ⟨RX10, "append", "(I)V"⟩
abbrev cX10_at : ByteArray := prog_12_method_3_code
def yX10_at : MethodName := ⟨RX10, "at", "(I)I"⟩
def RX11 : String := "EdgeMoves"
def TX11 : u_T := fun k => match k with
  | 0 => ("EdgeMoves", "graph", "LEdgeMoves$Graph;", false)
  | 1 => ("EdgeMoves", "spareGraph", "LEdgeMoves$Graph;", false)
  | 2 => ("EdgeMoves", "text", "LEdgeMoves$Text;", true)
  | 3 => ("EdgeMoves", "reader", "LEdgeMoves$Reader;", true)
  | 4 => ("EdgeMoves", "handover", "LEdgeMoves$Handover;", true)
  | 5 => ("EdgeMoves", "plan", "LEdgeMoves$Plan;", true)
  | 6 => ("EdgeMoves", "otherPlan", "LEdgeMoves$Plan;", true)
  | 7 => ("EdgeMoves", "memory", "LEdgeMoves$Memory;", true)
  | 8 => ("EdgeMoves", "dice", "LEdgeMoves$Dice;", true)
  | 9 => ("EdgeMoves", "distances", "[I", true)
  | 10 => ("EdgeMoves", "kind", "I", false)
  | 11 => ("EdgeMoves", "badCalls", "I", false)
  | 12 => ("EdgeMoves", "noCalls", "I", false)
  | _ => ("EdgeMoves", "fullCalls", "I", false)
def tyX11 : Nat → FieldType := fun k => match k with
  | 0 => .object "EdgeMoves$Graph"
  | 1 => .object "EdgeMoves$Graph"
  | 2 => .object "EdgeMoves$Text"
  | 3 => .object "EdgeMoves$Reader"
  | 4 => .object "EdgeMoves$Handover"
  | 5 => .object "EdgeMoves$Plan"
  | 6 => .object "EdgeMoves$Plan"
  | 7 => .object "EdgeMoves$Memory"
  | 8 => .object "EdgeMoves$Dice"
  | 9 => .array .int
  | 10 => .int
  | 11 => .int
  | 12 => .int
  | _ => .int
abbrev wsX110 : List Cond := u_ws RX11 TX11 14
theorem nmX11 : ∀ a, a < 14 → ∀ b, b < 14 → a ≠ b → (TX11 a).2.1 ≠ (TX11 b).2.1 := by decide +kernel
theorem tyX11_ok : ∀ k, k < 14 → parseFieldDescriptor (TX11 k).2.2.1 = some (tyX11 k) := by decide +kernel
abbrev cX11_init : ByteArray := prog_1_method_1_code
def yX11_init : MethodName := ⟨RX11, "<init>", "()V"⟩
abbrev cX11_anew : ByteArray := prog_1_method_2_code
def yX11_anew : MethodName := ⟨RX11, "anew", "()I"⟩
abbrev cX11_block : ByteArray := prog_1_method_3_code
def yX11_block : MethodName := ⟨RX11, "block", "()I"⟩
abbrev cX11_parameter : ByteArray := prog_1_method_4_code
def yX11_parameter : MethodName := ⟨RX11, "parameter", "(II)I"⟩
abbrev cX11_edge : ByteArray := prog_1_method_5_code
def yX11_edge : MethodName := ⟨RX11, "edge", "(III)I"⟩
abbrev cX11_argument : ByteArray := prog_1_method_6_code
def yX11_argument : MethodName := ⟨RX11, "argument", "(III)I"⟩
abbrev cX11_weight : ByteArray := prog_1_method_7_code
def yX11_weight : MethodName := ⟨RX11, "weight", "(II)I"⟩
abbrev cX11_machine : ByteArray := prog_1_method_8_code
def yX11_machine : MethodName := ⟨RX11, "machine", "(I)I"⟩
abbrev cX11_of : ByteArray := prog_1_method_9_code
def yX11_of : MethodName := ⟨RX11, "of", "(II)I"⟩
abbrev cX11_about : ByteArray := prog_1_method_10_code
def yX11_about : MethodName := ⟨RX11, "about", "(II)I"⟩
abbrev cX11_region : ByteArray := prog_1_method_11_code
def yX11_region : MethodName := ⟨RX11, "region", "(II)I"⟩
abbrev cX11_given : ByteArray := prog_1_method_12_code
def yX11_given : MethodName := ⟨RX11, "given", "(II)I"⟩
abbrev cX11_type : ByteArray := prog_1_method_13_code
def yX11_type : MethodName := ⟨RX11, "type", "(I)I"⟩
abbrev cX11_clear : ByteArray := prog_1_method_14_code
def yX11_clear : MethodName := ⟨RX11, "clear", "()I"⟩
abbrev cX11_read : ByteArray := prog_1_method_15_code
def yX11_read : MethodName := ⟨RX11, "read", "()I"⟩
abbrev cX11_steps : ByteArray := prog_1_method_16_code
def yX11_steps : MethodName := ⟨RX11, "steps", "(II)I"⟩
abbrev cX11_step : ByteArray := prog_1_method_17_code
def yX11_step : MethodName := ⟨RX11, "step", "(III)I"⟩
abbrev cX11_cost : ByteArray := prog_1_method_18_code
def yX11_cost : MethodName := ⟨RX11, "cost", "(I)I"⟩
abbrev cX11_rings : ByteArray := prog_1_method_19_code
def yX11_rings : MethodName := ⟨RX11, "rings", "(II)I"⟩
abbrev cX11_cheapest : ByteArray := prog_1_method_20_code
def yX11_cheapest : MethodName := ⟨RX11, "cheapest", "(II)I"⟩
abbrev cX11_free : ByteArray := prog_1_method_21_code
def yX11_free : MethodName := ⟨RX11, "free", "(II)I"⟩
abbrev cX11_tail : ByteArray := prog_1_method_22_code
def yX11_tail : MethodName := ⟨RX11, "tail", "(I)I"⟩
abbrev cX11_run : ByteArray := prog_1_method_23_code
def yX11_run : MethodName := ⟨RX11, "run", "(III)J"⟩
abbrev cX11_whole : ByteArray := prog_1_method_24_code
def yX11_whole : MethodName := ⟨RX11, "whole", "(I)I"⟩
abbrev cX11_dearest : ByteArray := prog_1_method_25_code
def yX11_dearest : MethodName := ⟨RX11, "dearest", "()I"⟩
abbrev cX11_reach : ByteArray := prog_1_method_26_code
def yX11_reach : MethodName := ⟨RX11, "reach", "(II)I"⟩
abbrev cX11_draw : ByteArray := prog_1_method_27_code
def yX11_draw : MethodName := ⟨RX11, "draw", "(III)I"⟩
abbrev cX11_told : ByteArray := prog_1_method_28_code
def yX11_told : MethodName := ⟨RX11, "told", "(I)I"⟩
abbrev cX11_digest : ByteArray := prog_1_method_29_code
def yX11_digest : MethodName := ⟨RX11, "digest", "()J"⟩
abbrev cX11_isBelow : ByteArray := prog_1_method_30_code
def yX11_isBelow : MethodName := ⟨RX11, "isBelow", "(II)Z"⟩
abbrev cX11_refuse : ByteArray := prog_1_method_31_code
def yX11_refuse : MethodName := ⟨RX11, "refuse", "(I)I"⟩
abbrev cX11_refusalFor : ByteArray := prog_1_method_32_code
def yX11_refusalFor : MethodName := ⟨RX11, "refusalFor", "(IZ)I"⟩
abbrev cX11_standing : ByteArray := prog_1_method_33_code
def yX11_standing : MethodName := ⟨RX11, "standing", "(I)I"⟩
abbrev cX11_isClear : ByteArray := prog_1_method_34_code
def yX11_isClear : MethodName := ⟨RX11, "isClear", "(I)Z"⟩
abbrev cX11_allClearTo : ByteArray := prog_1_method_35_code
def yX11_allClearTo : MethodName := ⟨RX11, "allClearTo", "(I)Z"⟩
abbrev cX11_makePlan : ByteArray := prog_1_method_36_code
def yX11_makePlan : MethodName := ⟨RX11, "makePlan", "(LEdgeMoves$Plan;I)V"⟩
abbrev cX11_priceBy : ByteArray := prog_1_method_37_code
def yX11_priceBy : MethodName := ⟨RX11, "priceBy", "(II)I"⟩
abbrev cX11_weighedPrice : ByteArray := prog_1_method_38_code
def yX11_weighedPrice : MethodName := ⟨RX11, "weighedPrice", "(I)I"⟩
abbrev cX11_shareOfWhole : ByteArray := prog_1_method_39_code
def yX11_shareOfWhole : MethodName := ⟨RX11, "shareOfWhole", "(II)I"⟩
abbrev cX11_goOneFurther : ByteArray := prog_1_method_40_code
def yX11_goOneFurther : MethodName := ⟨RX11, "goOneFurther", "(I)V"⟩
abbrev cX11_drawBlock : ByteArray := prog_1_method_41_code
def yX11_drawBlock : MethodName := ⟨RX11, "drawBlock", "(I)V"⟩
abbrev cX11_drawEdge : ByteArray := prog_1_method_42_code
def yX11_drawEdge : MethodName := ⟨RX11, "drawEdge", "()V"⟩
def RX12 : String := "EdgeMovesModel"
def TX12 : u_T := fun k => match k with
  | 0 => ("EdgeMovesModel", "refused", "[I", true)
  | 1 => ("EdgeMovesModel", "blocks", "I", false)
  | 2 => ("EdgeMovesModel", "edges", "I", false)
  | 3 => ("EdgeMovesModel", "kindNow", "I", false)
  | 4 => ("EdgeMovesModel", "parameterMany", "[I", true)
  | 5 => ("EdgeMovesModel", "parameters", "[I", true)
  | 6 => ("EdgeMovesModel", "fromOf", "[I", true)
  | 7 => ("EdgeMovesModel", "toOf", "[I", true)
  | 8 => ("EdgeMovesModel", "weightOf", "[I", true)
  | 9 => ("EdgeMovesModel", "given", "[I", true)
  | 10 => ("EdgeMovesModel", "stepMany", "I", false)
  | 11 => ("EdgeMovesModel", "stepSort", "[I", true)
  | 12 => ("EdgeMovesModel", "stepTo", "[I", true)
  | 13 => ("EdgeMovesModel", "stepFrom", "[I", true)
  | 14 => ("EdgeMovesModel", "open", "[Z", true)
  | 15 => ("EdgeMovesModel", "liesIn", "[I", true)
  | 16 => ("EdgeMovesModel", "otherMany", "I", false)
  | 17 => ("EdgeMovesModel", "otherSort", "[I", true)
  | 18 => ("EdgeMovesModel", "otherTo", "[I", true)
  | 19 => ("EdgeMovesModel", "otherFrom", "[I", true)
  | 20 => ("EdgeMovesModel", "bytes", "[I", true)
  | 21 => ("EdgeMovesModel", "were", "[I", true)
  | 22 => ("EdgeMovesModel", "far", "[I", true)
  | 23 => ("EdgeMovesModel", "text", "[I", true)
  | 24 => ("EdgeMovesModel", "typed", "I", false)
  | 25 => ("EdgeMovesModel", "readAt", "I", false)
  | 26 => ("EdgeMovesModel", "readNumber", "I", false)
  | _ => ("EdgeMovesModel", "before", "[I", true)
def tyX12 : Nat → FieldType := fun k => match k with
  | 0 => .array .int
  | 1 => .int
  | 2 => .int
  | 3 => .int
  | 4 => .array .int
  | 5 => .array .int
  | 6 => .array .int
  | 7 => .array .int
  | 8 => .array .int
  | 9 => .array .int
  | 10 => .int
  | 11 => .array .int
  | 12 => .array .int
  | 13 => .array .int
  | 14 => .array .boolean
  | 15 => .array .int
  | 16 => .int
  | 17 => .array .int
  | 18 => .array .int
  | 19 => .array .int
  | 20 => .array .int
  | 21 => .array .int
  | 22 => .array .int
  | 23 => .array .int
  | 24 => .int
  | 25 => .int
  | 26 => .int
  | _ => .array .int
abbrev wsX120 : List Cond := u_ws RX12 TX12 28
theorem nmX12 : ∀ a, a < 28 → ∀ b, b < 28 → a ≠ b → (TX12 a).2.1 ≠ (TX12 b).2.1 := by decide +kernel
theorem tyX12_ok : ∀ k, k < 28 → parseFieldDescriptor (TX12 k).2.2.1 = some (tyX12 k) := by decide +kernel
abbrev cX12_init : ByteArray := prog_14_method_1_code
def yX12_init : MethodName := ⟨RX12, "<init>", "()V"⟩
abbrev cX12_bad : ByteArray := prog_14_method_2_code
def yX12_bad : MethodName := ⟨RX12, "bad", "()I"⟩
abbrev cX12_no : ByteArray := prog_14_method_3_code
def yX12_no : MethodName := ⟨RX12, "no", "()I"⟩
abbrev cX12_full : ByteArray := prog_14_method_4_code
def yX12_full : MethodName := ⟨RX12, "full", "()I"⟩
abbrev cX12_in : ByteArray := prog_14_method_5_code
def yX12_in : MethodName := ⟨RX12, "in", "(III)Z"⟩
abbrev cX12_widthOf : ByteArray := prog_14_method_6_code
def yX12_widthOf : MethodName := ⟨RX12, "widthOf", "(I)I"⟩
abbrev cX12_byteOf : ByteArray := prog_14_method_7_code
def yX12_byteOf : MethodName := ⟨RX12, "byteOf", "(I)I"⟩
abbrev cX12_isWidth : ByteArray := prog_14_method_8_code
def yX12_isWidth : MethodName := ⟨RX12, "isWidth", "(I)Z"⟩
abbrev cX12_isRegion : ByteArray := prog_14_method_9_code
def yX12_isRegion : MethodName := ⟨RX12, "isRegion", "(I)Z"⟩
abbrev cX12_meet : ByteArray := prog_14_method_10_code
def yX12_meet : MethodName := ⟨RX12, "meet", "(II)Z"⟩
abbrev cX12_across : ByteArray := prog_14_method_11_code
def yX12_across : MethodName := ⟨RX12, "across", "(II)Z"⟩
abbrev cX12_isBlock : ByteArray := prog_14_method_12_code
def yX12_isBlock : MethodName := ⟨RX12, "isBlock", "(I)Z"⟩
abbrev cX12_isEdge : ByteArray := prog_14_method_13_code
def yX12_isEdge : MethodName := ⟨RX12, "isEdge", "(I)Z"⟩
abbrev cX12_parameterOf : ByteArray := prog_14_method_14_code
def yX12_parameterOf : MethodName := ⟨RX12, "parameterOf", "(II)I"⟩
abbrev cX12_manyOf : ByteArray := prog_14_method_15_code
def yX12_manyOf : MethodName := ⟨RX12, "manyOf", "(I)I"⟩
abbrev cX12_givenOf : ByteArray := prog_14_method_16_code
def yX12_givenOf : MethodName := ⟨RX12, "givenOf", "(II)I"⟩
abbrev cX12_anew : ByteArray := prog_14_method_17_code
def yX12_anew : MethodName := ⟨RX12, "anew", "()I"⟩
abbrev cX12_newBlock : ByteArray := prog_14_method_18_code
def yX12_newBlock : MethodName := ⟨RX12, "newBlock", "()I"⟩
abbrev cX12_block : ByteArray := prog_14_method_19_code
def yX12_block : MethodName := ⟨RX12, "block", "()I"⟩
abbrev cX12_isTaken : ByteArray := prog_14_method_20_code
def yX12_isTaken : MethodName := ⟨RX12, "isTaken", "(II)Z"⟩
abbrev cX12_newParameter : ByteArray := prog_14_method_21_code
def yX12_newParameter : MethodName := ⟨RX12, "newParameter", "(II)I"⟩
abbrev cX12_parameter : ByteArray := prog_14_method_22_code
def yX12_parameter : MethodName := ⟨RX12, "parameter", "(II)I"⟩
abbrev cX12_newEdge : ByteArray := prog_14_method_23_code
def yX12_newEdge : MethodName := ⟨RX12, "newEdge", "(III)I"⟩
abbrev cX12_edge : ByteArray := prog_14_method_24_code
def yX12_edge : MethodName := ⟨RX12, "edge", "(III)I"⟩
abbrev cX12_mayBeGiven : ByteArray := prog_14_method_25_code
def yX12_mayBeGiven : MethodName := ⟨RX12, "mayBeGiven", "(III)Z"⟩
abbrev cX12_argument : ByteArray := prog_14_method_26_code
def yX12_argument : MethodName := ⟨RX12, "argument", "(III)I"⟩
abbrev cX12_weight : ByteArray := prog_14_method_27_code
def yX12_weight : MethodName := ⟨RX12, "weight", "(II)I"⟩
abbrev cX12_machine : ByteArray := prog_14_method_28_code
def yX12_machine : MethodName := ⟨RX12, "machine", "(I)I"⟩
abbrev cX12_edgesFrom : ByteArray := prog_14_method_29_code
def yX12_edgesFrom : MethodName := ⟨RX12, "edgesFrom", "(I)I"⟩
abbrev cX12_edgesTo : ByteArray := prog_14_method_30_code
def yX12_edgesTo : MethodName := ⟨RX12, "edgesTo", "(I)I"⟩
abbrev cX12_whereOf : ByteArray := prog_14_method_31_code
def yX12_whereOf : MethodName := ⟨RX12, "whereOf", "(I)I"⟩
abbrev cX12_moves : ByteArray := prog_14_method_32_code
def yX12_moves : MethodName := ⟨RX12, "moves", "(II)Z"⟩
abbrev cX12_isAcross : ByteArray := prog_14_method_33_code
def yX12_isAcross : MethodName := ⟨RX12, "isAcross", "(II)Z"⟩
abbrev cX12_isClear : ByteArray := prog_14_method_34_code
def yX12_isClear : MethodName := ⟨RX12, "isClear", "(I)Z"⟩
abbrev cX12_of : ByteArray := prog_14_method_35_code
def yX12_of : MethodName := ⟨RX12, "of", "(II)I"⟩
abbrev cX12_about : ByteArray := prog_14_method_36_code
def yX12_about : MethodName := ⟨RX12, "about", "(II)I"⟩
abbrev cX12_region : ByteArray := prog_14_method_37_code
def yX12_region : MethodName := ⟨RX12, "region", "(II)I"⟩
abbrev cX12_given : ByteArray := prog_14_method_38_code
def yX12_given : MethodName := ⟨RX12, "given", "(II)I"⟩
abbrev cX12_moveCost : ByteArray := prog_14_method_39_code
def yX12_moveCost : MethodName := ⟨RX12, "moveCost", "(II)I"⟩
abbrev cX12_changeCost : ByteArray := prog_14_method_40_code
def yX12_changeCost : MethodName := ⟨RX12, "changeCost", "(II)I"⟩
abbrev cX12_comes : ByteArray := prog_14_method_41_code
def yX12_comes : MethodName := ⟨RX12, "comes", "(III)V"⟩
abbrev cX12_isWanted : ByteArray := prog_14_method_42_code
def yX12_isWanted : MethodName := ⟨RX12, "isWanted", "(II)Z"⟩
abbrev cX12_openMany : ByteArray := prog_14_method_43_code
def yX12_openMany : MethodName := ⟨RX12, "openMany", "(I)I"⟩
abbrev cX12_leastOpen : ByteArray := prog_14_method_44_code
def yX12_leastOpen : MethodName := ⟨RX12, "leastOpen", "(IZ)I"⟩
abbrev cX12_whoHas : ByteArray := prog_14_method_45_code
def yX12_whoHas : MethodName := ⟨RX12, "whoHas", "(II)I"⟩
abbrev cX12_lies : ByteArray := prog_14_method_46_code
def yX12_lies : MethodName := ⟨RX12, "lies", "(III)V"⟩
abbrev cX12_movesTo : ByteArray := prog_14_method_47_code
def yX12_movesTo : MethodName := ⟨RX12, "movesTo", "(II)V"⟩
abbrev cX12_breaks : ByteArray := prog_14_method_48_code
def yX12_breaks : MethodName := ⟨RX12, "breaks", "(III)V"⟩
abbrev cX12_setOpen : ByteArray := prog_14_method_49_code
def yX12_setOpen : MethodName := ⟨RX12, "setOpen", "(I)V"⟩
abbrev cX12_setSteps : ByteArray := prog_14_method_50_code
def yX12_setSteps : MethodName := ⟨RX12, "setSteps", "(II)V"⟩
abbrev cX12_costBy : ByteArray := prog_14_method_51_code
def yX12_costBy : MethodName := ⟨RX12, "costBy", "(II)I"⟩
abbrev cX12_counted : ByteArray := prog_14_method_52_code
def yX12_counted : MethodName := ⟨RX12, "counted", "(I)I"⟩
abbrev cX12_steps : ByteArray := prog_14_method_53_code
def yX12_steps : MethodName := ⟨RX12, "steps", "(II)I"⟩
abbrev cX12_step : ByteArray := prog_14_method_54_code
def yX12_step : MethodName := ⟨RX12, "step", "(III)I"⟩
abbrev cX12_cost : ByteArray := prog_14_method_55_code
def yX12_cost : MethodName := ⟨RX12, "cost", "(I)I"⟩
abbrev cX12_wantedTimes : ByteArray := prog_14_method_56_code
def yX12_wantedTimes : MethodName := ⟨RX12, "wantedTimes", "(II)I"⟩
abbrev cX12_ringOf : ByteArray := prog_14_method_57_code
def yX12_ringOf : MethodName := ⟨RX12, "ringOf", "(II)I"⟩
abbrev cX12_rings : ByteArray := prog_14_method_58_code
def yX12_rings : MethodName := ⟨RX12, "rings", "(II)I"⟩
abbrev cX12_cheapest : ByteArray := prog_14_method_59_code
def yX12_cheapest : MethodName := ⟨RX12, "cheapest", "(II)I"⟩
abbrev cX12_free : ByteArray := prog_14_method_60_code
def yX12_free : MethodName := ⟨RX12, "free", "(II)I"⟩
abbrev cX12_asOther : ByteArray := prog_14_method_61_code
def yX12_asOther : MethodName := ⟨RX12, "asOther", "()V"⟩
abbrev cX12_sameBack : ByteArray := prog_14_method_62_code
def yX12_sameBack : MethodName := ⟨RX12, "sameBack", "()I"⟩
abbrev cX12_tail : ByteArray := prog_14_method_63_code
def yX12_tail : MethodName := ⟨RX12, "tail", "(I)I"⟩
abbrev cX12_next : ByteArray := prog_14_method_64_code
def yX12_next : MethodName := ⟨RX12, "next", "(J)J"⟩
abbrev cX12_beginOf : ByteArray := prog_14_method_65_code
def yX12_beginOf : MethodName := ⟨RX12, "beginOf", "(I)I"⟩
abbrev cX12_puts : ByteArray := prog_14_method_66_code
def yX12_puts : MethodName := ⟨RX12, "puts", "(II)V"⟩
abbrev cX12_stepsOn : ByteArray := prog_14_method_67_code
def yX12_stepsOn : MethodName := ⟨RX12, "stepsOn", "(I)V"⟩
abbrev cX12_handsOver : ByteArray := prog_14_method_68_code
def yX12_handsOver : MethodName := ⟨RX12, "handsOver", "(I)V"⟩
abbrev cX12_run : ByteArray := prog_14_method_69_code
def yX12_run : MethodName := ⟨RX12, "run", "(III)J"⟩
abbrev cX12_whole : ByteArray := prog_14_method_70_code
def yX12_whole : MethodName := ⟨RX12, "whole", "(I)I"⟩
abbrev cX12_dearest : ByteArray := prog_14_method_71_code
def yX12_dearest : MethodName := ⟨RX12, "dearest", "()I"⟩
abbrev cX12_reach : ByteArray := prog_14_method_72_code
def yX12_reach : MethodName := ⟨RX12, "reach", "(II)I"⟩
abbrev cX12_draw : ByteArray := prog_14_method_73_code
def yX12_draw : MethodName := ⟨RX12, "draw", "(III)I"⟩
abbrev cX12_tells : ByteArray := prog_14_method_74_code
def yX12_tells : MethodName := ⟨RX12, "tells", "(I)I"⟩
abbrev cX12_told : ByteArray := prog_14_method_75_code
def yX12_told : MethodName := ⟨RX12, "told", "(I)I"⟩
abbrev cX12_digest : ByteArray := prog_14_method_76_code
def yX12_digest : MethodName := ⟨RX12, "digest", "()J"⟩
abbrev cX12_type : ByteArray := prog_14_method_77_code
def yX12_type : MethodName := ⟨RX12, "type", "(I)I"⟩
abbrev cX12_clear : ByteArray := prog_14_method_78_code
def yX12_clear : MethodName := ⟨RX12, "clear", "()I"⟩
abbrev cX12_here : ByteArray := prog_14_method_79_code
def yX12_here : MethodName := ⟨RX12, "here", "()I"⟩
abbrev cX12_skip : ByteArray := prog_14_method_80_code
def yX12_skip : MethodName := ⟨RX12, "skip", "()V"⟩
abbrev cX12_isFigure : ByteArray := prog_14_method_81_code
def yX12_isFigure : MethodName := ⟨RX12, "isFigure", "(I)Z"⟩
abbrev cX12_figures : ByteArray := prog_14_method_82_code
def yX12_figures : MethodName := ⟨RX12, "figures", "(I)I"⟩
abbrev cX12_number : ByteArray := prog_14_method_83_code
def yX12_number : MethodName := ⟨RX12, "number", "(II)Z"⟩
abbrev cX12_ends : ByteArray := prog_14_method_84_code
def yX12_ends : MethodName := ⟨RX12, "ends", "()Z"⟩
abbrev cX12_readsBlock : ByteArray := prog_14_method_85_code
def yX12_readsBlock : MethodName := ⟨RX12, "readsBlock", "()Z"⟩
abbrev cX12_readsConstant : ByteArray := prog_14_method_86_code
def yX12_readsConstant : MethodName := ⟨RX12, "readsConstant", "()I"⟩
abbrev cX12_readsGiven : ByteArray := prog_14_method_87_code
def yX12_readsGiven : MethodName := ⟨RX12, "readsGiven", "(II)Z"⟩
abbrev cX12_readsEdge : ByteArray := prog_14_method_88_code
def yX12_readsEdge : MethodName := ⟨RX12, "readsEdge", "()Z"⟩
abbrev cX12_readsAll : ByteArray := prog_14_method_89_code
def yX12_readsAll : MethodName := ⟨RX12, "readsAll", "()I"⟩
abbrev cX12_lays : ByteArray := prog_14_method_90_code
def yX12_lays : MethodName := ⟨RX12, "lays", "()V"⟩
abbrev cX12_takes : ByteArray := prog_14_method_91_code
def yX12_takes : MethodName := ⟨RX12, "takes", "()V"⟩
abbrev cX12_read : ByteArray := prog_14_method_92_code
def yX12_read : MethodName := ⟨RX12, "read", "()I"⟩
def RJ9 : String := "java/lang/Math"
def TJ9 : u_T := fun k => match k with
  | _ => ("", "", "", false)
def tyJ9 : Nat → FieldType := fun k => match k with
  | _ => .int
abbrev wsJ90 : List Cond := u_ws RJ9 TJ9 0
theorem nmJ9 : ∀ a, a < 0 → ∀ b, b < 0 → a ≠ b → (TJ9 a).2.1 ≠ (TJ9 b).2.1 := by decide +kernel
theorem tyJ9_ok : ∀ k, k < 0 → parseFieldDescriptor (TJ9 k).2.2.1 = some (tyJ9 k) := by decide +kernel
abbrev cJ9_max_7cf53 : ByteArray := prog_15_method_65_code
def yJ9_max_7cf53 : MethodName := ⟨RJ9, "max", "(II)I"⟩
abbrev cJ9_min_7cf53 : ByteArray := prog_15_method_69_code
def yJ9_min_7cf53 : MethodName := ⟨RJ9, "min", "(II)I"⟩
def RJ10 : String := "java/lang/System"
def TJ10 : u_T := fun k => match k with
  | _ => ("", "", "", false)
def tyJ10 : Nat → FieldType := fun k => match k with
  | _ => .int
abbrev wsJ100 : List Cond := u_ws RJ10 TJ10 0
theorem nmJ10 : ∀ a, a < 0 → ∀ b, b < 0 → a ≠ b → (TJ10 a).2.1 ≠ (TJ10 b).2.1 := by decide +kernel
theorem tyJ10_ok : ∀ k, k < 0 → parseFieldDescriptor (TJ10 k).2.2.1 = some (tyJ10 k) := by decide +kernel
def RJ7 : String := "java/util/Arrays"
def TJ7 : u_T := fun k => match k with
  | _ => ("", "", "", false)
def tyJ7 : Nat → FieldType := fun k => match k with
  | _ => .int
abbrev wsJ70 : List Cond := u_ws RJ7 TJ7 0
theorem nmJ7 : ∀ a, a < 0 → ∀ b, b < 0 → a ≠ b → (TJ7 a).2.1 ≠ (TJ7 b).2.1 := by decide +kernel
theorem tyJ7_ok : ∀ k, k < 0 → parseFieldDescriptor (TJ7 k).2.2.1 = some (tyJ7 k) := by decide +kernel
abbrev cJ7_fill_53178 : ByteArray := prog_17_method_103_code
def yJ7_fill_53178 : MethodName := ⟨RJ7, "fill", "([II)V"⟩
def RL : String := "EdgeMovesLaw"
abbrev cL_law : ByteArray := code
def yL_law : MethodName := ⟨RL, "law", "([I)Z"⟩
abbrev vwCl : List vw_C := [(RX0, TX0, 2), (RX1, TX1, 1), (RX2, TX2, 4), (RX3, TX3, 4), (RX4, TX4, 3), (RX5, TX5, 2), (RX6, TX6, 10), (RX8, TX8, 4), (RX10, TX10, 2), (RX11, TX11, 14), (RX12, TX12, 28)]
def wsA : List Cond := lw_tbl.filter goodWord
end
