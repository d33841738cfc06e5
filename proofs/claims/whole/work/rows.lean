section
-- ===== PART A: goes FIRST, ahead of the names: the tables' words, and 'selects' of the private methods out of them =====
/-- a private method of a class that the tables say can be made, by its rows of tables_1 -/
def lw_okq (q : MethodName × Nat) : Prop := (q.1.cls ≠ "java/lang/invoke/MethodHandle" ∧ q.1.cls ≠ "java/lang/invoke/VarHandle") ∧ Cond.instantiable q.1.cls q.2 ∈ tables_1 ∧ Cond.privateMethod q.1 ∈ tables_1 ∧ Cond.instanceMethod q.1 ∈ tables_1
theorem lw_p0 : lw_okq (⟨"EdgeMoves", "refuse", "(I)I"⟩, 14) := ⟨⟨by decide +kernel, by decide +kernel⟩, List.mem_of_getElem? (i := 18) (by decide +kernel), List.mem_of_getElem? (i := 287) (by decide +kernel), List.mem_of_getElem? (i := 288) (by decide +kernel)⟩
theorem lw_p1 : lw_okq (⟨"EdgeMoves", "isClear", "(I)Z"⟩, 14) := ⟨⟨by decide +kernel, by decide +kernel⟩, List.mem_of_getElem? (i := 18) (by decide +kernel), List.mem_of_getElem? (i := 377) (by decide +kernel), List.mem_of_getElem? (i := 378) (by decide +kernel)⟩
theorem lw_p2 : lw_okq (⟨"EdgeMoves$Handover", "involved", "(I)I"⟩, 3) := ⟨⟨by decide +kernel, by decide +kernel⟩, List.mem_of_getElem? (i := 143) (by decide +kernel), List.mem_of_getElem? (i := 389) (by decide +kernel), List.mem_of_getElem? (i := 390) (by decide +kernel)⟩
theorem lw_p3 : lw_okq (⟨"EdgeMoves$Reader", "nextByte", "()I"⟩, 4) := ⟨⟨by decide +kernel, by decide +kernel⟩, List.mem_of_getElem? (i := 124) (by decide +kernel), List.mem_of_getElem? (i := 444) (by decide +kernel), List.mem_of_getElem? (i := 445) (by decide +kernel)⟩
theorem lw_p4 : lw_okq (⟨"EdgeMoves$Reader", "readBlock", "()Z"⟩, 4) := ⟨⟨by decide +kernel, by decide +kernel⟩, List.mem_of_getElem? (i := 124) (by decide +kernel), List.mem_of_getElem? (i := 452) (by decide +kernel), List.mem_of_getElem? (i := 453) (by decide +kernel)⟩
theorem lw_p5 : lw_okq (⟨"EdgeMoves$Reader", "failAt", "(I)Z"⟩, 4) := ⟨⟨by decide +kernel, by decide +kernel⟩, List.mem_of_getElem? (i := 124) (by decide +kernel), List.mem_of_getElem? (i := 458) (by decide +kernel), List.mem_of_getElem? (i := 459) (by decide +kernel)⟩
theorem lw_p6 : lw_okq (⟨"EdgeMoves$Reader", "readNumber", "()I"⟩, 4) := ⟨⟨by decide +kernel, by decide +kernel⟩, List.mem_of_getElem? (i := 124) (by decide +kernel), List.mem_of_getElem? (i := 465) (by decide +kernel), List.mem_of_getElem? (i := 466) (by decide +kernel)⟩
theorem lw_p7 : lw_okq (⟨"EdgeMoves$Reader", "readEnd", "()Z"⟩, 4) := ⟨⟨by decide +kernel, by decide +kernel⟩, List.mem_of_getElem? (i := 124) (by decide +kernel), List.mem_of_getElem? (i := 472) (by decide +kernel), List.mem_of_getElem? (i := 473) (by decide +kernel)⟩
theorem lw_p8 : lw_okq (⟨"EdgeMoves$Reader", "readEdge", "()Z"⟩, 4) := ⟨⟨by decide +kernel, by decide +kernel⟩, List.mem_of_getElem? (i := 124) (by decide +kernel), List.mem_of_getElem? (i := 476) (by decide +kernel), List.mem_of_getElem? (i := 477) (by decide +kernel)⟩
theorem lw_p9 : lw_okq (⟨"EdgeMoves$Reader", "readNumberBelow", "(I)I"⟩, 4) := ⟨⟨by decide +kernel, by decide +kernel⟩, List.mem_of_getElem? (i := 124) (by decide +kernel), List.mem_of_getElem? (i := 480) (by decide +kernel), List.mem_of_getElem? (i := 481) (by decide +kernel)⟩
theorem lw_p10 : lw_okq (⟨"EdgeMoves$Reader", "readArguments", "(LEdgeMoves$Block;LEdgeMoves$Edge;)Z"⟩, 4) := ⟨⟨by decide +kernel, by decide +kernel⟩, List.mem_of_getElem? (i := 124) (by decide +kernel), List.mem_of_getElem? (i := 488) (by decide +kernel), List.mem_of_getElem? (i := 489) (by decide +kernel)⟩
theorem lw_p11 : lw_okq (⟨"EdgeMoves", "refusalFor", "(IZ)I"⟩, 14) := ⟨⟨by decide +kernel, by decide +kernel⟩, List.mem_of_getElem? (i := 18) (by decide +kernel), List.mem_of_getElem? (i := 500) (by decide +kernel), List.mem_of_getElem? (i := 501) (by decide +kernel)⟩
theorem lw_p12 : lw_okq (⟨"EdgeMoves", "makePlan", "(LEdgeMoves$Plan;I)V"⟩, 14) := ⟨⟨by decide +kernel, by decide +kernel⟩, List.mem_of_getElem? (i := 18) (by decide +kernel), List.mem_of_getElem? (i := 504) (by decide +kernel), List.mem_of_getElem? (i := 505) (by decide +kernel)⟩
theorem lw_p13 : lw_okq (⟨"EdgeMoves$Plan", "openAll", "(LEdgeMoves$Handover;)V"⟩, 10) := ⟨⟨by decide +kernel, by decide +kernel⟩, List.mem_of_getElem? (i := 162) (by decide +kernel), List.mem_of_getElem? (i := 512) (by decide +kernel), List.mem_of_getElem? (i := 513) (by decide +kernel)⟩
theorem lw_p14 : lw_okq (⟨"EdgeMoves$Plan", "leastOpen", "(Z)I"⟩, 10) := ⟨⟨by decide +kernel, by decide +kernel⟩, List.mem_of_getElem? (i := 162) (by decide +kernel), List.mem_of_getElem? (i := 520) (by decide +kernel), List.mem_of_getElem? (i := 521) (by decide +kernel)⟩
theorem lw_p15 : lw_okq (⟨"EdgeMoves$Plan", "isWanted", "(I)Z"⟩, 10) := ⟨⟨by decide +kernel, by decide +kernel⟩, List.mem_of_getElem? (i := 162) (by decide +kernel), List.mem_of_getElem? (i := 524) (by decide +kernel), List.mem_of_getElem? (i := 525) (by decide +kernel)⟩
def lw_privs_1 : List (MethodName × Nat) := [(⟨"EdgeMoves", "refuse", "(I)I"⟩, 14), (⟨"EdgeMoves", "isClear", "(I)Z"⟩, 14), (⟨"EdgeMoves$Handover", "involved", "(I)I"⟩, 3), (⟨"EdgeMoves$Reader", "nextByte", "()I"⟩, 4), (⟨"EdgeMoves$Reader", "readBlock", "()Z"⟩, 4), (⟨"EdgeMoves$Reader", "failAt", "(I)Z"⟩, 4), (⟨"EdgeMoves$Reader", "readNumber", "()I"⟩, 4), (⟨"EdgeMoves$Reader", "readEnd", "()Z"⟩, 4), (⟨"EdgeMoves$Reader", "readEdge", "()Z"⟩, 4), (⟨"EdgeMoves$Reader", "readNumberBelow", "(I)I"⟩, 4), (⟨"EdgeMoves$Reader", "readArguments", "(LEdgeMoves$Block;LEdgeMoves$Edge;)Z"⟩, 4), (⟨"EdgeMoves", "refusalFor", "(IZ)I"⟩, 14), (⟨"EdgeMoves", "makePlan", "(LEdgeMoves$Plan;I)V"⟩, 14), (⟨"EdgeMoves$Plan", "openAll", "(LEdgeMoves$Handover;)V"⟩, 10), (⟨"EdgeMoves$Plan", "leastOpen", "(Z)I"⟩, 10), (⟨"EdgeMoves$Plan", "isWanted", "(I)Z"⟩, 10)]
theorem lw_r1 : ∀ q ∈ lw_privs_1, lw_okq q := List.forall_mem_cons.mpr ⟨lw_p0, List.forall_mem_cons.mpr ⟨lw_p1, List.forall_mem_cons.mpr ⟨lw_p2, List.forall_mem_cons.mpr ⟨lw_p3, List.forall_mem_cons.mpr ⟨lw_p4, List.forall_mem_cons.mpr ⟨lw_p5, List.forall_mem_cons.mpr ⟨lw_p6, List.forall_mem_cons.mpr ⟨lw_p7, List.forall_mem_cons.mpr ⟨lw_p8, List.forall_mem_cons.mpr ⟨lw_p9, List.forall_mem_cons.mpr ⟨lw_p10, List.forall_mem_cons.mpr ⟨lw_p11, List.forall_mem_cons.mpr ⟨lw_p12, List.forall_mem_cons.mpr ⟨lw_p13, List.forall_mem_cons.mpr ⟨lw_p14, List.forall_mem_cons.mpr ⟨lw_p15, fun _ h => absurd h List.not_mem_nil⟩⟩⟩⟩⟩⟩⟩⟩⟩⟩⟩⟩⟩⟩⟩⟩
theorem lw_p16 : lw_okq (⟨"EdgeMoves$Plan", "moveTo", "(I)V"⟩, 10) := ⟨⟨by decide +kernel, by decide +kernel⟩, List.mem_of_getElem? (i := 162) (by decide +kernel), List.mem_of_getElem? (i := 528) (by decide +kernel), List.mem_of_getElem? (i := 529) (by decide +kernel)⟩
theorem lw_p17 : lw_okq (⟨"EdgeMoves$Plan", "add", "(III)V"⟩, 10) := ⟨⟨by decide +kernel, by decide +kernel⟩, List.mem_of_getElem? (i := 162) (by decide +kernel), List.mem_of_getElem? (i := 532) (by decide +kernel), List.mem_of_getElem? (i := 533) (by decide +kernel)⟩
theorem lw_p18 : lw_okq (⟨"EdgeMoves$Plan", "close", "(I)V"⟩, 10) := ⟨⟨by decide +kernel, by decide +kernel⟩, List.mem_of_getElem? (i := 162) (by decide +kernel), List.mem_of_getElem? (i := 536) (by decide +kernel), List.mem_of_getElem? (i := 537) (by decide +kernel)⟩
theorem lw_p19 : lw_okq (⟨"EdgeMoves$Plan", "moveWhatLies", "(II)V"⟩, 10) := ⟨⟨by decide +kernel, by decide +kernel⟩, List.mem_of_getElem? (i := 162) (by decide +kernel), List.mem_of_getElem? (i := 540) (by decide +kernel), List.mem_of_getElem? (i := 541) (by decide +kernel)⟩
theorem lw_p20 : lw_okq (⟨"EdgeMoves$Plan", "breakRing", "(I)V"⟩, 10) := ⟨⟨by decide +kernel, by decide +kernel⟩, List.mem_of_getElem? (i := 162) (by decide +kernel), List.mem_of_getElem? (i := 544) (by decide +kernel), List.mem_of_getElem? (i := 545) (by decide +kernel)⟩
theorem lw_p21 : lw_okq (⟨"EdgeMoves$Plan", "ringSize", "(I)I"⟩, 10) := ⟨⟨by decide +kernel, by decide +kernel⟩, List.mem_of_getElem? (i := 162) (by decide +kernel), List.mem_of_getElem? (i := 548) (by decide +kernel), List.mem_of_getElem? (i := 549) (by decide +kernel)⟩
theorem lw_p22 : lw_okq (⟨"EdgeMoves$Plan", "openAt", "(I)I"⟩, 10) := ⟨⟨by decide +kernel, by decide +kernel⟩, List.mem_of_getElem? (i := 162) (by decide +kernel), List.mem_of_getElem? (i := 552) (by decide +kernel), List.mem_of_getElem? (i := 553) (by decide +kernel)⟩
theorem lw_p23 : lw_okq (⟨"EdgeMoves$Plan", "changeRing", "(II)V"⟩, 10) := ⟨⟨by decide +kernel, by decide +kernel⟩, List.mem_of_getElem? (i := 162) (by decide +kernel), List.mem_of_getElem? (i := 566) (by decide +kernel), List.mem_of_getElem? (i := 567) (by decide +kernel)⟩
theorem lw_p24 : lw_okq (⟨"EdgeMoves$Plan", "addSettings", "(LEdgeMoves$Handover;)V"⟩, 10) := ⟨⟨by decide +kernel, by decide +kernel⟩, List.mem_of_getElem? (i := 162) (by decide +kernel), List.mem_of_getElem? (i := 573) (by decide +kernel), List.mem_of_getElem? (i := 574) (by decide +kernel)⟩
theorem lw_p25 : lw_okq (⟨"EdgeMoves$Plan", "leastSetBehind", "(LEdgeMoves$Handover;I)I"⟩, 10) := ⟨⟨by decide +kernel, by decide +kernel⟩, List.mem_of_getElem? (i := 162) (by decide +kernel), List.mem_of_getElem? (i := 577) (by decide +kernel), List.mem_of_getElem? (i := 578) (by decide +kernel)⟩
theorem lw_p26 : lw_okq (⟨"EdgeMoves$Handover", "countInRingsOf", "(I)I"⟩, 3) := ⟨⟨by decide +kernel, by decide +kernel⟩, List.mem_of_getElem? (i := 143) (by decide +kernel), List.mem_of_getElem? (i := 616) (by decide +kernel), List.mem_of_getElem? (i := 617) (by decide +kernel)⟩
theorem lw_p27 : lw_okq (⟨"EdgeMoves$Handover", "ringSize", "(I)I"⟩, 3) := ⟨⟨by decide +kernel, by decide +kernel⟩, List.mem_of_getElem? (i := 143) (by decide +kernel), List.mem_of_getElem? (i := 621) (by decide +kernel), List.mem_of_getElem? (i := 622) (by decide +kernel)⟩
theorem lw_p28 : lw_okq (⟨"EdgeMoves$Handover", "countWanting", "(I)I"⟩, 3) := ⟨⟨by decide +kernel, by decide +kernel⟩, List.mem_of_getElem? (i := 143) (by decide +kernel), List.mem_of_getElem? (i := 625) (by decide +kernel), List.mem_of_getElem? (i := 626) (by decide +kernel)⟩
theorem lw_p29 : lw_okq (⟨"EdgeMoves$Handover", "openAt", "(I)I"⟩, 3) := ⟨⟨by decide +kernel, by decide +kernel⟩, List.mem_of_getElem? (i := 143) (by decide +kernel), List.mem_of_getElem? (i := 629) (by decide +kernel), List.mem_of_getElem? (i := 630) (by decide +kernel)⟩
theorem lw_p30 : lw_okq (⟨"EdgeMoves", "priceBy", "(II)I"⟩, 14) := ⟨⟨by decide +kernel, by decide +kernel⟩, List.mem_of_getElem? (i := 18) (by decide +kernel), List.mem_of_getElem? (i := 648) (by decide +kernel), List.mem_of_getElem? (i := 649) (by decide +kernel)⟩
theorem lw_p31 : lw_okq (⟨"EdgeMoves", "allClearTo", "(I)Z"⟩, 14) := ⟨⟨by decide +kernel, by decide +kernel⟩, List.mem_of_getElem? (i := 18) (by decide +kernel), List.mem_of_getElem? (i := 667) (by decide +kernel), List.mem_of_getElem? (i := 668) (by decide +kernel)⟩
def lw_privs_2 : List (MethodName × Nat) := [(⟨"EdgeMoves$Plan", "moveTo", "(I)V"⟩, 10), (⟨"EdgeMoves$Plan", "add", "(III)V"⟩, 10), (⟨"EdgeMoves$Plan", "close", "(I)V"⟩, 10), (⟨"EdgeMoves$Plan", "moveWhatLies", "(II)V"⟩, 10), (⟨"EdgeMoves$Plan", "breakRing", "(I)V"⟩, 10), (⟨"EdgeMoves$Plan", "ringSize", "(I)I"⟩, 10), (⟨"EdgeMoves$Plan", "openAt", "(I)I"⟩, 10), (⟨"EdgeMoves$Plan", "changeRing", "(II)V"⟩, 10), (⟨"EdgeMoves$Plan", "addSettings", "(LEdgeMoves$Handover;)V"⟩, 10), (⟨"EdgeMoves$Plan", "leastSetBehind", "(LEdgeMoves$Handover;I)I"⟩, 10), (⟨"EdgeMoves$Handover", "countInRingsOf", "(I)I"⟩, 3), (⟨"EdgeMoves$Handover", "ringSize", "(I)I"⟩, 3), (⟨"EdgeMoves$Handover", "countWanting", "(I)I"⟩, 3), (⟨"EdgeMoves$Handover", "openAt", "(I)I"⟩, 3), (⟨"EdgeMoves", "priceBy", "(II)I"⟩, 14), (⟨"EdgeMoves", "allClearTo", "(I)Z"⟩, 14)]
theorem lw_r2 : ∀ q ∈ lw_privs_2, lw_okq q := List.forall_mem_cons.mpr ⟨lw_p16, List.forall_mem_cons.mpr ⟨lw_p17, List.forall_mem_cons.mpr ⟨lw_p18, List.forall_mem_cons.mpr ⟨lw_p19, List.forall_mem_cons.mpr ⟨lw_p20, List.forall_mem_cons.mpr ⟨lw_p21, List.forall_mem_cons.mpr ⟨lw_p22, List.forall_mem_cons.mpr ⟨lw_p23, List.forall_mem_cons.mpr ⟨lw_p24, List.forall_mem_cons.mpr ⟨lw_p25, List.forall_mem_cons.mpr ⟨lw_p26, List.forall_mem_cons.mpr ⟨lw_p27, List.forall_mem_cons.mpr ⟨lw_p28, List.forall_mem_cons.mpr ⟨lw_p29, List.forall_mem_cons.mpr ⟨lw_p30, List.forall_mem_cons.mpr ⟨lw_p31, fun _ h => absurd h List.not_mem_nil⟩⟩⟩⟩⟩⟩⟩⟩⟩⟩⟩⟩⟩⟩⟩⟩
theorem lw_p32 : lw_okq (⟨"EdgeMoves$Plan", "isSame", "(ILEdgeMoves$Plan;I)Z"⟩, 10) := ⟨⟨by decide +kernel, by decide +kernel⟩, List.mem_of_getElem? (i := 162) (by decide +kernel), List.mem_of_getElem? (i := 675) (by decide +kernel), List.mem_of_getElem? (i := 676) (by decide +kernel)⟩
theorem lw_p33 : lw_okq (⟨"EdgeMoves$Memory", "put", "(II)V"⟩, 2) := ⟨⟨by decide +kernel, by decide +kernel⟩, List.mem_of_getElem? (i := 208) (by decide +kernel), List.mem_of_getElem? (i := 708) (by decide +kernel), List.mem_of_getElem? (i := 709) (by decide +kernel)⟩
theorem lw_p34 : lw_okq (⟨"EdgeMoves$Memory", "copy", "([III)V"⟩, 2) := ⟨⟨by decide +kernel, by decide +kernel⟩, List.mem_of_getElem? (i := 208) (by decide +kernel), List.mem_of_getElem? (i := 714) (by decide +kernel), List.mem_of_getElem? (i := 715) (by decide +kernel)⟩
theorem lw_p35 : lw_okq (⟨"EdgeMoves$Memory", "exchange", "(II)V"⟩, 2) := ⟨⟨by decide +kernel, by decide +kernel⟩, List.mem_of_getElem? (i := 208) (by decide +kernel), List.mem_of_getElem? (i := 722) (by decide +kernel), List.mem_of_getElem? (i := 723) (by decide +kernel)⟩
theorem lw_p36 : lw_okq (⟨"EdgeMoves", "shareOfWhole", "(II)I"⟩, 14) := ⟨⟨by decide +kernel, by decide +kernel⟩, List.mem_of_getElem? (i := 18) (by decide +kernel), List.mem_of_getElem? (i := 735) (by decide +kernel), List.mem_of_getElem? (i := 736) (by decide +kernel)⟩
theorem lw_p37 : lw_okq (⟨"EdgeMoves", "weighedPrice", "(I)I"⟩, 14) := ⟨⟨by decide +kernel, by decide +kernel⟩, List.mem_of_getElem? (i := 18) (by decide +kernel), List.mem_of_getElem? (i := 743) (by decide +kernel), List.mem_of_getElem? (i := 744) (by decide +kernel)⟩
theorem lw_p38 : lw_okq (⟨"EdgeMoves", "goOneFurther", "(I)V"⟩, 14) := ⟨⟨by decide +kernel, by decide +kernel⟩, List.mem_of_getElem? (i := 18) (by decide +kernel), List.mem_of_getElem? (i := 754) (by decide +kernel), List.mem_of_getElem? (i := 755) (by decide +kernel)⟩
theorem lw_p39 : lw_okq (⟨"EdgeMoves", "drawBlock", "(I)V"⟩, 14) := ⟨⟨by decide +kernel, by decide +kernel⟩, List.mem_of_getElem? (i := 18) (by decide +kernel), List.mem_of_getElem? (i := 763) (by decide +kernel), List.mem_of_getElem? (i := 764) (by decide +kernel)⟩
theorem lw_p40 : lw_okq (⟨"EdgeMoves", "drawEdge", "()V"⟩, 14) := ⟨⟨by decide +kernel, by decide +kernel⟩, List.mem_of_getElem? (i := 18) (by decide +kernel), List.mem_of_getElem? (i := 768) (by decide +kernel), List.mem_of_getElem? (i := 769) (by decide +kernel)⟩
theorem lw_p41 : lw_okq (⟨"EdgeMoves", "standing", "(I)I"⟩, 14) := ⟨⟨by decide +kernel, by decide +kernel⟩, List.mem_of_getElem? (i := 18) (by decide +kernel), List.mem_of_getElem? (i := 780) (by decide +kernel), List.mem_of_getElem? (i := 781) (by decide +kernel)⟩
theorem lw_p42 : lw_okq (⟨"EdgeMovesModel", "full", "()I"⟩, 28) := ⟨⟨by decide +kernel, by decide +kernel⟩, List.mem_of_getElem? (i := 800) (by decide +kernel), List.mem_of_getElem? (i := 899) (by decide +kernel), List.mem_of_getElem? (i := 900) (by decide +kernel)⟩
theorem lw_p43 : lw_okq (⟨"EdgeMovesModel", "newBlock", "()I"⟩, 28) := ⟨⟨by decide +kernel, by decide +kernel⟩, List.mem_of_getElem? (i := 800) (by decide +kernel), List.mem_of_getElem? (i := 903) (by decide +kernel), List.mem_of_getElem? (i := 904) (by decide +kernel)⟩
theorem lw_p44 : lw_okq (⟨"EdgeMovesModel", "isBlock", "(I)Z"⟩, 28) := ⟨⟨by decide +kernel, by decide +kernel⟩, List.mem_of_getElem? (i := 800) (by decide +kernel), List.mem_of_getElem? (i := 911) (by decide +kernel), List.mem_of_getElem? (i := 912) (by decide +kernel)⟩
theorem lw_p45 : lw_okq (⟨"EdgeMovesModel", "bad", "()I"⟩, 28) := ⟨⟨by decide +kernel, by decide +kernel⟩, List.mem_of_getElem? (i := 800) (by decide +kernel), List.mem_of_getElem? (i := 930) (by decide +kernel), List.mem_of_getElem? (i := 931) (by decide +kernel)⟩
theorem lw_p46 : lw_okq (⟨"EdgeMovesModel", "isTaken", "(II)Z"⟩, 28) := ⟨⟨by decide +kernel, by decide +kernel⟩, List.mem_of_getElem? (i := 800) (by decide +kernel), List.mem_of_getElem? (i := 934) (by decide +kernel), List.mem_of_getElem? (i := 935) (by decide +kernel)⟩
theorem lw_p47 : lw_okq (⟨"EdgeMovesModel", "no", "()I"⟩, 28) := ⟨⟨by decide +kernel, by decide +kernel⟩, List.mem_of_getElem? (i := 800) (by decide +kernel), List.mem_of_getElem? (i := 941) (by decide +kernel), List.mem_of_getElem? (i := 942) (by decide +kernel)⟩
def lw_privs_3 : List (MethodName × Nat) := [(⟨"EdgeMoves$Plan", "isSame", "(ILEdgeMoves$Plan;I)Z"⟩, 10), (⟨"EdgeMoves$Memory", "put", "(II)V"⟩, 2), (⟨"EdgeMoves$Memory", "copy", "([III)V"⟩, 2), (⟨"EdgeMoves$Memory", "exchange", "(II)V"⟩, 2), (⟨"EdgeMoves", "shareOfWhole", "(II)I"⟩, 14), (⟨"EdgeMoves", "weighedPrice", "(I)I"⟩, 14), (⟨"EdgeMoves", "goOneFurther", "(I)V"⟩, 14), (⟨"EdgeMoves", "drawBlock", "(I)V"⟩, 14), (⟨"EdgeMoves", "drawEdge", "()V"⟩, 14), (⟨"EdgeMoves", "standing", "(I)I"⟩, 14), (⟨"EdgeMovesModel", "full", "()I"⟩, 28), (⟨"EdgeMovesModel", "newBlock", "()I"⟩, 28), (⟨"EdgeMovesModel", "isBlock", "(I)Z"⟩, 28), (⟨"EdgeMovesModel", "bad", "()I"⟩, 28), (⟨"EdgeMovesModel", "isTaken", "(II)Z"⟩, 28), (⟨"EdgeMovesModel", "no", "()I"⟩, 28)]
theorem lw_r3 : ∀ q ∈ lw_privs_3, lw_okq q := List.forall_mem_cons.mpr ⟨lw_p32, List.forall_mem_cons.mpr ⟨lw_p33, List.forall_mem_cons.mpr ⟨lw_p34, List.forall_mem_cons.mpr ⟨lw_p35, List.forall_mem_cons.mpr ⟨lw_p36, List.forall_mem_cons.mpr ⟨lw_p37, List.forall_mem_cons.mpr ⟨lw_p38, List.forall_mem_cons.mpr ⟨lw_p39, List.forall_mem_cons.mpr ⟨lw_p40, List.forall_mem_cons.mpr ⟨lw_p41, List.forall_mem_cons.mpr ⟨lw_p42, List.forall_mem_cons.mpr ⟨lw_p43, List.forall_mem_cons.mpr ⟨lw_p44, List.forall_mem_cons.mpr ⟨lw_p45, List.forall_mem_cons.mpr ⟨lw_p46, List.forall_mem_cons.mpr ⟨lw_p47, fun _ h => absurd h List.not_mem_nil⟩⟩⟩⟩⟩⟩⟩⟩⟩⟩⟩⟩⟩⟩⟩⟩
theorem lw_p48 : lw_okq (⟨"EdgeMovesModel", "newParameter", "(II)I"⟩, 28) := ⟨⟨by decide +kernel, by decide +kernel⟩, List.mem_of_getElem? (i := 800) (by decide +kernel), List.mem_of_getElem? (i := 945) (by decide +kernel), List.mem_of_getElem? (i := 946) (by decide +kernel)⟩
theorem lw_p49 : lw_okq (⟨"EdgeMovesModel", "newEdge", "(III)I"⟩, 28) := ⟨⟨by decide +kernel, by decide +kernel⟩, List.mem_of_getElem? (i := 800) (by decide +kernel), List.mem_of_getElem? (i := 953) (by decide +kernel), List.mem_of_getElem? (i := 954) (by decide +kernel)⟩
theorem lw_p50 : lw_okq (⟨"EdgeMovesModel", "isEdge", "(I)Z"⟩, 28) := ⟨⟨by decide +kernel, by decide +kernel⟩, List.mem_of_getElem? (i := 800) (by decide +kernel), List.mem_of_getElem? (i := 961) (by decide +kernel), List.mem_of_getElem? (i := 962) (by decide +kernel)⟩
theorem lw_p51 : lw_okq (⟨"EdgeMovesModel", "manyOf", "(I)I"⟩, 28) := ⟨⟨by decide +kernel, by decide +kernel⟩, List.mem_of_getElem? (i := 800) (by decide +kernel), List.mem_of_getElem? (i := 965) (by decide +kernel), List.mem_of_getElem? (i := 966) (by decide +kernel)⟩
theorem lw_p52 : lw_okq (⟨"EdgeMovesModel", "mayBeGiven", "(III)Z"⟩, 28) := ⟨⟨by decide +kernel, by decide +kernel⟩, List.mem_of_getElem? (i := 800) (by decide +kernel), List.mem_of_getElem? (i := 969) (by decide +kernel), List.mem_of_getElem? (i := 970) (by decide +kernel)⟩
theorem lw_p53 : lw_okq (⟨"EdgeMovesModel", "parameterOf", "(II)I"⟩, 28) := ⟨⟨by decide +kernel, by decide +kernel⟩, List.mem_of_getElem? (i := 800) (by decide +kernel), List.mem_of_getElem? (i := 973) (by decide +kernel), List.mem_of_getElem? (i := 974) (by decide +kernel)⟩
theorem lw_p54 : lw_okq (⟨"EdgeMovesModel", "givenOf", "(II)I"⟩, 28) := ⟨⟨by decide +kernel, by decide +kernel⟩, List.mem_of_getElem? (i := 800) (by decide +kernel), List.mem_of_getElem? (i := 977) (by decide +kernel), List.mem_of_getElem? (i := 978) (by decide +kernel)⟩
theorem lw_p55 : lw_okq (⟨"EdgeMovesModel", "isClear", "(I)Z"⟩, 28) := ⟨⟨by decide +kernel, by decide +kernel⟩, List.mem_of_getElem? (i := 800) (by decide +kernel), List.mem_of_getElem? (i := 993) (by decide +kernel), List.mem_of_getElem? (i := 994) (by decide +kernel)⟩
theorem lw_p56 : lw_okq (⟨"EdgeMovesModel", "moves", "(II)Z"⟩, 28) := ⟨⟨by decide +kernel, by decide +kernel⟩, List.mem_of_getElem? (i := 800) (by decide +kernel), List.mem_of_getElem? (i := 997) (by decide +kernel), List.mem_of_getElem? (i := 998) (by decide +kernel)⟩
theorem lw_p57 : lw_okq (⟨"EdgeMovesModel", "isAcross", "(II)Z"⟩, 28) := ⟨⟨by decide +kernel, by decide +kernel⟩, List.mem_of_getElem? (i := 800) (by decide +kernel), List.mem_of_getElem? (i := 1001) (by decide +kernel), List.mem_of_getElem? (i := 1002) (by decide +kernel)⟩
theorem lw_p58 : lw_okq (⟨"EdgeMovesModel", "whereOf", "(I)I"⟩, 28) := ⟨⟨by decide +kernel, by decide +kernel⟩, List.mem_of_getElem? (i := 800) (by decide +kernel), List.mem_of_getElem? (i := 1008) (by decide +kernel), List.mem_of_getElem? (i := 1009) (by decide +kernel)⟩
theorem lw_p59 : lw_okq (⟨"EdgeMovesModel", "edgesFrom", "(I)I"⟩, 28) := ⟨⟨by decide +kernel, by decide +kernel⟩, List.mem_of_getElem? (i := 800) (by decide +kernel), List.mem_of_getElem? (i := 1012) (by decide +kernel), List.mem_of_getElem? (i := 1013) (by decide +kernel)⟩
theorem lw_p60 : lw_okq (⟨"EdgeMovesModel", "edgesTo", "(I)I"⟩, 28) := ⟨⟨by decide +kernel, by decide +kernel⟩, List.mem_of_getElem? (i := 800) (by decide +kernel), List.mem_of_getElem? (i := 1016) (by decide +kernel), List.mem_of_getElem? (i := 1017) (by decide +kernel)⟩
theorem lw_p61 : lw_okq (⟨"EdgeMovesModel", "setSteps", "(II)V"⟩, 28) := ⟨⟨by decide +kernel, by decide +kernel⟩, List.mem_of_getElem? (i := 800) (by decide +kernel), List.mem_of_getElem? (i := 1036) (by decide +kernel), List.mem_of_getElem? (i := 1037) (by decide +kernel)⟩
theorem lw_p62 : lw_okq (⟨"EdgeMovesModel", "setOpen", "(I)V"⟩, 28) := ⟨⟨by decide +kernel, by decide +kernel⟩, List.mem_of_getElem? (i := 800) (by decide +kernel), List.mem_of_getElem? (i := 1040) (by decide +kernel), List.mem_of_getElem? (i := 1041) (by decide +kernel)⟩
theorem lw_p63 : lw_okq (⟨"EdgeMovesModel", "openMany", "(I)I"⟩, 28) := ⟨⟨by decide +kernel, by decide +kernel⟩, List.mem_of_getElem? (i := 800) (by decide +kernel), List.mem_of_getElem? (i := 1044) (by decide +kernel), List.mem_of_getElem? (i := 1045) (by decide +kernel)⟩
def lw_privs_4 : List (MethodName × Nat) := [(⟨"EdgeMovesModel", "newParameter", "(II)I"⟩, 28), (⟨"EdgeMovesModel", "newEdge", "(III)I"⟩, 28), (⟨"EdgeMovesModel", "isEdge", "(I)Z"⟩, 28), (⟨"EdgeMovesModel", "manyOf", "(I)I"⟩, 28), (⟨"EdgeMovesModel", "mayBeGiven", "(III)Z"⟩, 28), (⟨"EdgeMovesModel", "parameterOf", "(II)I"⟩, 28), (⟨"EdgeMovesModel", "givenOf", "(II)I"⟩, 28), (⟨"EdgeMovesModel", "isClear", "(I)Z"⟩, 28), (⟨"EdgeMovesModel", "moves", "(II)Z"⟩, 28), (⟨"EdgeMovesModel", "isAcross", "(II)Z"⟩, 28), (⟨"EdgeMovesModel", "whereOf", "(I)I"⟩, 28), (⟨"EdgeMovesModel", "edgesFrom", "(I)I"⟩, 28), (⟨"EdgeMovesModel", "edgesTo", "(I)I"⟩, 28), (⟨"EdgeMovesModel", "setSteps", "(II)V"⟩, 28), (⟨"EdgeMovesModel", "setOpen", "(I)V"⟩, 28), (⟨"EdgeMovesModel", "openMany", "(I)I"⟩, 28)]
theorem lw_r4 : ∀ q ∈ lw_privs_4, lw_okq q := List.forall_mem_cons.mpr ⟨lw_p48, List.forall_mem_cons.mpr ⟨lw_p49, List.forall_mem_cons.mpr ⟨lw_p50, List.forall_mem_cons.mpr ⟨lw_p51, List.forall_mem_cons.mpr ⟨lw_p52, List.forall_mem_cons.mpr ⟨lw_p53, List.forall_mem_cons.mpr ⟨lw_p54, List.forall_mem_cons.mpr ⟨lw_p55, List.forall_mem_cons.mpr ⟨lw_p56, List.forall_mem_cons.mpr ⟨lw_p57, List.forall_mem_cons.mpr ⟨lw_p58, List.forall_mem_cons.mpr ⟨lw_p59, List.forall_mem_cons.mpr ⟨lw_p60, List.forall_mem_cons.mpr ⟨lw_p61, List.forall_mem_cons.mpr ⟨lw_p62, List.forall_mem_cons.mpr ⟨lw_p63, fun _ h => absurd h List.not_mem_nil⟩⟩⟩⟩⟩⟩⟩⟩⟩⟩⟩⟩⟩⟩⟩⟩
theorem lw_p64 : lw_okq (⟨"EdgeMovesModel", "leastOpen", "(IZ)I"⟩, 28) := ⟨⟨by decide +kernel, by decide +kernel⟩, List.mem_of_getElem? (i := 800) (by decide +kernel), List.mem_of_getElem? (i := 1048) (by decide +kernel), List.mem_of_getElem? (i := 1049) (by decide +kernel)⟩
theorem lw_p65 : lw_okq (⟨"EdgeMovesModel", "isWanted", "(II)Z"⟩, 28) := ⟨⟨by decide +kernel, by decide +kernel⟩, List.mem_of_getElem? (i := 800) (by decide +kernel), List.mem_of_getElem? (i := 1052) (by decide +kernel), List.mem_of_getElem? (i := 1053) (by decide +kernel)⟩
theorem lw_p66 : lw_okq (⟨"EdgeMovesModel", "breaks", "(III)V"⟩, 28) := ⟨⟨by decide +kernel, by decide +kernel⟩, List.mem_of_getElem? (i := 800) (by decide +kernel), List.mem_of_getElem? (i := 1056) (by decide +kernel), List.mem_of_getElem? (i := 1057) (by decide +kernel)⟩
theorem lw_p67 : lw_okq (⟨"EdgeMovesModel", "whoHas", "(II)I"⟩, 28) := ⟨⟨by decide +kernel, by decide +kernel⟩, List.mem_of_getElem? (i := 800) (by decide +kernel), List.mem_of_getElem? (i := 1060) (by decide +kernel), List.mem_of_getElem? (i := 1061) (by decide +kernel)⟩
theorem lw_p68 : lw_okq (⟨"EdgeMovesModel", "comes", "(III)V"⟩, 28) := ⟨⟨by decide +kernel, by decide +kernel⟩, List.mem_of_getElem? (i := 800) (by decide +kernel), List.mem_of_getElem? (i := 1070) (by decide +kernel), List.mem_of_getElem? (i := 1071) (by decide +kernel)⟩
theorem lw_p69 : lw_okq (⟨"EdgeMovesModel", "lies", "(III)V"⟩, 28) := ⟨⟨by decide +kernel, by decide +kernel⟩, List.mem_of_getElem? (i := 800) (by decide +kernel), List.mem_of_getElem? (i := 1074) (by decide +kernel), List.mem_of_getElem? (i := 1075) (by decide +kernel)⟩
theorem lw_p70 : lw_okq (⟨"EdgeMovesModel", "movesTo", "(II)V"⟩, 28) := ⟨⟨by decide +kernel, by decide +kernel⟩, List.mem_of_getElem? (i := 800) (by decide +kernel), List.mem_of_getElem? (i := 1078) (by decide +kernel), List.mem_of_getElem? (i := 1079) (by decide +kernel)⟩
theorem lw_p71 : lw_okq (⟨"EdgeMovesModel", "counted", "(I)I"⟩, 28) := ⟨⟨by decide +kernel, by decide +kernel⟩, List.mem_of_getElem? (i := 800) (by decide +kernel), List.mem_of_getElem? (i := 1082) (by decide +kernel), List.mem_of_getElem? (i := 1083) (by decide +kernel)⟩
theorem lw_p72 : lw_okq (⟨"EdgeMovesModel", "costBy", "(II)I"⟩, 28) := ⟨⟨by decide +kernel, by decide +kernel⟩, List.mem_of_getElem? (i := 800) (by decide +kernel), List.mem_of_getElem? (i := 1094) (by decide +kernel), List.mem_of_getElem? (i := 1095) (by decide +kernel)⟩
theorem lw_p73 : lw_okq (⟨"EdgeMovesModel", "ringOf", "(II)I"⟩, 28) := ⟨⟨by decide +kernel, by decide +kernel⟩, List.mem_of_getElem? (i := 800) (by decide +kernel), List.mem_of_getElem? (i := 1102) (by decide +kernel), List.mem_of_getElem? (i := 1103) (by decide +kernel)⟩
theorem lw_p74 : lw_okq (⟨"EdgeMovesModel", "wantedTimes", "(II)I"⟩, 28) := ⟨⟨by decide +kernel, by decide +kernel⟩, List.mem_of_getElem? (i := 800) (by decide +kernel), List.mem_of_getElem? (i := 1106) (by decide +kernel), List.mem_of_getElem? (i := 1107) (by decide +kernel)⟩
theorem lw_p75 : lw_okq (⟨"EdgeMovesModel", "asOther", "()V"⟩, 28) := ⟨⟨by decide +kernel, by decide +kernel⟩, List.mem_of_getElem? (i := 800) (by decide +kernel), List.mem_of_getElem? (i := 1123) (by decide +kernel), List.mem_of_getElem? (i := 1124) (by decide +kernel)⟩
theorem lw_p76 : lw_okq (⟨"EdgeMovesModel", "sameBack", "()I"⟩, 28) := ⟨⟨by decide +kernel, by decide +kernel⟩, List.mem_of_getElem? (i := 800) (by decide +kernel), List.mem_of_getElem? (i := 1127) (by decide +kernel), List.mem_of_getElem? (i := 1128) (by decide +kernel)⟩
theorem lw_p77 : lw_okq (⟨"EdgeMovesModel", "handsOver", "(I)V"⟩, 28) := ⟨⟨by decide +kernel, by decide +kernel⟩, List.mem_of_getElem? (i := 800) (by decide +kernel), List.mem_of_getElem? (i := 1144) (by decide +kernel), List.mem_of_getElem? (i := 1145) (by decide +kernel)⟩
theorem lw_p78 : lw_okq (⟨"EdgeMovesModel", "puts", "(II)V"⟩, 28) := ⟨⟨by decide +kernel, by decide +kernel⟩, List.mem_of_getElem? (i := 800) (by decide +kernel), List.mem_of_getElem? (i := 1148) (by decide +kernel), List.mem_of_getElem? (i := 1149) (by decide +kernel)⟩
theorem lw_p79 : lw_okq (⟨"EdgeMovesModel", "stepsOn", "(I)V"⟩, 28) := ⟨⟨by decide +kernel, by decide +kernel⟩, List.mem_of_getElem? (i := 800) (by decide +kernel), List.mem_of_getElem? (i := 1152) (by decide +kernel), List.mem_of_getElem? (i := 1153) (by decide +kernel)⟩
def lw_privs_5 : List (MethodName × Nat) := [(⟨"EdgeMovesModel", "leastOpen", "(IZ)I"⟩, 28), (⟨"EdgeMovesModel", "isWanted", "(II)Z"⟩, 28), (⟨"EdgeMovesModel", "breaks", "(III)V"⟩, 28), (⟨"EdgeMovesModel", "whoHas", "(II)I"⟩, 28), (⟨"EdgeMovesModel", "comes", "(III)V"⟩, 28), (⟨"EdgeMovesModel", "lies", "(III)V"⟩, 28), (⟨"EdgeMovesModel", "movesTo", "(II)V"⟩, 28), (⟨"EdgeMovesModel", "counted", "(I)I"⟩, 28), (⟨"EdgeMovesModel", "costBy", "(II)I"⟩, 28), (⟨"EdgeMovesModel", "ringOf", "(II)I"⟩, 28), (⟨"EdgeMovesModel", "wantedTimes", "(II)I"⟩, 28), (⟨"EdgeMovesModel", "asOther", "()V"⟩, 28), (⟨"EdgeMovesModel", "sameBack", "()I"⟩, 28), (⟨"EdgeMovesModel", "handsOver", "(I)V"⟩, 28), (⟨"EdgeMovesModel", "puts", "(II)V"⟩, 28), (⟨"EdgeMovesModel", "stepsOn", "(I)V"⟩, 28)]
theorem lw_r5 : ∀ q ∈ lw_privs_5, lw_okq q := List.forall_mem_cons.mpr ⟨lw_p64, List.forall_mem_cons.mpr ⟨lw_p65, List.forall_mem_cons.mpr ⟨lw_p66, List.forall_mem_cons.mpr ⟨lw_p67, List.forall_mem_cons.mpr ⟨lw_p68, List.forall_mem_cons.mpr ⟨lw_p69, List.forall_mem_cons.mpr ⟨lw_p70, List.forall_mem_cons.mpr ⟨lw_p71, List.forall_mem_cons.mpr ⟨lw_p72, List.forall_mem_cons.mpr ⟨lw_p73, List.forall_mem_cons.mpr ⟨lw_p74, List.forall_mem_cons.mpr ⟨lw_p75, List.forall_mem_cons.mpr ⟨lw_p76, List.forall_mem_cons.mpr ⟨lw_p77, List.forall_mem_cons.mpr ⟨lw_p78, List.forall_mem_cons.mpr ⟨lw_p79, fun _ h => absurd h List.not_mem_nil⟩⟩⟩⟩⟩⟩⟩⟩⟩⟩⟩⟩⟩⟩⟩⟩
theorem lw_p80 : lw_okq (⟨"EdgeMovesModel", "tells", "(I)I"⟩, 28) := ⟨⟨by decide +kernel, by decide +kernel⟩, List.mem_of_getElem? (i := 800) (by decide +kernel), List.mem_of_getElem? (i := 1184) (by decide +kernel), List.mem_of_getElem? (i := 1185) (by decide +kernel)⟩
theorem lw_p81 : lw_okq (⟨"EdgeMovesModel", "lays", "()V"⟩, 28) := ⟨⟨by decide +kernel, by decide +kernel⟩, List.mem_of_getElem? (i := 800) (by decide +kernel), List.mem_of_getElem? (i := 1205) (by decide +kernel), List.mem_of_getElem? (i := 1206) (by decide +kernel)⟩
theorem lw_p82 : lw_okq (⟨"EdgeMovesModel", "readsAll", "()I"⟩, 28) := ⟨⟨by decide +kernel, by decide +kernel⟩, List.mem_of_getElem? (i := 800) (by decide +kernel), List.mem_of_getElem? (i := 1209) (by decide +kernel), List.mem_of_getElem? (i := 1210) (by decide +kernel)⟩
theorem lw_p83 : lw_okq (⟨"EdgeMovesModel", "skip", "()V"⟩, 28) := ⟨⟨by decide +kernel, by decide +kernel⟩, List.mem_of_getElem? (i := 800) (by decide +kernel), List.mem_of_getElem? (i := 1213) (by decide +kernel), List.mem_of_getElem? (i := 1214) (by decide +kernel)⟩
theorem lw_p84 : lw_okq (⟨"EdgeMovesModel", "here", "()I"⟩, 28) := ⟨⟨by decide +kernel, by decide +kernel⟩, List.mem_of_getElem? (i := 800) (by decide +kernel), List.mem_of_getElem? (i := 1217) (by decide +kernel), List.mem_of_getElem? (i := 1218) (by decide +kernel)⟩
theorem lw_p85 : lw_okq (⟨"EdgeMovesModel", "readsBlock", "()Z"⟩, 28) := ⟨⟨by decide +kernel, by decide +kernel⟩, List.mem_of_getElem? (i := 800) (by decide +kernel), List.mem_of_getElem? (i := 1221) (by decide +kernel), List.mem_of_getElem? (i := 1222) (by decide +kernel)⟩
theorem lw_p86 : lw_okq (⟨"EdgeMovesModel", "number", "(II)Z"⟩, 28) := ⟨⟨by decide +kernel, by decide +kernel⟩, List.mem_of_getElem? (i := 800) (by decide +kernel), List.mem_of_getElem? (i := 1228) (by decide +kernel), List.mem_of_getElem? (i := 1229) (by decide +kernel)⟩
theorem lw_p87 : lw_okq (⟨"EdgeMovesModel", "figures", "(I)I"⟩, 28) := ⟨⟨by decide +kernel, by decide +kernel⟩, List.mem_of_getElem? (i := 800) (by decide +kernel), List.mem_of_getElem? (i := 1232) (by decide +kernel), List.mem_of_getElem? (i := 1233) (by decide +kernel)⟩
theorem lw_p88 : lw_okq (⟨"EdgeMovesModel", "ends", "()Z"⟩, 28) := ⟨⟨by decide +kernel, by decide +kernel⟩, List.mem_of_getElem? (i := 800) (by decide +kernel), List.mem_of_getElem? (i := 1236) (by decide +kernel), List.mem_of_getElem? (i := 1237) (by decide +kernel)⟩
theorem lw_p89 : lw_okq (⟨"EdgeMovesModel", "readsEdge", "()Z"⟩, 28) := ⟨⟨by decide +kernel, by decide +kernel⟩, List.mem_of_getElem? (i := 800) (by decide +kernel), List.mem_of_getElem? (i := 1240) (by decide +kernel), List.mem_of_getElem? (i := 1241) (by decide +kernel)⟩
theorem lw_p90 : lw_okq (⟨"EdgeMovesModel", "readsGiven", "(II)Z"⟩, 28) := ⟨⟨by decide +kernel, by decide +kernel⟩, List.mem_of_getElem? (i := 800) (by decide +kernel), List.mem_of_getElem? (i := 1244) (by decide +kernel), List.mem_of_getElem? (i := 1245) (by decide +kernel)⟩
theorem lw_p91 : lw_okq (⟨"EdgeMovesModel", "readsConstant", "()I"⟩, 28) := ⟨⟨by decide +kernel, by decide +kernel⟩, List.mem_of_getElem? (i := 800) (by decide +kernel), List.mem_of_getElem? (i := 1248) (by decide +kernel), List.mem_of_getElem? (i := 1249) (by decide +kernel)⟩
theorem lw_p92 : lw_okq (⟨"EdgeMovesModel", "takes", "()V"⟩, 28) := ⟨⟨by decide +kernel, by decide +kernel⟩, List.mem_of_getElem? (i := 800) (by decide +kernel), List.mem_of_getElem? (i := 1252) (by decide +kernel), List.mem_of_getElem? (i := 1253) (by decide +kernel)⟩
def lw_privs_6 : List (MethodName × Nat) := [(⟨"EdgeMovesModel", "tells", "(I)I"⟩, 28), (⟨"EdgeMovesModel", "lays", "()V"⟩, 28), (⟨"EdgeMovesModel", "readsAll", "()I"⟩, 28), (⟨"EdgeMovesModel", "skip", "()V"⟩, 28), (⟨"EdgeMovesModel", "here", "()I"⟩, 28), (⟨"EdgeMovesModel", "readsBlock", "()Z"⟩, 28), (⟨"EdgeMovesModel", "number", "(II)Z"⟩, 28), (⟨"EdgeMovesModel", "figures", "(I)I"⟩, 28), (⟨"EdgeMovesModel", "ends", "()Z"⟩, 28), (⟨"EdgeMovesModel", "readsEdge", "()Z"⟩, 28), (⟨"EdgeMovesModel", "readsGiven", "(II)Z"⟩, 28), (⟨"EdgeMovesModel", "readsConstant", "()I"⟩, 28), (⟨"EdgeMovesModel", "takes", "()V"⟩, 28)]
theorem lw_r6 : ∀ q ∈ lw_privs_6, lw_okq q := List.forall_mem_cons.mpr ⟨lw_p80, List.forall_mem_cons.mpr ⟨lw_p81, List.forall_mem_cons.mpr ⟨lw_p82, List.forall_mem_cons.mpr ⟨lw_p83, List.forall_mem_cons.mpr ⟨lw_p84, List.forall_mem_cons.mpr ⟨lw_p85, List.forall_mem_cons.mpr ⟨lw_p86, List.forall_mem_cons.mpr ⟨lw_p87, List.forall_mem_cons.mpr ⟨lw_p88, List.forall_mem_cons.mpr ⟨lw_p89, List.forall_mem_cons.mpr ⟨lw_p90, List.forall_mem_cons.mpr ⟨lw_p91, List.forall_mem_cons.mpr ⟨lw_p92, fun _ h => absurd h List.not_mem_nil⟩⟩⟩⟩⟩⟩⟩⟩⟩⟩⟩⟩⟩
def lw_privs : List (MethodName × Nat) := lw_privs_1 ++ (lw_privs_2 ++ (lw_privs_3 ++ (lw_privs_4 ++ (lw_privs_5 ++ (lw_privs_6)))))
def lw_tbl : List Cond := k2_sels lw_privs ++ tables_1
theorem lw_privs_ok : ∀ q ∈ lw_privs, lw_okq q := by
  show ∀ q ∈ lw_privs_1 ++ (lw_privs_2 ++ (lw_privs_3 ++ (lw_privs_4 ++ (lw_privs_5 ++ (lw_privs_6))))), lw_okq q
  exact List.forall_mem_append.mpr ⟨lw_r1, List.forall_mem_append.mpr ⟨lw_r2, List.forall_mem_append.mpr ⟨lw_r3, List.forall_mem_append.mpr ⟨lw_r4, List.forall_mem_append.mpr ⟨lw_r5, lw_r6⟩⟩⟩⟩⟩
-- ===== end of PART A; then your names; then what follows =====
end
section
/-! ===== BEGIN words of one list among another's, by their places ===== -/
theorem goodIn_r {big : List Cond} (ws : List Cond) (ps : List Nat) (hp : ws = ps.filterMap (fun i => big[i]?)) (h : ws.all goodWord = true) : GoodIn big ws := by
  intro w hw
  have h1 := List.all_eq_true.mp h w hw
  rw [hp] at hw
  obtain ⟨i, -, hi⟩ := List.mem_filterMap.mp hw
  have hm : w ∈ big := by first | exact List.mem_of_getElem? hi | exact List.getElem?_mem hi
  exact ⟨hm, good_of_word h1⟩
theorem goodIn_app {big a b : List Cond} (ha : GoodIn big a) (hb : GoodIn big b) : GoodIn big (a ++ b) := fun w h => (List.mem_append.mp h).elim (ha w) (hb w)
theorem goodIn_ca {big a b : List Cond} {c : Cond} (ha : GoodIn big (c :: a)) (hb : GoodIn big b) : GoodIn big (c :: (a ++ b)) := fun w h => (List.mem_cons.mp h).elim (fun e => ha w (List.mem_cons.mpr (Or.inl e))) (fun h => (List.mem_append.mp h).elim (fun h => ha w (List.mem_cons.mpr (Or.inr h))) (hb w))
theorem goodIn_sub {big ws : List Cond} (hm : ∀ w ∈ ws, w ∈ big) (h : ws.all goodWord = true) : GoodIn big ws := fun w hw => ⟨hm w hw, good_of_word (List.all_eq_true.mp h w hw)⟩
/-! ===== END ===== -/

/-! ===== BEGIN printed: names, fields, word lists, decode rows ===== -/
def RX0 : String := "EdgeMoves$Block"
def TX0 : u_T := fun k => match k with
  | 0 => ("EdgeMoves$Block", "parameters", "[I", true)
  | _ => ("EdgeMoves$Block", "count", "I", false)
def tyX0 : Nat → FieldType := fun k => match k with
  | 0 => .array .int
  | _ => .int
abbrev wsX00 : List Cond := u_ws RX0 TX0 2
theorem nmX0 : ∀ a, a < 2 → ∀ b, b < 2 → a ≠ b → (TX0 a).2.1 ≠ (TX0 b).2.1 := by decide +kernel
theorem tyX0_ok : ∀ k, k < 2 → parseFieldDescriptor (TX0 k).2.2.1 = some (tyX0 k) := by decide +kernel
abbrev cX0_init : ByteArray := prog_2_method_1_code
def yX0_init : MethodName := ⟨RX0, "<init>", "()V"⟩
abbrev cX0_hasRoomAt : ByteArray := prog_2_method_2_code
def yX0_hasRoomAt : MethodName := ⟨RX0, "hasRoomAt", "(I)Z"⟩
abbrev cX0_mix : ByteArray := prog_2_method_3_code
def yX0_mix : MethodName := ⟨RX0, "mix", "(J)J"⟩
def RX1 : String := "EdgeMoves$Dice"
def TX1 : u_T := fun k => match k with
  | _ => ("EdgeMoves$Dice", "x", "J", false)
def tyX1 : Nat → FieldType := fun k => match k with
  | _ => .long
abbrev wsX10 : List Cond := u_ws RX1 TX1 1
theorem nmX1 : ∀ a, a < 1 → ∀ b, b < 1 → a ≠ b → (TX1 a).2.1 ≠ (TX1 b).2.1 := by decide +kernel
theorem tyX1_ok : ∀ k, k < 1 → parseFieldDescriptor (TX1 k).2.2.1 = some (tyX1 k) := by decide +kernel
abbrev cX1_init : ByteArray := prog_3_method_1_code
def yX1_init : MethodName := ⟨RX1, "<init>", "()V"⟩
abbrev cX1_start : ByteArray := prog_3_method_2_code
def yX1_start : MethodName := ⟨RX1, "start", "(I)V"⟩
abbrev cX1_nextBelow : ByteArray := prog_3_method_3_code
def yX1_nextBelow : MethodName := ⟨RX1, "nextBelow", "(I)I"⟩
def RX2 : String := "EdgeMoves$Edge"
def TX2 : u_T := fun k => match k with
  | 0 => ("EdgeMoves$Edge", "arguments", "[I", true)
  | 1 => ("EdgeMoves$Edge", "from", "I", false)
  | 2 => ("EdgeMoves$Edge", "to", "I", false)
  | _ => ("EdgeMoves$Edge", "load", "I", false)
def tyX2 : Nat → FieldType := fun k => match k with
  | 0 => .array .int
  | 1 => .int
  | 2 => .int
  | _ => .int
abbrev wsX20 : List Cond := u_ws RX2 TX2 4
theorem nmX2 : ∀ a, a < 4 → ∀ b, b < 4 → a ≠ b → (TX2 a).2.1 ≠ (TX2 b).2.1 := by decide +kernel
theorem tyX2_ok : ∀ k, k < 4 → parseFieldDescriptor (TX2 k).2.2.1 = some (tyX2 k) := by decide +kernel
abbrev cX2_init : ByteArray := prog_4_method_1_code
def yX2_init : MethodName := ⟨RX2, "<init>", "()V"⟩
abbrev cX2_mix : ByteArray := prog_4_method_2_code
def yX2_mix : MethodName := ⟨RX2, "mix", "(JI)J"⟩
def RX3 : String := "EdgeMoves$Graph"
def TX3 : u_T := fun k => match k with
  | 0 => ("EdgeMoves$Graph", "blocks", "[LEdgeMoves$Block;", true)
  | 1 => ("EdgeMoves$Graph", "edges", "[LEdgeMoves$Edge;", true)
  | 2 => ("EdgeMoves$Graph", "blockCount", "I", false)
  | _ => ("EdgeMoves$Graph", "edgeCount", "I", false)
def tyX3 : Nat → FieldType := fun k => match k with
  | 0 => .array (.object "EdgeMoves$Block")
  | 1 => .array (.object "EdgeMoves$Edge")
  | 2 => .int
  | _ => .int
abbrev wsX30 : List Cond := u_ws RX3 TX3 4
theorem nmX3 : ∀ a, a < 4 → ∀ b, b < 4 → a ≠ b → (TX3 a).2.1 ≠ (TX3 b).2.1 := by decide +kernel
theorem tyX3_ok : ∀ k, k < 4 → parseFieldDescriptor (TX3 k).2.2.1 = some (tyX3 k) := by decide +kernel
abbrev cX3_init : ByteArray := prog_5_method_1_code
def yX3_init : MethodName := ⟨RX3, "<init>", "()V"⟩
abbrev cX3_removeAll : ByteArray := prog_5_method_2_code
def yX3_removeAll : MethodName := ⟨RX3, "removeAll", "()V"⟩
abbrev cX3_hasBlock : ByteArray := prog_5_method_3_code
def yX3_hasBlock : MethodName := ⟨RX3, "hasBlock", "(I)Z"⟩
abbrev cX3_hasEdge : ByteArray := prog_5_method_4_code
def yX3_hasEdge : MethodName := ⟨RX3, "hasEdge", "(I)Z"⟩
abbrev cX3_goalOf : ByteArray := prog_5_method_5_code
def yX3_goalOf : MethodName := ⟨RX3, "goalOf", "(I)LEdgeMoves$Block;"⟩
abbrev cX3_addBlock : ByteArray := prog_5_method_6_code
def yX3_addBlock : MethodName := ⟨RX3, "addBlock", "()I"⟩
abbrev cX3_addParameter : ByteArray := prog_5_method_7_code
def yX3_addParameter : MethodName := ⟨RX3, "addParameter", "(II)I"⟩
abbrev cX3_addEdge : ByteArray := prog_5_method_8_code
def yX3_addEdge : MethodName := ⟨RX3, "addEdge", "(III)I"⟩
abbrev cX3_countFrom : ByteArray := prog_5_method_9_code
def yX3_countFrom : MethodName := ⟨RX3, "countFrom", "(I)I"⟩
abbrev cX3_countTo : ByteArray := prog_5_method_10_code
def yX3_countTo : MethodName := ⟨RX3, "countTo", "(I)I"⟩
abbrev cX3_whereStepsGo : ByteArray := prog_5_method_11_code
def yX3_whereStepsGo : MethodName := ⟨RX3, "whereStepsGo", "(I)I"⟩
def RX4 : String := "EdgeMoves$Handover"
def TX4 : u_T := fun k => match k with
  | 0 => ("EdgeMoves$Handover", "parameters", "[I", false)
  | 1 => ("EdgeMoves$Handover", "arguments", "[I", false)
  | _ => ("EdgeMoves$Handover", "count", "I", false)
def tyX4 : Nat → FieldType := fun k => match k with
  | 0 => .array .int
  | 1 => .array .int
  | _ => .int
abbrev wsX40 : List Cond := u_ws RX4 TX4 3
theorem nmX4 : ∀ a, a < 3 → ∀ b, b < 3 → a ≠ b → (TX4 a).2.1 ≠ (TX4 b).2.1 := by decide +kernel
theorem tyX4_ok : ∀ k, k < 3 → parseFieldDescriptor (TX4 k).2.2.1 = some (tyX4 k) := by decide +kernel
abbrev cX4_init : ByteArray := prog_6_method_1_code
def yX4_init : MethodName := ⟨RX4, "<init>", "()V"⟩
abbrev cX4_look : ByteArray := prog_6_method_2_code
def yX4_look : MethodName := ⟨RX4, "look", "(LEdgeMoves$Block;LEdgeMoves$Edge;)V"⟩
abbrev cX4_isSet : ByteArray := prog_6_method_3_code
def yX4_isSet : MethodName := ⟨RX4, "isSet", "(I)Z"⟩
abbrev cX4_isOpen : ByteArray := prog_6_method_4_code
def yX4_isOpen : MethodName := ⟨RX4, "isOpen", "(I)Z"⟩
abbrev cX4_involved : ByteArray := prog_6_method_5_code
def yX4_involved : MethodName := ⟨RX4, "involved", "(I)I"⟩
abbrev cX4_isClear : ByteArray := prog_6_method_6_code
def yX4_isClear : MethodName := ⟨RX4, "isClear", "()Z"⟩
abbrev cX4_touches : ByteArray := prog_6_method_7_code
def yX4_touches : MethodName := ⟨RX4, "touches", "(I)Z"⟩
abbrev cX4_openAt : ByteArray := prog_6_method_8_code
def yX4_openAt : MethodName := ⟨RX4, "openAt", "(I)I"⟩
abbrev cX4_countWanting : ByteArray := prog_6_method_9_code
def yX4_countWanting : MethodName := ⟨RX4, "countWanting", "(I)I"⟩
abbrev cX4_ringSize : ByteArray := prog_6_method_10_code
def yX4_ringSize : MethodName := ⟨RX4, "ringSize", "(I)I"⟩
abbrev cX4_countInRingsOf : ByteArray := prog_6_method_11_code
def yX4_countInRingsOf : MethodName := ⟨RX4, "countInRingsOf", "(I)I"⟩
abbrev cX4_countRings : ByteArray := prog_6_method_12_code
def yX4_countRings : MethodName := ⟨RX4, "countRings", "()I"⟩
abbrev cX4_longestRing : ByteArray := prog_6_method_13_code
def yX4_longestRing : MethodName := ⟨RX4, "longestRing", "()I"⟩
abbrev cX4_countOpenOutsideRings : ByteArray := prog_6_method_14_code
def yX4_countOpenOutsideRings : MethodName := ⟨RX4, "countOpenOutsideRings", "()I"⟩
def RX5 : String := "EdgeMoves$Memory"
def TX5 : u_T := fun k => match k with
  | 0 => ("EdgeMoves$Memory", "bytes", "[I", true)
  | _ => ("EdgeMoves$Memory", "ahead", "[I", true)
def tyX5 : Nat → FieldType := fun k => match k with
  | 0 => .array .int
  | _ => .array .int
abbrev wsX50 : List Cond := u_ws RX5 TX5 2
theorem nmX5 : ∀ a, a < 2 → ∀ b, b < 2 → a ≠ b → (TX5 a).2.1 ≠ (TX5 b).2.1 := by decide +kernel
theorem tyX5_ok : ∀ k, k < 2 → parseFieldDescriptor (TX5 k).2.2.1 = some (tyX5 k) := by decide +kernel
abbrev cX5_init : ByteArray := prog_7_method_1_code
def yX5_init : MethodName := ⟨RX5, "<init>", "()V"⟩
abbrev cX5_fillBy : ByteArray := prog_7_method_2_code
def yX5_fillBy : MethodName := ⟨RX5, "fillBy", "(LEdgeMoves$Dice;I)V"⟩
abbrev cX5_copy : ByteArray := prog_7_method_3_code
def yX5_copy : MethodName := ⟨RX5, "copy", "([III)V"⟩
abbrev cX5_put : ByteArray := prog_7_method_4_code
def yX5_put : MethodName := ⟨RX5, "put", "(II)V"⟩
abbrev cX5_exchange : ByteArray := prog_7_method_5_code
def yX5_exchange : MethodName := ⟨RX5, "exchange", "(II)V"⟩
abbrev cX5_handOver : ByteArray := prog_7_method_6_code
def yX5_handOver : MethodName := ⟨RX5, "handOver", "(LEdgeMoves$Block;LEdgeMoves$Edge;)V"⟩
abbrev cX5_follow : ByteArray := prog_7_method_7_code
def yX5_follow : MethodName := ⟨RX5, "follow", "(LEdgeMoves$Plan;)V"⟩
abbrev cX5_hash : ByteArray := prog_7_method_8_code
def yX5_hash : MethodName := ⟨RX5, "hash", "()J"⟩
def RX6 : String := "EdgeMoves$Plan"
def TX6 : u_T := fun k => match k with
  | 0 => ("EdgeMoves$Plan", "sorts", "[I", true)
  | 1 => ("EdgeMoves$Plan", "goals", "[I", true)
  | 2 => ("EdgeMoves$Plan", "sources", "[I", true)
  | 3 => ("EdgeMoves$Plan", "count", "I", false)
  | 4 => ("EdgeMoves$Plan", "kind", "I", false)
  | 5 => ("EdgeMoves$Plan", "parameters", "[I", false)
  | 6 => ("EdgeMoves$Plan", "parameterCount", "I", false)
  | 7 => ("EdgeMoves$Plan", "places", "[I", true)
  | 8 => ("EdgeMoves$Plan", "opens", "[Z", true)
  | _ => ("EdgeMoves$Plan", "openCount", "I", false)
def tyX6 : Nat → FieldType := fun k => match k with
  | 0 => .array .int
  | 1 => .array .int
  | 2 => .array .int
  | 3 => .int
  | 4 => .int
  | 5 => .array .int
  | 6 => .int
  | 7 => .array .int
  | 8 => .array .boolean
  | _ => .int
abbrev wsX60 : List Cond := u_ws RX6 TX6 10
theorem nmX6 : ∀ a, a < 10 → ∀ b, b < 10 → a ≠ b → (TX6 a).2.1 ≠ (TX6 b).2.1 := by decide +kernel
theorem tyX6_ok : ∀ k, k < 10 → parseFieldDescriptor (TX6 k).2.2.1 = some (tyX6 k) := by decide +kernel
abbrev cX6_init : ByteArray := prog_8_method_1_code
def yX6_init : MethodName := ⟨RX6, "<init>", "()V"⟩
abbrev cX6_make : ByteArray := prog_8_method_2_code
def yX6_make : MethodName := ⟨RX6, "make", "(LEdgeMoves$Handover;I)V"⟩
abbrev cX6_openAll : ByteArray := prog_8_method_3_code
def yX6_openAll : MethodName := ⟨RX6, "openAll", "(LEdgeMoves$Handover;)V"⟩
abbrev cX6_add : ByteArray := prog_8_method_4_code
def yX6_add : MethodName := ⟨RX6, "add", "(III)V"⟩
abbrev cX6_isWanted : ByteArray := prog_8_method_5_code
def yX6_isWanted : MethodName := ⟨RX6, "isWanted", "(I)Z"⟩
abbrev cX6_leastOpen : ByteArray := prog_8_method_6_code
def yX6_leastOpen : MethodName := ⟨RX6, "leastOpen", "(Z)I"⟩
abbrev cX6_close : ByteArray := prog_8_method_7_code
def yX6_close : MethodName := ⟨RX6, "close", "(I)V"⟩
abbrev cX6_moveWhatLies : ByteArray := prog_8_method_8_code
def yX6_moveWhatLies : MethodName := ⟨RX6, "moveWhatLies", "(II)V"⟩
abbrev cX6_moveTo : ByteArray := prog_8_method_9_code
def yX6_moveTo : MethodName := ⟨RX6, "moveTo", "(I)V"⟩
abbrev cX6_openAt : ByteArray := prog_8_method_10_code
def yX6_openAt : MethodName := ⟨RX6, "openAt", "(I)I"⟩
abbrev cX6_ringSize : ByteArray := prog_8_method_11_code
def yX6_ringSize : MethodName := ⟨RX6, "ringSize", "(I)I"⟩
abbrev cX6_breakRing : ByteArray := prog_8_method_12_code
def yX6_breakRing : MethodName := ⟨RX6, "breakRing", "(I)V"⟩
abbrev cX6_changeRing : ByteArray := prog_8_method_13_code
def yX6_changeRing : MethodName := ⟨RX6, "changeRing", "(II)V"⟩
abbrev cX6_addSettings : ByteArray := prog_8_method_14_code
def yX6_addSettings : MethodName := ⟨RX6, "addSettings", "(LEdgeMoves$Handover;)V"⟩
abbrev cX6_leastSetBehind : ByteArray := prog_8_method_15_code
def yX6_leastSetBehind : MethodName := ⟨RX6, "leastSetBehind", "(LEdgeMoves$Handover;I)I"⟩
abbrev cX6_countSort : ByteArray := prog_8_method_16_code
def yX6_countSort : MethodName := ⟨RX6, "countSort", "(I)I"⟩
abbrev cX6_countToSpare : ByteArray := prog_8_method_17_code
def yX6_countToSpare : MethodName := ⟨RX6, "countToSpare", "()I"⟩
abbrev cX6_price : ByteArray := prog_8_method_18_code
def yX6_price : MethodName := ⟨RX6, "price", "()I"⟩
abbrev cX6_countSameAtEnd : ByteArray := prog_8_method_19_code
def yX6_countSameAtEnd : MethodName := ⟨RX6, "countSameAtEnd", "(LEdgeMoves$Plan;)I"⟩
abbrev cX6_isSame : ByteArray := prog_8_method_20_code
def yX6_isSame : MethodName := ⟨RX6, "isSame", "(ILEdgeMoves$Plan;I)Z"⟩
def RX7 : String := "EdgeMoves$Prices"
def TX7 : u_T := fun k => match k with
  | _ => ("", "", "", false)
def tyX7 : Nat → FieldType := fun k => match k with
  | _ => .int
abbrev wsX70 : List Cond := u_ws RX7 TX7 0
theorem nmX7 : ∀ a, a < 0 → ∀ b, b < 0 → a ≠ b → (TX7 a).2.1 ≠ (TX7 b).2.1 := by decide +kernel
theorem tyX7_ok : ∀ k, k < 0 → parseFieldDescriptor (TX7 k).2.2.1 = some (tyX7 k) := by decide +kernel
abbrev cX7_move : ByteArray := prog_9_method_2_code
def yX7_move : MethodName := ⟨RX7, "move", "(II)I"⟩
abbrev cX7_change : ByteArray := prog_9_method_3_code
def yX7_change : MethodName := ⟨RX7, "change", "(II)I"⟩
abbrev cX7_isRingChanged : ByteArray := prog_9_method_4_code
def yX7_isRingChanged : MethodName := ⟨RX7, "isRingChanged", "(III)Z"⟩
def RX8 : String := "EdgeMoves$Reader"
def TX8 : u_T := fun k => match k with
  | 0 => ("EdgeMoves$Reader", "text", "LEdgeMoves$Text;", true)
  | 1 => ("EdgeMoves$Reader", "into", "LEdgeMoves$Graph;", false)
  | 2 => ("EdgeMoves$Reader", "place", "I", false)
  | _ => ("EdgeMoves$Reader", "fault", "I", false)
def tyX8 : Nat → FieldType := fun k => match k with
  | 0 => .object "EdgeMoves$Text"
  | 1 => .object "EdgeMoves$Graph"
  | 2 => .int
  | _ => .int
abbrev wsX80 : List Cond := u_ws RX8 TX8 4
theorem nmX8 : ∀ a, a < 4 → ∀ b, b < 4 → a ≠ b → (TX8 a).2.1 ≠ (TX8 b).2.1 := by decide +kernel
theorem tyX8_ok : ∀ k, k < 4 → parseFieldDescriptor (TX8 k).2.2.1 = some (tyX8 k) := by decide +kernel
abbrev cX8_init : ByteArray := prog_10_method_1_code
def yX8_init : MethodName := ⟨RX8, "<init>", "(LEdgeMoves$Text;)V"⟩
abbrev cX8_readInto : ByteArray := prog_10_method_2_code
def yX8_readInto : MethodName := ⟨RX8, "readInto", "(LEdgeMoves$Graph;)I"⟩
abbrev cX8_failAt : ByteArray := prog_10_method_3_code
def yX8_failAt : MethodName := ⟨RX8, "failAt", "(I)Z"⟩
abbrev cX8_nextByte : ByteArray := prog_10_method_4_code
def yX8_nextByte : MethodName := ⟨RX8, "nextByte", "()I"⟩
abbrev cX8_isFigure : ByteArray := prog_10_method_5_code
def yX8_isFigure : MethodName := ⟨RX8, "isFigure", "(I)Z"⟩
abbrev cX8_readNumber : ByteArray := prog_10_method_6_code
def yX8_readNumber : MethodName := ⟨RX8, "readNumber", "()I"⟩
abbrev cX8_readNumberBelow : ByteArray := prog_10_method_7_code
def yX8_readNumberBelow : MethodName := ⟨RX8, "readNumberBelow", "(I)I"⟩
abbrev cX8_readBlock : ByteArray := prog_10_method_8_code
def yX8_readBlock : MethodName := ⟨RX8, "readBlock", "()Z"⟩
abbrev cX8_readEdge : ByteArray := prog_10_method_9_code
def yX8_readEdge : MethodName := ⟨RX8, "readEdge", "()Z"⟩
abbrev cX8_readEnd : ByteArray := prog_10_method_10_code
def yX8_readEnd : MethodName := ⟨RX8, "readEnd", "()Z"⟩
abbrev cX8_readArguments : ByteArray := prog_10_method_11_code
def yX8_readArguments : MethodName := ⟨RX8, "readArguments", "(LEdgeMoves$Block;LEdgeMoves$Edge;)Z"⟩
def RX9 : String := "EdgeMoves$Regions"
def TX9 : u_T := fun k => match k with
  | _ => ("", "", "", false)
def tyX9 : Nat → FieldType := fun k => match k with
  | _ => .int
abbrev wsX90 : List Cond := u_ws RX9 TX9 0
theorem nmX9 : ∀ a, a < 0 → ∀ b, b < 0 → a ≠ b → (TX9 a).2.1 ≠ (TX9 b).2.1 := by decide +kernel
theorem tyX9_ok : ∀ k, k < 0 → parseFieldDescriptor (TX9 k).2.2.1 = some (tyX9 k) := by decide +kernel
abbrev cX9_isWidth : ByteArray := prog_11_method_2_code
def yX9_isWidth : MethodName := ⟨RX9, "isWidth", "(I)Z"⟩
abbrev cX9_asTold : ByteArray := prog_11_method_3_code
def yX9_asTold : MethodName := ⟨RX9, "asTold", "(II)I"⟩
abbrev cX9_firstByte : ByteArray := prog_11_method_4_code
def yX9_firstByte : MethodName := ⟨RX9, "firstByte", "(I)I"⟩
abbrev cX9_width : ByteArray := prog_11_method_5_code
def yX9_width : MethodName := ⟨RX9, "width", "(I)I"⟩
abbrev cX9_isRegion : ByteArray := prog_11_method_6_code
def yX9_isRegion : MethodName := ⟨RX9, "isRegion", "(I)Z"⟩
abbrev cX9_shareByte : ByteArray := prog_11_method_7_code
def yX9_shareByte : MethodName := ⟨RX9, "shareByte", "(II)Z"⟩
abbrev cX9_areAcross : ByteArray := prog_11_method_8_code
def yX9_areAcross : MethodName := ⟨RX9, "areAcross", "(II)Z"⟩
abbrev cX9_toldConstant : ByteArray := prog_11_method_9_code
def yX9_toldConstant : MethodName := ⟨RX9, "toldConstant", "(I)I"⟩
abbrev cX9_isConstant : ByteArray := prog_11_method_10_code
def yX9_isConstant : MethodName := ⟨RX9, "isConstant", "(I)Z"⟩
abbrev cX9_isAsWide : ByteArray := prog_11_method_11_code
def yX9_isAsWide : MethodName := ⟨RX9, "isAsWide", "(II)Z"⟩
abbrev cX9_isArgumentFor : ByteArray := prog_11_method_12_code
def yX9_isArgumentFor : MethodName := ⟨RX9, "isArgumentFor", "(II)Z"⟩
def RX10 : String := "EdgeMoves$Text"
def TX10 : u_T := fun k => match k with
  | 0 => ("EdgeMoves$Text", "bytes", "[I", true)
  | _ => ("EdgeMoves$Text", "length", "I", false)
def tyX10 : Nat → FieldType := fun k => match k with
  | 0 => .array .int
  | _ => .int
abbrev wsX100 : List Cond := u_ws RX10 TX10 2
theorem nmX10 : ∀ a, a < 2 → ∀ b, b < 2 → a ≠ b → (TX10 a).2.1 ≠ (TX10 b).2.1 := by decide +kernel
theorem tyX10_ok : ∀ k, k < 2 → parseFieldDescriptor (TX10 k).2.2.1 = some (tyX10 k) := by decide +kernel
abbrev cX10_init : ByteArray := prog_12_method_1_code
def yX10_init : MethodName := ⟨RX10, "<init>", "()V"⟩
abbrev cX10_append : ByteArray := prog_12_method_2_code
def yX10_append : MethodName := ⟨RX10, "append", "(I)V"⟩
abbrev cX10_at : ByteArray := prog_12_method_3_code
def yX10_at : MethodName := ⟨RX10, "at", "(I)I"⟩
def RX11 : String := "EdgeMoves"
def TX11 : u_T := fun k => match k with
  | 0 => ("EdgeMoves", "graph", "LEdgeMoves$Graph;", false)
  | 1 => ("EdgeMoves", "spareGraph", "LEdgeMoves$Graph;", false)
  | 2 => ("EdgeMoves", "text", "LEdgeMoves$Text;", true)
  | 3 => ("EdgeMoves", "reader", "LEdgeMoves$Reader;", true)
  | 4 => ("EdgeMoves", "handover", "LEdgeMoves$Handover;", true)
  | 5 => ("EdgeMoves", "plan", "LEdgeMoves$Plan;", true)
  | 6 => ("EdgeMoves", "otherPlan", "LEdgeMoves$Plan;", true)
  | 7 => ("EdgeMoves", "memory", "LEdgeMoves$Memory;", true)
  | 8 => ("EdgeMoves", "dice", "LEdgeMoves$Dice;", true)
  | 9 => ("EdgeMoves", "distances", "[I", true)
  | 10 => ("EdgeMoves", "kind", "I", false)
  | 11 => ("EdgeMoves", "badCalls", "I", false)
  | 12 => ("EdgeMoves", "noCalls", "I", false)
  | _ => ("EdgeMoves", "fullCalls", "I", false)
def tyX11 : Nat → FieldType := fun k => match k with
  | 0 => .object "EdgeMoves$Graph"
  | 1 => .object "EdgeMoves$Graph"
  | 2 => .object "EdgeMoves$Text"
  | 3 => .object "EdgeMoves$Reader"
  | 4 => .object "EdgeMoves$Handover"
  | 5 => .object "EdgeMoves$Plan"
  | 6 => .object "EdgeMoves$Plan"
  | 7 => .object "EdgeMoves$Memory"
  | 8 => .object "EdgeMoves$Dice"
  | 9 => .array .int
  | 10 => .int
  | 11 => .int
  | 12 => .int
  | _ => .int
abbrev wsX110 : List Cond := u_ws RX11 TX11 14
theorem nmX11 : ∀ a, a < 14 → ∀ b, b < 14 → a ≠ b → (TX11 a).2.1 ≠ (TX11 b).2.1 := by decide +kernel
theorem tyX11_ok : ∀ k, k < 14 → parseFieldDescriptor (TX11 k).2.2.1 = some (tyX11 k) := by decide +kernel
abbrev cX11_init : ByteArray := prog_1_method_1_code
def yX11_init : MethodName := ⟨RX11, "<init>", "()V"⟩
abbrev cX11_anew : ByteArray := prog_1_method_2_code
def yX11_anew : MethodName := ⟨RX11, "anew", "()I"⟩
abbrev cX11_block : ByteArray := prog_1_method_3_code
def yX11_block : MethodName := ⟨RX11, "block", "()I"⟩
abbrev cX11_parameter : ByteArray := prog_1_method_4_code
def yX11_parameter : MethodName := ⟨RX11, "parameter", "(II)I"⟩
abbrev cX11_edge : ByteArray := prog_1_method_5_code
def yX11_edge : MethodName := ⟨RX11, "edge", "(III)I"⟩
abbrev cX11_argument : ByteArray := prog_1_method_6_code
def yX11_argument : MethodName := ⟨RX11, "argument", "(III)I"⟩
abbrev cX11_weight : ByteArray := prog_1_method_7_code
def yX11_weight : MethodName := ⟨RX11, "weight", "(II)I"⟩
abbrev cX11_machine : ByteArray := prog_1_method_8_code
def yX11_machine : MethodName := ⟨RX11, "machine", "(I)I"⟩
abbrev cX11_of : ByteArray := prog_1_method_9_code
def yX11_of : MethodName := ⟨RX11, "of", "(II)I"⟩
abbrev cX11_about : ByteArray := prog_1_method_10_code
def yX11_about : MethodName := ⟨RX11, "about", "(II)I"⟩
abbrev cX11_region : ByteArray := prog_1_method_11_code
def yX11_region : MethodName := ⟨RX11, "region", "(II)I"⟩
abbrev cX11_given : ByteArray := prog_1_method_12_code
def yX11_given : MethodName := ⟨RX11, "given", "(II)I"⟩
abbrev cX11_type : ByteArray := prog_1_method_13_code
def yX11_type : MethodName := ⟨RX11, "type", "(I)I"⟩
abbrev cX11_clear : ByteArray := prog_1_method_14_code
def yX11_clear : MethodName := ⟨RX11, "clear", "()I"⟩
abbrev cX11_read : ByteArray := prog_1_method_15_code
def yX11_read : MethodName := ⟨RX11, "read", "()I"⟩
abbrev cX11_steps : ByteArray := prog_1_method_16_code
def yX11_steps : MethodName := ⟨RX11, "steps", "(II)I"⟩
abbrev cX11_step : ByteArray := prog_1_method_17_code
def yX11_step : MethodName := ⟨RX11, "step", "(III)I"⟩
abbrev cX11_cost : ByteArray := prog_1_method_18_code
def yX11_cost : MethodName := ⟨RX11, "cost", "(I)I"⟩
abbrev cX11_rings : ByteArray := prog_1_method_19_code
def yX11_rings : MethodName := ⟨RX11, "rings", "(II)I"⟩
abbrev cX11_cheapest : ByteArray := prog_1_method_20_code
def yX11_cheapest : MethodName := ⟨RX11, "cheapest", "(II)I"⟩
abbrev cX11_free : ByteArray := prog_1_method_21_code
def yX11_free : MethodName := ⟨RX11, "free", "(II)I"⟩
abbrev cX11_tail : ByteArray := prog_1_method_22_code
def yX11_tail : MethodName := ⟨RX11, "tail", "(I)I"⟩
abbrev cX11_run : ByteArray := prog_1_method_23_code
def yX11_run : MethodName := ⟨RX11, "run", "(III)J"⟩
abbrev cX11_whole : ByteArray := prog_1_method_24_code
def yX11_whole : MethodName := ⟨RX11, "whole", "(I)I"⟩
abbrev cX11_dearest : ByteArray := prog_1_method_25_code
def yX11_dearest : MethodName := ⟨RX11, "dearest", "()I"⟩
abbrev cX11_reach : ByteArray := prog_1_method_26_code
def yX11_reach : MethodName := ⟨RX11, "reach", "(II)I"⟩
abbrev cX11_draw : ByteArray := prog_1_method_27_code
def yX11_draw : MethodName := ⟨RX11, "draw", "(III)I"⟩
abbrev cX11_told : ByteArray := prog_1_method_28_code
def yX11_told : MethodName := ⟨RX11, "told", "(I)I"⟩
abbrev cX11_digest : ByteArray := prog_1_method_29_code
def yX11_digest : MethodName := ⟨RX11, "digest", "()J"⟩
abbrev cX11_isBelow : ByteArray := prog_1_method_30_code
def yX11_isBelow : MethodName := ⟨RX11, "isBelow", "(II)Z"⟩
abbrev cX11_refuse : ByteArray := prog_1_method_31_code
def yX11_refuse : MethodName := ⟨RX11, "refuse", "(I)I"⟩
abbrev cX11_refusalFor : ByteArray := prog_1_method_32_code
def yX11_refusalFor : MethodName := ⟨RX11, "refusalFor", "(IZ)I"⟩
abbrev cX11_standing : ByteArray := prog_1_method_33_code
def yX11_standing : MethodName := ⟨RX11, "standing", "(I)I"⟩
abbrev cX11_isClear : ByteArray := prog_1_method_34_code
def yX11_isClear : MethodName := ⟨RX11, "isClear", "(I)Z"⟩
abbrev cX11_allClearTo : ByteArray := prog_1_method_35_code
def yX11_allClearTo : MethodName := ⟨RX11, "allClearTo", "(I)Z"⟩
abbrev cX11_makePlan : ByteArray := prog_1_method_36_code
def yX11_makePlan : MethodName := ⟨RX11, "makePlan", "(LEdgeMoves$Plan;I)V"⟩
abbrev cX11_priceBy : ByteArray := prog_1_method_37_code
def yX11_priceBy : MethodName := ⟨RX11, "priceBy", "(II)I"⟩
abbrev cX11_weighedPrice : ByteArray := prog_1_method_38_code
def yX11_weighedPrice : MethodName := ⟨RX11, "weighedPrice", "(I)I"⟩
abbrev cX11_shareOfWhole : ByteArray := prog_1_method_39_code
def yX11_shareOfWhole : MethodName := ⟨RX11, "shareOfWhole", "(II)I"⟩
abbrev cX11_goOneFurther : ByteArray := prog_1_method_40_code
def yX11_goOneFurther : MethodName := ⟨RX11, "goOneFurther", "(I)V"⟩
abbrev cX11_drawBlock : ByteArray := prog_1_method_41_code
def yX11_drawBlock : MethodName := ⟨RX11, "drawBlock", "(I)V"⟩
abbrev cX11_drawEdge : ByteArray := prog_1_method_42_code
def yX11_drawEdge : MethodName := ⟨RX11, "drawEdge", "()V"⟩
def RX12 : String := "EdgeMovesModel"
def TX12 : u_T := fun k => match k with
  | 0 => ("EdgeMovesModel", "refused", "[I", true)
  | 1 => ("EdgeMovesModel", "blocks", "I", false)
  | 2 => ("EdgeMovesModel", "edges", "I", false)
  | 3 => ("EdgeMovesModel", "kindNow", "I", false)
  | 4 => ("EdgeMovesModel", "parameterMany", "[I", true)
  | 5 => ("EdgeMovesModel", "parameters", "[I", true)
  | 6 => ("EdgeMovesModel", "fromOf", "[I", true)
  | 7 => ("EdgeMovesModel", "toOf", "[I", true)
  | 8 => ("EdgeMovesModel", "weightOf", "[I", true)
  | 9 => ("EdgeMovesModel", "given", "[I", true)
  | 10 => ("EdgeMovesModel", "stepMany", "I", false)
  | 11 => ("EdgeMovesModel", "stepSort", "[I", true)
  | 12 => ("EdgeMovesModel", "stepTo", "[I", true)
  | 13 => ("EdgeMovesModel", "stepFrom", "[I", true)
  | 14 => ("EdgeMovesModel", "open", "[Z", true)
  | 15 => ("EdgeMovesModel", "liesIn", "[I", true)
  | 16 => ("EdgeMovesModel", "otherMany", "I", false)
  | 17 => ("EdgeMovesModel", "otherSort", "[I", true)
  | 18 => ("EdgeMovesModel", "otherTo", "[I", true)
  | 19 => ("EdgeMovesModel", "otherFrom", "[I", true)
  | 20 => ("EdgeMovesModel", "bytes", "[I", true)
  | 21 => ("EdgeMovesModel", "were", "[I", true)
  | 22 => ("EdgeMovesModel", "far", "[I", true)
  | 23 => ("EdgeMovesModel", "text", "[I", true)
  | 24 => ("EdgeMovesModel", "typed", "I", false)
  | 25 => ("EdgeMovesModel", "readAt", "I", false)
  | 26 => ("EdgeMovesModel", "readNumber", "I", false)
  | _ => ("EdgeMovesModel", "before", "[I", true)
def tyX12 : Nat → FieldType := fun k => match k with
  | 0 => .array .int
  | 1 => .int
  | 2 => .int
  | 3 => .int
  | 4 => .array .int
  | 5 => .array .int
  | 6 => .array .int
  | 7 => .array .int
  | 8 => .array .int
  | 9 => .array .int
  | 10 => .int
  | 11 => .array .int
  | 12 => .array .int
  | 13 => .array .int
  | 14 => .array .boolean
  | 15 => .array .int
  | 16 => .int
  | 17 => .array .int
  | 18 => .array .int
  | 19 => .array .int
  | 20 => .array .int
  | 21 => .array .int
  | 22 => .array .int
  | 23 => .array .int
  | 24 => .int
  | 25 => .int
  | 26 => .int
  | _ => .array .int
abbrev wsX120 : List Cond := u_ws RX12 TX12 28
theorem nmX12 : ∀ a, a < 28 → ∀ b, b < 28 → a ≠ b → (TX12 a).2.1 ≠ (TX12 b).2.1 := by decide +kernel
theorem tyX12_ok : ∀ k, k < 28 → parseFieldDescriptor (TX12 k).2.2.1 = some (tyX12 k) := by decide +kernel
abbrev cX12_init : ByteArray := prog_14_method_1_code
def yX12_init : MethodName := ⟨RX12, "<init>", "()V"⟩
abbrev cX12_bad : ByteArray := prog_14_method_2_code
def yX12_bad : MethodName := ⟨RX12, "bad", "()I"⟩
abbrev cX12_no : ByteArray := prog_14_method_3_code
def yX12_no : MethodName := ⟨RX12, "no", "()I"⟩
abbrev cX12_full : ByteArray := prog_14_method_4_code
def yX12_full : MethodName := ⟨RX12, "full", "()I"⟩
abbrev cX12_in : ByteArray := prog_14_method_5_code
def yX12_in : MethodName := ⟨RX12, "in", "(III)Z"⟩
abbrev cX12_widthOf : ByteArray := prog_14_method_6_code
def yX12_widthOf : MethodName := ⟨RX12, "widthOf", "(I)I"⟩
abbrev cX12_byteOf : ByteArray := prog_14_method_7_code
def yX12_byteOf : MethodName := ⟨RX12, "byteOf", "(I)I"⟩
abbrev cX12_isWidth : ByteArray := prog_14_method_8_code
def yX12_isWidth : MethodName := ⟨RX12, "isWidth", "(I)Z"⟩
abbrev cX12_isRegion : ByteArray := prog_14_method_9_code
def yX12_isRegion : MethodName := ⟨RX12, "isRegion", "(I)Z"⟩
abbrev cX12_meet : ByteArray := prog_14_method_10_code
def yX12_meet : MethodName := ⟨RX12, "meet", "(II)Z"⟩
abbrev cX12_across : ByteArray := prog_14_method_11_code
def yX12_across : MethodName := ⟨RX12, "across", "(II)Z"⟩
abbrev cX12_isBlock : ByteArray := prog_14_method_12_code
def yX12_isBlock : MethodName := ⟨RX12, "isBlock", "(I)Z"⟩
abbrev cX12_isEdge : ByteArray := prog_14_method_13_code
def yX12_isEdge : MethodName := ⟨RX12, "isEdge", "(I)Z"⟩
abbrev cX12_parameterOf : ByteArray := prog_14_method_14_code
def yX12_parameterOf : MethodName := ⟨RX12, "parameterOf", "(II)I"⟩
abbrev cX12_manyOf : ByteArray := prog_14_method_15_code
def yX12_manyOf : MethodName := ⟨RX12, "manyOf", "(I)I"⟩
abbrev cX12_givenOf : ByteArray := prog_14_method_16_code
def yX12_givenOf : MethodName := ⟨RX12, "givenOf", "(II)I"⟩
abbrev cX12_anew : ByteArray := prog_14_method_17_code
def yX12_anew : MethodName := ⟨RX12, "anew", "()I"⟩
abbrev cX12_newBlock : ByteArray := prog_14_method_18_code
def yX12_newBlock : MethodName := ⟨RX12, "newBlock", "()I"⟩
abbrev cX12_block : ByteArray := prog_14_method_19_code
def yX12_block : MethodName := ⟨RX12, "block", "()I"⟩
abbrev cX12_isTaken : ByteArray := prog_14_method_20_code
def yX12_isTaken : MethodName := ⟨RX12, "isTaken", "(II)Z"⟩
abbrev cX12_newParameter : ByteArray := prog_14_method_21_code
def yX12_newParameter : MethodName := ⟨RX12, "newParameter", "(II)I"⟩
abbrev cX12_parameter : ByteArray := prog_14_method_22_code
def yX12_parameter : MethodName := ⟨RX12, "parameter", "(II)I"⟩
abbrev cX12_newEdge : ByteArray := prog_14_method_23_code
def yX12_newEdge : MethodName := ⟨RX12, "newEdge", "(III)I"⟩
abbrev cX12_edge : ByteArray := prog_14_method_24_code
def yX12_edge : MethodName := ⟨RX12, "edge", "(III)I"⟩
abbrev cX12_mayBeGiven : ByteArray := prog_14_method_25_code
def yX12_mayBeGiven : MethodName := ⟨RX12, "mayBeGiven", "(III)Z"⟩
abbrev cX12_argument : ByteArray := prog_14_method_26_code
def yX12_argument : MethodName := ⟨RX12, "argument", "(III)I"⟩
abbrev cX12_weight : ByteArray := prog_14_method_27_code
def yX12_weight : MethodName := ⟨RX12, "weight", "(II)I"⟩
abbrev cX12_machine : ByteArray := prog_14_method_28_code
def yX12_machine : MethodName := ⟨RX12, "machine", "(I)I"⟩
abbrev cX12_edgesFrom : ByteArray := prog_14_method_29_code
def yX12_edgesFrom : MethodName := ⟨RX12, "edgesFrom", "(I)I"⟩
abbrev cX12_edgesTo : ByteArray := prog_14_method_30_code
def yX12_edgesTo : MethodName := ⟨RX12, "edgesTo", "(I)I"⟩
abbrev cX12_whereOf : ByteArray := prog_14_method_31_code
def yX12_whereOf : MethodName := ⟨RX12, "whereOf", "(I)I"⟩
abbrev cX12_moves : ByteArray := prog_14_method_32_code
def yX12_moves : MethodName := ⟨RX12, "moves", "(II)Z"⟩
abbrev cX12_isAcross : ByteArray := prog_14_method_33_code
def yX12_isAcross : MethodName := ⟨RX12, "isAcross", "(II)Z"⟩
abbrev cX12_isClear : ByteArray := prog_14_method_34_code
def yX12_isClear : MethodName := ⟨RX12, "isClear", "(I)Z"⟩
abbrev cX12_of : ByteArray := prog_14_method_35_code
def yX12_of : MethodName := ⟨RX12, "of", "(II)I"⟩
abbrev cX12_about : ByteArray := prog_14_method_36_code
def yX12_about : MethodName := ⟨RX12, "about", "(II)I"⟩
abbrev cX12_region : ByteArray := prog_14_method_37_code
def yX12_region : MethodName := ⟨RX12, "region", "(II)I"⟩
abbrev cX12_given : ByteArray := prog_14_method_38_code
def yX12_given : MethodName := ⟨RX12, "given", "(II)I"⟩
abbrev cX12_moveCost : ByteArray := prog_14_method_39_code
def yX12_moveCost : MethodName := ⟨RX12, "moveCost", "(II)I"⟩
abbrev cX12_changeCost : ByteArray := prog_14_method_40_code
def yX12_changeCost : MethodName := ⟨RX12, "changeCost", "(II)I"⟩
abbrev cX12_comes : ByteArray := prog_14_method_41_code
def yX12_comes : MethodName := ⟨RX12, "comes", "(III)V"⟩
abbrev cX12_isWanted : ByteArray := prog_14_method_42_code
def yX12_isWanted : MethodName := ⟨RX12, "isWanted", "(II)Z"⟩
abbrev cX12_openMany : ByteArray := prog_14_method_43_code
def yX12_openMany : MethodName := ⟨RX12, "openMany", "(I)I"⟩
abbrev cX12_leastOpen : ByteArray := prog_14_method_44_code
def yX12_leastOpen : MethodName := ⟨RX12, "leastOpen", "(IZ)I"⟩
abbrev cX12_whoHas : ByteArray := prog_14_method_45_code
def yX12_whoHas : MethodName := ⟨RX12, "whoHas", "(II)I"⟩
abbrev cX12_lies : ByteArray := prog_14_method_46_code
def yX12_lies : MethodName := ⟨RX12, "lies", "(III)V"⟩
abbrev cX12_movesTo : ByteArray := prog_14_method_47_code
def yX12_movesTo : MethodName := ⟨RX12, "movesTo", "(II)V"⟩
abbrev cX12_breaks : ByteArray := prog_14_method_48_code
def yX12_breaks : MethodName := ⟨RX12, "breaks", "(III)V"⟩
abbrev cX12_setOpen : ByteArray := prog_14_method_49_code
def yX12_setOpen : MethodName := ⟨RX12, "setOpen", "(I)V"⟩
abbrev cX12_setSteps : ByteArray := prog_14_method_50_code
def yX12_setSteps : MethodName := ⟨RX12, "setSteps", "(II)V"⟩
abbrev cX12_costBy : ByteArray := prog_14_method_51_code
def yX12_costBy : MethodName := ⟨RX12, "costBy", "(II)I"⟩
abbrev cX12_counted : ByteArray := prog_14_method_52_code
def yX12_counted : MethodName := ⟨RX12, "counted", "(I)I"⟩
abbrev cX12_steps : ByteArray := prog_14_method_53_code
def yX12_steps : MethodName := ⟨RX12, "steps", "(II)I"⟩
abbrev cX12_step : ByteArray := prog_14_method_54_code
def yX12_step : MethodName := ⟨RX12, "step", "(III)I"⟩
abbrev cX12_cost : ByteArray := prog_14_method_55_code
def yX12_cost : MethodName := ⟨RX12, "cost", "(I)I"⟩
abbrev cX12_wantedTimes : ByteArray := prog_14_method_56_code
def yX12_wantedTimes : MethodName := ⟨RX12, "wantedTimes", "(II)I"⟩
abbrev cX12_ringOf : ByteArray := prog_14_method_57_code
def yX12_ringOf : MethodName := ⟨RX12, "ringOf", "(II)I"⟩
abbrev cX12_rings : ByteArray := prog_14_method_58_code
def yX12_rings : MethodName := ⟨RX12, "rings", "(II)I"⟩
abbrev cX12_cheapest : ByteArray := prog_14_method_59_code
def yX12_cheapest : MethodName := ⟨RX12, "cheapest", "(II)I"⟩
abbrev cX12_free : ByteArray := prog_14_method_60_code
def yX12_free : MethodName := ⟨RX12, "free", "(II)I"⟩
abbrev cX12_asOther : ByteArray := prog_14_method_61_code
def yX12_asOther : MethodName := ⟨RX12, "asOther", "()V"⟩
abbrev cX12_sameBack : ByteArray := prog_14_method_62_code
def yX12_sameBack : MethodName := ⟨RX12, "sameBack", "()I"⟩
abbrev cX12_tail : ByteArray := prog_14_method_63_code
def yX12_tail : MethodName := ⟨RX12, "tail", "(I)I"⟩
abbrev cX12_next : ByteArray := prog_14_method_64_code
def yX12_next : MethodName := ⟨RX12, "next", "(J)J"⟩
abbrev cX12_beginOf : ByteArray := prog_14_method_65_code
def yX12_beginOf : MethodName := ⟨RX12, "beginOf", "(I)I"⟩
abbrev cX12_puts : ByteArray := prog_14_method_66_code
def yX12_puts : MethodName := ⟨RX12, "puts", "(II)V"⟩
abbrev cX12_stepsOn : ByteArray := prog_14_method_67_code
def yX12_stepsOn : MethodName := ⟨RX12, "stepsOn", "(I)V"⟩
abbrev cX12_handsOver : ByteArray := prog_14_method_68_code
def yX12_handsOver : MethodName := ⟨RX12, "handsOver", "(I)V"⟩
abbrev cX12_run : ByteArray := prog_14_method_69_code
def yX12_run : MethodName := ⟨RX12, "run", "(III)J"⟩
abbrev cX12_whole : ByteArray := prog_14_method_70_code
def yX12_whole : MethodName := ⟨RX12, "whole", "(I)I"⟩
abbrev cX12_dearest : ByteArray := prog_14_method_71_code
def yX12_dearest : MethodName := ⟨RX12, "dearest", "()I"⟩
abbrev cX12_reach : ByteArray := prog_14_method_72_code
def yX12_reach : MethodName := ⟨RX12, "reach", "(II)I"⟩
abbrev cX12_draw : ByteArray := prog_14_method_73_code
def yX12_draw : MethodName := ⟨RX12, "draw", "(III)I"⟩
abbrev cX12_tells : ByteArray := prog_14_method_74_code
def yX12_tells : MethodName := ⟨RX12, "tells", "(I)I"⟩
abbrev cX12_told : ByteArray := prog_14_method_75_code
def yX12_told : MethodName := ⟨RX12, "told", "(I)I"⟩
abbrev cX12_digest : ByteArray := prog_14_method_76_code
def yX12_digest : MethodName := ⟨RX12, "digest", "()J"⟩
abbrev cX12_type : ByteArray := prog_14_method_77_code
def yX12_type : MethodName := ⟨RX12, "type", "(I)I"⟩
abbrev cX12_clear : ByteArray := prog_14_method_78_code
def yX12_clear : MethodName := ⟨RX12, "clear", "()I"⟩
abbrev cX12_here : ByteArray := prog_14_method_79_code
def yX12_here : MethodName := ⟨RX12, "here", "()I"⟩
abbrev cX12_skip : ByteArray := prog_14_method_80_code
def yX12_skip : MethodName := ⟨RX12, "skip", "()V"⟩
abbrev cX12_isFigure : ByteArray := prog_14_method_81_code
def yX12_isFigure : MethodName := ⟨RX12, "isFigure", "(I)Z"⟩
abbrev cX12_figures : ByteArray := prog_14_method_82_code
def yX12_figures : MethodName := ⟨RX12, "figures", "(I)I"⟩
abbrev cX12_number : ByteArray := prog_14_method_83_code
def yX12_number : MethodName := ⟨RX12, "number", "(II)Z"⟩
abbrev cX12_ends : ByteArray := prog_14_method_84_code
def yX12_ends : MethodName := ⟨RX12, "ends", "()Z"⟩
abbrev cX12_readsBlock : ByteArray := prog_14_method_85_code
def yX12_readsBlock : MethodName := ⟨RX12, "readsBlock", "()Z"⟩
abbrev cX12_readsConstant : ByteArray := prog_14_method_86_code
def yX12_readsConstant : MethodName := ⟨RX12, "readsConstant", "()I"⟩
abbrev cX12_readsGiven : ByteArray := prog_14_method_87_code
def yX12_readsGiven : MethodName := ⟨RX12, "readsGiven", "(II)Z"⟩
abbrev cX12_readsEdge : ByteArray := prog_14_method_88_code
def yX12_readsEdge : MethodName := ⟨RX12, "readsEdge", "()Z"⟩
abbrev cX12_readsAll : ByteArray := prog_14_method_89_code
def yX12_readsAll : MethodName := ⟨RX12, "readsAll", "()I"⟩
abbrev cX12_lays : ByteArray := prog_14_method_90_code
def yX12_lays : MethodName := ⟨RX12, "lays", "()V"⟩
abbrev cX12_takes : ByteArray := prog_14_method_91_code
def yX12_takes : MethodName := ⟨RX12, "takes", "()V"⟩
abbrev cX12_read : ByteArray := prog_14_method_92_code
def yX12_read : MethodName := ⟨RX12, "read", "()I"⟩
def RJ9 : String := "java/lang/Math"
def TJ9 : u_T := fun k => match k with
  | _ => ("", "", "", false)
def tyJ9 : Nat → FieldType := fun k => match k with
  | _ => .int
abbrev wsJ90 : List Cond := u_ws RJ9 TJ9 0
theorem nmJ9 : ∀ a, a < 0 → ∀ b, b < 0 → a ≠ b → (TJ9 a).2.1 ≠ (TJ9 b).2.1 := by decide +kernel
theorem tyJ9_ok : ∀ k, k < 0 → parseFieldDescriptor (TJ9 k).2.2.1 = some (tyJ9 k) := by decide +kernel
abbrev cJ9_max_7cf53 : ByteArray := prog_15_method_65_code
def yJ9_max_7cf53 : MethodName := ⟨RJ9, "max", "(II)I"⟩
abbrev cJ9_min_7cf53 : ByteArray := prog_15_method_69_code
def yJ9_min_7cf53 : MethodName := ⟨RJ9, "min", "(II)I"⟩
def RJ10 : String := "java/lang/System"
def TJ10 : u_T := fun k => match k with
  | _ => ("", "", "", false)
def tyJ10 : Nat → FieldType := fun k => match k with
  | _ => .int
abbrev wsJ100 : List Cond := u_ws RJ10 TJ10 0
theorem nmJ10 : ∀ a, a < 0 → ∀ b, b < 0 → a ≠ b → (TJ10 a).2.1 ≠ (TJ10 b).2.1 := by decide +kernel
theorem tyJ10_ok : ∀ k, k < 0 → parseFieldDescriptor (TJ10 k).2.2.1 = some (tyJ10 k) := by decide +kernel
def RJ7 : String := "java/util/Arrays"
def TJ7 : u_T := fun k => match k with
  | _ => ("", "", "", false)
def tyJ7 : Nat → FieldType := fun k => match k with
  | _ => .int
abbrev wsJ70 : List Cond := u_ws RJ7 TJ7 0
theorem nmJ7 : ∀ a, a < 0 → ∀ b, b < 0 → a ≠ b → (TJ7 a).2.1 ≠ (TJ7 b).2.1 := by decide +kernel
theorem tyJ7_ok : ∀ k, k < 0 → parseFieldDescriptor (TJ7 k).2.2.1 = some (tyJ7 k) := by decide +kernel
abbrev cJ7_fill_53178 : ByteArray := prog_17_method_103_code
def yJ7_fill_53178 : MethodName := ⟨RJ7, "fill", "([II)V"⟩
def RL : String := "EdgeMovesLaw"
abbrev cL_law : ByteArray := code
def yL_law : MethodName := ⟨RL, "law", "([I)Z"⟩
abbrev vwCl : List vw_C := [(RX0, TX0, 2), (RX1, TX1, 1), (RX2, TX2, 4), (RX3, TX3, 4), (RX4, TX4, 3), (RX5, TX5, 2), (RX6, TX6, 10), (RX8, TX8, 4), (RX10, TX10, 2), (RX11, TX11, 14), (RX12, TX12, 28)]
def wsA : List Cond := lw_tbl.filter goodWord
end
section
/-! a machine of whole numbers: what a method does to a memory of numbers, with shapes of cells -/
abbrev AVal : Type := Int ⊕ (Int ⊕ (Int ⊕ Unit))
abbrev vI (x : Int) : AVal := .inl x
abbrev vL (x : Int) : AVal := .inr (.inl x)
abbrev vR (x : Int) : AVal := .inr (.inr (.inl x))
abbrev vU : AVal := .inr (.inr (.inr ()))
abbrev AMem : Type := Int → Int → Int
/-- kind (0 .. 10 objects, 20 ints, 21 booleans, 22, 23 rows of objects, 30 the script), how many, the references that stay -/
abbrev AShp : Type := Nat × (Nat × List Int)
/-- place, what, how long, two numbers, a constant -/
abbrev ACe : Type := Nat × (Instr × (Nat × (Nat × (Nat × Int))))
abbrev ACfg : Type := Nat × (List AVal × (List AVal × (List AShp × AMem)))
abbrev ARes : Type := List AVal × (List AShp × AMem)
def up (g : AMem) (a k x : Int) : AMem := fun a' k' => if a' = a ∧ k' = k then x else g a' k'
def zr (g : AMem) (a : Int) : AMem := fun a' k' => if a' = a then 0 else g a' k'
def cpy (g : AMem) (s sp d dp n : Int) : AMem := fun a' k' => if a' = d ∧ dp ≤ k' ∧ k' < dp + n then g s (sp + (k' - dp)) else g a' k'
def iw (x : Int) : Int := x.bmod 4294967296
def lw (x : Int) : Int := x.bmod 18446744073709551616
/-- the sorts of the places of objects: 0 int, 1 long, 2 a reference that changes, 3 one that stays -/
def jfld : Nat → List Nat
  | 0 => [3, 0]
  | 1 => [1]
  | 2 => [3, 0, 0, 0]
  | 3 => [3, 3, 0, 0]
  | 4 => [2, 2, 0]
  | 5 => [3, 3]
  | 6 => [3, 3, 3, 0, 0, 2, 0, 3, 3, 0]
  | 7 => [3, 2, 0, 0]
  | 8 => [3, 0]
  | 9 => [2, 2, 3, 3, 3, 3, 3, 3, 3, 3, 0, 0, 0, 0]
  | 10 => [3, 0, 0, 0, 3, 3, 3, 3, 3, 3, 0, 3, 3, 3, 3, 3, 0, 3, 3, 3, 3, 3, 3, 3, 0, 0, 0, 3]
  | _ => []
/-- what a reference that changes may tell of: the kind of its cell -/
def jrk (c k : Nat) : Nat := match c, k with
  | 4, _ => 20
  | 6, _ => 20
  | 7, _ => 3
  | 9, _ => 3
  | _, _ => 99
def kin (sh : List AShp) (a : Int) : Nat := match sh[a.toNat]? with
  | some s => if 2 ≤ a then s.1 else 98
  | none => 97
def fin_ (sh : List AShp) (a : Int) (k : Nat) : Int := match sh[a.toNat]? with
  | some s => s.2.2.getD k 0
  | none => 0
def aln (sh : List AShp) (a : Int) : Int := match sh[a.toNat]? with
  | some s => if s.1 = 20 ∨ (s.1 = 30 ∧ a = 1) then s.2.1 else 0
  | none => 0
def bln (sh : List AShp) (a : Int) : Int := match sh[a.toNat]? with
  | some s => if s.1 = 21 then s.2.1 else 0
  | none => 0
def rln (sh : List AShp) (a : Int) : Int := match sh[a.toNat]? with
  | some s => if s.1 = 22 ∨ s.1 = 23 then s.2.1 else 0
  | none => 0
def okst (ls : List AVal) (i : Nat) : Bool := match i with
  | 0 => true
  | j + 1 => match ls[j]? with
    | some (.inr (.inl _)) => false
    | _ => true
def acnd (c : ClassFile.Cond) (x y : Int) : Prop := match c with
  | .eq => x = y
  | .ne => x ≠ y
  | .lt => x < y
  | .ge => y ≤ x
  | .gt => y < x
  | .le => x ≤ y
def acndD (c : ClassFile.Cond) (x y : Int) : Decidable (acnd c x y) := match c with
  | .eq => inferInstanceAs (Decidable (x = y))
  | .ne => inferInstanceAs (Decidable (x ≠ y))
  | .lt => inferInstanceAs (Decidable (x < y))
  | .ge => inferInstanceAs (Decidable (y ≤ x))
  | .gt => inferInstanceAs (Decidable (y < x))
  | .le => inferInstanceAs (Decidable (x ≤ y))
def a_ldI (i pc' : Nat) (ls st : List AVal) (sh : List AShp) (g : AMem) : Option ACfg := match ls[i]? with
  | some (.inl x) => some (pc', ls, .inl x :: st, sh, g)
  | _ => none
def a_ldL (i pc' : Nat) (ls st : List AVal) (sh : List AShp) (g : AMem) : Option ACfg := match ls[i]? with
  | some (.inr (.inl x)) => some (pc', ls, vL x :: st, sh, g)
  | _ => none
def a_ldR (i pc' : Nat) (ls st : List AVal) (sh : List AShp) (g : AMem) : Option ACfg := match ls[i]? with
  | some (.inr (.inr (.inl x))) => if 1 ≤ x then some (pc', ls, vR x :: st, sh, g) else none
  | _ => none
def a_stI (i pc' : Nat) (ls st : List AVal) (sh : List AShp) (g : AMem) : Option ACfg := match st with
  | .inl x :: r => if i < ls.length ∧ okst ls i = true then some (pc', ls.set i (vI x), r, sh, g) else none
  | _ => none
def a_stR (i pc' : Nat) (ls st : List AVal) (sh : List AShp) (g : AMem) : Option ACfg := match st with
  | .inr (.inr (.inl x)) :: r => if i < ls.length ∧ okst ls i = true ∧ 1 ≤ x then some (pc', ls.set i (vR x), r, sh, g) else none
  | _ => none
def a_stL (i pc' : Nat) (ls st : List AVal) (sh : List AShp) (g : AMem) : Option ACfg := match st with
  | .inr (.inl x) :: r => if i + 1 < ls.length ∧ okst ls i = true then some (pc', (ls.set i (vL x)).set (i + 1) vU, r, sh, g) else none
  | _ => none
def a_inc (i : Nat) (n : Int) (pc' : Nat) (ls st : List AVal) (sh : List AShp) (g : AMem) : Option ACfg := match ls[i]? with
  | some (.inl x) => if okst ls i = true then some (pc', ls.set i (vI (iw (x + n))), st, sh, g) else none
  | _ => none
def a_bi (gd : Bool) (f : Int → Int → Int) (pc' : Nat) (ls st : List AVal) (sh : List AShp) (g : AMem) : Option ACfg := match st with
  | .inl y :: .inl x :: r => if gd = true ∧ y = 0 then none else some (pc', ls, vI (f x y) :: r, sh, g)
  | _ => none
def a_bl (gd : Bool) (f : Int → Int → Int) (pc' : Nat) (ls st : List AVal) (sh : List AShp) (g : AMem) : Option ACfg := match st with
  | .inr (.inl y) :: .inr (.inl x) :: r => if gd = true ∧ y = 0 then none else some (pc', ls, vL (f x y) :: r, sh, g)
  | _ => none
def a_lcmp (pc' : Nat) (ls st : List AVal) (sh : List AShp) (g : AMem) : Option ACfg := match st with
  | .inr (.inl y) :: .inr (.inl x) :: r => some (pc', ls, vI (if y < x then 1 else if x = y then 0 else -1) :: r, sh, g)
  | _ => none
def a_i2l (pc' : Nat) (ls st : List AVal) (sh : List AShp) (g : AMem) : Option ACfg := match st with
  | .inl x :: r => some (pc', ls, vL x :: r, sh, g)
  | _ => none
def a_l2i (pc' : Nat) (ls st : List AVal) (sh : List AShp) (g : AMem) : Option ACfg := match st with
  | .inr (.inl x) :: r => some (pc', ls, vI (iw x) :: r, sh, g)
  | _ => none
def ac1 : AVal → Bool
  | .inr (.inl _) => false
  | _ => true
def a_dup (pc' : Nat) (ls st : List AVal) (sh : List AShp) (g : AMem) : Option ACfg := match st with
  | v :: r => if ac1 v = true then some (pc', ls, v :: v :: r, sh, g) else none
  | _ => none
def a_dup2 (pc' : Nat) (ls st : List AVal) (sh : List AShp) (g : AMem) : Option ACfg := match st with
  | v :: w :: r => if ac1 v = true ∧ ac1 w = true then some (pc', ls, v :: w :: v :: w :: r, sh, g) else none
  | _ => none
def a_pop (pc' : Nat) (ls st : List AVal) (sh : List AShp) (g : AMem) : Option ACfg := match st with
  | v :: r => if ac1 v = true then some (pc', ls, r, sh, g) else none
  | _ => none
def a_if (c : ClassFile.Cond) (t f : Nat) (ls st : List AVal) (sh : List AShp) (g : AMem) : Option ACfg := match st with
  | .inl x :: r => match acndD c x 0 with
    | .isTrue _ => some (t, ls, r, sh, g)
    | .isFalse _ => some (f, ls, r, sh, g)
  | _ => none
def a_ic (c : ClassFile.Cond) (t f : Nat) (ls st : List AVal) (sh : List AShp) (g : AMem) : Option ACfg := match st with
  | .inl y :: .inl x :: r => match acndD c x y with
    | .isTrue _ => some (t, ls, r, sh, g)
    | .isFalse _ => some (f, ls, r, sh, g)
  | _ => none
def a_tsw (d lo hi : Int) (os : Array Int) (pc : Nat) (ls st : List AVal) (sh : List AShp) (g : AMem) : Option ACfg := match st with
  | .inl x :: r => if x < lo ∨ hi < x then (if 0 ≤ (pc : Int) + d then some (((pc : Int) + d).toNat, ls, r, sh, g) else none) else match os[(x - lo).toNat]? with
    | some o => if 0 ≤ (pc : Int) + o then some (((pc : Int) + o).toNat, ls, r, sh, g) else none
    | none => none
  | _ => none
def a_lsw (d : Int) (ps : Array (Int × Int)) (pc : Nat) (ls st : List AVal) (sh : List AShp) (g : AMem) : Option ACfg := match st with
  | .inl x :: r => if 0 ≤ (pc : Int) + Op.lookupswitch.offset ps.toList d x then some (((pc : Int) + Op.lookupswitch.offset ps.toList d x).toNat, ls, r, sh, g) else none
  | _ => none
def a_getf (x y pc' : Nat) (ls st : List AVal) (sh : List AShp) (g : AMem) : Option ACfg := match st with
  | .inr (.inr (.inl t)) :: r => if kin sh t = x then (match (jfld x)[y]? with
    | some 0 => some (pc', ls, vI (g t y) :: r, sh, g)
    | some 1 => some (pc', ls, vL (g t y) :: r, sh, g)
    | some 2 => if kin sh (g t y) = jrk x y then some (pc', ls, vR (g t y) :: r, sh, g) else none
    | some 3 => some (pc', ls, vR (fin_ sh t y) :: r, sh, g)
    | _ => none) else none
  | _ => none
def a_putf (x y pc' : Nat) (ls st : List AVal) (sh : List AShp) (g : AMem) : Option ACfg := match st with
  | v :: .inr (.inr (.inl t)) :: r => if kin sh t = x then (match (jfld x)[y]?, v with
    | some 0, .inl u => some (pc', ls, r, sh, up g t y u)
    | some 1, .inr (.inl u) => some (pc', ls, r, sh, up g t y u)
    | some 2, .inr (.inr (.inl u)) => some (pc', ls, r, sh, up g t y u)
    | some 3, .inr (.inr (.inl u)) => if y < (sh[t.toNat]?.getD (0, 0, [])).2.2.length then some (pc', ls, r, sh.set t.toNat ((sh[t.toNat]?.getD (0, 0, [])).1, (sh[t.toNat]?.getD (0, 0, [])).2.1, (sh[t.toNat]?.getD (0, 0, [])).2.2.set y u), g) else none
    | _, _ => none) else none
  | _ => none
def a_new (x pc' : Nat) (ls st : List AVal) (sh : List AShp) (g : AMem) : Option ACfg :=
  some (pc', ls, vR sh.length :: st, sh ++ [(x, (jfld x).length, List.replicate (jfld x).length 0)], zr g sh.length)
def a_newa (k pc' : Nat) (ls st : List AVal) (sh : List AShp) (g : AMem) : Option ACfg := match st with
  | .inl n :: r => if 0 ≤ n ∧ n ≤ 1000 then some (pc', ls, vR sh.length :: r, sh ++ [(k, n.toNat, [])], zr g sh.length) else none
  | _ => none
def a_newq (k pc' : Nat) (ls st : List AVal) (sh : List AShp) (g : AMem) : Option ACfg := match st with
  | .inl n :: r => if 0 ≤ n ∧ n ≤ 1000 then some (pc', ls, vR sh.length :: r, sh ++ [(k, n.toNat, List.replicate n.toNat 0)], zr g sh.length) else none
  | _ => none
def a_iald (pc' : Nat) (ls st : List AVal) (sh : List AShp) (g : AMem) : Option ACfg := match st with
  | .inl i :: .inr (.inr (.inl a)) :: r => if 0 ≤ i ∧ i < aln sh a then some (pc', ls, vI (g a i) :: r, sh, g) else none
  | _ => none
def a_iast (pc' : Nat) (ls st : List AVal) (sh : List AShp) (g : AMem) : Option ACfg := match st with
  | .inl x :: .inl i :: .inr (.inr (.inl a)) :: r => if 0 ≤ i ∧ i < aln sh a ∧ 2 ≤ a then some (pc', ls, r, sh, up g a i x) else none
  | _ => none
def a_bald (pc' : Nat) (ls st : List AVal) (sh : List AShp) (g : AMem) : Option ACfg := match st with
  | .inl i :: .inr (.inr (.inl a)) :: r => if 0 ≤ i ∧ i < bln sh a then some (pc', ls, vI (g a i) :: r, sh, g) else none
  | _ => none
def a_bast (pc' : Nat) (ls st : List AVal) (sh : List AShp) (g : AMem) : Option ACfg := match st with
  | .inl x :: .inl i :: .inr (.inr (.inl a)) :: r => if 0 ≤ i ∧ i < bln sh a ∧ (x = 0 ∨ x = 1) then some (pc', ls, r, sh, up g a i x) else none
  | _ => none
def a_aald (pc' : Nat) (ls st : List AVal) (sh : List AShp) (g : AMem) : Option ACfg := match st with
  | .inl i :: .inr (.inr (.inl a)) :: r => if 0 ≤ i ∧ i < rln sh a then some (pc', ls, vR (fin_ sh a i.toNat) :: r, sh, g) else none
  | _ => none
def a_aast (pc' : Nat) (ls st : List AVal) (sh : List AShp) (g : AMem) : Option ACfg := match st with
  | .inr (.inr (.inl v)) :: .inl i :: .inr (.inr (.inl a)) :: r => if 0 ≤ i ∧ i < rln sh a ∧ i.toNat < (sh[a.toNat]?.getD (0, 0, [])).2.2.length ∧ ((kin sh a = 22 ∧ kin sh v = 0) ∨ (kin sh a = 23 ∧ kin sh v = 2)) then
      some (pc', ls, r, sh.set a.toNat ((sh[a.toNat]?.getD (0, 0, [])).1, (sh[a.toNat]?.getD (0, 0, [])).2.1, (sh[a.toNat]?.getD (0, 0, [])).2.2.set i.toNat v), g) else none
  | _ => none
def a_alen (pc' : Nat) (ls st : List AVal) (sh : List AShp) (g : AMem) : Option ACfg := match st with
  | .inr (.inr (.inl a)) :: r => if (kin sh a = 20 ∨ a = 1) ∧ aln sh a ≤ 2048 then some (pc', ls, vI (aln sh a) :: r, sh, g) else none
  | _ => none
def a_obj (pc' : Nat) (ls st : List AVal) (sh : List AShp) (g : AMem) : Option ACfg := match st with
  | .inr (.inr (.inl a)) :: r => if 2 ≤ a ∧ r.length = 0 then some (pc', ls, r, sh, g) else none
  | _ => none
def a_acpy (pc' : Nat) (ls st : List AVal) (sh : List AShp) (g : AMem) : Option ACfg := match st with
  | .inl n :: .inl dp :: .inr (.inr (.inl d)) :: .inl sp :: .inr (.inr (.inl s)) :: r => if 0 ≤ sp ∧ 0 ≤ dp ∧ 0 ≤ n ∧ sp + n ≤ aln sh s ∧ dp + n ≤ aln sh d ∧ kin sh s = 20 ∧ kin sh d = 20 ∧ r.length = 0 then some (pc', ls, r, sh, cpy g s sp d dp n) else none
  | _ => none
def a_mm (mx : Bool) (pc' : Nat) (ls st : List AVal) (sh : List AShp) (g : AMem) : Option ACfg := match st with
  | .inl y :: .inl x :: r => if r.length = 0 then some (pc', ls, vI (if mx = true then (if x < y then y else x) else (if y < x then y else x)) :: r, sh, g) else none
  | _ => none
def stp (ins : Instr) (x y : Nat) (z : Int) (pc : Nat) (ls st : List AVal) (sh : List AShp) (g : AMem) : Option ACfg := match ins with
  | .iconst n => some (pc + 1, ls, vI n :: st, sh, g)
  | .bipush n => some (pc + 2, ls, vI n :: st, sh, g)
  | .sipush n => some (pc + 3, ls, vI n :: st, sh, g)
  | .ldc _ => some (pc + 2, ls, vI z :: st, sh, g)
  | .ldc2_w _ => some (pc + 3, ls, vL z :: st, sh, g)
  | .lconst n => some (pc + 1, ls, vL (n : Nat) :: st, sh, g)
  | .iload_n n => a_ldI n (pc + 1) ls st sh g
  | .iload n => a_ldI n (pc + 2) ls st sh g
  | .lload_n n => a_ldL n (pc + 1) ls st sh g
  | .lload n => a_ldL n (pc + 2) ls st sh g
  | .aload_n n => a_ldR n (pc + 1) ls st sh g
  | .aload n => a_ldR n (pc + 2) ls st sh g
  | .istore_n n => a_stI n (pc + 1) ls st sh g
  | .istore n => a_stI n (pc + 2) ls st sh g
  | .lstore_n n => a_stL n (pc + 1) ls st sh g
  | .lstore n => a_stL n (pc + 2) ls st sh g
  | .astore_n n => a_stR n (pc + 1) ls st sh g
  | .astore n => a_stR n (pc + 2) ls st sh g
  | .iinc i n => a_inc i n (pc + 3) ls st sh g
  | .iadd => a_bi false (fun x y => iw (x + y)) (pc + 1) ls st sh g
  | .isub => a_bi false (fun x y => iw (x - y)) (pc + 1) ls st sh g
  | .imul => a_bi false (fun x y => iw (x * y)) (pc + 1) ls st sh g
  | .idiv => a_bi true (fun x y => iw (x.tdiv y)) (pc + 1) ls st sh g
  | .irem => a_bi true (fun x y => iw (x - x.tdiv y * y)) (pc + 1) ls st sh g
  | .iand => a_bi false (fun x y => (Int32.ofInt x &&& Int32.ofInt y).toInt) (pc + 1) ls st sh g
  | .ishr => a_bi false (fun x y => (Int32.ofInt x >>> (Int32.ofInt y &&& 31)).toInt) (pc + 1) ls st sh g
  | .ladd => a_bl false (fun x y => lw (x + y)) (pc + 1) ls st sh g
  | .lmul => a_bl false (fun x y => lw (x * y)) (pc + 1) ls st sh g
  | .ldiv => a_bl true (fun x y => lw (x.tdiv y)) (pc + 1) ls st sh g
  | .lrem => a_bl true (fun x y => lw (x - x.tdiv y * y)) (pc + 1) ls st sh g
  | .lcmp => a_lcmp (pc + 1) ls st sh g
  | .i2l => a_i2l (pc + 1) ls st sh g
  | .l2i => a_l2i (pc + 1) ls st sh g
  | .dup => a_dup (pc + 1) ls st sh g
  | .dup2 => a_dup2 (pc + 1) ls st sh g
  | .pop => a_pop (pc + 1) ls st sh g
  | .ifCond c o => a_if c ((pc : Int) + o).toNat (pc + 3) ls st sh g
  | .if_icmp c o => a_ic c ((pc : Int) + o).toNat (pc + 3) ls st sh g
  | .goto o => some (((pc : Int) + o).toNat, ls, st, sh, g)
  | .tableswitch d lo hi os => a_tsw d lo hi os pc ls st sh g
  | .lookupswitch d ps => a_lsw d ps pc ls st sh g
  | .getfield _ => a_getf x y (pc + 3) ls st sh g
  | .putfield _ => a_putf x y (pc + 3) ls st sh g
  | .new _ => a_new x (pc + 3) ls st sh g
  | .newarray t => match t with
    | .int => a_newa 20 (pc + 2) ls st sh g
    | .boolean => a_newa 21 (pc + 2) ls st sh g
    | _ => none
  | .anewarray _ => if x = 22 ∨ x = 23 then a_newq x (pc + 3) ls st sh g else none
  | .iaload => a_iald (pc + 1) ls st sh g
  | .iastore => a_iast (pc + 1) ls st sh g
  | .baload => a_bald (pc + 1) ls st sh g
  | .bastore => a_bast (pc + 1) ls st sh g
  | .aaload => a_aald (pc + 1) ls st sh g
  | .aastore => a_aast (pc + 1) ls st sh g
  | .arraylength => a_alen (pc + 1) ls st sh g
  | .invokespecial _ => a_obj (pc + 3) ls st sh g
  | .invokestatic _ => if x = 1001 then a_acpy (pc + 3) ls st sh g else a_mm (x == 1002) (pc + 3) ls st sh g
  | _ => none
/-- 0 a row, 1 a call, 2 an end -/
def akd (ins : Instr) (x : Nat) : Nat := match ins with
  | .invokevirtual _ => 1
  | .invokestatic _ => if 1001 ≤ x then 0 else 1
  | .invokespecial _ => if x = 1000 then 0 else 1
  | .ireturn => 2
  | .lreturn => 2
  | .areturn => 2
  | .return_ => 2
  | _ => 0
/-- of a method: kind of its objects (99 none), how many locals, what it answers (0 nothing, 1 int, 2 boolean, 3 long, 4 a reference), how many it takes with its object, frames, words, how it is called (0 with an object, 1 without, 2 as a maker) -/
abbrev AMt : Type := Nat × (Nat × (Nat × (Nat × (Nat × (Nat × Nat)))))
def look : List ACe → Nat → Option (Instr × (Nat × (Nat × (Nat × Int))))
  | [], _ => none
  | e :: r, pc => match Nat.beq e.1 pc with
    | true => some e.2
    | false => look r pc
def awg (l : List AVal) : Nat := (l.map (fun v => if ac1 v = true then 1 else 2)).sum
def aent (l : List AVal) : List AVal := l.flatMap (fun v => if ac1 v = true then [v] else [v, vU])
def a_end (ins : Instr) (rk : Nat) (st : List AVal) : Option (List AVal) := match ins, rk, st with
  | .ireturn, 1, [.inl v] => some [vI v]
  | .ireturn, 2, [.inl v] => if v = 0 ∨ v = 1 then some [vI v] else none
  | .lreturn, 3, [.inr (.inl v)] => some [vL v]
  | .areturn, 4, [.inr (.inr (.inl v))] => if 1 ≤ v then some [vR v] else none
  | .return_, 0, [] => some []
  | _, _, _ => none
def a_rcv (mt : AMt) (sh : List AShp) (l : List AVal) : Bool := match mt.2.2.2.2.2.2, l with
  | 1, _ => true
  | 2, .inr (.inr (.inl t)) :: _ => decide (2 ≤ t)
  | 0, .inr (.inr (.inl t)) :: _ => decide (kin sh t = mt.1)
  | _, _ => false
end
section
/-- 0 EdgeMoves_Block.init()V -/
def kc_0 : List ACe := [(0, .aload_n 0, 1, 0, 0, 0), (1, .invokespecial 3, 3, 1000, 0, 0), (4, .aload_n 0, 1, 0, 0, 0), (5, .bipush 6, 2, 0, 0, 0), (7, .newarray .int, 2, 0, 0, 0), (9, .putfield 9, 3, 0, 0, 0), (12, .return_, 1, 0, 0, 0)]
/-- 1 EdgeMoves_Regions.firstByte(I)I -/
def kc_1 : List ACe := [(0, .iload_n 0, 1, 0, 0, 0), (1, .bipush 10, 2, 0, 0, 0), (3, .idiv, 1, 0, 0, 0), (4, .ireturn, 1, 0, 0, 0)]
/-- 2 EdgeMoves_Regions.width(I)I -/
def kc_2 : List ACe := [(0, .iload_n 0, 1, 0, 0, 0), (1, .bipush 10, 2, 0, 0, 0), (3, .irem, 1, 0, 0, 0), (4, .ireturn, 1, 0, 0, 0)]
/-- 3 EdgeMoves_Regions.shareByte(II)Z -/
def kc_3 : List ACe := [(0, .iload_n 0, 1, 0, 0, 0), (1, .invokestatic 19, 3, 1, 1, 0), (4, .iload_n 1, 1, 0, 0, 0), (5, .invokestatic 19, 3, 1, 1, 0), (8, .iload_n 1, 1, 0, 0, 0), (9, .invokestatic 9, 3, 2, 1, 0), (12, .iadd, 1, 0, 0, 0), (13, .if_icmp .ge 23, 3, 0, 0, 0), (16, .iload_n 1, 1, 0, 0, 0), (17, .invokestatic 19, 3, 1, 1, 0), (20, .iload_n 0, 1, 0, 0, 0), (21, .invokestatic 19, 3, 1, 1, 0), (24, .iload_n 0, 1, 0, 0, 0), (25, .invokestatic 9, 3, 2, 1, 0), (28, .iadd, 1, 0, 0, 0), (29, .if_icmp .ge 7, 3, 0, 0, 0), (32, .iconst 1, 1, 0, 0, 0), (33, .goto 4, 3, 0, 0, 0), (36, .iconst 0, 1, 0, 0, 0), (37, .ireturn, 1, 0, 0, 0)]
/-- 4 EdgeMoves_Block.hasRoomAt(I)Z -/
def kc_4 : List ACe := [(0, .iconst 0, 1, 0, 0, 0), (1, .istore_n 2, 1, 0, 0, 0), (2, .iload_n 2, 1, 0, 0, 0), (3, .aload_n 0, 1, 0, 0, 0), (4, .getfield 15, 3, 0, 1, 0), (7, .if_icmp .ge 24, 3, 0, 0, 0), (10, .aload_n 0, 1, 0, 0, 0), (11, .getfield 9, 3, 0, 0, 0), (14, .iload_n 2, 1, 0, 0, 0), (15, .iaload, 1, 0, 0, 0), (16, .iload_n 1, 1, 0, 0, 0), (17, .invokestatic 19, 3, 3, 2, 0), (20, .ifCond .eq 5, 3, 0, 0, 0), (23, .iconst 0, 1, 0, 0, 0), (24, .ireturn, 1, 0, 0, 0), (25, .iinc 2 1, 3, 0, 0, 0), (28, .goto (-26), 3, 0, 0, 0), (31, .iconst 1, 1, 0, 0, 0), (32, .ireturn, 1, 0, 0, 0)]
/-- 5 EdgeMoves_Block.mix(J)J -/
def kc_5 : List ACe := [(0, .ldc2_w 25, 3, 0, 0, 31), (3, .lload_n 1, 1, 0, 0, 0), (4, .lmul, 1, 0, 0, 0), (5, .aload_n 0, 1, 0, 0, 0), (6, .getfield 15, 3, 0, 1, 0), (9, .i2l, 1, 0, 0, 0), (10, .ladd, 1, 0, 0, 0), (11, .lstore_n 3, 1, 0, 0, 0), (12, .iconst 0, 1, 0, 0, 0), (13, .istore 5, 2, 0, 0, 0), (15, .iload 5, 2, 0, 0, 0), (17, .aload_n 0, 1, 0, 0, 0), (18, .getfield 15, 3, 0, 1, 0), (21, .if_icmp .ge 24, 3, 0, 0, 0), (24, .ldc2_w 25, 3, 0, 0, 31), (27, .lload_n 3, 1, 0, 0, 0), (28, .lmul, 1, 0, 0, 0), (29, .aload_n 0, 1, 0, 0, 0), (30, .getfield 9, 3, 0, 0, 0), (33, .iload 5, 2, 0, 0, 0), (35, .iaload, 1, 0, 0, 0), (36, .i2l, 1, 0, 0, 0), (37, .ladd, 1, 0, 0, 0), (38, .lstore_n 3, 1, 0, 0, 0), (39, .iinc 5 1, 3, 0, 0, 0), (42, .goto (-27), 3, 0, 0, 0), (45, .lload_n 3, 1, 0, 0, 0), (46, .lreturn, 1, 0, 0, 0)]
/-- 6 EdgeMoves_Dice.init()V -/
def kc_6 : List ACe := [(0, .aload_n 0, 1, 0, 0, 0), (1, .invokespecial 1, 3, 1000, 0, 0), (4, .return_, 1, 0, 0, 0)]
/-- 7 EdgeMoves_Dice.start(I)V -/
def kc_7 : List ACe := [(0, .aload_n 0, 1, 0, 0, 0), (1, .iload_n 1, 1, 0, 0, 0), (2, .i2l, 1, 0, 0, 0), (3, .putfield 7, 3, 1, 0, 0), (6, .return_, 1, 0, 0, 0)]
/-- 8 EdgeMoves_Dice.nextBelow(I)I -/
def kc_8 : List ACe := [(0, .aload_n 0, 1, 0, 0, 0), (1, .aload_n 0, 1, 0, 0, 0), (2, .getfield 7, 3, 1, 0, 0), (5, .ldc2_w 13, 3, 0, 0, 1103515245), (8, .lmul, 1, 0, 0, 0), (9, .ldc2_w 15, 3, 0, 0, 12345), (12, .ladd, 1, 0, 0, 0), (13, .ldc2_w 17, 3, 0, 0, 2147483648), (16, .lrem, 1, 0, 0, 0), (17, .putfield 7, 3, 1, 0, 0), (20, .iload_n 1, 1, 0, 0, 0), (21, .ifCond .le 18, 3, 0, 0, 0), (24, .aload_n 0, 1, 0, 0, 0), (25, .getfield 7, 3, 1, 0, 0), (28, .ldc2_w 19, 3, 0, 0, 65536), (31, .ldiv, 1, 0, 0, 0), (32, .iload_n 1, 1, 0, 0, 0), (33, .i2l, 1, 0, 0, 0), (34, .lrem, 1, 0, 0, 0), (35, .l2i, 1, 0, 0, 0), (36, .goto 4, 3, 0, 0, 0), (39, .iconst 0, 1, 0, 0, 0), (40, .ireturn, 1, 0, 0, 0)]
/-- 9 EdgeMoves_Edge.init()V -/
def kc_9 : List ACe := [(0, .aload_n 0, 1, 0, 0, 0), (1, .invokespecial 3, 3, 1000, 0, 0), (4, .aload_n 0, 1, 0, 0, 0), (5, .bipush 6, 2, 0, 0, 0), (7, .newarray .int, 2, 0, 0, 0), (9, .putfield 9, 3, 2, 0, 0), (12, .return_, 1, 0, 0, 0)]
/-- 10 EdgeMoves_Edge.mix(JI)J -/
def kc_10 : List ACe := [(0, .ldc2_w 15, 3, 0, 0, 31), (3, .lload_n 1, 1, 0, 0, 0), (4, .lmul, 1, 0, 0, 0), (5, .aload_n 0, 1, 0, 0, 0), (6, .getfield 17, 3, 2, 1, 0), (9, .i2l, 1, 0, 0, 0), (10, .ladd, 1, 0, 0, 0), (11, .lstore 4, 2, 0, 0, 0), (13, .ldc2_w 15, 3, 0, 0, 31), (16, .lload 4, 2, 0, 0, 0), (18, .lmul, 1, 0, 0, 0), (19, .aload_n 0, 1, 0, 0, 0), (20, .getfield 21, 3, 2, 2, 0), (23, .i2l, 1, 0, 0, 0), (24, .ladd, 1, 0, 0, 0), (25, .lstore 4, 2, 0, 0, 0), (27, .ldc2_w 15, 3, 0, 0, 31), (30, .lload 4, 2, 0, 0, 0), (32, .lmul, 1, 0, 0, 0), (33, .aload_n 0, 1, 0, 0, 0), (34, .getfield 24, 3, 2, 3, 0), (37, .i2l, 1, 0, 0, 0), (38, .ladd, 1, 0, 0, 0), (39, .lstore 4, 2, 0, 0, 0), (41, .iconst 0, 1, 0, 0, 0), (42, .istore 6, 2, 0, 0, 0), (44, .iload 6, 2, 0, 0, 0), (46, .iload_n 3, 1, 0, 0, 0), (47, .if_icmp .ge 26, 3, 0, 0, 0), (50, .ldc2_w 15, 3, 0, 0, 31), (53, .lload 4, 2, 0, 0, 0), (55, .lmul, 1, 0, 0, 0), (56, .aload_n 0, 1, 0, 0, 0), (57, .getfield 9, 3, 2, 0, 0), (60, .iload 6, 2, 0, 0, 0), (62, .iaload, 1, 0, 0, 0), (63, .i2l, 1, 0, 0, 0), (64, .ladd, 1, 0, 0, 0), (65, .lstore 4, 2, 0, 0, 0), (67, .iinc 6 1, 3, 0, 0, 0), (70, .goto (-26), 3, 0, 0, 0), (73, .lload 4, 2, 0, 0, 0), (75, .lreturn, 1, 0, 0, 0)]
/-- 11 EdgeMoves_Graph.init()V -/
def kc_11 : List ACe := [(0, .aload_n 0, 1, 0, 0, 0), (1, .invokespecial 3, 3, 1000, 0, 0), (4, .aload_n 0, 1, 0, 0, 0), (5, .bipush 10, 2, 0, 0, 0), (7, .anewarray 9, 3, 22, 0, 0), (10, .putfield 11, 3, 3, 0, 0), (13, .iconst 0, 1, 0, 0, 0), (14, .istore_n 1, 1, 0, 0, 0), (15, .iload_n 1, 1, 0, 0, 0), (16, .bipush 10, 2, 0, 0, 0), (18, .if_icmp .ge 22, 3, 0, 0, 0), (21, .aload_n 0, 1, 0, 0, 0), (22, .getfield 11, 3, 3, 0, 0), (25, .iload_n 1, 1, 0, 0, 0), (26, .new 9, 3, 0, 0, 0), (29, .dup, 1, 0, 0, 0), (30, .invokespecial 17, 3, 0, 1, 0), (33, .aastore, 1, 0, 0, 0), (34, .iinc 1 1, 3, 0, 0, 0), (37, .goto (-22), 3, 0, 0, 0), (40, .aload_n 0, 1, 0, 0, 0), (41, .bipush 16, 2, 0, 0, 0), (43, .anewarray 18, 3, 23, 0, 0), (46, .putfield 20, 3, 3, 1, 0), (49, .iconst 0, 1, 0, 0, 0), (50, .istore_n 1, 1, 0, 0, 0), (51, .iload_n 1, 1, 0, 0, 0), (52, .bipush 16, 2, 0, 0, 0), (54, .if_icmp .ge 22, 3, 0, 0, 0), (57, .aload_n 0, 1, 0, 0, 0), (58, .getfield 20, 3, 3, 1, 0), (61, .iload_n 1, 1, 0, 0, 0), (62, .new 18, 3, 2, 0, 0), (65, .dup, 1, 0, 0, 0), (66, .invokespecial 24, 3, 9, 1, 0), (69, .aastore, 1, 0, 0, 0), (70, .iinc 1 1, 3, 0, 0, 0), (73, .goto (-22), 3, 0, 0, 0), (76, .return_, 1, 0, 0, 0)]
/-- 12 EdgeMoves_Graph.removeAll()V -/
def kc_12 : List ACe := [(0, .aload_n 0, 1, 0, 0, 0), (1, .iconst 0, 1, 0, 0, 0), (2, .putfield 25, 3, 3, 2, 0), (5, .aload_n 0, 1, 0, 0, 0), (6, .iconst 0, 1, 0, 0, 0), (7, .putfield 29, 3, 3, 3, 0), (10, .return_, 1, 0, 0, 0)]
/-- 13 EdgeMoves.isBelow(II)Z -/
def kc_13 : List ACe := [(0, .iload_n 0, 1, 0, 0, 0), (1, .ifCond .lt 12, 3, 0, 0, 0), (4, .iload_n 0, 1, 0, 0, 0), (5, .iload_n 1, 1, 0, 0, 0), (6, .if_icmp .ge 7, 3, 0, 0, 0), (9, .iconst 1, 1, 0, 0, 0), (10, .goto 4, 3, 0, 0, 0), (13, .iconst 0, 1, 0, 0, 0), (14, .ireturn, 1, 0, 0, 0)]
/-- 14 EdgeMoves_Graph.hasBlock(I)Z -/
def kc_14 : List ACe := [(0, .iload_n 1, 1, 0, 0, 0), (1, .aload_n 0, 1, 0, 0, 0), (2, .getfield 25, 3, 3, 2, 0), (5, .invokestatic 32, 3, 13, 2, 1), (8, .ireturn, 1, 0, 0, 0)]
/-- 15 EdgeMoves_Graph.hasEdge(I)Z -/
def kc_15 : List ACe := [(0, .iload_n 1, 1, 0, 0, 0), (1, .aload_n 0, 1, 0, 0, 0), (2, .getfield 29, 3, 3, 3, 0), (5, .invokestatic 32, 3, 13, 2, 1), (8, .ireturn, 1, 0, 0, 0)]
/-- 16 EdgeMoves_Graph.goalOf(I)LEdgeMoves$Block; -/
def kc_16 : List ACe := [(0, .aload_n 0, 1, 0, 0, 0), (1, .getfield 11, 3, 3, 0, 0), (4, .aload_n 0, 1, 0, 0, 0), (5, .getfield 20, 3, 3, 1, 0), (8, .iload_n 1, 1, 0, 0, 0), (9, .aaload, 1, 0, 0, 0), (10, .getfield 36, 3, 2, 2, 0), (13, .aaload, 1, 0, 0, 0), (14, .areturn, 1, 0, 0, 0)]
/-- 17 EdgeMoves_Graph.addBlock()I -/
def kc_17 : List ACe := [(0, .aload_n 0, 1, 0, 0, 0), (1, .getfield 25, 3, 3, 2, 0), (4, .bipush 10, 2, 0, 0, 0), (6, .if_icmp .lt 7, 3, 0, 0, 0), (9, .sipush (-201), 3, 0, 0, 0), (12, .ireturn, 1, 0, 0, 0), (13, .aload_n 0, 1, 0, 0, 0), (14, .getfield 11, 3, 3, 0, 0), (17, .aload_n 0, 1, 0, 0, 0), (18, .getfield 25, 3, 3, 2, 0), (21, .aaload, 1, 0, 0, 0), (22, .iconst 0, 1, 0, 0, 0), (23, .putfield 39, 3, 0, 1, 0), (26, .aload_n 0, 1, 0, 0, 0), (27, .dup, 1, 0, 0, 0), (28, .getfield 25, 3, 3, 2, 0), (31, .iconst 1, 1, 0, 0, 0), (32, .iadd, 1, 0, 0, 0), (33, .putfield 25, 3, 3, 2, 0), (36, .aload_n 0, 1, 0, 0, 0), (37, .getfield 25, 3, 3, 2, 0), (40, .iconst 1, 1, 0, 0, 0), (41, .isub, 1, 0, 0, 0), (42, .ireturn, 1, 0, 0, 0)]
/-- 18 EdgeMoves_Graph.addParameter(II)I -/
def kc_18 : List ACe := [(0, .aload_n 0, 1, 0, 0, 0), (1, .iload_n 1, 1, 0, 0, 0), (2, .invokevirtual 42, 3, 14, 2, 0), (5, .ifCond .eq 17, 3, 0, 0, 0), (8, .aload_n 0, 1, 0, 0, 0), (9, .getfield 11, 3, 3, 0, 0), (12, .iload_n 1, 1, 0, 0, 0), (13, .aaload, 1, 0, 0, 0), (14, .getfield 39, 3, 0, 1, 0), (17, .bipush 6, 2, 0, 0, 0), (19, .if_icmp .lt 7, 3, 0, 0, 0), (22, .sipush (-201), 3, 0, 0, 0), (25, .ireturn, 1, 0, 0, 0), (26, .aload_n 0, 1, 0, 0, 0), (27, .getfield 11, 3, 3, 0, 0), (30, .iload_n 1, 1, 0, 0, 0), (31, .aaload, 1, 0, 0, 0), (32, .getfield 39, 3, 0, 1, 0), (35, .istore_n 3, 1, 0, 0, 0), (36, .aload_n 0, 1, 0, 0, 0), (37, .getfield 11, 3, 3, 0, 0), (40, .iload_n 1, 1, 0, 0, 0), (41, .aaload, 1, 0, 0, 0), (42, .getfield 46, 3, 0, 0, 0), (45, .iload_n 3, 1, 0, 0, 0), (46, .iload_n 2, 1, 0, 0, 0), (47, .iastore, 1, 0, 0, 0), (48, .aload_n 0, 1, 0, 0, 0), (49, .getfield 11, 3, 3, 0, 0), (52, .iload_n 1, 1, 0, 0, 0), (53, .aaload, 1, 0, 0, 0), (54, .dup, 1, 0, 0, 0), (55, .getfield 39, 3, 0, 1, 0), (58, .iconst 1, 1, 0, 0, 0), (59, .iadd, 1, 0, 0, 0), (60, .putfield 39, 3, 0, 1, 0), (63, .iconst 0, 1, 0, 0, 0), (64, .istore 4, 2, 0, 0, 0), (66, .iload 4, 2, 0, 0, 0), (68, .aload_n 0, 1, 0, 0, 0), (69, .getfield 29, 3, 3, 3, 0), (72, .if_icmp .ge 36, 3, 0, 0, 0), (75, .aload_n 0, 1, 0, 0, 0), (76, .getfield 20, 3, 3, 1, 0), (79, .iload 4, 2, 0, 0, 0), (81, .aaload, 1, 0, 0, 0), (82, .getfield 36, 3, 2, 2, 0), (85, .iload_n 1, 1, 0, 0, 0), (86, .if_icmp .ne 16, 3, 0, 0, 0), (89, .aload_n 0, 1, 0, 0, 0), (90, .getfield 20, 3, 3, 1, 0), (93, .iload 4, 2, 0, 0, 0), (95, .aaload, 1, 0, 0, 0), (96, .getfield 50, 3, 2, 0, 0), (99, .iload_n 3, 1, 0, 0, 0), (100, .iload_n 2, 1, 0, 0, 0), (101, .iastore, 1, 0, 0, 0), (102, .iinc 4 1, 3, 0, 0, 0), (105, .goto (-39), 3, 0, 0, 0), (108, .iload_n 3, 1, 0, 0, 0), (109, .ireturn, 1, 0, 0, 0)]
/-- 19 EdgeMoves_Graph.addEdge(III)I -/
def kc_19 : List ACe := [(0, .aload_n 0, 1, 0, 0, 0), (1, .iload_n 1, 1, 0, 0, 0), (2, .invokevirtual 42, 3, 14, 2, 0), (5, .ifCond .eq 20, 3, 0, 0, 0), (8, .aload_n 0, 1, 0, 0, 0), (9, .iload_n 2, 1, 0, 0, 0), (10, .invokevirtual 42, 3, 14, 2, 0), (13, .ifCond .eq 12, 3, 0, 0, 0), (16, .aload_n 0, 1, 0, 0, 0), (17, .getfield 29, 3, 3, 3, 0), (20, .bipush 16, 2, 0, 0, 0), (22, .if_icmp .lt 7, 3, 0, 0, 0), (25, .sipush (-201), 3, 0, 0, 0), (28, .ireturn, 1, 0, 0, 0), (29, .aload_n 0, 1, 0, 0, 0), (30, .getfield 20, 3, 3, 1, 0), (33, .aload_n 0, 1, 0, 0, 0), (34, .getfield 29, 3, 3, 3, 0), (37, .aaload, 1, 0, 0, 0), (38, .astore 4, 2, 0, 0, 0), (40, .aload 4, 2, 0, 0, 0), (42, .iload_n 1, 1, 0, 0, 0), (43, .putfield 53, 3, 2, 1, 0), (46, .aload 4, 2, 0, 0, 0), (48, .iload_n 2, 1, 0, 0, 0), (49, .putfield 36, 3, 2, 2, 0), (52, .aload 4, 2, 0, 0, 0), (54, .iload_n 3, 1, 0, 0, 0), (55, .putfield 56, 3, 2, 3, 0), (58, .aload_n 0, 1, 0, 0, 0), (59, .getfield 11, 3, 3, 0, 0), (62, .iload_n 2, 1, 0, 0, 0), (63, .aaload, 1, 0, 0, 0), (64, .getfield 46, 3, 0, 0, 0), (67, .iconst 0, 1, 0, 0, 0), (68, .aload 4, 2, 0, 0, 0), (70, .getfield 50, 3, 2, 0, 0), (73, .iconst 0, 1, 0, 0, 0), (74, .aload_n 0, 1, 0, 0, 0), (75, .getfield 11, 3, 3, 0, 0), (78, .iload_n 2, 1, 0, 0, 0), (79, .aaload, 1, 0, 0, 0), (80, .getfield 39, 3, 0, 1, 0), (83, .invokestatic 59, 3, 1001, 0, 0), (86, .aload_n 0, 1, 0, 0, 0), (87, .dup, 1, 0, 0, 0), (88, .getfield 29, 3, 3, 3, 0), (91, .iconst 1, 1, 0, 0, 0), (92, .iadd, 1, 0, 0, 0), (93, .putfield 29, 3, 3, 3, 0), (96, .aload_n 0, 1, 0, 0, 0), (97, .getfield 29, 3, 3, 3, 0), (100, .iconst 1, 1, 0, 0, 0), (101, .isub, 1, 0, 0, 0), (102, .ireturn, 1, 0, 0, 0)]
/-- 20 EdgeMoves_Graph.countFrom(I)I -/
def kc_20 : List ACe := [(0, .iconst 0, 1, 0, 0, 0), (1, .istore_n 2, 1, 0, 0, 0), (2, .iconst 0, 1, 0, 0, 0), (3, .istore_n 3, 1, 0, 0, 0), (4, .iload_n 3, 1, 0, 0, 0), (5, .aload_n 0, 1, 0, 0, 0), (6, .getfield 29, 3, 3, 3, 0), (9, .if_icmp .ge 30, 3, 0, 0, 0), (12, .iload_n 2, 1, 0, 0, 0), (13, .aload_n 0, 1, 0, 0, 0), (14, .getfield 20, 3, 3, 1, 0), (17, .iload_n 3, 1, 0, 0, 0), (18, .aaload, 1, 0, 0, 0), (19, .getfield 53, 3, 2, 1, 0), (22, .iload_n 1, 1, 0, 0, 0), (23, .if_icmp .ne 7, 3, 0, 0, 0), (26, .iconst 1, 1, 0, 0, 0), (27, .goto 4, 3, 0, 0, 0), (30, .iconst 0, 1, 0, 0, 0), (31, .iadd, 1, 0, 0, 0), (32, .istore_n 2, 1, 0, 0, 0), (33, .iinc 3 1, 3, 0, 0, 0), (36, .goto (-32), 3, 0, 0, 0), (39, .iload_n 2, 1, 0, 0, 0), (40, .ireturn, 1, 0, 0, 0)]
/-- 21 EdgeMoves_Graph.countTo(I)I -/
def kc_21 : List ACe := [(0, .iconst 0, 1, 0, 0, 0), (1, .istore_n 2, 1, 0, 0, 0), (2, .iconst 0, 1, 0, 0, 0), (3, .istore_n 3, 1, 0, 0, 0), (4, .iload_n 3, 1, 0, 0, 0), (5, .aload_n 0, 1, 0, 0, 0), (6, .getfield 29, 3, 3, 3, 0), (9, .if_icmp .ge 30, 3, 0, 0, 0), (12, .iload_n 2, 1, 0, 0, 0), (13, .aload_n 0, 1, 0, 0, 0), (14, .getfield 20, 3, 3, 1, 0), (17, .iload_n 3, 1, 0, 0, 0), (18, .aaload, 1, 0, 0, 0), (19, .getfield 36, 3, 2, 2, 0), (22, .iload_n 1, 1, 0, 0, 0), (23, .if_icmp .ne 7, 3, 0, 0, 0), (26, .iconst 1, 1, 0, 0, 0), (27, .goto 4, 3, 0, 0, 0), (30, .iconst 0, 1, 0, 0, 0), (31, .iadd, 1, 0, 0, 0), (32, .istore_n 2, 1, 0, 0, 0), (33, .iinc 3 1, 3, 0, 0, 0), (36, .goto (-32), 3, 0, 0, 0), (39, .iload_n 2, 1, 0, 0, 0), (40, .ireturn, 1, 0, 0, 0)]
/-- 22 EdgeMoves_Graph.whereStepsGo(I)I -/
def kc_22 : List ACe := [(0, .aload_n 0, 1, 0, 0, 0), (1, .aload_n 0, 1, 0, 0, 0), (2, .getfield 20, 3, 3, 1, 0), (5, .iload_n 1, 1, 0, 0, 0), (6, .aaload, 1, 0, 0, 0), (7, .getfield 53, 3, 2, 1, 0), (10, .invokevirtual 65, 3, 20, 2, 0), (13, .iconst 1, 1, 0, 0, 0), (14, .if_icmp .ne 5, 3, 0, 0, 0), (17, .iconst 0, 1, 0, 0, 0), (18, .ireturn, 1, 0, 0, 0), (19, .aload_n 0, 1, 0, 0, 0), (20, .aload_n 0, 1, 0, 0, 0), (21, .getfield 20, 3, 3, 1, 0), (24, .iload_n 1, 1, 0, 0, 0), (25, .aaload, 1, 0, 0, 0), (26, .getfield 36, 3, 2, 2, 0), (29, .invokevirtual 69, 3, 21, 2, 0), (32, .iconst 1, 1, 0, 0, 0), (33, .if_icmp .ne 7, 3, 0, 0, 0), (36, .iconst 1, 1, 0, 0, 0), (37, .goto 4, 3, 0, 0, 0), (40, .iconst 2, 1, 0, 0, 0), (41, .ireturn, 1, 0, 0, 0)]
/-- 23 EdgeMoves_Handover.init()V -/
def kc_23 : List ACe := [(0, .aload_n 0, 1, 0, 0, 0), (1, .invokespecial 3, 3, 1000, 0, 0), (4, .aload_n 0, 1, 0, 0, 0), (5, .bipush 6, 2, 0, 0, 0), (7, .newarray .int, 2, 0, 0, 0), (9, .putfield 9, 3, 4, 0, 0), (12, .aload_n 0, 1, 0, 0, 0), (13, .aload_n 0, 1, 0, 0, 0), (14, .getfield 9, 3, 4, 0, 0), (17, .putfield 15, 3, 4, 1, 0), (20, .return_, 1, 0, 0, 0)]
/-- 24 EdgeMoves_Handover.look(LEdgeMoves$Block;LEdgeMoves$Edge;)V -/
def kc_24 : List ACe := [(0, .aload_n 0, 1, 0, 0, 0), (1, .aload_n 1, 1, 0, 0, 0), (2, .getfield 18, 3, 0, 0, 0), (5, .putfield 9, 3, 4, 0, 0), (8, .aload_n 0, 1, 0, 0, 0), (9, .aload_n 2, 1, 0, 0, 0), (10, .getfield 21, 3, 2, 0, 0), (13, .putfield 15, 3, 4, 1, 0), (16, .aload_n 0, 1, 0, 0, 0), (17, .aload_n 1, 1, 0, 0, 0), (18, .getfield 24, 3, 0, 1, 0), (21, .putfield 28, 3, 4, 2, 0), (24, .return_, 1, 0, 0, 0)]
/-- 25 EdgeMoves_Handover.isSet(I)Z -/
def kc_25 : List ACe := [(0, .aload_n 0, 1, 0, 0, 0), (1, .getfield 15, 3, 4, 1, 0), (4, .iload_n 1, 1, 0, 0, 0), (5, .iaload, 1, 0, 0, 0), (6, .ifCond .ge 7, 3, 0, 0, 0), (9, .iconst 1, 1, 0, 0, 0), (10, .goto 4, 3, 0, 0, 0), (13, .iconst 0, 1, 0, 0, 0), (14, .ireturn, 1, 0, 0, 0)]
/-- 26 EdgeMoves_Handover.isOpen(I)Z -/
def kc_26 : List ACe := [(0, .aload_n 0, 1, 0, 0, 0), (1, .getfield 15, 3, 4, 1, 0), (4, .iload_n 1, 1, 0, 0, 0), (5, .iaload, 1, 0, 0, 0), (6, .ifCond .lt 22, 3, 0, 0, 0), (9, .aload_n 0, 1, 0, 0, 0), (10, .getfield 15, 3, 4, 1, 0), (13, .iload_n 1, 1, 0, 0, 0), (14, .iaload, 1, 0, 0, 0), (15, .aload_n 0, 1, 0, 0, 0), (16, .getfield 9, 3, 4, 0, 0), (19, .iload_n 1, 1, 0, 0, 0), (20, .iaload, 1, 0, 0, 0), (21, .if_icmp .eq 7, 3, 0, 0, 0), (24, .iconst 1, 1, 0, 0, 0), (25, .goto 4, 3, 0, 0, 0), (28, .iconst 0, 1, 0, 0, 0), (29, .ireturn, 1, 0, 0, 0)]
/-- 27 EdgeMoves_Handover.involved(I)I -/
def kc_27 : List ACe := [(0, .iload_n 1, 1, 0, 0, 0), (1, .bipush 6, 2, 0, 0, 0), (3, .irem, 1, 0, 0, 0), (4, .istore_n 2, 1, 0, 0, 0), (5, .iload_n 2, 1, 0, 0, 0), (6, .aload_n 0, 1, 0, 0, 0), (7, .getfield 28, 3, 4, 2, 0), (10, .if_icmp .ge 18, 3, 0, 0, 0), (13, .aload_n 0, 1, 0, 0, 0), (14, .getfield 15, 3, 4, 1, 0), (17, .iload_n 2, 1, 0, 0, 0), (18, .iaload, 1, 0, 0, 0), (19, .aload_n 0, 1, 0, 0, 0), (20, .getfield 9, 3, 4, 0, 0), (23, .iload_n 2, 1, 0, 0, 0), (24, .iaload, 1, 0, 0, 0), (25, .if_icmp .ne 5, 3, 0, 0, 0), (28, .iconst (-1), 1, 0, 0, 0), (29, .ireturn, 1, 0, 0, 0), (30, .iload_n 1, 1, 0, 0, 0), (31, .bipush 6, 2, 0, 0, 0), (33, .if_icmp .ge 12, 3, 0, 0, 0), (36, .aload_n 0, 1, 0, 0, 0), (37, .getfield 9, 3, 4, 0, 0), (40, .iload_n 2, 1, 0, 0, 0), (41, .iaload, 1, 0, 0, 0), (42, .goto 9, 3, 0, 0, 0), (45, .aload_n 0, 1, 0, 0, 0), (46, .getfield 15, 3, 4, 1, 0), (49, .iload_n 2, 1, 0, 0, 0), (50, .iaload, 1, 0, 0, 0), (51, .ireturn, 1, 0, 0, 0)]
/-- 28 EdgeMoves_Regions.areAcross(II)Z -/
def kc_28 : List ACe := [(0, .iload_n 0, 1, 0, 0, 0), (1, .iload_n 1, 1, 0, 0, 0), (2, .if_icmp .eq 15, 3, 0, 0, 0), (5, .iload_n 0, 1, 0, 0, 0), (6, .iload_n 1, 1, 0, 0, 0), (7, .invokestatic 22, 3, 3, 2, 0), (10, .ifCond .eq 7, 3, 0, 0, 0), (13, .iconst 1, 1, 0, 0, 0), (14, .goto 4, 3, 0, 0, 0), (17, .iconst 0, 1, 0, 0, 0), (18, .ireturn, 1, 0, 0, 0)]
/-- 29 EdgeMoves_Handover.isClear()Z -/
def kc_29 : List ACe := [(0, .iconst 0, 1, 0, 0, 0), (1, .istore_n 1, 1, 0, 0, 0), (2, .iload_n 1, 1, 0, 0, 0), (3, .bipush 12, 2, 0, 0, 0), (5, .if_icmp .ge 55, 3, 0, 0, 0), (8, .iconst 0, 1, 0, 0, 0), (9, .istore_n 2, 1, 0, 0, 0), (10, .iload_n 2, 1, 0, 0, 0), (11, .iload_n 1, 1, 0, 0, 0), (12, .if_icmp .ge 42, 3, 0, 0, 0), (15, .aload_n 0, 1, 0, 0, 0), (16, .iload_n 1, 1, 0, 0, 0), (17, .invokevirtual 29, 3, 27, 2, 0), (20, .istore_n 3, 1, 0, 0, 0), (21, .aload_n 0, 1, 0, 0, 0), (22, .iload_n 2, 1, 0, 0, 0), (23, .invokevirtual 29, 3, 27, 2, 0), (26, .istore 4, 2, 0, 0, 0), (28, .iload_n 3, 1, 0, 0, 0), (29, .ifCond .lt 19, 3, 0, 0, 0), (32, .iload 4, 2, 0, 0, 0), (34, .ifCond .lt 14, 3, 0, 0, 0), (37, .iload_n 3, 1, 0, 0, 0), (38, .iload 4, 2, 0, 0, 0), (40, .invokestatic 33, 3, 28, 2, 0), (43, .ifCond .eq 5, 3, 0, 0, 0), (46, .iconst 0, 1, 0, 0, 0), (47, .ireturn, 1, 0, 0, 0), (48, .iinc 2 1, 3, 0, 0, 0), (51, .goto (-41), 3, 0, 0, 0), (54, .iinc 1 1, 3, 0, 0, 0), (57, .goto (-55), 3, 0, 0, 0), (60, .iconst 1, 1, 0, 0, 0), (61, .ireturn, 1, 0, 0, 0)]
/-- 30 EdgeMoves_Handover.touches(I)Z -/
def kc_30 : List ACe := [(0, .iconst 0, 1, 0, 0, 0), (1, .istore_n 2, 1, 0, 0, 0), (2, .iload_n 2, 1, 0, 0, 0), (3, .aload_n 0, 1, 0, 0, 0), (4, .getfield 28, 3, 4, 2, 0), (7, .if_icmp .ge 48, 3, 0, 0, 0), (10, .aload_n 0, 1, 0, 0, 0), (11, .getfield 9, 3, 4, 0, 0), (14, .iload_n 2, 1, 0, 0, 0), (15, .iaload, 1, 0, 0, 0), (16, .iload_n 1, 1, 0, 0, 0), (17, .invokestatic 39, 3, 3, 2, 0), (20, .ifCond .eq 5, 3, 0, 0, 0), (23, .iconst 1, 1, 0, 0, 0), (24, .ireturn, 1, 0, 0, 0), (25, .aload_n 0, 1, 0, 0, 0), (26, .getfield 15, 3, 4, 1, 0), (29, .iload_n 2, 1, 0, 0, 0), (30, .iaload, 1, 0, 0, 0), (31, .ifCond .lt 18, 3, 0, 0, 0), (34, .aload_n 0, 1, 0, 0, 0), (35, .getfield 15, 3, 4, 1, 0), (38, .iload_n 2, 1, 0, 0, 0), (39, .iaload, 1, 0, 0, 0), (40, .iload_n 1, 1, 0, 0, 0), (41, .invokestatic 39, 3, 3, 2, 0), (44, .ifCond .eq 5, 3, 0, 0, 0), (47, .iconst 1, 1, 0, 0, 0), (48, .ireturn, 1, 0, 0, 0), (49, .iinc 2 1, 3, 0, 0, 0), (52, .goto (-50), 3, 0, 0, 0), (55, .iconst 0, 1, 0, 0, 0), (56, .ireturn, 1, 0, 0, 0)]
/-- 31 EdgeMoves_Handover.openAt(I)I -/
def kc_31 : List ACe := [(0, .iconst 0, 1, 0, 0, 0), (1, .istore_n 2, 1, 0, 0, 0), (2, .iload_n 2, 1, 0, 0, 0), (3, .aload_n 0, 1, 0, 0, 0), (4, .getfield 28, 3, 4, 2, 0), (7, .if_icmp .ge 29, 3, 0, 0, 0), (10, .aload_n 0, 1, 0, 0, 0), (11, .getfield 9, 3, 4, 0, 0), (14, .iload_n 2, 1, 0, 0, 0), (15, .iaload, 1, 0, 0, 0), (16, .iload_n 1, 1, 0, 0, 0), (17, .if_icmp .ne 13, 3, 0, 0, 0), (20, .aload_n 0, 1, 0, 0, 0), (21, .iload_n 2, 1, 0, 0, 0), (22, .invokevirtual 42, 3, 26, 2, 0), (25, .ifCond .eq 5, 3, 0, 0, 0), (28, .iload_n 2, 1, 0, 0, 0), (29, .ireturn, 1, 0, 0, 0), (30, .iinc 2 1, 3, 0, 0, 0), (33, .goto (-31), 3, 0, 0, 0), (36, .iconst (-1), 1, 0, 0, 0), (37, .ireturn, 1, 0, 0, 0)]
/-- 32 EdgeMoves_Handover.countWanting(I)I -/
def kc_32 : List ACe := [(0, .iconst 0, 1, 0, 0, 0), (1, .istore_n 2, 1, 0, 0, 0), (2, .iconst 0, 1, 0, 0, 0), (3, .istore_n 3, 1, 0, 0, 0), (4, .iload_n 3, 1, 0, 0, 0), (5, .aload_n 0, 1, 0, 0, 0), (6, .getfield 28, 3, 4, 2, 0), (9, .if_icmp .ge 35, 3, 0, 0, 0), (12, .iload_n 2, 1, 0, 0, 0), (13, .aload_n 0, 1, 0, 0, 0), (14, .iload_n 3, 1, 0, 0, 0), (15, .invokevirtual 42, 3, 26, 2, 0), (18, .ifCond .eq 17, 3, 0, 0, 0), (21, .aload_n 0, 1, 0, 0, 0), (22, .getfield 15, 3, 4, 1, 0), (25, .iload_n 3, 1, 0, 0, 0), (26, .iaload, 1, 0, 0, 0), (27, .iload_n 1, 1, 0, 0, 0), (28, .if_icmp .ne 7, 3, 0, 0, 0), (31, .iconst 1, 1, 0, 0, 0), (32, .goto 4, 3, 0, 0, 0), (35, .iconst 0, 1, 0, 0, 0), (36, .iadd, 1, 0, 0, 0), (37, .istore_n 2, 1, 0, 0, 0), (38, .iinc 3 1, 3, 0, 0, 0), (41, .goto (-37), 3, 0, 0, 0), (44, .iload_n 2, 1, 0, 0, 0), (45, .ireturn, 1, 0, 0, 0)]
/-- 33 EdgeMoves_Handover.ringSize(I)I -/
def kc_33 : List ACe := [(0, .iload_n 1, 1, 0, 0, 0), (1, .istore_n 2, 1, 0, 0, 0), (2, .iconst 1, 1, 0, 0, 0), (3, .istore_n 3, 1, 0, 0, 0), (4, .iload_n 3, 1, 0, 0, 0), (5, .aload_n 0, 1, 0, 0, 0), (6, .getfield 28, 3, 4, 2, 0), (9, .if_icmp .gt 49, 3, 0, 0, 0), (12, .aload_n 0, 1, 0, 0, 0), (13, .aload_n 0, 1, 0, 0, 0), (14, .getfield 9, 3, 4, 0, 0), (17, .iload_n 2, 1, 0, 0, 0), (18, .iaload, 1, 0, 0, 0), (19, .invokevirtual 46, 3, 32, 2, 0), (22, .iconst 1, 1, 0, 0, 0), (23, .if_icmp .eq 5, 3, 0, 0, 0), (26, .iconst 0, 1, 0, 0, 0), (27, .ireturn, 1, 0, 0, 0), (28, .aload_n 0, 1, 0, 0, 0), (29, .aload_n 0, 1, 0, 0, 0), (30, .getfield 15, 3, 4, 1, 0), (33, .iload_n 2, 1, 0, 0, 0), (34, .iaload, 1, 0, 0, 0), (35, .invokevirtual 49, 3, 31, 2, 0), (38, .istore_n 2, 1, 0, 0, 0), (39, .iload_n 2, 1, 0, 0, 0), (40, .ifCond .ge 5, 3, 0, 0, 0), (43, .iconst 0, 1, 0, 0, 0), (44, .ireturn, 1, 0, 0, 0), (45, .iload_n 2, 1, 0, 0, 0), (46, .iload_n 1, 1, 0, 0, 0), (47, .if_icmp .ne 5, 3, 0, 0, 0), (50, .iload_n 3, 1, 0, 0, 0), (51, .ireturn, 1, 0, 0, 0), (52, .iinc 3 1, 3, 0, 0, 0), (55, .goto (-51), 3, 0, 0, 0), (58, .iconst 0, 1, 0, 0, 0), (59, .ireturn, 1, 0, 0, 0)]
/-- 34 EdgeMoves_Handover.countInRingsOf(I)I -/
def kc_34 : List ACe := [(0, .iconst 0, 1, 0, 0, 0), (1, .istore_n 2, 1, 0, 0, 0), (2, .iconst 0, 1, 0, 0, 0), (3, .istore_n 3, 1, 0, 0, 0), (4, .iload_n 3, 1, 0, 0, 0), (5, .aload_n 0, 1, 0, 0, 0), (6, .getfield 28, 3, 4, 2, 0), (9, .if_icmp .ge 34, 3, 0, 0, 0), (12, .iload_n 2, 1, 0, 0, 0), (13, .aload_n 0, 1, 0, 0, 0), (14, .iload_n 3, 1, 0, 0, 0), (15, .invokevirtual 42, 3, 26, 2, 0), (18, .ifCond .eq 16, 3, 0, 0, 0), (21, .aload_n 0, 1, 0, 0, 0), (22, .iload_n 3, 1, 0, 0, 0), (23, .invokevirtual 52, 3, 33, 2, 0), (26, .iload_n 1, 1, 0, 0, 0), (27, .if_icmp .ne 7, 3, 0, 0, 0), (30, .iconst 1, 1, 0, 0, 0), (31, .goto 4, 3, 0, 0, 0), (34, .iconst 0, 1, 0, 0, 0), (35, .iadd, 1, 0, 0, 0), (36, .istore_n 2, 1, 0, 0, 0), (37, .iinc 3 1, 3, 0, 0, 0), (40, .goto (-36), 3, 0, 0, 0), (43, .iload_n 2, 1, 0, 0, 0), (44, .ireturn, 1, 0, 0, 0)]
/-- 35 EdgeMoves_Handover.countRings()I -/
def kc_35 : List ACe := [(0, .iconst 0, 1, 0, 0, 0), (1, .istore_n 1, 1, 0, 0, 0), (2, .iconst 2, 1, 0, 0, 0), (3, .istore_n 2, 1, 0, 0, 0), (4, .iload_n 2, 1, 0, 0, 0), (5, .bipush 6, 2, 0, 0, 0), (7, .if_icmp .gt 19, 3, 0, 0, 0), (10, .iload_n 1, 1, 0, 0, 0), (11, .aload_n 0, 1, 0, 0, 0), (12, .iload_n 2, 1, 0, 0, 0), (13, .invokevirtual 55, 3, 34, 2, 0), (16, .iload_n 2, 1, 0, 0, 0), (17, .idiv, 1, 0, 0, 0), (18, .iadd, 1, 0, 0, 0), (19, .istore_n 1, 1, 0, 0, 0), (20, .iinc 2 1, 3, 0, 0, 0), (23, .goto (-19), 3, 0, 0, 0), (26, .iload_n 1, 1, 0, 0, 0), (27, .ireturn, 1, 0, 0, 0)]
/-- 36 EdgeMoves_Handover.longestRing()I -/
def kc_36 : List ACe := [(0, .iconst 0, 1, 0, 0, 0), (1, .istore_n 1, 1, 0, 0, 0), (2, .iconst 0, 1, 0, 0, 0), (3, .istore_n 2, 1, 0, 0, 0), (4, .iload_n 2, 1, 0, 0, 0), (5, .aload_n 0, 1, 0, 0, 0), (6, .getfield 28, 3, 4, 2, 0), (9, .if_icmp .ge 31, 3, 0, 0, 0), (12, .aload_n 0, 1, 0, 0, 0), (13, .iload_n 2, 1, 0, 0, 0), (14, .invokevirtual 42, 3, 26, 2, 0), (17, .ifCond .eq 15, 3, 0, 0, 0), (20, .iload_n 1, 1, 0, 0, 0), (21, .aload_n 0, 1, 0, 0, 0), (22, .iload_n 2, 1, 0, 0, 0), (23, .invokevirtual 52, 3, 33, 2, 0), (26, .invokestatic 58, 3, 1002, 0, 0), (29, .goto 4, 3, 0, 0, 0), (32, .iload_n 1, 1, 0, 0, 0), (33, .istore_n 1, 1, 0, 0, 0), (34, .iinc 2 1, 3, 0, 0, 0), (37, .goto (-33), 3, 0, 0, 0), (40, .iload_n 1, 1, 0, 0, 0), (41, .ireturn, 1, 0, 0, 0)]
/-- 37 EdgeMoves_Handover.countOpenOutsideRings()I -/
def kc_37 : List ACe := [(0, .aload_n 0, 1, 0, 0, 0), (1, .iconst 0, 1, 0, 0, 0), (2, .invokevirtual 55, 3, 34, 2, 0), (5, .ireturn, 1, 0, 0, 0)]
/-- 38 EdgeMoves_Memory.init()V -/
def kc_38 : List ACe := [(0, .aload_n 0, 1, 0, 0, 0), (1, .invokespecial 3, 3, 1000, 0, 0), (4, .aload_n 0, 1, 0, 0, 0), (5, .bipush 36, 2, 0, 0, 0), (7, .newarray .int, 2, 0, 0, 0), (9, .putfield 11, 3, 5, 0, 0), (12, .aload_n 0, 1, 0, 0, 0), (13, .bipush 36, 2, 0, 0, 0), (15, .newarray .int, 2, 0, 0, 0), (17, .putfield 15, 3, 5, 1, 0), (20, .return_, 1, 0, 0, 0)]
/-- 39 EdgeMoves_Memory.fillBy(LEdgeMoves$Dice;I)V -/
def kc_39 : List ACe := [(0, .aload_n 1, 1, 0, 0, 0), (1, .iload_n 2, 1, 0, 0, 0), (2, .invokevirtual 18, 3, 7, 2, 0), (5, .iconst 0, 1, 0, 0, 0), (6, .istore_n 3, 1, 0, 0, 0), (7, .iload_n 3, 1, 0, 0, 0), (8, .bipush 32, 2, 0, 0, 0), (10, .if_icmp .ge 22, 3, 0, 0, 0), (13, .aload_n 0, 1, 0, 0, 0), (14, .getfield 11, 3, 5, 0, 0), (17, .iload_n 3, 1, 0, 0, 0), (18, .aload_n 1, 1, 0, 0, 0), (19, .sipush 256, 3, 0, 0, 0), (22, .invokevirtual 24, 3, 8, 2, 0), (25, .iastore, 1, 0, 0, 0), (26, .iinc 3 1, 3, 0, 0, 0), (29, .goto (-22), 3, 0, 0, 0), (32, .return_, 1, 0, 0, 0)]
/-- 40 EdgeMoves_Memory.copy([III)V -/
def kc_40 : List ACe := [(0, .iload_n 3, 1, 0, 0, 0), (1, .invokestatic 28, 3, 2, 1, 0), (4, .istore 4, 2, 0, 0, 0), (6, .iconst 0, 1, 0, 0, 0), (7, .istore 5, 2, 0, 0, 0), (9, .iload 5, 2, 0, 0, 0), (11, .iload 4, 2, 0, 0, 0), (13, .if_icmp .ge 30, 3, 0, 0, 0), (16, .aload_n 0, 1, 0, 0, 0), (17, .getfield 11, 3, 5, 0, 0), (20, .iload_n 3, 1, 0, 0, 0), (21, .invokestatic 33, 3, 1, 1, 0), (24, .iload 5, 2, 0, 0, 0), (26, .iadd, 1, 0, 0, 0), (27, .aload_n 1, 1, 0, 0, 0), (28, .iload_n 2, 1, 0, 0, 0), (29, .invokestatic 33, 3, 1, 1, 0), (32, .iload 5, 2, 0, 0, 0), (34, .iadd, 1, 0, 0, 0), (35, .iaload, 1, 0, 0, 0), (36, .iastore, 1, 0, 0, 0), (37, .iinc 5 1, 3, 0, 0, 0), (40, .goto (-31), 3, 0, 0, 0), (43, .return_, 1, 0, 0, 0)]
/-- 41 EdgeMoves_Memory.put(II)V -/
def kc_41 : List ACe := [(0, .iconst (-1), 1, 0, 0, 0), (1, .iload_n 1, 1, 0, 0, 0), (2, .isub, 1, 0, 0, 0), (3, .istore_n 3, 1, 0, 0, 0), (4, .iconst 0, 1, 0, 0, 0), (5, .istore 4, 2, 0, 0, 0), (7, .iload 4, 2, 0, 0, 0), (9, .iload_n 2, 1, 0, 0, 0), (10, .invokestatic 28, 3, 2, 1, 0), (13, .if_icmp .ge 32, 3, 0, 0, 0), (16, .aload_n 0, 1, 0, 0, 0), (17, .getfield 11, 3, 5, 0, 0), (20, .iload_n 2, 1, 0, 0, 0), (21, .invokestatic 33, 3, 1, 1, 0), (24, .iload 4, 2, 0, 0, 0), (26, .iadd, 1, 0, 0, 0), (27, .iload_n 3, 1, 0, 0, 0), (28, .sipush 256, 3, 0, 0, 0), (31, .irem, 1, 0, 0, 0), (32, .iastore, 1, 0, 0, 0), (33, .iload_n 3, 1, 0, 0, 0), (34, .sipush 256, 3, 0, 0, 0), (37, .idiv, 1, 0, 0, 0), (38, .istore_n 3, 1, 0, 0, 0), (39, .iinc 4 1, 3, 0, 0, 0), (42, .goto (-35), 3, 0, 0, 0), (45, .return_, 1, 0, 0, 0)]
/-- 42 EdgeMoves_Memory.exchange(II)V -/
def kc_42 : List ACe := [(0, .aload_n 0, 1, 0, 0, 0), (1, .getfield 11, 3, 5, 0, 0), (4, .iconst 0, 1, 0, 0, 0), (5, .aload_n 0, 1, 0, 0, 0), (6, .getfield 15, 3, 5, 1, 0), (9, .iconst 0, 1, 0, 0, 0), (10, .bipush 36, 2, 0, 0, 0), (12, .invokestatic 36, 3, 1001, 0, 0), (15, .aload_n 0, 1, 0, 0, 0), (16, .aload_n 0, 1, 0, 0, 0), (17, .getfield 15, 3, 5, 1, 0), (20, .iload_n 2, 1, 0, 0, 0), (21, .iload_n 1, 1, 0, 0, 0), (22, .invokevirtual 42, 3, 40, 4, 0), (25, .aload_n 0, 1, 0, 0, 0), (26, .aload_n 0, 1, 0, 0, 0), (27, .getfield 15, 3, 5, 1, 0), (30, .iload_n 1, 1, 0, 0, 0), (31, .iload_n 2, 1, 0, 0, 0), (32, .invokevirtual 42, 3, 40, 4, 0), (35, .return_, 1, 0, 0, 0)]
/-- 43 EdgeMoves_Memory.handOver(LEdgeMoves$Block;LEdgeMoves$Edge;)V -/
def kc_43 : List ACe := [(0, .aload_n 0, 1, 0, 0, 0), (1, .getfield 11, 3, 5, 0, 0), (4, .iconst 0, 1, 0, 0, 0), (5, .aload_n 0, 1, 0, 0, 0), (6, .getfield 15, 3, 5, 1, 0), (9, .iconst 0, 1, 0, 0, 0), (10, .bipush 36, 2, 0, 0, 0), (12, .invokestatic 36, 3, 1001, 0, 0), (15, .iconst 0, 1, 0, 0, 0), (16, .istore_n 3, 1, 0, 0, 0), (17, .iload_n 3, 1, 0, 0, 0), (18, .aload_n 1, 1, 0, 0, 0), (19, .getfield 46, 3, 0, 1, 0), (22, .if_icmp .ge 57, 3, 0, 0, 0), (25, .aload_n 2, 1, 0, 0, 0), (26, .getfield 52, 3, 2, 0, 0), (29, .iload_n 3, 1, 0, 0, 0), (30, .iaload, 1, 0, 0, 0), (31, .ifCond .ge 22, 3, 0, 0, 0), (34, .aload_n 0, 1, 0, 0, 0), (35, .aload_n 2, 1, 0, 0, 0), (36, .getfield 52, 3, 2, 0, 0), (39, .iload_n 3, 1, 0, 0, 0), (40, .iaload, 1, 0, 0, 0), (41, .aload_n 1, 1, 0, 0, 0), (42, .getfield 57, 3, 0, 0, 0), (45, .iload_n 3, 1, 0, 0, 0), (46, .iaload, 1, 0, 0, 0), (47, .invokevirtual 60, 3, 41, 3, 0), (50, .goto 23, 3, 0, 0, 0), (53, .aload_n 0, 1, 0, 0, 0), (54, .aload_n 0, 1, 0, 0, 0), (55, .getfield 15, 3, 5, 1, 0), (58, .aload_n 2, 1, 0, 0, 0), (59, .getfield 52, 3, 2, 0, 0), (62, .iload_n 3, 1, 0, 0, 0), (63, .iaload, 1, 0, 0, 0), (64, .aload_n 1, 1, 0, 0, 0), (65, .getfield 57, 3, 0, 0, 0), (68, .iload_n 3, 1, 0, 0, 0), (69, .iaload, 1, 0, 0, 0), (70, .invokevirtual 42, 3, 40, 4, 0), (73, .iinc 3 1, 3, 0, 0, 0), (76, .goto (-59), 3, 0, 0, 0), (79, .return_, 1, 0, 0, 0)]
/-- 44 EdgeMoves_Memory.follow(LEdgeMoves$Plan;)V -/
def kc_44 : List ACe := [(0, .iconst 0, 1, 0, 0, 0), (1, .istore_n 2, 1, 0, 0, 0), (2, .iload_n 2, 1, 0, 0, 0), (3, .aload_n 1, 1, 0, 0, 0), (4, .getfield 64, 3, 6, 3, 0), (7, .if_icmp .ge 87, 3, 0, 0, 0), (10, .aload_n 1, 1, 0, 0, 0), (11, .getfield 67, 3, 6, 0, 0), (14, .iload_n 2, 1, 0, 0, 0), (15, .iaload, 1, 0, 0, 0), (16, .iconst 2, 1, 0, 0, 0), (17, .if_icmp .ne 22, 3, 0, 0, 0), (20, .aload_n 0, 1, 0, 0, 0), (21, .aload_n 1, 1, 0, 0, 0), (22, .getfield 70, 3, 6, 2, 0), (25, .iload_n 2, 1, 0, 0, 0), (26, .iaload, 1, 0, 0, 0), (27, .aload_n 1, 1, 0, 0, 0), (28, .getfield 73, 3, 6, 1, 0), (31, .iload_n 2, 1, 0, 0, 0), (32, .iaload, 1, 0, 0, 0), (33, .invokevirtual 60, 3, 41, 3, 0), (36, .goto 52, 3, 0, 0, 0), (39, .aload_n 1, 1, 0, 0, 0), (40, .getfield 67, 3, 6, 0, 0), (43, .iload_n 2, 1, 0, 0, 0), (44, .iaload, 1, 0, 0, 0), (45, .iconst 1, 1, 0, 0, 0), (46, .if_icmp .ne 22, 3, 0, 0, 0), (49, .aload_n 0, 1, 0, 0, 0), (50, .aload_n 1, 1, 0, 0, 0), (51, .getfield 73, 3, 6, 1, 0), (54, .iload_n 2, 1, 0, 0, 0), (55, .iaload, 1, 0, 0, 0), (56, .aload_n 1, 1, 0, 0, 0), (57, .getfield 70, 3, 6, 2, 0), (60, .iload_n 2, 1, 0, 0, 0), (61, .iaload, 1, 0, 0, 0), (62, .invokevirtual 76, 3, 42, 3, 0), (65, .goto 23, 3, 0, 0, 0), (68, .aload_n 0, 1, 0, 0, 0), (69, .aload_n 0, 1, 0, 0, 0), (70, .getfield 11, 3, 5, 0, 0), (73, .aload_n 1, 1, 0, 0, 0), (74, .getfield 70, 3, 6, 2, 0), (77, .iload_n 2, 1, 0, 0, 0), (78, .iaload, 1, 0, 0, 0), (79, .aload_n 1, 1, 0, 0, 0), (80, .getfield 73, 3, 6, 1, 0), (83, .iload_n 2, 1, 0, 0, 0), (84, .iaload, 1, 0, 0, 0), (85, .invokevirtual 42, 3, 40, 4, 0), (88, .iinc 2 1, 3, 0, 0, 0), (91, .goto (-89), 3, 0, 0, 0), (94, .return_, 1, 0, 0, 0)]
/-- 45 EdgeMoves_Memory.hash()J -/
def kc_45 : List ACe := [(0, .lconst 1, 1, 0, 0, 0), (1, .lstore_n 1, 1, 0, 0, 0), (2, .iconst 0, 1, 0, 0, 0), (3, .istore_n 3, 1, 0, 0, 0), (4, .iload_n 3, 1, 0, 0, 0), (5, .bipush 32, 2, 0, 0, 0), (7, .if_icmp .ge 23, 3, 0, 0, 0), (10, .ldc2_w 79, 3, 0, 0, 31), (13, .lload_n 1, 1, 0, 0, 0), (14, .lmul, 1, 0, 0, 0), (15, .aload_n 0, 1, 0, 0, 0), (16, .getfield 11, 3, 5, 0, 0), (19, .iload_n 3, 1, 0, 0, 0), (20, .iaload, 1, 0, 0, 0), (21, .i2l, 1, 0, 0, 0), (22, .ladd, 1, 0, 0, 0), (23, .lstore_n 1, 1, 0, 0, 0), (24, .iinc 3 1, 3, 0, 0, 0), (27, .goto (-23), 3, 0, 0, 0), (30, .lload_n 1, 1, 0, 0, 0), (31, .lreturn, 1, 0, 0, 0)]
/-- 46 EdgeMoves_Plan.init()V -/
def kc_46 : List ACe := [(0, .aload_n 0, 1, 0, 0, 0), (1, .invokespecial 3, 3, 1000, 0, 0), (4, .aload_n 0, 1, 0, 0, 0), (5, .bipush 9, 2, 0, 0, 0), (7, .newarray .int, 2, 0, 0, 0), (9, .putfield 11, 3, 6, 0, 0), (12, .aload_n 0, 1, 0, 0, 0), (13, .bipush 9, 2, 0, 0, 0), (15, .newarray .int, 2, 0, 0, 0), (17, .putfield 15, 3, 6, 1, 0), (20, .aload_n 0, 1, 0, 0, 0), (21, .bipush 9, 2, 0, 0, 0), (23, .newarray .int, 2, 0, 0, 0), (25, .putfield 18, 3, 6, 2, 0), (28, .aload_n 0, 1, 0, 0, 0), (29, .bipush 6, 2, 0, 0, 0), (31, .newarray .int, 2, 0, 0, 0), (33, .putfield 21, 3, 6, 5, 0), (36, .aload_n 0, 1, 0, 0, 0), (37, .bipush 6, 2, 0, 0, 0), (39, .newarray .int, 2, 0, 0, 0), (41, .putfield 24, 3, 6, 7, 0), (44, .aload_n 0, 1, 0, 0, 0), (45, .bipush 6, 2, 0, 0, 0), (47, .newarray .boolean, 2, 0, 0, 0), (49, .putfield 27, 3, 6, 8, 0), (52, .return_, 1, 0, 0, 0)]
/-- 47 EdgeMoves_Plan.openAll(LEdgeMoves$Handover;)V -/
def kc_47 : List ACe := [(0, .aload_n 0, 1, 0, 0, 0), (1, .aload_n 1, 1, 0, 0, 0), (2, .getfield 59, 3, 4, 0, 0), (5, .putfield 21, 3, 6, 5, 0), (8, .aload_n 0, 1, 0, 0, 0), (9, .aload_n 1, 1, 0, 0, 0), (10, .getfield 62, 3, 4, 2, 0), (13, .putfield 63, 3, 6, 6, 0), (16, .aload_n 0, 1, 0, 0, 0), (17, .iconst 0, 1, 0, 0, 0), (18, .putfield 42, 3, 6, 9, 0), (21, .iconst 0, 1, 0, 0, 0), (22, .istore_n 2, 1, 0, 0, 0), (23, .iload_n 2, 1, 0, 0, 0), (24, .aload_n 0, 1, 0, 0, 0), (25, .getfield 63, 3, 6, 6, 0), (28, .if_icmp .ge 55, 3, 0, 0, 0), (31, .aload_n 0, 1, 0, 0, 0), (32, .getfield 24, 3, 6, 7, 0), (35, .iload_n 2, 1, 0, 0, 0), (36, .aload_n 1, 1, 0, 0, 0), (37, .getfield 66, 3, 4, 1, 0), (40, .iload_n 2, 1, 0, 0, 0), (41, .iaload, 1, 0, 0, 0), (42, .iastore, 1, 0, 0, 0), (43, .aload_n 0, 1, 0, 0, 0), (44, .getfield 27, 3, 6, 8, 0), (47, .iload_n 2, 1, 0, 0, 0), (48, .aload_n 1, 1, 0, 0, 0), (49, .iload_n 2, 1, 0, 0, 0), (50, .invokevirtual 69, 3, 26, 2, 0), (53, .bastore, 1, 0, 0, 0), (54, .aload_n 0, 1, 0, 0, 0), (55, .dup, 1, 0, 0, 0), (56, .getfield 42, 3, 6, 9, 0), (59, .aload_n 0, 1, 0, 0, 0), (60, .getfield 27, 3, 6, 8, 0), (63, .iload_n 2, 1, 0, 0, 0), (64, .baload, 1, 0, 0, 0), (65, .ifCond .eq 7, 3, 0, 0, 0), (68, .iconst 1, 1, 0, 0, 0), (69, .goto 4, 3, 0, 0, 0), (72, .iconst 0, 1, 0, 0, 0), (73, .iadd, 1, 0, 0, 0), (74, .putfield 42, 3, 6, 9, 0), (77, .iinc 2 1, 3, 0, 0, 0), (80, .goto (-57), 3, 0, 0, 0), (83, .return_, 1, 0, 0, 0)]
/-- 48 EdgeMoves_Plan.isWanted(I)Z -/
def kc_48 : List ACe := [(0, .iconst 0, 1, 0, 0, 0), (1, .istore_n 2, 1, 0, 0, 0), (2, .iload_n 2, 1, 0, 0, 0), (3, .aload_n 0, 1, 0, 0, 0), (4, .getfield 63, 3, 6, 6, 0), (7, .if_icmp .ge 30, 3, 0, 0, 0), (10, .aload_n 0, 1, 0, 0, 0), (11, .getfield 27, 3, 6, 8, 0), (14, .iload_n 2, 1, 0, 0, 0), (15, .baload, 1, 0, 0, 0), (16, .ifCond .eq 15, 3, 0, 0, 0), (19, .aload_n 0, 1, 0, 0, 0), (20, .getfield 24, 3, 6, 7, 0), (23, .iload_n 2, 1, 0, 0, 0), (24, .iaload, 1, 0, 0, 0), (25, .iload_n 1, 1, 0, 0, 0), (26, .if_icmp .ne 5, 3, 0, 0, 0), (29, .iconst 1, 1, 0, 0, 0), (30, .ireturn, 1, 0, 0, 0), (31, .iinc 2 1, 3, 0, 0, 0), (34, .goto (-32), 3, 0, 0, 0), (37, .iconst 0, 1, 0, 0, 0), (38, .ireturn, 1, 0, 0, 0)]
/-- 49 EdgeMoves_Plan.leastOpen(Z)I -/
def kc_49 : List ACe := [(0, .iconst (-1), 1, 0, 0, 0), (1, .istore_n 2, 1, 0, 0, 0), (2, .iconst 0, 1, 0, 0, 0), (3, .istore_n 3, 1, 0, 0, 0), (4, .iload_n 3, 1, 0, 0, 0), (5, .aload_n 0, 1, 0, 0, 0), (6, .getfield 63, 3, 6, 6, 0), (9, .if_icmp .ge 68, 3, 0, 0, 0), (12, .aload_n 0, 1, 0, 0, 0), (13, .getfield 27, 3, 6, 8, 0), (16, .iload_n 3, 1, 0, 0, 0), (17, .baload, 1, 0, 0, 0), (18, .ifCond .eq 24, 3, 0, 0, 0), (21, .iload_n 1, 1, 0, 0, 0), (22, .ifCond .eq 16, 3, 0, 0, 0), (25, .aload_n 0, 1, 0, 0, 0), (26, .aload_n 0, 1, 0, 0, 0), (27, .getfield 21, 3, 6, 5, 0), (30, .iload_n 3, 1, 0, 0, 0), (31, .iaload, 1, 0, 0, 0), (32, .invokevirtual 73, 3, 48, 2, 0), (35, .ifCond .ne 7, 3, 0, 0, 0), (38, .iconst 1, 1, 0, 0, 0), (39, .goto 4, 3, 0, 0, 0), (42, .iconst 0, 1, 0, 0, 0), (43, .istore 4, 2, 0, 0, 0), (45, .iload 4, 2, 0, 0, 0), (47, .ifCond .eq 24, 3, 0, 0, 0), (50, .iload_n 2, 1, 0, 0, 0), (51, .ifCond .lt 18, 3, 0, 0, 0), (54, .aload_n 0, 1, 0, 0, 0), (55, .getfield 21, 3, 6, 5, 0), (58, .iload_n 3, 1, 0, 0, 0), (59, .iaload, 1, 0, 0, 0), (60, .aload_n 0, 1, 0, 0, 0), (61, .getfield 21, 3, 6, 5, 0), (64, .iload_n 2, 1, 0, 0, 0), (65, .iaload, 1, 0, 0, 0), (66, .if_icmp .ge 5, 3, 0, 0, 0), (69, .iload_n 3, 1, 0, 0, 0), (70, .istore_n 2, 1, 0, 0, 0), (71, .iinc 3 1, 3, 0, 0, 0), (74, .goto (-70), 3, 0, 0, 0), (77, .iload_n 2, 1, 0, 0, 0), (78, .ireturn, 1, 0, 0, 0)]
/-- 50 EdgeMoves_Plan.add(III)V -/
def kc_50 : List ACe := [(0, .aload_n 0, 1, 0, 0, 0), (1, .getfield 31, 3, 6, 3, 0), (4, .bipush 9, 2, 0, 0, 0), (6, .if_icmp .ge 43, 3, 0, 0, 0), (9, .aload_n 0, 1, 0, 0, 0), (10, .getfield 11, 3, 6, 0, 0), (13, .aload_n 0, 1, 0, 0, 0), (14, .getfield 31, 3, 6, 3, 0), (17, .iload_n 1, 1, 0, 0, 0), (18, .iastore, 1, 0, 0, 0), (19, .aload_n 0, 1, 0, 0, 0), (20, .getfield 15, 3, 6, 1, 0), (23, .aload_n 0, 1, 0, 0, 0), (24, .getfield 31, 3, 6, 3, 0), (27, .iload_n 2, 1, 0, 0, 0), (28, .iastore, 1, 0, 0, 0), (29, .aload_n 0, 1, 0, 0, 0), (30, .getfield 18, 3, 6, 2, 0), (33, .aload_n 0, 1, 0, 0, 0), (34, .getfield 31, 3, 6, 3, 0), (37, .iload_n 3, 1, 0, 0, 0), (38, .iastore, 1, 0, 0, 0), (39, .aload_n 0, 1, 0, 0, 0), (40, .dup, 1, 0, 0, 0), (41, .getfield 31, 3, 6, 3, 0), (44, .iconst 1, 1, 0, 0, 0), (45, .iadd, 1, 0, 0, 0), (46, .putfield 31, 3, 6, 3, 0), (49, .return_, 1, 0, 0, 0)]
/-- 51 EdgeMoves_Plan.close(I)V -/
def kc_51 : List ACe := [(0, .aload_n 0, 1, 0, 0, 0), (1, .getfield 27, 3, 6, 8, 0), (4, .iload_n 1, 1, 0, 0, 0), (5, .iconst 0, 1, 0, 0, 0), (6, .bastore, 1, 0, 0, 0), (7, .aload_n 0, 1, 0, 0, 0), (8, .dup, 1, 0, 0, 0), (9, .getfield 42, 3, 6, 9, 0), (12, .iconst 1, 1, 0, 0, 0), (13, .isub, 1, 0, 0, 0), (14, .putfield 42, 3, 6, 9, 0), (17, .return_, 1, 0, 0, 0)]
/-- 52 EdgeMoves_Plan.moveWhatLies(II)V -/
def kc_52 : List ACe := [(0, .iconst 0, 1, 0, 0, 0), (1, .istore_n 3, 1, 0, 0, 0), (2, .iload_n 3, 1, 0, 0, 0), (3, .aload_n 0, 1, 0, 0, 0), (4, .getfield 63, 3, 6, 6, 0), (7, .if_icmp .ge 35, 3, 0, 0, 0), (10, .aload_n 0, 1, 0, 0, 0), (11, .getfield 24, 3, 6, 7, 0), (14, .iload_n 3, 1, 0, 0, 0), (15, .aload_n 0, 1, 0, 0, 0), (16, .getfield 24, 3, 6, 7, 0), (19, .iload_n 3, 1, 0, 0, 0), (20, .iaload, 1, 0, 0, 0), (21, .iload_n 1, 1, 0, 0, 0), (22, .if_icmp .ne 7, 3, 0, 0, 0), (25, .iload_n 2, 1, 0, 0, 0), (26, .goto 9, 3, 0, 0, 0), (29, .aload_n 0, 1, 0, 0, 0), (30, .getfield 24, 3, 6, 7, 0), (33, .iload_n 3, 1, 0, 0, 0), (34, .iaload, 1, 0, 0, 0), (35, .iastore, 1, 0, 0, 0), (36, .iinc 3 1, 3, 0, 0, 0), (39, .goto (-37), 3, 0, 0, 0), (42, .return_, 1, 0, 0, 0)]
/-- 53 EdgeMoves_Plan.moveTo(I)V -/
def kc_53 : List ACe := [(0, .aload_n 0, 1, 0, 0, 0), (1, .getfield 24, 3, 6, 7, 0), (4, .iload_n 1, 1, 0, 0, 0), (5, .iaload, 1, 0, 0, 0), (6, .istore_n 2, 1, 0, 0, 0), (7, .aload_n 0, 1, 0, 0, 0), (8, .iconst 0, 1, 0, 0, 0), (9, .aload_n 0, 1, 0, 0, 0), (10, .getfield 21, 3, 6, 5, 0), (13, .iload_n 1, 1, 0, 0, 0), (14, .iaload, 1, 0, 0, 0), (15, .iload_n 2, 1, 0, 0, 0), (16, .invokevirtual 76, 3, 50, 4, 0), (19, .aload_n 0, 1, 0, 0, 0), (20, .iload_n 1, 1, 0, 0, 0), (21, .invokevirtual 80, 3, 51, 2, 0), (24, .aload_n 0, 1, 0, 0, 0), (25, .iload_n 2, 1, 0, 0, 0), (26, .aload_n 0, 1, 0, 0, 0), (27, .getfield 21, 3, 6, 5, 0), (30, .iload_n 1, 1, 0, 0, 0), (31, .iaload, 1, 0, 0, 0), (32, .invokevirtual 83, 3, 52, 3, 0), (35, .return_, 1, 0, 0, 0)]
/-- 54 EdgeMoves_Plan.openAt(I)I -/
def kc_54 : List ACe := [(0, .iconst 0, 1, 0, 0, 0), (1, .istore_n 2, 1, 0, 0, 0), (2, .iload_n 2, 1, 0, 0, 0), (3, .aload_n 0, 1, 0, 0, 0), (4, .getfield 63, 3, 6, 6, 0), (7, .if_icmp .ge 30, 3, 0, 0, 0), (10, .aload_n 0, 1, 0, 0, 0), (11, .getfield 27, 3, 6, 8, 0), (14, .iload_n 2, 1, 0, 0, 0), (15, .baload, 1, 0, 0, 0), (16, .ifCond .eq 15, 3, 0, 0, 0), (19, .aload_n 0, 1, 0, 0, 0), (20, .getfield 21, 3, 6, 5, 0), (23, .iload_n 2, 1, 0, 0, 0), (24, .iaload, 1, 0, 0, 0), (25, .iload_n 1, 1, 0, 0, 0), (26, .if_icmp .ne 5, 3, 0, 0, 0), (29, .iload_n 2, 1, 0, 0, 0), (30, .ireturn, 1, 0, 0, 0), (31, .iinc 2 1, 3, 0, 0, 0), (34, .goto (-32), 3, 0, 0, 0), (37, .iconst (-1), 1, 0, 0, 0), (38, .ireturn, 1, 0, 0, 0)]
/-- 55 EdgeMoves_Plan.ringSize(I)I -/
def kc_55 : List ACe := [(0, .aload_n 0, 1, 0, 0, 0), (1, .aload_n 0, 1, 0, 0, 0), (2, .getfield 24, 3, 6, 7, 0), (5, .iload_n 1, 1, 0, 0, 0), (6, .iaload, 1, 0, 0, 0), (7, .invokevirtual 87, 3, 54, 2, 0), (10, .istore_n 2, 1, 0, 0, 0), (11, .iconst 1, 1, 0, 0, 0), (12, .istore_n 3, 1, 0, 0, 0), (13, .iload_n 3, 1, 0, 0, 0), (14, .bipush 6, 2, 0, 0, 0), (16, .if_icmp .ge 29, 3, 0, 0, 0), (19, .iload_n 2, 1, 0, 0, 0), (20, .ifCond .lt 25, 3, 0, 0, 0), (23, .iload_n 2, 1, 0, 0, 0), (24, .iload_n 1, 1, 0, 0, 0), (25, .if_icmp .eq 20, 3, 0, 0, 0), (28, .aload_n 0, 1, 0, 0, 0), (29, .aload_n 0, 1, 0, 0, 0), (30, .getfield 24, 3, 6, 7, 0), (33, .iload_n 2, 1, 0, 0, 0), (34, .iaload, 1, 0, 0, 0), (35, .invokevirtual 87, 3, 54, 2, 0), (38, .istore_n 2, 1, 0, 0, 0), (39, .iinc 3 1, 3, 0, 0, 0), (42, .goto (-29), 3, 0, 0, 0), (45, .iload_n 3, 1, 0, 0, 0), (46, .ireturn, 1, 0, 0, 0)]
/-- 56 EdgeMoves_Prices.change(II)I -/
def kc_56 : List ACe := [(0, .iload_n 0, 1, 0, 0, 0), (1, .tableswitch 43 1 4 #[31, 33, 43, 35], 31, 0, 0, 0), (32, .iconst 1, 1, 0, 0, 0), (33, .ireturn, 1, 0, 0, 0), (34, .iconst 3, 1, 0, 0, 0), (35, .ireturn, 1, 0, 0, 0), (36, .iload_n 1, 1, 0, 0, 0), (37, .iconst 1, 1, 0, 0, 0), (38, .iadd, 1, 0, 0, 0), (39, .iconst 2, 1, 0, 0, 0), (40, .idiv, 1, 0, 0, 0), (41, .iconst 1, 1, 0, 0, 0), (42, .iadd, 1, 0, 0, 0), (43, .ireturn, 1, 0, 0, 0), (44, .iconst 0, 1, 0, 0, 0), (45, .ireturn, 1, 0, 0, 0)]
/-- 57 EdgeMoves_Prices.move(II)I -/
def kc_57 : List ACe := [(0, .iload_n 0, 1, 0, 0, 0), (1, .lookupswitch 35 #[(3, 27), (4, 29)], 27, 0, 0, 0), (28, .iload_n 1, 1, 0, 0, 0), (29, .ireturn, 1, 0, 0, 0), (30, .iload_n 1, 1, 0, 0, 0), (31, .iconst 1, 1, 0, 0, 0), (32, .iadd, 1, 0, 0, 0), (33, .iconst 2, 1, 0, 0, 0), (34, .idiv, 1, 0, 0, 0), (35, .ireturn, 1, 0, 0, 0), (36, .iconst 1, 1, 0, 0, 0), (37, .ireturn, 1, 0, 0, 0)]
/-- 58 EdgeMoves_Prices.isRingChanged(III)Z -/
def kc_58 : List ACe := [(0, .iload_n 0, 1, 0, 0, 0), (1, .iload_n 1, 1, 0, 0, 0), (2, .invokestatic 9, 3, 56, 2, 0), (5, .istore_n 3, 1, 0, 0, 0), (6, .iload_n 3, 1, 0, 0, 0), (7, .ifCond .le 24, 3, 0, 0, 0), (10, .iload_n 2, 1, 0, 0, 0), (11, .iconst 1, 1, 0, 0, 0), (12, .isub, 1, 0, 0, 0), (13, .iload_n 3, 1, 0, 0, 0), (14, .imul, 1, 0, 0, 0), (15, .iload_n 2, 1, 0, 0, 0), (16, .iconst 1, 1, 0, 0, 0), (17, .iadd, 1, 0, 0, 0), (18, .iload_n 0, 1, 0, 0, 0), (19, .iload_n 1, 1, 0, 0, 0), (20, .invokestatic 15, 3, 57, 2, 0), (23, .imul, 1, 0, 0, 0), (24, .if_icmp .ge 7, 3, 0, 0, 0), (27, .iconst 1, 1, 0, 0, 0), (28, .goto 4, 3, 0, 0, 0), (31, .iconst 0, 1, 0, 0, 0), (32, .ireturn, 1, 0, 0, 0)]
/-- 59 EdgeMoves_Plan.changeRing(II)V -/
def kc_59 : List ACe := [(0, .iload_n 1, 1, 0, 0, 0), (1, .istore_n 3, 1, 0, 0, 0), (2, .iconst 1, 1, 0, 0, 0), (3, .istore 4, 2, 0, 0, 0), (5, .iload 4, 2, 0, 0, 0), (7, .iload_n 2, 1, 0, 0, 0), (8, .if_icmp .ge 50, 3, 0, 0, 0), (11, .iload_n 3, 1, 0, 0, 0), (12, .ifCond .lt 46, 3, 0, 0, 0), (15, .aload_n 0, 1, 0, 0, 0), (16, .iconst 1, 1, 0, 0, 0), (17, .aload_n 0, 1, 0, 0, 0), (18, .getfield 21, 3, 6, 5, 0), (21, .iload_n 3, 1, 0, 0, 0), (22, .iaload, 1, 0, 0, 0), (23, .aload_n 0, 1, 0, 0, 0), (24, .getfield 24, 3, 6, 7, 0), (27, .iload_n 3, 1, 0, 0, 0), (28, .iaload, 1, 0, 0, 0), (29, .invokevirtual 76, 3, 50, 4, 0), (32, .aload_n 0, 1, 0, 0, 0), (33, .aload_n 0, 1, 0, 0, 0), (34, .getfield 24, 3, 6, 7, 0), (37, .iload_n 3, 1, 0, 0, 0), (38, .iaload, 1, 0, 0, 0), (39, .invokevirtual 87, 3, 54, 2, 0), (42, .istore 5, 2, 0, 0, 0), (44, .aload_n 0, 1, 0, 0, 0), (45, .iload_n 3, 1, 0, 0, 0), (46, .invokevirtual 80, 3, 51, 2, 0), (49, .iload 5, 2, 0, 0, 0), (51, .istore_n 3, 1, 0, 0, 0), (52, .iinc 4 1, 3, 0, 0, 0), (55, .goto (-50), 3, 0, 0, 0), (58, .iload_n 3, 1, 0, 0, 0), (59, .ifCond .lt 8, 3, 0, 0, 0), (62, .aload_n 0, 1, 0, 0, 0), (63, .iload_n 3, 1, 0, 0, 0), (64, .invokevirtual 80, 3, 51, 2, 0), (67, .return_, 1, 0, 0, 0)]
/-- 60 EdgeMoves_Regions.asTold(II)I -/
def kc_60 : List ACe := [(0, .bipush 10, 2, 0, 0, 0), (2, .iload_n 0, 1, 0, 0, 0), (3, .imul, 1, 0, 0, 0), (4, .iload_n 1, 1, 0, 0, 0), (5, .iadd, 1, 0, 0, 0), (6, .ireturn, 1, 0, 0, 0)]
/-- 61 EdgeMoves_Plan.breakRing(I)V -/
def kc_61 : List ACe := [(0, .iload_n 1, 1, 0, 0, 0), (1, .ifCond .ge 4, 3, 0, 0, 0), (4, .return_, 1, 0, 0, 0), (5, .aload_n 0, 1, 0, 0, 0), (6, .iload_n 1, 1, 0, 0, 0), (7, .invokevirtual 91, 3, 55, 2, 0), (10, .istore_n 2, 1, 0, 0, 0), (11, .aload_n 0, 1, 0, 0, 0), (12, .getfield 21, 3, 6, 5, 0), (15, .iload_n 1, 1, 0, 0, 0), (16, .iaload, 1, 0, 0, 0), (17, .invokestatic 94, 3, 2, 1, 0), (20, .istore_n 3, 1, 0, 0, 0), (21, .aload_n 0, 1, 0, 0, 0), (22, .getfield 35, 3, 6, 4, 0), (25, .iload_n 3, 1, 0, 0, 0), (26, .iload_n 2, 1, 0, 0, 0), (27, .invokestatic 99, 3, 58, 3, 0), (30, .ifCond .eq 12, 3, 0, 0, 0), (33, .aload_n 0, 1, 0, 0, 0), (34, .iload_n 1, 1, 0, 0, 0), (35, .iload_n 2, 1, 0, 0, 0), (36, .invokevirtual 105, 3, 59, 3, 0), (39, .goto 36, 3, 0, 0, 0), (42, .bipush 32, 2, 0, 0, 0), (44, .iload_n 3, 1, 0, 0, 0), (45, .invokestatic 108, 3, 60, 2, 0), (48, .istore 4, 2, 0, 0, 0), (50, .aload_n 0, 1, 0, 0, 0), (51, .iconst 0, 1, 0, 0, 0), (52, .iload 4, 2, 0, 0, 0), (54, .aload_n 0, 1, 0, 0, 0), (55, .getfield 21, 3, 6, 5, 0), (58, .iload_n 1, 1, 0, 0, 0), (59, .iaload, 1, 0, 0, 0), (60, .invokevirtual 76, 3, 50, 4, 0), (63, .aload_n 0, 1, 0, 0, 0), (64, .aload_n 0, 1, 0, 0, 0), (65, .getfield 21, 3, 6, 5, 0), (68, .iload_n 1, 1, 0, 0, 0), (69, .iaload, 1, 0, 0, 0), (70, .iload 4, 2, 0, 0, 0), (72, .invokevirtual 83, 3, 52, 3, 0), (75, .return_, 1, 0, 0, 0)]
/-- 62 EdgeMoves_Plan.leastSetBehind(LEdgeMoves$Handover;I)I -/
def kc_62 : List ACe := [(0, .iconst (-1), 1, 0, 0, 0), (1, .istore_n 3, 1, 0, 0, 0), (2, .iconst 0, 1, 0, 0, 0), (3, .istore 4, 2, 0, 0, 0), (5, .iload 4, 2, 0, 0, 0), (7, .aload_n 0, 1, 0, 0, 0), (8, .getfield 63, 3, 6, 6, 0), (11, .if_icmp .ge 64, 3, 0, 0, 0), (14, .aload_n 1, 1, 0, 0, 0), (15, .iload 4, 2, 0, 0, 0), (17, .invokevirtual 116, 3, 25, 2, 0), (20, .ifCond .eq 18, 3, 0, 0, 0), (23, .aload_n 0, 1, 0, 0, 0), (24, .getfield 21, 3, 6, 5, 0), (27, .iload 4, 2, 0, 0, 0), (29, .iaload, 1, 0, 0, 0), (30, .iload_n 2, 1, 0, 0, 0), (31, .if_icmp .le 7, 3, 0, 0, 0), (34, .iconst 1, 1, 0, 0, 0), (35, .goto 4, 3, 0, 0, 0), (38, .iconst 0, 1, 0, 0, 0), (39, .istore 5, 2, 0, 0, 0), (41, .iload 5, 2, 0, 0, 0), (43, .ifCond .eq 26, 3, 0, 0, 0), (46, .iload_n 3, 1, 0, 0, 0), (47, .ifCond .lt 19, 3, 0, 0, 0), (50, .aload_n 0, 1, 0, 0, 0), (51, .getfield 21, 3, 6, 5, 0), (54, .iload 4, 2, 0, 0, 0), (56, .iaload, 1, 0, 0, 0), (57, .aload_n 0, 1, 0, 0, 0), (58, .getfield 21, 3, 6, 5, 0), (61, .iload_n 3, 1, 0, 0, 0), (62, .iaload, 1, 0, 0, 0), (63, .if_icmp .ge 6, 3, 0, 0, 0), (66, .iload 4, 2, 0, 0, 0), (68, .istore_n 3, 1, 0, 0, 0), (69, .iinc 4 1, 3, 0, 0, 0), (72, .goto (-67), 3, 0, 0, 0), (75, .iload_n 3, 1, 0, 0, 0), (76, .ireturn, 1, 0, 0, 0)]
/-- 63 EdgeMoves_Plan.addSettings(LEdgeMoves$Handover;)V -/
def kc_63 : List ACe := [(0, .iconst (-1), 1, 0, 0, 0), (1, .istore_n 2, 1, 0, 0, 0), (2, .iconst 0, 1, 0, 0, 0), (3, .istore_n 3, 1, 0, 0, 0), (4, .iload_n 3, 1, 0, 0, 0), (5, .aload_n 0, 1, 0, 0, 0), (6, .getfield 63, 3, 6, 6, 0), (9, .if_icmp .ge 43, 3, 0, 0, 0), (12, .aload_n 0, 1, 0, 0, 0), (13, .aload_n 1, 1, 0, 0, 0), (14, .iload_n 2, 1, 0, 0, 0), (15, .invokevirtual 112, 3, 62, 3, 0), (18, .istore 4, 2, 0, 0, 0), (20, .iload 4, 2, 0, 0, 0), (22, .ifCond .lt 24, 3, 0, 0, 0), (25, .aload_n 0, 1, 0, 0, 0), (26, .getfield 21, 3, 6, 5, 0), (29, .iload 4, 2, 0, 0, 0), (31, .iaload, 1, 0, 0, 0), (32, .istore_n 2, 1, 0, 0, 0), (33, .aload_n 0, 1, 0, 0, 0), (34, .iconst 2, 1, 0, 0, 0), (35, .iload_n 2, 1, 0, 0, 0), (36, .aload_n 1, 1, 0, 0, 0), (37, .getfield 66, 3, 4, 1, 0), (40, .iload 4, 2, 0, 0, 0), (42, .iaload, 1, 0, 0, 0), (43, .invokevirtual 76, 3, 50, 4, 0), (46, .iinc 3 1, 3, 0, 0, 0), (49, .goto (-45), 3, 0, 0, 0), (52, .return_, 1, 0, 0, 0)]
/-- 64 EdgeMoves_Plan.make(LEdgeMoves$Handover;I)V -/
def kc_64 : List ACe := [(0, .aload_n 0, 1, 0, 0, 0), (1, .iconst 0, 1, 0, 0, 0), (2, .putfield 31, 3, 6, 3, 0), (5, .aload_n 0, 1, 0, 0, 0), (6, .iload_n 2, 1, 0, 0, 0), (7, .putfield 35, 3, 6, 4, 0), (10, .aload_n 0, 1, 0, 0, 0), (11, .aload_n 1, 1, 0, 0, 0), (12, .invokevirtual 38, 3, 47, 2, 0), (15, .iconst 0, 1, 0, 0, 0), (16, .istore_n 3, 1, 0, 0, 0), (17, .iload_n 3, 1, 0, 0, 0), (18, .bipush 9, 2, 0, 0, 0), (20, .if_icmp .ge 46, 3, 0, 0, 0), (23, .aload_n 0, 1, 0, 0, 0), (24, .getfield 42, 3, 6, 9, 0), (27, .ifCond .le 39, 3, 0, 0, 0), (30, .aload_n 0, 1, 0, 0, 0), (31, .iconst 1, 1, 0, 0, 0), (32, .invokevirtual 45, 3, 49, 2, 0), (35, .istore 4, 2, 0, 0, 0), (37, .iload 4, 2, 0, 0, 0), (39, .ifCond .lt 12, 3, 0, 0, 0), (42, .aload_n 0, 1, 0, 0, 0), (43, .iload 4, 2, 0, 0, 0), (45, .invokevirtual 49, 3, 53, 2, 0), (48, .goto 12, 3, 0, 0, 0), (51, .aload_n 0, 1, 0, 0, 0), (52, .aload_n 0, 1, 0, 0, 0), (53, .iconst 0, 1, 0, 0, 0), (54, .invokevirtual 45, 3, 49, 2, 0), (57, .invokevirtual 53, 3, 61, 2, 0), (60, .iinc 3 1, 3, 0, 0, 0), (63, .goto (-46), 3, 0, 0, 0), (66, .aload_n 0, 1, 0, 0, 0), (67, .aload_n 1, 1, 0, 0, 0), (68, .invokevirtual 56, 3, 63, 2, 0), (71, .return_, 1, 0, 0, 0)]
/-- 65 EdgeMoves_Plan.countSort(I)I -/
def kc_65 : List ACe := [(0, .iconst 0, 1, 0, 0, 0), (1, .istore_n 2, 1, 0, 0, 0), (2, .iconst 0, 1, 0, 0, 0), (3, .istore_n 3, 1, 0, 0, 0), (4, .iload_n 3, 1, 0, 0, 0), (5, .aload_n 0, 1, 0, 0, 0), (6, .getfield 31, 3, 6, 3, 0), (9, .if_icmp .ge 27, 3, 0, 0, 0), (12, .iload_n 2, 1, 0, 0, 0), (13, .aload_n 0, 1, 0, 0, 0), (14, .getfield 11, 3, 6, 0, 0), (17, .iload_n 3, 1, 0, 0, 0), (18, .iaload, 1, 0, 0, 0), (19, .iload_n 1, 1, 0, 0, 0), (20, .if_icmp .ne 7, 3, 0, 0, 0), (23, .iconst 1, 1, 0, 0, 0), (24, .goto 4, 3, 0, 0, 0), (27, .iconst 0, 1, 0, 0, 0), (28, .iadd, 1, 0, 0, 0), (29, .istore_n 2, 1, 0, 0, 0), (30, .iinc 3 1, 3, 0, 0, 0), (33, .goto (-29), 3, 0, 0, 0), (36, .iload_n 2, 1, 0, 0, 0), (37, .ireturn, 1, 0, 0, 0)]
/-- 66 EdgeMoves_Plan.countToSpare()I -/
def kc_66 : List ACe := [(0, .iconst 0, 1, 0, 0, 0), (1, .istore_n 1, 1, 0, 0, 0), (2, .iconst 0, 1, 0, 0, 0), (3, .istore_n 2, 1, 0, 0, 0), (4, .iload_n 2, 1, 0, 0, 0), (5, .aload_n 0, 1, 0, 0, 0), (6, .getfield 31, 3, 6, 3, 0), (9, .if_icmp .ge 31, 3, 0, 0, 0), (12, .iload_n 1, 1, 0, 0, 0), (13, .aload_n 0, 1, 0, 0, 0), (14, .getfield 15, 3, 6, 1, 0), (17, .iload_n 2, 1, 0, 0, 0), (18, .iaload, 1, 0, 0, 0), (19, .invokestatic 119, 3, 1, 1, 0), (22, .bipush 32, 2, 0, 0, 0), (24, .if_icmp .ne 7, 3, 0, 0, 0), (27, .iconst 1, 1, 0, 0, 0), (28, .goto 4, 3, 0, 0, 0), (31, .iconst 0, 1, 0, 0, 0), (32, .iadd, 1, 0, 0, 0), (33, .istore_n 1, 1, 0, 0, 0), (34, .iinc 2 1, 3, 0, 0, 0), (37, .goto (-33), 3, 0, 0, 0), (40, .iload_n 1, 1, 0, 0, 0), (41, .ireturn, 1, 0, 0, 0)]
/-- 67 EdgeMoves_Plan.price()I -/
def kc_67 : List ACe := [(0, .iconst 0, 1, 0, 0, 0), (1, .istore_n 1, 1, 0, 0, 0), (2, .iconst 0, 1, 0, 0, 0), (3, .istore_n 2, 1, 0, 0, 0), (4, .iload_n 2, 1, 0, 0, 0), (5, .aload_n 0, 1, 0, 0, 0), (6, .getfield 31, 3, 6, 3, 0), (9, .if_icmp .ge 51, 3, 0, 0, 0), (12, .aload_n 0, 1, 0, 0, 0), (13, .getfield 15, 3, 6, 1, 0), (16, .iload_n 2, 1, 0, 0, 0), (17, .iaload, 1, 0, 0, 0), (18, .invokestatic 94, 3, 2, 1, 0), (21, .istore_n 3, 1, 0, 0, 0), (22, .iload_n 1, 1, 0, 0, 0), (23, .aload_n 0, 1, 0, 0, 0), (24, .getfield 11, 3, 6, 0, 0), (27, .iload_n 2, 1, 0, 0, 0), (28, .iaload, 1, 0, 0, 0), (29, .iconst 1, 1, 0, 0, 0), (30, .if_icmp .ne 14, 3, 0, 0, 0), (33, .aload_n 0, 1, 0, 0, 0), (34, .getfield 35, 3, 6, 4, 0), (37, .iload_n 3, 1, 0, 0, 0), (38, .invokestatic 122, 3, 56, 2, 0), (41, .goto 11, 3, 0, 0, 0), (44, .aload_n 0, 1, 0, 0, 0), (45, .getfield 35, 3, 6, 4, 0), (48, .iload_n 3, 1, 0, 0, 0), (49, .invokestatic 125, 3, 57, 2, 0), (52, .iadd, 1, 0, 0, 0), (53, .istore_n 1, 1, 0, 0, 0), (54, .iinc 2 1, 3, 0, 0, 0), (57, .goto (-53), 3, 0, 0, 0), (60, .iload_n 1, 1, 0, 0, 0), (61, .ireturn, 1, 0, 0, 0)]
/-- 68 EdgeMoves_Plan.isSame(ILEdgeMoves$Plan;I)Z -/
def kc_68 : List ACe := [(0, .aload_n 0, 1, 0, 0, 0), (1, .getfield 11, 3, 6, 0, 0), (4, .iload_n 1, 1, 0, 0, 0), (5, .iaload, 1, 0, 0, 0), (6, .aload_n 2, 1, 0, 0, 0), (7, .getfield 11, 3, 6, 0, 0), (10, .iload_n 3, 1, 0, 0, 0), (11, .iaload, 1, 0, 0, 0), (12, .if_icmp .ne 37, 3, 0, 0, 0), (15, .aload_n 0, 1, 0, 0, 0), (16, .getfield 15, 3, 6, 1, 0), (19, .iload_n 1, 1, 0, 0, 0), (20, .iaload, 1, 0, 0, 0), (21, .aload_n 2, 1, 0, 0, 0), (22, .getfield 15, 3, 6, 1, 0), (25, .iload_n 3, 1, 0, 0, 0), (26, .iaload, 1, 0, 0, 0), (27, .if_icmp .ne 22, 3, 0, 0, 0), (30, .aload_n 0, 1, 0, 0, 0), (31, .getfield 18, 3, 6, 2, 0), (34, .iload_n 1, 1, 0, 0, 0), (35, .iaload, 1, 0, 0, 0), (36, .aload_n 2, 1, 0, 0, 0), (37, .getfield 18, 3, 6, 2, 0), (40, .iload_n 3, 1, 0, 0, 0), (41, .iaload, 1, 0, 0, 0), (42, .if_icmp .ne 7, 3, 0, 0, 0), (45, .iconst 1, 1, 0, 0, 0), (46, .goto 4, 3, 0, 0, 0), (49, .iconst 0, 1, 0, 0, 0), (50, .ireturn, 1, 0, 0, 0)]
/-- 69 EdgeMoves_Plan.countSameAtEnd(LEdgeMoves$Plan;)I -/
def kc_69 : List ACe := [(0, .iconst 0, 1, 0, 0, 0), (1, .istore_n 2, 1, 0, 0, 0), (2, .iload_n 2, 1, 0, 0, 0), (3, .aload_n 0, 1, 0, 0, 0), (4, .getfield 31, 3, 6, 3, 0), (7, .if_icmp .ge 41, 3, 0, 0, 0), (10, .iload_n 2, 1, 0, 0, 0), (11, .aload_n 1, 1, 0, 0, 0), (12, .getfield 31, 3, 6, 3, 0), (15, .if_icmp .ge 33, 3, 0, 0, 0), (18, .aload_n 0, 1, 0, 0, 0), (19, .aload_n 0, 1, 0, 0, 0), (20, .getfield 31, 3, 6, 3, 0), (23, .iconst 1, 1, 0, 0, 0), (24, .isub, 1, 0, 0, 0), (25, .iload_n 2, 1, 0, 0, 0), (26, .isub, 1, 0, 0, 0), (27, .aload_n 1, 1, 0, 0, 0), (28, .aload_n 1, 1, 0, 0, 0), (29, .getfield 31, 3, 6, 3, 0), (32, .iconst 1, 1, 0, 0, 0), (33, .isub, 1, 0, 0, 0), (34, .iload_n 2, 1, 0, 0, 0), (35, .isub, 1, 0, 0, 0), (36, .invokevirtual 128, 3, 68, 4, 0), (39, .ifCond .eq 9, 3, 0, 0, 0), (42, .iinc 2 1, 3, 0, 0, 0), (45, .goto (-43), 3, 0, 0, 0), (48, .iload_n 2, 1, 0, 0, 0), (49, .ireturn, 1, 0, 0, 0)]
/-- 70 EdgeMoves_Reader.init(LEdgeMoves$Text;)V -/
def kc_70 : List ACe := [(0, .aload_n 0, 1, 0, 0, 0), (1, .invokespecial 3, 3, 1000, 0, 0), (4, .aload_n 0, 1, 0, 0, 0), (5, .aload_n 1, 1, 0, 0, 0), (6, .putfield 9, 3, 7, 0, 0), (9, .return_, 1, 0, 0, 0)]
/-- 71 EdgeMoves_Text.at(I)I -/
def kc_71 : List ACe := [(0, .iload_n 1, 1, 0, 0, 0), (1, .ifCond .lt 20, 3, 0, 0, 0), (4, .iload_n 1, 1, 0, 0, 0), (5, .aload_n 0, 1, 0, 0, 0), (6, .getfield 15, 3, 8, 1, 0), (9, .if_icmp .ge 12, 3, 0, 0, 0), (12, .aload_n 0, 1, 0, 0, 0), (13, .getfield 9, 3, 8, 0, 0), (16, .iload_n 1, 1, 0, 0, 0), (17, .iaload, 1, 0, 0, 0), (18, .goto 4, 3, 0, 0, 0), (21, .iconst (-1), 1, 0, 0, 0), (22, .ireturn, 1, 0, 0, 0)]
/-- 72 EdgeMoves_Reader.nextByte()I -/
def kc_72 : List ACe := [(0, .aload_n 0, 1, 0, 0, 0), (1, .getfield 24, 3, 7, 2, 0), (4, .aload_n 0, 1, 0, 0, 0), (5, .getfield 9, 3, 7, 0, 0), (8, .getfield 46, 3, 8, 1, 0), (11, .if_icmp .ge 32, 3, 0, 0, 0), (14, .aload_n 0, 1, 0, 0, 0), (15, .getfield 9, 3, 7, 0, 0), (18, .aload_n 0, 1, 0, 0, 0), (19, .getfield 24, 3, 7, 2, 0), (22, .invokevirtual 51, 3, 71, 2, 0), (25, .bipush 32, 2, 0, 0, 0), (27, .if_icmp .ne 16, 3, 0, 0, 0), (30, .aload_n 0, 1, 0, 0, 0), (31, .dup, 1, 0, 0, 0), (32, .getfield 24, 3, 7, 2, 0), (35, .iconst 1, 1, 0, 0, 0), (36, .iadd, 1, 0, 0, 0), (37, .putfield 24, 3, 7, 2, 0), (40, .goto (-40), 3, 0, 0, 0), (43, .aload_n 0, 1, 0, 0, 0), (44, .getfield 9, 3, 7, 0, 0), (47, .aload_n 0, 1, 0, 0, 0), (48, .getfield 24, 3, 7, 2, 0), (51, .invokevirtual 51, 3, 71, 2, 0), (54, .ireturn, 1, 0, 0, 0)]
/-- 73 EdgeMoves_Reader.failAt(I)Z -/
def kc_73 : List ACe := [(0, .aload_n 0, 1, 0, 0, 0), (1, .iload_n 1, 1, 0, 0, 0), (2, .putfield 43, 3, 7, 3, 0), (5, .iconst 0, 1, 0, 0, 0), (6, .ireturn, 1, 0, 0, 0)]
/-- 74 EdgeMoves_Reader.isFigure(I)Z -/
def kc_74 : List ACe := [(0, .iload_n 0, 1, 0, 0, 0), (1, .bipush 48, 2, 0, 0, 0), (3, .if_icmp .lt 13, 3, 0, 0, 0), (6, .iload_n 0, 1, 0, 0, 0), (7, .bipush 57, 2, 0, 0, 0), (9, .if_icmp .gt 7, 3, 0, 0, 0), (12, .iconst 1, 1, 0, 0, 0), (13, .goto 4, 3, 0, 0, 0), (16, .iconst 0, 1, 0, 0, 0), (17, .ireturn, 1, 0, 0, 0)]
/-- 75 EdgeMoves_Reader.readNumber()I -/
def kc_75 : List ACe := [(0, .iconst 0, 1, 0, 0, 0), (1, .istore_n 1, 1, 0, 0, 0), (2, .iconst 0, 1, 0, 0, 0), (3, .istore_n 2, 1, 0, 0, 0), (4, .aload_n 0, 1, 0, 0, 0), (5, .getfield 24, 3, 7, 2, 0), (8, .aload_n 0, 1, 0, 0, 0), (9, .getfield 9, 3, 7, 0, 0), (12, .getfield 46, 3, 8, 1, 0), (15, .if_icmp .ge 65, 3, 0, 0, 0), (18, .aload_n 0, 1, 0, 0, 0), (19, .getfield 9, 3, 7, 0, 0), (22, .aload_n 0, 1, 0, 0, 0), (23, .getfield 24, 3, 7, 2, 0), (26, .invokevirtual 51, 3, 71, 2, 0), (29, .invokestatic 55, 3, 74, 1, 0), (32, .ifCond .eq 48, 3, 0, 0, 0), (35, .iinc 2 1, 3, 0, 0, 0), (38, .iload_n 2, 1, 0, 0, 0), (39, .iconst 3, 1, 0, 0, 0), (40, .if_icmp .le 7, 3, 0, 0, 0), (43, .iconst (-1), 1, 0, 0, 0), (44, .goto 22, 3, 0, 0, 0), (47, .bipush 10, 2, 0, 0, 0), (49, .iload_n 1, 1, 0, 0, 0), (50, .imul, 1, 0, 0, 0), (51, .aload_n 0, 1, 0, 0, 0), (52, .getfield 9, 3, 7, 0, 0), (55, .aload_n 0, 1, 0, 0, 0), (56, .getfield 24, 3, 7, 2, 0), (59, .invokevirtual 51, 3, 71, 2, 0), (62, .iadd, 1, 0, 0, 0), (63, .bipush 48, 2, 0, 0, 0), (65, .isub, 1, 0, 0, 0), (66, .istore_n 1, 1, 0, 0, 0), (67, .aload_n 0, 1, 0, 0, 0), (68, .dup, 1, 0, 0, 0), (69, .getfield 24, 3, 7, 2, 0), (72, .iconst 1, 1, 0, 0, 0), (73, .iadd, 1, 0, 0, 0), (74, .putfield 24, 3, 7, 2, 0), (77, .goto (-73), 3, 0, 0, 0), (80, .iload_n 1, 1, 0, 0, 0), (81, .ireturn, 1, 0, 0, 0)]
/-- 76 EdgeMoves_Regions.isWidth(I)Z -/
def kc_76 : List ACe := [(0, .iload_n 0, 1, 0, 0, 0), (1, .iconst 1, 1, 0, 0, 0), (2, .if_icmp .eq 13, 3, 0, 0, 0), (5, .iload_n 0, 1, 0, 0, 0), (6, .iconst 2, 1, 0, 0, 0), (7, .if_icmp .eq 8, 3, 0, 0, 0), (10, .iload_n 0, 1, 0, 0, 0), (11, .iconst 4, 1, 0, 0, 0), (12, .if_icmp .ne 7, 3, 0, 0, 0), (15, .iconst 1, 1, 0, 0, 0), (16, .goto 4, 3, 0, 0, 0), (19, .iconst 0, 1, 0, 0, 0), (20, .ireturn, 1, 0, 0, 0)]
/-- 77 EdgeMoves_Regions.isRegion(I)Z -/
def kc_77 : List ACe := [(0, .iload_n 0, 1, 0, 0, 0), (1, .ifCond .lt 13, 3, 0, 0, 0), (4, .iload_n 0, 1, 0, 0, 0), (5, .invokestatic 9, 3, 2, 1, 0), (8, .invokestatic 15, 3, 76, 1, 0), (11, .ifCond .ne 5, 3, 0, 0, 0), (14, .iconst 0, 1, 0, 0, 0), (15, .ireturn, 1, 0, 0, 0), (16, .iload_n 0, 1, 0, 0, 0), (17, .invokestatic 19, 3, 1, 1, 0), (20, .istore_n 1, 1, 0, 0, 0), (21, .iload_n 0, 1, 0, 0, 0), (22, .invokestatic 9, 3, 2, 1, 0), (25, .istore_n 2, 1, 0, 0, 0), (26, .iload_n 1, 1, 0, 0, 0), (27, .iload_n 2, 1, 0, 0, 0), (28, .iadd, 1, 0, 0, 0), (29, .bipush 32, 2, 0, 0, 0), (31, .if_icmp .gt 13, 3, 0, 0, 0), (34, .iload_n 1, 1, 0, 0, 0), (35, .iload_n 2, 1, 0, 0, 0), (36, .irem, 1, 0, 0, 0), (37, .ifCond .ne 7, 3, 0, 0, 0), (40, .iconst 1, 1, 0, 0, 0), (41, .goto 4, 3, 0, 0, 0), (44, .iconst 0, 1, 0, 0, 0), (45, .ireturn, 1, 0, 0, 0)]
/-- 78 EdgeMoves_Reader.readEnd()Z -/
def kc_78 : List ACe := [(0, .aload_n 0, 1, 0, 0, 0), (1, .invokevirtual 28, 3, 72, 1, 0), (4, .bipush 59, 2, 0, 0, 0), (6, .if_icmp .eq 12, 3, 0, 0, 0), (9, .aload_n 0, 1, 0, 0, 0), (10, .aload_n 0, 1, 0, 0, 0), (11, .getfield 24, 3, 7, 2, 0), (14, .invokevirtual 39, 3, 73, 2, 0), (17, .ireturn, 1, 0, 0, 0), (18, .aload_n 0, 1, 0, 0, 0), (19, .dup, 1, 0, 0, 0), (20, .getfield 24, 3, 7, 2, 0), (23, .iconst 1, 1, 0, 0, 0), (24, .iadd, 1, 0, 0, 0), (25, .putfield 24, 3, 7, 2, 0), (28, .iconst 1, 1, 0, 0, 0), (29, .ireturn, 1, 0, 0, 0)]
/-- 79 EdgeMoves_Reader.readBlock()Z -/
def kc_79 : List ACe := [(0, .aload_n 0, 1, 0, 0, 0), (1, .getfield 15, 3, 7, 1, 0), (4, .invokevirtual 65, 3, 17, 1, 0), (7, .istore_n 1, 1, 0, 0, 0), (8, .aload_n 0, 1, 0, 0, 0), (9, .getfield 15, 3, 7, 1, 0), (12, .iload_n 1, 1, 0, 0, 0), (13, .invokevirtual 68, 3, 14, 2, 0), (16, .ifCond .ne 12, 3, 0, 0, 0), (19, .aload_n 0, 1, 0, 0, 0), (20, .aload_n 0, 1, 0, 0, 0), (21, .getfield 24, 3, 7, 2, 0), (24, .invokevirtual 39, 3, 73, 2, 0), (27, .ireturn, 1, 0, 0, 0), (28, .aload_n 0, 1, 0, 0, 0), (29, .dup, 1, 0, 0, 0), (30, .getfield 24, 3, 7, 2, 0), (33, .iconst 1, 1, 0, 0, 0), (34, .iadd, 1, 0, 0, 0), (35, .putfield 24, 3, 7, 2, 0), (38, .iconst 0, 1, 0, 0, 0), (39, .istore_n 2, 1, 0, 0, 0), (40, .iload_n 2, 1, 0, 0, 0), (41, .bipush 6, 2, 0, 0, 0), (43, .if_icmp .ge 72, 3, 0, 0, 0), (46, .aload_n 0, 1, 0, 0, 0), (47, .invokevirtual 28, 3, 72, 1, 0), (50, .invokestatic 55, 3, 74, 1, 0), (53, .ifCond .eq 62, 3, 0, 0, 0), (56, .aload_n 0, 1, 0, 0, 0), (57, .getfield 24, 3, 7, 2, 0), (60, .istore_n 3, 1, 0, 0, 0), (61, .aload_n 0, 1, 0, 0, 0), (62, .invokevirtual 58, 3, 75, 1, 0), (65, .istore 4, 2, 0, 0, 0), (67, .iload 4, 2, 0, 0, 0), (69, .invokestatic 71, 3, 77, 1, 0), (72, .ifCond .eq 20, 3, 0, 0, 0), (75, .aload_n 0, 1, 0, 0, 0), (76, .getfield 15, 3, 7, 1, 0), (79, .getfield 76, 3, 3, 0, 0), (82, .iload_n 1, 1, 0, 0, 0), (83, .aaload, 1, 0, 0, 0), (84, .iload 4, 2, 0, 0, 0), (86, .invokevirtual 80, 3, 4, 2, 0), (89, .ifCond .ne 9, 3, 0, 0, 0), (92, .aload_n 0, 1, 0, 0, 0), (93, .iload_n 3, 1, 0, 0, 0), (94, .invokevirtual 39, 3, 73, 2, 0), (97, .ireturn, 1, 0, 0, 0), (98, .aload_n 0, 1, 0, 0, 0), (99, .getfield 15, 3, 7, 1, 0), (102, .iload_n 1, 1, 0, 0, 0), (103, .iload 4, 2, 0, 0, 0), (105, .invokevirtual 85, 3, 18, 3, 0), (108, .pop, 1, 0, 0, 0), (109, .iinc 2 1, 3, 0, 0, 0), (112, .goto (-72), 3, 0, 0, 0), (115, .aload_n 0, 1, 0, 0, 0), (116, .invokevirtual 89, 3, 78, 1, 0), (119, .ireturn, 1, 0, 0, 0)]
/-- 80 EdgeMoves_Reader.readNumberBelow(I)I -/
def kc_80 : List ACe := [(0, .aload_n 0, 1, 0, 0, 0), (1, .invokevirtual 28, 3, 72, 1, 0), (4, .invokestatic 55, 3, 74, 1, 0), (7, .ifCond .ne 14, 3, 0, 0, 0), (10, .aload_n 0, 1, 0, 0, 0), (11, .aload_n 0, 1, 0, 0, 0), (12, .getfield 24, 3, 7, 2, 0), (15, .invokevirtual 39, 3, 73, 2, 0), (18, .pop, 1, 0, 0, 0), (19, .iconst (-1), 1, 0, 0, 0), (20, .ireturn, 1, 0, 0, 0), (21, .aload_n 0, 1, 0, 0, 0), (22, .getfield 24, 3, 7, 2, 0), (25, .istore_n 2, 1, 0, 0, 0), (26, .aload_n 0, 1, 0, 0, 0), (27, .invokevirtual 58, 3, 75, 1, 0), (30, .istore_n 3, 1, 0, 0, 0), (31, .iload_n 3, 1, 0, 0, 0), (32, .iload_n 1, 1, 0, 0, 0), (33, .invokestatic 61, 3, 13, 2, 1), (36, .ifCond .ne 11, 3, 0, 0, 0), (39, .aload_n 0, 1, 0, 0, 0), (40, .iload_n 2, 1, 0, 0, 0), (41, .invokevirtual 39, 3, 73, 2, 0), (44, .pop, 1, 0, 0, 0), (45, .iconst (-1), 1, 0, 0, 0), (46, .ireturn, 1, 0, 0, 0), (47, .iload_n 3, 1, 0, 0, 0), (48, .ireturn, 1, 0, 0, 0)]
/-- 81 EdgeMoves_Regions.toldConstant(I)I -/
def kc_81 : List ACe := [(0, .iconst (-1), 1, 0, 0, 0), (1, .iload_n 0, 1, 0, 0, 0), (2, .isub, 1, 0, 0, 0), (3, .ireturn, 1, 0, 0, 0)]
/-- 82 EdgeMoves_Regions.isAsWide(II)Z -/
def kc_82 : List ACe := [(0, .iload_n 0, 1, 0, 0, 0), (1, .invokestatic 29, 3, 77, 1, 0), (4, .ifCond .eq 18, 3, 0, 0, 0), (7, .iload_n 0, 1, 0, 0, 0), (8, .invokestatic 9, 3, 2, 1, 0), (11, .iload_n 1, 1, 0, 0, 0), (12, .invokestatic 9, 3, 2, 1, 0), (15, .if_icmp .ne 7, 3, 0, 0, 0), (18, .iconst 1, 1, 0, 0, 0), (19, .goto 4, 3, 0, 0, 0), (22, .iconst 0, 1, 0, 0, 0), (23, .ireturn, 1, 0, 0, 0)]
/-- 83 EdgeMoves_Reader.readArguments(LEdgeMoves$Block;LEdgeMoves$Edge;)Z -/
def kc_83 : List ACe := [(0, .iconst 0, 1, 0, 0, 0), (1, .istore_n 3, 1, 0, 0, 0), (2, .iload_n 3, 1, 0, 0, 0), (3, .aload_n 1, 1, 0, 0, 0), (4, .getfield 112, 3, 0, 1, 0), (7, .if_icmp .ge 146, 3, 0, 0, 0), (10, .aload_n 0, 1, 0, 0, 0), (11, .invokevirtual 28, 3, 72, 1, 0), (14, .istore 4, 2, 0, 0, 0), (16, .aload_n 0, 1, 0, 0, 0), (17, .getfield 24, 3, 7, 2, 0), (20, .istore 5, 2, 0, 0, 0), (22, .iload 4, 2, 0, 0, 0), (24, .bipush 35, 2, 0, 0, 0), (26, .if_icmp .ne 74, 3, 0, 0, 0), (29, .aload_n 0, 1, 0, 0, 0), (30, .dup, 1, 0, 0, 0), (31, .getfield 24, 3, 7, 2, 0), (34, .iconst 1, 1, 0, 0, 0), (35, .iadd, 1, 0, 0, 0), (36, .putfield 24, 3, 7, 2, 0), (39, .aload_n 0, 1, 0, 0, 0), (40, .getfield 9, 3, 7, 0, 0), (43, .aload_n 0, 1, 0, 0, 0), (44, .getfield 24, 3, 7, 2, 0), (47, .invokevirtual 51, 3, 71, 2, 0), (50, .invokestatic 55, 3, 74, 1, 0), (53, .ifCond .ne 10, 3, 0, 0, 0), (56, .aload_n 0, 1, 0, 0, 0), (57, .iload 5, 2, 0, 0, 0), (59, .invokevirtual 39, 3, 73, 2, 0), (62, .ireturn, 1, 0, 0, 0), (63, .aload_n 0, 1, 0, 0, 0), (64, .invokevirtual 58, 3, 75, 1, 0), (67, .istore 6, 2, 0, 0, 0), (69, .iload 6, 2, 0, 0, 0), (71, .bipush 100, 2, 0, 0, 0), (73, .invokestatic 61, 3, 13, 2, 1), (76, .ifCond .ne 10, 3, 0, 0, 0), (79, .aload_n 0, 1, 0, 0, 0), (80, .iload 5, 2, 0, 0, 0), (82, .invokevirtual 39, 3, 73, 2, 0), (85, .ireturn, 1, 0, 0, 0), (86, .aload_n 2, 1, 0, 0, 0), (87, .getfield 123, 3, 2, 0, 0), (90, .iload_n 3, 1, 0, 0, 0), (91, .iload 6, 2, 0, 0, 0), (93, .invokestatic 129, 3, 81, 1, 0), (96, .iastore, 1, 0, 0, 0), (97, .goto 50, 3, 0, 0, 0), (100, .iload 4, 2, 0, 0, 0), (102, .invokestatic 55, 3, 74, 1, 0), (105, .ifCond .eq 10, 3, 0, 0, 0), (108, .aload_n 0, 1, 0, 0, 0), (109, .invokevirtual 58, 3, 75, 1, 0), (112, .goto 4, 3, 0, 0, 0), (115, .iconst (-1), 1, 0, 0, 0), (116, .istore 6, 2, 0, 0, 0), (118, .iload 6, 2, 0, 0, 0), (120, .aload_n 1, 1, 0, 0, 0), (121, .getfield 132, 3, 0, 0, 0), (124, .iload_n 3, 1, 0, 0, 0), (125, .iaload, 1, 0, 0, 0), (126, .invokestatic 135, 3, 82, 2, 0), (129, .ifCond .ne 10, 3, 0, 0, 0), (132, .aload_n 0, 1, 0, 0, 0), (133, .iload 5, 2, 0, 0, 0), (135, .invokevirtual 39, 3, 73, 2, 0), (138, .ireturn, 1, 0, 0, 0), (139, .aload_n 2, 1, 0, 0, 0), (140, .getfield 123, 3, 2, 0, 0), (143, .iload_n 3, 1, 0, 0, 0), (144, .iload 6, 2, 0, 0, 0), (146, .iastore, 1, 0, 0, 0), (147, .iinc 3 1, 3, 0, 0, 0), (150, .goto (-148), 3, 0, 0, 0), (153, .iconst 1, 1, 0, 0, 0), (154, .ireturn, 1, 0, 0, 0)]
/-- 84 EdgeMoves_Reader.readEdge()Z -/
def kc_84_0 : List ACe := [(0, .aload_n 0, 1, 0, 0, 0), (1, .getfield 15, 3, 7, 1, 0), (4, .getfield 92, 3, 3, 3, 0), (7, .bipush 16, 2, 0, 0, 0), (9, .if_icmp .lt 12, 3, 0, 0, 0), (12, .aload_n 0, 1, 0, 0, 0), (13, .aload_n 0, 1, 0, 0, 0), (14, .getfield 24, 3, 7, 2, 0), (17, .invokevirtual 39, 3, 73, 2, 0), (20, .ireturn, 1, 0, 0, 0), (21, .aload_n 0, 1, 0, 0, 0), (22, .dup, 1, 0, 0, 0), (23, .getfield 24, 3, 7, 2, 0), (26, .iconst 1, 1, 0, 0, 0), (27, .iadd, 1, 0, 0, 0), (28, .putfield 24, 3, 7, 2, 0), (31, .aload_n 0, 1, 0, 0, 0), (32, .aload_n 0, 1, 0, 0, 0), (33, .getfield 15, 3, 7, 1, 0), (36, .getfield 95, 3, 3, 2, 0), (39, .invokevirtual 98, 3, 80, 2, 0), (42, .istore_n 1, 1, 0, 0, 0), (43, .iload_n 1, 1, 0, 0, 0), (44, .ifCond .ge 7, 3, 0, 0, 0), (47, .iconst (-1), 1, 0, 0, 0), (48, .goto 14, 3, 0, 0, 0), (51, .aload_n 0, 1, 0, 0, 0), (52, .aload_n 0, 1, 0, 0, 0), (53, .getfield 15, 3, 7, 1, 0), (56, .getfield 95, 3, 3, 2, 0), (59, .invokevirtual 98, 3, 80, 2, 0), (62, .istore_n 2, 1, 0, 0, 0), (63, .iload_n 2, 1, 0, 0, 0), (64, .ifCond .ge 7, 3, 0, 0, 0), (67, .iconst (-1), 1, 0, 0, 0), (68, .goto 9, 3, 0, 0, 0), (71, .aload_n 0, 1, 0, 0, 0), (72, .bipush 100, 2, 0, 0, 0), (74, .invokevirtual 98, 3, 80, 2, 0), (77, .istore_n 3, 1, 0, 0, 0), (78, .iload_n 3, 1, 0, 0, 0), (79, .ifCond .ge 5, 3, 0, 0, 0), (82, .iconst 0, 1, 0, 0, 0), (83, .ireturn, 1, 0, 0, 0), (84, .aload_n 0, 1, 0, 0, 0), (85, .getfield 15, 3, 7, 1, 0), (88, .iload_n 1, 1, 0, 0, 0), (89, .iload_n 2, 1, 0, 0, 0), (90, .iload_n 3, 1, 0, 0, 0), (91, .invokevirtual 101, 3, 19, 4, 0), (94, .istore 4, 2, 0, 0, 0), (96, .aload_n 0, 1, 0, 0, 0), (97, .getfield 15, 3, 7, 1, 0), (100, .iload 4, 2, 0, 0, 0), (102, .invokevirtual 105, 3, 15, 2, 0), (105, .ifCond .eq 65, 3, 0, 0, 0), (108, .aload_n 0, 1, 0, 0, 0), (109, .getfield 15, 3, 7, 1, 0), (112, .iload 4, 2, 0, 0, 0), (114, .invokevirtual 108, 3, 16, 2, 0)]
def kc_84_1 : List ACe := [(117, .getfield 112, 3, 0, 1, 0), (120, .ifCond .le 50, 3, 0, 0, 0), (123, .aload_n 0, 1, 0, 0, 0), (124, .invokevirtual 28, 3, 72, 1, 0), (127, .bipush 58, 2, 0, 0, 0), (129, .if_icmp .ne 41, 3, 0, 0, 0), (132, .aload_n 0, 1, 0, 0, 0), (133, .dup, 1, 0, 0, 0), (134, .getfield 24, 3, 7, 2, 0), (137, .iconst 1, 1, 0, 0, 0), (138, .iadd, 1, 0, 0, 0), (139, .putfield 24, 3, 7, 2, 0), (142, .aload_n 0, 1, 0, 0, 0), (143, .aload_n 0, 1, 0, 0, 0), (144, .getfield 15, 3, 7, 1, 0), (147, .iload 4, 2, 0, 0, 0), (149, .invokevirtual 108, 3, 16, 2, 0), (152, .aload_n 0, 1, 0, 0, 0), (153, .getfield 15, 3, 7, 1, 0), (156, .getfield 115, 3, 3, 1, 0), (159, .iload 4, 2, 0, 0, 0), (161, .aaload, 1, 0, 0, 0), (162, .invokevirtual 119, 3, 83, 3, 0), (165, .ifCond .ne 5, 3, 0, 0, 0), (168, .iconst 0, 1, 0, 0, 0), (169, .ireturn, 1, 0, 0, 0), (170, .aload_n 0, 1, 0, 0, 0), (171, .invokevirtual 89, 3, 78, 1, 0), (174, .ireturn, 1, 0, 0, 0)]
def kc_84 : List ACe := kc_84_0 ++ (kc_84_1)
/-- 85 EdgeMoves_Reader.readInto(LEdgeMoves$Graph;)I -/
def kc_85 : List ACe := [(0, .aload_n 0, 1, 0, 0, 0), (1, .aload_n 1, 1, 0, 0, 0), (2, .putfield 15, 3, 7, 1, 0), (5, .aload_n 0, 1, 0, 0, 0), (6, .getfield 15, 3, 7, 1, 0), (9, .invokevirtual 19, 3, 12, 1, 0), (12, .aload_n 0, 1, 0, 0, 0), (13, .iconst 0, 1, 0, 0, 0), (14, .putfield 24, 3, 7, 2, 0), (17, .iconst 0, 1, 0, 0, 0), (18, .istore_n 2, 1, 0, 0, 0), (19, .iload_n 2, 1, 0, 0, 0), (20, .bipush 120, 2, 0, 0, 0), (22, .if_icmp .gt 68, 3, 0, 0, 0), (25, .aload_n 0, 1, 0, 0, 0), (26, .invokevirtual 28, 3, 72, 1, 0), (29, .istore_n 3, 1, 0, 0, 0), (30, .iload_n 3, 1, 0, 0, 0), (31, .ifCond .ge 9, 3, 0, 0, 0), (34, .iload_n 2, 1, 0, 0, 0), (35, .ifCond .le 5, 3, 0, 0, 0), (38, .iload_n 2, 1, 0, 0, 0), (39, .ireturn, 1, 0, 0, 0), (40, .iload_n 3, 1, 0, 0, 0), (41, .bipush 98, 2, 0, 0, 0), (43, .if_icmp .ne 10, 3, 0, 0, 0), (46, .aload_n 0, 1, 0, 0, 0), (47, .invokevirtual 32, 3, 79, 1, 0), (50, .goto 24, 3, 0, 0, 0), (53, .iload_n 3, 1, 0, 0, 0), (54, .bipush 101, 2, 0, 0, 0), (56, .if_icmp .ne 10, 3, 0, 0, 0), (59, .aload_n 0, 1, 0, 0, 0), (60, .invokevirtual 36, 3, 84, 1, 0), (63, .goto 11, 3, 0, 0, 0), (66, .aload_n 0, 1, 0, 0, 0), (67, .aload_n 0, 1, 0, 0, 0), (68, .getfield 24, 3, 7, 2, 0), (71, .invokevirtual 39, 3, 73, 2, 0), (74, .istore 4, 2, 0, 0, 0), (76, .iload 4, 2, 0, 0, 0), (78, .ifCond .ne 6, 3, 0, 0, 0), (81, .goto 9, 3, 0, 0, 0), (84, .iinc 2 1, 3, 0, 0, 0), (87, .goto (-68), 3, 0, 0, 0), (90, .sipush (-300), 3, 0, 0, 0), (93, .aload_n 0, 1, 0, 0, 0), (94, .getfield 43, 3, 7, 3, 0), (97, .isub, 1, 0, 0, 0), (98, .ireturn, 1, 0, 0, 0)]
/-- 86 EdgeMoves_Regions.isConstant(I)Z -/
def kc_86 : List ACe := [(0, .iconst (-1), 1, 0, 0, 0), (1, .iload_n 0, 1, 0, 0, 0), (2, .isub, 1, 0, 0, 0), (3, .bipush 100, 2, 0, 0, 0), (5, .invokestatic 26, 3, 13, 2, 1), (8, .ireturn, 1, 0, 0, 0)]
/-- 87 EdgeMoves_Regions.isArgumentFor(II)Z -/
def kc_87 : List ACe := [(0, .iload_n 0, 1, 0, 0, 0), (1, .invokestatic 32, 3, 86, 1, 0), (4, .ifCond .ne 11, 3, 0, 0, 0), (7, .iload_n 0, 1, 0, 0, 0), (8, .iload_n 1, 1, 0, 0, 0), (9, .invokestatic 35, 3, 82, 2, 0), (12, .ifCond .eq 7, 3, 0, 0, 0), (15, .iconst 1, 1, 0, 0, 0), (16, .goto 4, 3, 0, 0, 0), (19, .iconst 0, 1, 0, 0, 0), (20, .ireturn, 1, 0, 0, 0)]
/-- 88 EdgeMoves_Text.init()V -/
def kc_88 : List ACe := [(0, .aload_n 0, 1, 0, 0, 0), (1, .invokespecial 3, 3, 1000, 0, 0), (4, .aload_n 0, 1, 0, 0, 0), (5, .bipush 120, 2, 0, 0, 0), (7, .newarray .int, 2, 0, 0, 0), (9, .putfield 9, 3, 8, 0, 0), (12, .return_, 1, 0, 0, 0)]
/-- 89 EdgeMoves_Text.append(I)V -/
def kc_89 : List ACe := [(0, .aload_n 0, 1, 0, 0, 0), (1, .getfield 15, 3, 8, 1, 0), (4, .bipush 120, 2, 0, 0, 0), (6, .if_icmp .ge 23, 3, 0, 0, 0), (9, .aload_n 0, 1, 0, 0, 0), (10, .getfield 9, 3, 8, 0, 0), (13, .aload_n 0, 1, 0, 0, 0), (14, .getfield 15, 3, 8, 1, 0), (17, .iload_n 1, 1, 0, 0, 0), (18, .iastore, 1, 0, 0, 0), (19, .aload_n 0, 1, 0, 0, 0), (20, .dup, 1, 0, 0, 0), (21, .getfield 15, 3, 8, 1, 0), (24, .iconst 1, 1, 0, 0, 0), (25, .iadd, 1, 0, 0, 0), (26, .putfield 15, 3, 8, 1, 0), (29, .return_, 1, 0, 0, 0)]
/-- 90 EdgeMoves.init()V -/
def kc_90 : List ACe := [(0, .aload_n 0, 1, 0, 0, 0), (1, .invokespecial 1, 3, 1000, 0, 0), (4, .aload_n 0, 1, 0, 0, 0), (5, .new 7, 3, 3, 0, 0), (8, .dup, 1, 0, 0, 0), (9, .invokespecial 9, 3, 11, 1, 0), (12, .putfield 10, 3, 9, 0, 0), (15, .aload_n 0, 1, 0, 0, 0), (16, .new 7, 3, 3, 0, 0), (19, .dup, 1, 0, 0, 0), (20, .invokespecial 9, 3, 11, 1, 0), (23, .putfield 16, 3, 9, 1, 0), (26, .aload_n 0, 1, 0, 0, 0), (27, .new 19, 3, 8, 0, 0), (30, .dup, 1, 0, 0, 0), (31, .invokespecial 21, 3, 88, 1, 0), (34, .putfield 22, 3, 9, 2, 0), (37, .aload_n 0, 1, 0, 0, 0), (38, .new 26, 3, 7, 0, 0), (41, .dup, 1, 0, 0, 0), (42, .aload_n 0, 1, 0, 0, 0), (43, .getfield 22, 3, 9, 2, 0), (46, .invokespecial 28, 3, 70, 2, 0), (49, .putfield 31, 3, 9, 3, 0), (52, .aload_n 0, 1, 0, 0, 0), (53, .new 35, 3, 4, 0, 0), (56, .dup, 1, 0, 0, 0), (57, .invokespecial 37, 3, 23, 1, 0), (60, .putfield 38, 3, 9, 4, 0), (63, .aload_n 0, 1, 0, 0, 0), (64, .new 42, 3, 6, 0, 0), (67, .dup, 1, 0, 0, 0), (68, .invokespecial 44, 3, 46, 1, 0), (71, .putfield 45, 3, 9, 5, 0), (74, .aload_n 0, 1, 0, 0, 0), (75, .new 42, 3, 6, 0, 0), (78, .dup, 1, 0, 0, 0), (79, .invokespecial 44, 3, 46, 1, 0), (82, .putfield 49, 3, 9, 6, 0), (85, .aload_n 0, 1, 0, 0, 0), (86, .new 52, 3, 5, 0, 0), (89, .dup, 1, 0, 0, 0), (90, .invokespecial 54, 3, 38, 1, 0), (93, .putfield 55, 3, 9, 7, 0), (96, .aload_n 0, 1, 0, 0, 0), (97, .new 59, 3, 1, 0, 0), (100, .dup, 1, 0, 0, 0), (101, .invokespecial 61, 3, 6, 1, 1), (104, .putfield 62, 3, 9, 8, 0), (107, .aload_n 0, 1, 0, 0, 0), (108, .bipush 10, 2, 0, 0, 0), (110, .newarray .int, 2, 0, 0, 0), (112, .putfield 66, 3, 9, 9, 0), (115, .return_, 1, 0, 0, 0)]
/-- 91 EdgeMoves.anew()I -/
def kc_91 : List ACe := [(0, .aload_n 0, 1, 0, 0, 0), (1, .getfield 10, 3, 9, 0, 0), (4, .getfield 70, 3, 3, 3, 0), (7, .istore_n 1, 1, 0, 0, 0), (8, .aload_n 0, 1, 0, 0, 0), (9, .getfield 10, 3, 9, 0, 0), (12, .invokevirtual 74, 3, 12, 1, 0), (15, .iload_n 1, 1, 0, 0, 0), (16, .ireturn, 1, 0, 0, 0)]
/-- 92 EdgeMoves.refuse(I)I -/
def kc_92 : List ACe := [(0, .iload_n 1, 1, 0, 0, 0), (1, .sipush (-202), 3, 0, 0, 0), (4, .if_icmp .ne 16, 3, 0, 0, 0), (7, .aload_n 0, 1, 0, 0, 0), (8, .dup, 1, 0, 0, 0), (9, .getfield 296, 3, 9, 11, 0), (12, .iconst 1, 1, 0, 0, 0), (13, .iadd, 1, 0, 0, 0), (14, .putfield 296, 3, 9, 11, 0), (17, .goto 33, 3, 0, 0, 0), (20, .iload_n 1, 1, 0, 0, 0), (21, .sipush (-203), 3, 0, 0, 0), (24, .if_icmp .ne 16, 3, 0, 0, 0), (27, .aload_n 0, 1, 0, 0, 0), (28, .dup, 1, 0, 0, 0), (29, .getfield 299, 3, 9, 12, 0), (32, .iconst 1, 1, 0, 0, 0), (33, .iadd, 1, 0, 0, 0), (34, .putfield 299, 3, 9, 12, 0), (37, .goto 13, 3, 0, 0, 0), (40, .aload_n 0, 1, 0, 0, 0), (41, .dup, 1, 0, 0, 0), (42, .getfield 302, 3, 9, 13, 0), (45, .iconst 1, 1, 0, 0, 0), (46, .iadd, 1, 0, 0, 0), (47, .putfield 302, 3, 9, 13, 0), (50, .iload_n 1, 1, 0, 0, 0), (51, .ireturn, 1, 0, 0, 0)]
/-- 93 EdgeMoves.block()I -/
def kc_93 : List ACe := [(0, .aload_n 0, 1, 0, 0, 0), (1, .getfield 10, 3, 9, 0, 0), (4, .getfield 77, 3, 3, 2, 0), (7, .bipush 10, 2, 0, 0, 0), (9, .if_icmp .lt 11, 3, 0, 0, 0), (12, .aload_n 0, 1, 0, 0, 0), (13, .sipush (-204), 3, 0, 0, 0), (16, .invokevirtual 80, 3, 92, 2, 0), (19, .ireturn, 1, 0, 0, 0), (20, .aload_n 0, 1, 0, 0, 0), (21, .getfield 10, 3, 9, 0, 0), (24, .invokevirtual 84, 3, 17, 1, 0), (27, .ireturn, 1, 0, 0, 0)]
/-- 94 EdgeMoves.parameter(II)I -/
def kc_94 : List ACe := [(0, .aload_n 0, 1, 0, 0, 0), (1, .getfield 10, 3, 9, 0, 0), (4, .iload_n 1, 1, 0, 0, 0), (5, .invokevirtual 88, 3, 14, 2, 0), (8, .ifCond .eq 10, 3, 0, 0, 0), (11, .iload_n 2, 1, 0, 0, 0), (12, .invokestatic 92, 3, 77, 1, 0), (15, .ifCond .ne 11, 3, 0, 0, 0), (18, .aload_n 0, 1, 0, 0, 0), (19, .sipush (-202), 3, 0, 0, 0), (22, .invokevirtual 80, 3, 92, 2, 0), (25, .ireturn, 1, 0, 0, 0), (26, .aload_n 0, 1, 0, 0, 0), (27, .getfield 10, 3, 9, 0, 0), (30, .getfield 97, 3, 3, 0, 0), (33, .iload_n 1, 1, 0, 0, 0), (34, .aaload, 1, 0, 0, 0), (35, .iload_n 2, 1, 0, 0, 0), (36, .invokevirtual 101, 3, 4, 2, 0), (39, .ifCond .ne 11, 3, 0, 0, 0), (42, .aload_n 0, 1, 0, 0, 0), (43, .sipush (-203), 3, 0, 0, 0), (46, .invokevirtual 80, 3, 92, 2, 0), (49, .ireturn, 1, 0, 0, 0), (50, .aload_n 0, 1, 0, 0, 0), (51, .getfield 10, 3, 9, 0, 0), (54, .getfield 97, 3, 3, 0, 0), (57, .iload_n 1, 1, 0, 0, 0), (58, .aaload, 1, 0, 0, 0), (59, .getfield 106, 3, 0, 1, 0), (62, .bipush 6, 2, 0, 0, 0), (64, .if_icmp .lt 11, 3, 0, 0, 0), (67, .aload_n 0, 1, 0, 0, 0), (68, .sipush (-204), 3, 0, 0, 0), (71, .invokevirtual 80, 3, 92, 2, 0), (74, .ireturn, 1, 0, 0, 0), (75, .aload_n 0, 1, 0, 0, 0), (76, .getfield 10, 3, 9, 0, 0), (79, .iload_n 1, 1, 0, 0, 0), (80, .iload_n 2, 1, 0, 0, 0), (81, .invokevirtual 109, 3, 18, 3, 0), (84, .ireturn, 1, 0, 0, 0)]
/-- 95 EdgeMoves.edge(III)I -/
def kc_95 : List ACe := [(0, .aload_n 0, 1, 0, 0, 0), (1, .getfield 10, 3, 9, 0, 0), (4, .iload_n 1, 1, 0, 0, 0), (5, .invokevirtual 88, 3, 14, 2, 0), (8, .ifCond .eq 23, 3, 0, 0, 0), (11, .aload_n 0, 1, 0, 0, 0), (12, .getfield 10, 3, 9, 0, 0), (15, .iload_n 2, 1, 0, 0, 0), (16, .invokevirtual 88, 3, 14, 2, 0), (19, .ifCond .eq 12, 3, 0, 0, 0), (22, .iload_n 3, 1, 0, 0, 0), (23, .bipush 100, 2, 0, 0, 0), (25, .invokestatic 113, 3, 13, 2, 0), (28, .ifCond .ne 11, 3, 0, 0, 0), (31, .aload_n 0, 1, 0, 0, 0), (32, .sipush (-202), 3, 0, 0, 0), (35, .invokevirtual 80, 3, 92, 2, 0), (38, .ireturn, 1, 0, 0, 0), (39, .aload_n 0, 1, 0, 0, 0), (40, .getfield 10, 3, 9, 0, 0), (43, .getfield 70, 3, 3, 3, 0), (46, .bipush 16, 2, 0, 0, 0), (48, .if_icmp .lt 11, 3, 0, 0, 0), (51, .aload_n 0, 1, 0, 0, 0), (52, .sipush (-204), 3, 0, 0, 0), (55, .invokevirtual 80, 3, 92, 2, 0), (58, .ireturn, 1, 0, 0, 0), (59, .aload_n 0, 1, 0, 0, 0), (60, .getfield 10, 3, 9, 0, 0), (63, .iload_n 1, 1, 0, 0, 0), (64, .iload_n 2, 1, 0, 0, 0), (65, .iload_n 3, 1, 0, 0, 0), (66, .invokevirtual 117, 3, 19, 4, 0), (69, .ireturn, 1, 0, 0, 0)]
/-- 96 EdgeMoves.argument(III)I -/
def kc_96 : List ACe := [(0, .aload_n 0, 1, 0, 0, 0), (1, .getfield 10, 3, 9, 0, 0), (4, .iload_n 1, 1, 0, 0, 0), (5, .invokevirtual 121, 3, 15, 2, 0), (8, .ifCond .eq 21, 3, 0, 0, 0), (11, .iload_n 2, 1, 0, 0, 0), (12, .aload_n 0, 1, 0, 0, 0), (13, .getfield 10, 3, 9, 0, 0), (16, .iload_n 1, 1, 0, 0, 0), (17, .invokevirtual 124, 3, 16, 2, 0), (20, .getfield 106, 3, 0, 1, 0), (23, .invokestatic 113, 3, 13, 2, 0), (26, .ifCond .ne 11, 3, 0, 0, 0), (29, .aload_n 0, 1, 0, 0, 0), (30, .sipush (-202), 3, 0, 0, 0), (33, .invokevirtual 80, 3, 92, 2, 0), (36, .ireturn, 1, 0, 0, 0), (37, .iload_n 3, 1, 0, 0, 0), (38, .aload_n 0, 1, 0, 0, 0), (39, .getfield 10, 3, 9, 0, 0), (42, .iload_n 1, 1, 0, 0, 0), (43, .invokevirtual 124, 3, 16, 2, 0), (46, .getfield 128, 3, 0, 0, 0), (49, .iload_n 2, 1, 0, 0, 0), (50, .iaload, 1, 0, 0, 0), (51, .invokestatic 131, 3, 87, 2, 0), (54, .ifCond .ne 11, 3, 0, 0, 0), (57, .aload_n 0, 1, 0, 0, 0), (58, .sipush (-202), 3, 0, 0, 0), (61, .invokevirtual 80, 3, 92, 2, 0), (64, .ireturn, 1, 0, 0, 0), (65, .aload_n 0, 1, 0, 0, 0), (66, .getfield 10, 3, 9, 0, 0), (69, .getfield 134, 3, 3, 1, 0), (72, .iload_n 1, 1, 0, 0, 0), (73, .aaload, 1, 0, 0, 0), (74, .getfield 138, 3, 2, 0, 0), (77, .iload_n 2, 1, 0, 0, 0), (78, .iaload, 1, 0, 0, 0), (79, .istore 4, 2, 0, 0, 0), (81, .aload_n 0, 1, 0, 0, 0), (82, .getfield 10, 3, 9, 0, 0), (85, .getfield 134, 3, 3, 1, 0), (88, .iload_n 1, 1, 0, 0, 0), (89, .aaload, 1, 0, 0, 0), (90, .getfield 138, 3, 2, 0, 0), (93, .iload_n 2, 1, 0, 0, 0), (94, .iload_n 3, 1, 0, 0, 0), (95, .iastore, 1, 0, 0, 0), (96, .iload 4, 2, 0, 0, 0), (98, .ireturn, 1, 0, 0, 0)]
/-- 97 EdgeMoves.weight(II)I -/
def kc_97 : List ACe := [(0, .aload_n 0, 1, 0, 0, 0), (1, .getfield 10, 3, 9, 0, 0), (4, .iload_n 1, 1, 0, 0, 0), (5, .invokevirtual 121, 3, 15, 2, 0), (8, .ifCond .eq 12, 3, 0, 0, 0), (11, .iload_n 2, 1, 0, 0, 0), (12, .bipush 100, 2, 0, 0, 0), (14, .invokestatic 113, 3, 13, 2, 0), (17, .ifCond .ne 11, 3, 0, 0, 0), (20, .aload_n 0, 1, 0, 0, 0), (21, .sipush (-202), 3, 0, 0, 0), (24, .invokevirtual 80, 3, 92, 2, 0), (27, .ireturn, 1, 0, 0, 0), (28, .aload_n 0, 1, 0, 0, 0), (29, .getfield 10, 3, 9, 0, 0), (32, .getfield 134, 3, 3, 1, 0), (35, .iload_n 1, 1, 0, 0, 0), (36, .aaload, 1, 0, 0, 0), (37, .getfield 143, 3, 2, 3, 0), (40, .istore_n 3, 1, 0, 0, 0), (41, .aload_n 0, 1, 0, 0, 0), (42, .getfield 10, 3, 9, 0, 0), (45, .getfield 134, 3, 3, 1, 0), (48, .iload_n 1, 1, 0, 0, 0), (49, .aaload, 1, 0, 0, 0), (50, .iload_n 2, 1, 0, 0, 0), (51, .putfield 143, 3, 2, 3, 0), (54, .iload_n 3, 1, 0, 0, 0), (55, .ireturn, 1, 0, 0, 0)]
/-- 98 EdgeMoves.machine(I)I -/
def kc_98 : List ACe := [(0, .iload_n 1, 1, 0, 0, 0), (1, .iconst 5, 1, 0, 0, 0), (2, .invokestatic 113, 3, 13, 2, 0), (5, .ifCond .ne 11, 3, 0, 0, 0), (8, .aload_n 0, 1, 0, 0, 0), (9, .sipush (-202), 3, 0, 0, 0), (12, .invokevirtual 80, 3, 92, 2, 0), (15, .ireturn, 1, 0, 0, 0), (16, .aload_n 0, 1, 0, 0, 0), (17, .getfield 146, 3, 9, 10, 0), (20, .istore_n 2, 1, 0, 0, 0), (21, .aload_n 0, 1, 0, 0, 0), (22, .iload_n 1, 1, 0, 0, 0), (23, .putfield 146, 3, 9, 10, 0), (26, .iload_n 2, 1, 0, 0, 0), (27, .ireturn, 1, 0, 0, 0)]
/-- 99 EdgeMoves.isClear(I)Z -/
def kc_99 : List ACe := [(0, .aload_n 0, 1, 0, 0, 0), (1, .getfield 38, 3, 9, 4, 0), (4, .aload_n 0, 1, 0, 0, 0), (5, .getfield 10, 3, 9, 0, 0), (8, .iload_n 1, 1, 0, 0, 0), (9, .invokevirtual 124, 3, 16, 2, 0), (12, .aload_n 0, 1, 0, 0, 0), (13, .getfield 10, 3, 9, 0, 0), (16, .getfield 134, 3, 3, 1, 0), (19, .iload_n 1, 1, 0, 0, 0), (20, .aaload, 1, 0, 0, 0), (21, .invokevirtual 205, 3, 24, 3, 0), (24, .aload_n 0, 1, 0, 0, 0), (25, .getfield 38, 3, 9, 4, 0), (28, .invokevirtual 305, 3, 29, 1, 0), (31, .ireturn, 1, 0, 0, 0)]
/-- 100 EdgeMoves.of(II)I -/
def kc_100 : List ACe := [(0, .aload_n 0, 1, 0, 0, 0), (1, .getfield 10, 3, 9, 0, 0), (4, .iload_n 1, 1, 0, 0, 0), (5, .invokevirtual 121, 3, 15, 2, 0), (8, .ifCond .eq 11, 3, 0, 0, 0), (11, .iload_n 2, 1, 0, 0, 0), (12, .iconst 5, 1, 0, 0, 0), (13, .invokestatic 113, 3, 13, 2, 0), (16, .ifCond .ne 11, 3, 0, 0, 0), (19, .aload_n 0, 1, 0, 0, 0), (20, .sipush (-202), 3, 0, 0, 0), (23, .invokevirtual 80, 3, 92, 2, 0), (26, .ireturn, 1, 0, 0, 0), (27, .iload_n 2, 1, 0, 0, 0), (28, .tableswitch 85 0 3 #[32, 45, 58, 71], 32, 0, 0, 0), (60, .aload_n 0, 1, 0, 0, 0), (61, .getfield 10, 3, 9, 0, 0), (64, .getfield 134, 3, 3, 1, 0), (67, .iload_n 1, 1, 0, 0, 0), (68, .aaload, 1, 0, 0, 0), (69, .getfield 149, 3, 2, 1, 0), (72, .ireturn, 1, 0, 0, 0), (73, .aload_n 0, 1, 0, 0, 0), (74, .getfield 10, 3, 9, 0, 0), (77, .getfield 134, 3, 3, 1, 0), (80, .iload_n 1, 1, 0, 0, 0), (81, .aaload, 1, 0, 0, 0), (82, .getfield 152, 3, 2, 2, 0), (85, .ireturn, 1, 0, 0, 0), (86, .aload_n 0, 1, 0, 0, 0), (87, .getfield 10, 3, 9, 0, 0), (90, .getfield 134, 3, 3, 1, 0), (93, .iload_n 1, 1, 0, 0, 0), (94, .aaload, 1, 0, 0, 0), (95, .getfield 143, 3, 2, 3, 0), (98, .ireturn, 1, 0, 0, 0), (99, .aload_n 0, 1, 0, 0, 0), (100, .iload_n 1, 1, 0, 0, 0), (101, .invokevirtual 155, 3, 99, 2, 0), (104, .ifCond .eq 7, 3, 0, 0, 0), (107, .iconst 1, 1, 0, 0, 0), (108, .goto 4, 3, 0, 0, 0), (111, .iconst 0, 1, 0, 0, 0), (112, .ireturn, 1, 0, 0, 0), (113, .aload_n 0, 1, 0, 0, 0), (114, .getfield 10, 3, 9, 0, 0), (117, .iload_n 1, 1, 0, 0, 0), (118, .invokevirtual 158, 3, 22, 2, 0), (121, .ireturn, 1, 0, 0, 0)]
/-- 101 EdgeMoves.about(II)I -/
def kc_101 : List ACe := [(0, .aload_n 0, 1, 0, 0, 0), (1, .getfield 10, 3, 9, 0, 0), (4, .iload_n 1, 1, 0, 0, 0), (5, .invokevirtual 88, 3, 14, 2, 0), (8, .ifCond .eq 11, 3, 0, 0, 0), (11, .iload_n 2, 1, 0, 0, 0), (12, .iconst 3, 1, 0, 0, 0), (13, .invokestatic 113, 3, 13, 2, 0), (16, .ifCond .ne 11, 3, 0, 0, 0), (19, .aload_n 0, 1, 0, 0, 0), (20, .sipush (-202), 3, 0, 0, 0), (23, .invokevirtual 80, 3, 92, 2, 0), (26, .ireturn, 1, 0, 0, 0), (27, .iload_n 2, 1, 0, 0, 0), (28, .lookupswitch 50 #[(0, 28), (1, 41)], 28, 0, 0, 0), (56, .aload_n 0, 1, 0, 0, 0), (57, .getfield 10, 3, 9, 0, 0), (60, .getfield 97, 3, 3, 0, 0), (63, .iload_n 1, 1, 0, 0, 0), (64, .aaload, 1, 0, 0, 0), (65, .getfield 106, 3, 0, 1, 0), (68, .ireturn, 1, 0, 0, 0), (69, .aload_n 0, 1, 0, 0, 0), (70, .getfield 10, 3, 9, 0, 0), (73, .iload_n 1, 1, 0, 0, 0), (74, .invokevirtual 161, 3, 20, 2, 0), (77, .ireturn, 1, 0, 0, 0), (78, .aload_n 0, 1, 0, 0, 0), (79, .getfield 10, 3, 9, 0, 0), (82, .iload_n 1, 1, 0, 0, 0), (83, .invokevirtual 164, 3, 21, 2, 0), (86, .ireturn, 1, 0, 0, 0)]
/-- 102 EdgeMoves.region(II)I -/
def kc_102 : List ACe := [(0, .aload_n 0, 1, 0, 0, 0), (1, .getfield 10, 3, 9, 0, 0), (4, .iload_n 1, 1, 0, 0, 0), (5, .invokevirtual 88, 3, 14, 2, 0), (8, .ifCond .eq 7, 3, 0, 0, 0), (11, .iload_n 2, 1, 0, 0, 0), (12, .ifCond .ge 11, 3, 0, 0, 0), (15, .aload_n 0, 1, 0, 0, 0), (16, .sipush (-202), 3, 0, 0, 0), (19, .invokevirtual 80, 3, 92, 2, 0), (22, .ireturn, 1, 0, 0, 0), (23, .iload_n 2, 1, 0, 0, 0), (24, .aload_n 0, 1, 0, 0, 0), (25, .getfield 10, 3, 9, 0, 0), (28, .getfield 97, 3, 3, 0, 0), (31, .iload_n 1, 1, 0, 0, 0), (32, .aaload, 1, 0, 0, 0), (33, .getfield 106, 3, 0, 1, 0), (36, .if_icmp .ge 20, 3, 0, 0, 0), (39, .aload_n 0, 1, 0, 0, 0), (40, .getfield 10, 3, 9, 0, 0), (43, .getfield 97, 3, 3, 0, 0), (46, .iload_n 1, 1, 0, 0, 0), (47, .aaload, 1, 0, 0, 0), (48, .getfield 128, 3, 0, 0, 0), (51, .iload_n 2, 1, 0, 0, 0), (52, .iaload, 1, 0, 0, 0), (53, .goto 6, 3, 0, 0, 0), (56, .sipush (-201), 3, 0, 0, 0), (59, .ireturn, 1, 0, 0, 0)]
/-- 103 EdgeMoves.given(II)I -/
def kc_103 : List ACe := [(0, .aload_n 0, 1, 0, 0, 0), (1, .getfield 10, 3, 9, 0, 0), (4, .iload_n 1, 1, 0, 0, 0), (5, .invokevirtual 121, 3, 15, 2, 0), (8, .ifCond .eq 7, 3, 0, 0, 0), (11, .iload_n 2, 1, 0, 0, 0), (12, .ifCond .ge 11, 3, 0, 0, 0), (15, .aload_n 0, 1, 0, 0, 0), (16, .sipush (-202), 3, 0, 0, 0), (19, .invokevirtual 80, 3, 92, 2, 0), (22, .ireturn, 1, 0, 0, 0), (23, .iload_n 2, 1, 0, 0, 0), (24, .aload_n 0, 1, 0, 0, 0), (25, .getfield 10, 3, 9, 0, 0), (28, .iload_n 1, 1, 0, 0, 0), (29, .invokevirtual 124, 3, 16, 2, 0), (32, .getfield 106, 3, 0, 1, 0), (35, .if_icmp .ge 20, 3, 0, 0, 0), (38, .aload_n 0, 1, 0, 0, 0), (39, .getfield 10, 3, 9, 0, 0), (42, .getfield 134, 3, 3, 1, 0), (45, .iload_n 1, 1, 0, 0, 0), (46, .aaload, 1, 0, 0, 0), (47, .getfield 138, 3, 2, 0, 0), (50, .iload_n 2, 1, 0, 0, 0), (51, .iaload, 1, 0, 0, 0), (52, .goto 6, 3, 0, 0, 0), (55, .sipush (-201), 3, 0, 0, 0), (58, .ireturn, 1, 0, 0, 0)]
/-- 104 EdgeMoves.type(I)I -/
def kc_104 : List ACe := [(0, .iload_n 1, 1, 0, 0, 0), (1, .sipush 128, 3, 0, 0, 0), (4, .invokestatic 113, 3, 13, 2, 0), (7, .ifCond .ne 11, 3, 0, 0, 0), (10, .aload_n 0, 1, 0, 0, 0), (11, .sipush (-202), 3, 0, 0, 0), (14, .invokevirtual 80, 3, 92, 2, 0), (17, .ireturn, 1, 0, 0, 0), (18, .aload_n 0, 1, 0, 0, 0), (19, .getfield 22, 3, 9, 2, 0), (22, .getfield 167, 3, 8, 1, 0), (25, .bipush 120, 2, 0, 0, 0), (27, .if_icmp .lt 11, 3, 0, 0, 0), (30, .aload_n 0, 1, 0, 0, 0), (31, .sipush (-204), 3, 0, 0, 0), (34, .invokevirtual 80, 3, 92, 2, 0), (37, .ireturn, 1, 0, 0, 0), (38, .aload_n 0, 1, 0, 0, 0), (39, .getfield 22, 3, 9, 2, 0), (42, .iload_n 1, 1, 0, 0, 0), (43, .invokevirtual 170, 3, 89, 2, 0), (46, .aload_n 0, 1, 0, 0, 0), (47, .getfield 22, 3, 9, 2, 0), (50, .getfield 167, 3, 8, 1, 0), (53, .ireturn, 1, 0, 0, 0)]
/-- 105 EdgeMoves.clear()I -/
def kc_105 : List ACe := [(0, .aload_n 0, 1, 0, 0, 0), (1, .getfield 22, 3, 9, 2, 0), (4, .getfield 167, 3, 8, 1, 0), (7, .istore_n 1, 1, 0, 0, 0), (8, .aload_n 0, 1, 0, 0, 0), (9, .getfield 22, 3, 9, 2, 0), (12, .iconst 0, 1, 0, 0, 0), (13, .putfield 167, 3, 8, 1, 0), (16, .iload_n 1, 1, 0, 0, 0), (17, .ireturn, 1, 0, 0, 0)]
/-- 106 EdgeMoves.read()I -/
def kc_106 : List ACe := [(0, .aload_n 0, 1, 0, 0, 0), (1, .getfield 31, 3, 9, 3, 0), (4, .aload_n 0, 1, 0, 0, 0), (5, .getfield 16, 3, 9, 1, 0), (8, .invokevirtual 174, 3, 85, 2, 0), (11, .istore_n 1, 1, 0, 0, 0), (12, .iload_n 1, 1, 0, 0, 0), (13, .ifCond .le 21, 3, 0, 0, 0), (16, .aload_n 0, 1, 0, 0, 0), (17, .getfield 10, 3, 9, 0, 0), (20, .astore_n 2, 1, 0, 0, 0), (21, .aload_n 0, 1, 0, 0, 0), (22, .aload_n 0, 1, 0, 0, 0), (23, .getfield 16, 3, 9, 1, 0), (26, .putfield 10, 3, 9, 0, 0), (29, .aload_n 0, 1, 0, 0, 0), (30, .aload_n 2, 1, 0, 0, 0), (31, .putfield 16, 3, 9, 1, 0), (34, .iload_n 1, 1, 0, 0, 0), (35, .ireturn, 1, 0, 0, 0)]
/-- 107 EdgeMoves.refusalFor(IZ)I -/
def kc_107 : List ACe := [(0, .aload_n 0, 1, 0, 0, 0), (1, .getfield 10, 3, 9, 0, 0), (4, .iload_n 1, 1, 0, 0, 0), (5, .invokevirtual 121, 3, 15, 2, 0), (8, .ifCond .eq 7, 3, 0, 0, 0), (11, .iload_n 2, 1, 0, 0, 0), (12, .ifCond .ne 7, 3, 0, 0, 0), (15, .sipush (-202), 3, 0, 0, 0), (18, .ireturn, 1, 0, 0, 0), (19, .aload_n 0, 1, 0, 0, 0), (20, .iload_n 1, 1, 0, 0, 0), (21, .invokevirtual 155, 3, 99, 2, 0), (24, .ifCond .eq 7, 3, 0, 0, 0), (27, .iconst 0, 1, 0, 0, 0), (28, .goto 6, 3, 0, 0, 0), (31, .sipush (-203), 3, 0, 0, 0), (34, .ireturn, 1, 0, 0, 0)]
/-- 108 EdgeMoves.makePlan(LEdgeMoves$Plan;I)V -/
def kc_108 : List ACe := [(0, .aload_n 0, 1, 0, 0, 0), (1, .getfield 38, 3, 9, 4, 0), (4, .aload_n 0, 1, 0, 0, 0), (5, .getfield 10, 3, 9, 0, 0), (8, .iload_n 2, 1, 0, 0, 0), (9, .invokevirtual 124, 3, 16, 2, 0), (12, .aload_n 0, 1, 0, 0, 0), (13, .getfield 10, 3, 9, 0, 0), (16, .getfield 134, 3, 3, 1, 0), (19, .iload_n 2, 1, 0, 0, 0), (20, .aaload, 1, 0, 0, 0), (21, .invokevirtual 205, 3, 24, 3, 0), (24, .aload_n 1, 1, 0, 0, 0), (25, .aload_n 0, 1, 0, 0, 0), (26, .getfield 38, 3, 9, 4, 0), (29, .aload_n 0, 1, 0, 0, 0), (30, .getfield 146, 3, 9, 10, 0), (33, .invokevirtual 308, 3, 64, 3, 0), (36, .return_, 1, 0, 0, 0)]
/-- 109 EdgeMoves.steps(II)I -/
def kc_109 : List ACe := [(0, .aload_n 0, 1, 0, 0, 0), (1, .iload_n 1, 1, 0, 0, 0), (2, .iload_n 2, 1, 0, 0, 0), (3, .iconst 5, 1, 0, 0, 0), (4, .invokestatic 113, 3, 13, 2, 0), (7, .invokevirtual 178, 3, 107, 3, 0), (10, .istore_n 3, 1, 0, 0, 0), (11, .iload_n 3, 1, 0, 0, 0), (12, .ifCond .eq 9, 3, 0, 0, 0), (15, .aload_n 0, 1, 0, 0, 0), (16, .iload_n 3, 1, 0, 0, 0), (17, .invokevirtual 80, 3, 92, 2, 0), (20, .ireturn, 1, 0, 0, 0), (21, .aload_n 0, 1, 0, 0, 0), (22, .aload_n 0, 1, 0, 0, 0), (23, .getfield 45, 3, 9, 5, 0), (26, .iload_n 1, 1, 0, 0, 0), (27, .invokevirtual 182, 3, 108, 3, 0), (30, .iload_n 2, 1, 0, 0, 0), (31, .tableswitch 64 0 3 #[29, 37, 46, 55], 29, 0, 0, 0), (60, .aload_n 0, 1, 0, 0, 0), (61, .getfield 45, 3, 9, 5, 0), (64, .getfield 186, 3, 6, 3, 0), (67, .ireturn, 1, 0, 0, 0), (68, .aload_n 0, 1, 0, 0, 0), (69, .getfield 45, 3, 9, 5, 0), (72, .iconst 0, 1, 0, 0, 0), (73, .invokevirtual 187, 3, 65, 2, 0), (76, .ireturn, 1, 0, 0, 0), (77, .aload_n 0, 1, 0, 0, 0), (78, .getfield 45, 3, 9, 5, 0), (81, .iconst 1, 1, 0, 0, 0), (82, .invokevirtual 187, 3, 65, 2, 0), (85, .ireturn, 1, 0, 0, 0), (86, .aload_n 0, 1, 0, 0, 0), (87, .getfield 45, 3, 9, 5, 0), (90, .iconst 2, 1, 0, 0, 0), (91, .invokevirtual 187, 3, 65, 2, 0), (94, .ireturn, 1, 0, 0, 0), (95, .aload_n 0, 1, 0, 0, 0), (96, .getfield 45, 3, 9, 5, 0), (99, .invokevirtual 190, 3, 66, 1, 0), (102, .ireturn, 1, 0, 0, 0)]
/-- 110 EdgeMoves.step(III)I -/
def kc_110 : List ACe := [(0, .aload_n 0, 1, 0, 0, 0), (1, .iload_n 1, 1, 0, 0, 0), (2, .iload_n 2, 1, 0, 0, 0), (3, .ifCond .lt 15, 3, 0, 0, 0), (6, .iload_n 3, 1, 0, 0, 0), (7, .iconst 3, 1, 0, 0, 0), (8, .invokestatic 113, 3, 13, 2, 0), (11, .ifCond .eq 7, 3, 0, 0, 0), (14, .iconst 1, 1, 0, 0, 0), (15, .goto 4, 3, 0, 0, 0), (18, .iconst 0, 1, 0, 0, 0), (19, .invokevirtual 178, 3, 107, 3, 0), (22, .istore 4, 2, 0, 0, 0), (24, .iload 4, 2, 0, 0, 0), (26, .ifCond .eq 10, 3, 0, 0, 0), (29, .aload_n 0, 1, 0, 0, 0), (30, .iload 4, 2, 0, 0, 0), (32, .invokevirtual 80, 3, 92, 2, 0), (35, .ireturn, 1, 0, 0, 0), (36, .aload_n 0, 1, 0, 0, 0), (37, .aload_n 0, 1, 0, 0, 0), (38, .getfield 45, 3, 9, 5, 0), (41, .iload_n 1, 1, 0, 0, 0), (42, .invokevirtual 182, 3, 108, 3, 0), (45, .iload_n 2, 1, 0, 0, 0), (46, .aload_n 0, 1, 0, 0, 0), (47, .getfield 45, 3, 9, 5, 0), (50, .getfield 186, 3, 6, 3, 0), (53, .if_icmp .lt 7, 3, 0, 0, 0), (56, .sipush (-201), 3, 0, 0, 0), (59, .ireturn, 1, 0, 0, 0), (60, .iload_n 3, 1, 0, 0, 0), (61, .lookupswitch 47 #[(0, 27), (1, 37)], 27, 0, 0, 0), (88, .aload_n 0, 1, 0, 0, 0), (89, .getfield 45, 3, 9, 5, 0), (92, .getfield 193, 3, 6, 0, 0), (95, .iload_n 2, 1, 0, 0, 0), (96, .iaload, 1, 0, 0, 0), (97, .ireturn, 1, 0, 0, 0), (98, .aload_n 0, 1, 0, 0, 0), (99, .getfield 45, 3, 9, 5, 0), (102, .getfield 196, 3, 6, 1, 0), (105, .iload_n 2, 1, 0, 0, 0), (106, .iaload, 1, 0, 0, 0), (107, .ireturn, 1, 0, 0, 0), (108, .aload_n 0, 1, 0, 0, 0), (109, .getfield 45, 3, 9, 5, 0), (112, .getfield 199, 3, 6, 2, 0), (115, .iload_n 2, 1, 0, 0, 0), (116, .iaload, 1, 0, 0, 0), (117, .ireturn, 1, 0, 0, 0)]
/-- 111 EdgeMoves.cost(I)I -/
def kc_111 : List ACe := [(0, .aload_n 0, 1, 0, 0, 0), (1, .iload_n 1, 1, 0, 0, 0), (2, .iconst 1, 1, 0, 0, 0), (3, .invokevirtual 178, 3, 107, 3, 0), (6, .istore_n 2, 1, 0, 0, 0), (7, .iload_n 2, 1, 0, 0, 0), (8, .ifCond .eq 9, 3, 0, 0, 0), (11, .aload_n 0, 1, 0, 0, 0), (12, .iload_n 2, 1, 0, 0, 0), (13, .invokevirtual 80, 3, 92, 2, 0), (16, .ireturn, 1, 0, 0, 0), (17, .aload_n 0, 1, 0, 0, 0), (18, .aload_n 0, 1, 0, 0, 0), (19, .getfield 45, 3, 9, 5, 0), (22, .iload_n 1, 1, 0, 0, 0), (23, .invokevirtual 182, 3, 108, 3, 0), (26, .aload_n 0, 1, 0, 0, 0), (27, .getfield 45, 3, 9, 5, 0), (30, .invokevirtual 202, 3, 67, 1, 0), (33, .ireturn, 1, 0, 0, 0)]
/-- 112 EdgeMoves.rings(II)I -/
def kc_112 : List ACe := [(0, .aload_n 0, 1, 0, 0, 0), (1, .iload_n 1, 1, 0, 0, 0), (2, .iload_n 2, 1, 0, 0, 0), (3, .iconst 3, 1, 0, 0, 0), (4, .invokestatic 113, 3, 13, 2, 0), (7, .invokevirtual 178, 3, 107, 3, 0), (10, .istore_n 3, 1, 0, 0, 0), (11, .iload_n 3, 1, 0, 0, 0), (12, .ifCond .eq 9, 3, 0, 0, 0), (15, .aload_n 0, 1, 0, 0, 0), (16, .iload_n 3, 1, 0, 0, 0), (17, .invokevirtual 80, 3, 92, 2, 0), (20, .ireturn, 1, 0, 0, 0), (21, .aload_n 0, 1, 0, 0, 0), (22, .getfield 38, 3, 9, 4, 0), (25, .aload_n 0, 1, 0, 0, 0), (26, .getfield 10, 3, 9, 0, 0), (29, .iload_n 1, 1, 0, 0, 0), (30, .invokevirtual 124, 3, 16, 2, 0), (33, .aload_n 0, 1, 0, 0, 0), (34, .getfield 10, 3, 9, 0, 0), (37, .getfield 134, 3, 3, 1, 0), (40, .iload_n 1, 1, 0, 0, 0), (41, .aaload, 1, 0, 0, 0), (42, .invokevirtual 205, 3, 24, 3, 0), (45, .iload_n 2, 1, 0, 0, 0), (46, .lookupswitch 42 #[(0, 26), (1, 34)], 26, 0, 0, 0), (72, .aload_n 0, 1, 0, 0, 0), (73, .getfield 38, 3, 9, 4, 0), (76, .invokevirtual 209, 3, 35, 1, 0), (79, .ireturn, 1, 0, 0, 0), (80, .aload_n 0, 1, 0, 0, 0), (81, .getfield 38, 3, 9, 4, 0), (84, .invokevirtual 212, 3, 36, 1, 0), (87, .ireturn, 1, 0, 0, 0), (88, .aload_n 0, 1, 0, 0, 0), (89, .getfield 38, 3, 9, 4, 0), (92, .invokevirtual 215, 3, 37, 1, 0), (95, .ireturn, 1, 0, 0, 0)]
/-- 113 EdgeMoves.priceBy(II)I -/
def kc_113 : List ACe := [(0, .aload_n 0, 1, 0, 0, 0), (1, .getfield 38, 3, 9, 4, 0), (4, .aload_n 0, 1, 0, 0, 0), (5, .getfield 10, 3, 9, 0, 0), (8, .iload_n 1, 1, 0, 0, 0), (9, .invokevirtual 124, 3, 16, 2, 0), (12, .aload_n 0, 1, 0, 0, 0), (13, .getfield 10, 3, 9, 0, 0), (16, .getfield 134, 3, 3, 1, 0), (19, .iload_n 1, 1, 0, 0, 0), (20, .aaload, 1, 0, 0, 0), (21, .invokevirtual 205, 3, 24, 3, 0), (24, .aload_n 0, 1, 0, 0, 0), (25, .getfield 45, 3, 9, 5, 0), (28, .aload_n 0, 1, 0, 0, 0), (29, .getfield 38, 3, 9, 4, 0), (32, .iload_n 2, 1, 0, 0, 0), (33, .invokevirtual 308, 3, 64, 3, 0), (36, .aload_n 0, 1, 0, 0, 0), (37, .getfield 45, 3, 9, 5, 0), (40, .invokevirtual 202, 3, 67, 1, 0), (43, .ireturn, 1, 0, 0, 0)]
/-- 114 EdgeMoves.cheapest(II)I -/
def kc_114 : List ACe := [(0, .aload_n 0, 1, 0, 0, 0), (1, .iload_n 1, 1, 0, 0, 0), (2, .iload_n 2, 1, 0, 0, 0), (3, .iconst 2, 1, 0, 0, 0), (4, .invokestatic 113, 3, 13, 2, 0), (7, .invokevirtual 178, 3, 107, 3, 0), (10, .istore_n 3, 1, 0, 0, 0), (11, .iload_n 3, 1, 0, 0, 0), (12, .ifCond .eq 9, 3, 0, 0, 0), (15, .aload_n 0, 1, 0, 0, 0), (16, .iload_n 3, 1, 0, 0, 0), (17, .invokevirtual 80, 3, 92, 2, 0), (20, .ireturn, 1, 0, 0, 0), (21, .iconst 0, 1, 0, 0, 0), (22, .istore 4, 2, 0, 0, 0), (24, .aload_n 0, 1, 0, 0, 0), (25, .iload_n 1, 1, 0, 0, 0), (26, .iconst 0, 1, 0, 0, 0), (27, .invokevirtual 218, 3, 113, 3, 0), (30, .istore 5, 2, 0, 0, 0), (32, .iconst 1, 1, 0, 0, 0), (33, .istore 6, 2, 0, 0, 0), (35, .iload 6, 2, 0, 0, 0), (37, .iconst 5, 1, 0, 0, 0), (38, .if_icmp .ge 33, 3, 0, 0, 0), (41, .aload_n 0, 1, 0, 0, 0), (42, .iload_n 1, 1, 0, 0, 0), (43, .iload 6, 2, 0, 0, 0), (45, .invokevirtual 218, 3, 113, 3, 0), (48, .istore 7, 2, 0, 0, 0), (50, .iload 7, 2, 0, 0, 0), (52, .iload 5, 2, 0, 0, 0), (54, .if_icmp .ge 11, 3, 0, 0, 0), (57, .iload 6, 2, 0, 0, 0), (59, .istore 4, 2, 0, 0, 0), (61, .iload 7, 2, 0, 0, 0), (63, .istore 5, 2, 0, 0, 0), (65, .iinc 6 1, 3, 0, 0, 0), (68, .goto (-33), 3, 0, 0, 0), (71, .iload_n 2, 1, 0, 0, 0), (72, .ifCond .ne 8, 3, 0, 0, 0), (75, .iload 4, 2, 0, 0, 0), (77, .goto 5, 3, 0, 0, 0), (80, .iload 5, 2, 0, 0, 0), (82, .ireturn, 1, 0, 0, 0)]
/-- 115 EdgeMoves.free(II)I -/
def kc_115 : List ACe := [(0, .aload_n 0, 1, 0, 0, 0), (1, .getfield 10, 3, 9, 0, 0), (4, .iload_n 1, 1, 0, 0, 0), (5, .invokevirtual 121, 3, 15, 2, 0), (8, .ifCond .eq 10, 3, 0, 0, 0), (11, .iload_n 2, 1, 0, 0, 0), (12, .invokestatic 221, 3, 76, 1, 0), (15, .ifCond .ne 11, 3, 0, 0, 0), (18, .aload_n 0, 1, 0, 0, 0), (19, .sipush (-202), 3, 0, 0, 0), (22, .invokevirtual 80, 3, 92, 2, 0), (25, .ireturn, 1, 0, 0, 0), (26, .aload_n 0, 1, 0, 0, 0), (27, .getfield 38, 3, 9, 4, 0), (30, .aload_n 0, 1, 0, 0, 0), (31, .getfield 10, 3, 9, 0, 0), (34, .iload_n 1, 1, 0, 0, 0), (35, .invokevirtual 124, 3, 16, 2, 0), (38, .aload_n 0, 1, 0, 0, 0), (39, .getfield 10, 3, 9, 0, 0), (42, .getfield 134, 3, 3, 1, 0), (45, .iload_n 1, 1, 0, 0, 0), (46, .aaload, 1, 0, 0, 0), (47, .invokevirtual 205, 3, 24, 3, 0), (50, .iconst 0, 1, 0, 0, 0), (51, .istore_n 3, 1, 0, 0, 0), (52, .iload_n 3, 1, 0, 0, 0), (53, .iload_n 2, 1, 0, 0, 0), (54, .iadd, 1, 0, 0, 0), (55, .bipush 32, 2, 0, 0, 0), (57, .if_icmp .gt 32, 3, 0, 0, 0), (60, .iload_n 3, 1, 0, 0, 0), (61, .iload_n 2, 1, 0, 0, 0), (62, .invokestatic 224, 3, 60, 2, 0), (65, .istore 4, 2, 0, 0, 0), (67, .aload_n 0, 1, 0, 0, 0), (68, .getfield 38, 3, 9, 4, 0), (71, .iload 4, 2, 0, 0, 0), (73, .invokevirtual 227, 3, 30, 2, 0), (76, .ifCond .ne 6, 3, 0, 0, 0), (79, .iload 4, 2, 0, 0, 0), (81, .ireturn, 1, 0, 0, 0), (82, .iload_n 3, 1, 0, 0, 0), (83, .iload_n 2, 1, 0, 0, 0), (84, .iadd, 1, 0, 0, 0), (85, .istore_n 3, 1, 0, 0, 0), (86, .goto (-34), 3, 0, 0, 0), (89, .sipush (-201), 3, 0, 0, 0), (92, .ireturn, 1, 0, 0, 0)]
/-- 116 EdgeMoves.allClearTo(I)Z -/
def kc_116 : List ACe := [(0, .iconst 0, 1, 0, 0, 0), (1, .istore_n 2, 1, 0, 0, 0), (2, .iload_n 2, 1, 0, 0, 0), (3, .aload_n 0, 1, 0, 0, 0), (4, .getfield 10, 3, 9, 0, 0), (7, .getfield 70, 3, 3, 3, 0), (10, .if_icmp .ge 35, 3, 0, 0, 0), (13, .aload_n 0, 1, 0, 0, 0), (14, .getfield 10, 3, 9, 0, 0), (17, .getfield 134, 3, 3, 1, 0), (20, .iload_n 2, 1, 0, 0, 0), (21, .aaload, 1, 0, 0, 0), (22, .getfield 152, 3, 2, 2, 0), (25, .iload_n 1, 1, 0, 0, 0), (26, .if_icmp .ne 13, 3, 0, 0, 0), (29, .aload_n 0, 1, 0, 0, 0), (30, .iload_n 2, 1, 0, 0, 0), (31, .invokevirtual 155, 3, 99, 2, 0), (34, .ifCond .ne 5, 3, 0, 0, 0), (37, .iconst 0, 1, 0, 0, 0), (38, .ireturn, 1, 0, 0, 0), (39, .iinc 2 1, 3, 0, 0, 0), (42, .goto (-40), 3, 0, 0, 0), (45, .iconst 1, 1, 0, 0, 0), (46, .ireturn, 1, 0, 0, 0)]
/-- 117 EdgeMoves.tail(I)I -/
def kc_117 : List ACe := [(0, .aload_n 0, 1, 0, 0, 0), (1, .getfield 10, 3, 9, 0, 0), (4, .iload_n 1, 1, 0, 0, 0), (5, .invokevirtual 88, 3, 14, 2, 0), (8, .ifCond .ne 11, 3, 0, 0, 0), (11, .aload_n 0, 1, 0, 0, 0), (12, .sipush (-202), 3, 0, 0, 0), (15, .invokevirtual 80, 3, 92, 2, 0), (18, .ireturn, 1, 0, 0, 0), (19, .aload_n 0, 1, 0, 0, 0), (20, .iload_n 1, 1, 0, 0, 0), (21, .invokevirtual 230, 3, 116, 2, 0), (24, .ifCond .ne 11, 3, 0, 0, 0), (27, .aload_n 0, 1, 0, 0, 0), (28, .sipush (-203), 3, 0, 0, 0), (31, .invokevirtual 80, 3, 92, 2, 0), (34, .ireturn, 1, 0, 0, 0), (35, .iconst 0, 1, 0, 0, 0), (36, .istore_n 2, 1, 0, 0, 0), (37, .iconst 1, 1, 0, 0, 0), (38, .istore_n 3, 1, 0, 0, 0), (39, .iconst 0, 1, 0, 0, 0), (40, .istore 4, 2, 0, 0, 0), (42, .iload 4, 2, 0, 0, 0), (44, .aload_n 0, 1, 0, 0, 0), (45, .getfield 10, 3, 9, 0, 0), (48, .getfield 70, 3, 3, 3, 0), (51, .if_icmp .ge 96, 3, 0, 0, 0), (54, .aload_n 0, 1, 0, 0, 0), (55, .getfield 10, 3, 9, 0, 0), (58, .getfield 134, 3, 3, 1, 0), (61, .iload 4, 2, 0, 0, 0), (63, .aaload, 1, 0, 0, 0), (64, .getfield 152, 3, 2, 2, 0), (67, .iload_n 1, 1, 0, 0, 0), (68, .if_icmp .ne 30, 3, 0, 0, 0), (71, .iload_n 3, 1, 0, 0, 0), (72, .ifCond .eq 26, 3, 0, 0, 0), (75, .aload_n 0, 1, 0, 0, 0), (76, .aload_n 0, 1, 0, 0, 0), (77, .getfield 45, 3, 9, 5, 0), (80, .iload 4, 2, 0, 0, 0), (82, .invokevirtual 182, 3, 108, 3, 0), (85, .aload_n 0, 1, 0, 0, 0), (86, .getfield 45, 3, 9, 5, 0), (89, .getfield 186, 3, 6, 3, 0), (92, .istore_n 2, 1, 0, 0, 0), (93, .iconst 0, 1, 0, 0, 0), (94, .istore_n 3, 1, 0, 0, 0), (95, .goto 46, 3, 0, 0, 0), (98, .aload_n 0, 1, 0, 0, 0), (99, .getfield 10, 3, 9, 0, 0), (102, .getfield 134, 3, 3, 1, 0), (105, .iload 4, 2, 0, 0, 0), (107, .aaload, 1, 0, 0, 0), (108, .getfield 152, 3, 2, 2, 0), (111, .iload_n 1, 1, 0, 0, 0), (112, .if_icmp .ne 29, 3, 0, 0, 0), (115, .aload_n 0, 1, 0, 0, 0), (116, .aload_n 0, 1, 0, 0, 0), (117, .getfield 49, 3, 9, 6, 0), (120, .iload 4, 2, 0, 0, 0), (122, .invokevirtual 182, 3, 108, 3, 0), (125, .iload_n 2, 1, 0, 0, 0), (126, .aload_n 0, 1, 0, 0, 0), (127, .getfield 45, 3, 9, 5, 0), (130, .aload_n 0, 1, 0, 0, 0), (131, .getfield 49, 3, 9, 6, 0), (134, .invokevirtual 233, 3, 69, 2, 0), (137, .invokestatic 237, 3, 1003, 0, 0), (140, .istore_n 2, 1, 0, 0, 0), (141, .iinc 4 1, 3, 0, 0, 0), (144, .goto (-102), 3, 0, 0, 0), (147, .iload_n 2, 1, 0, 0, 0), (148, .ireturn, 1, 0, 0, 0)]
/-- 118 EdgeMoves.run(III)J -/
def kc_118 : List ACe := [(0, .aload_n 0, 1, 0, 0, 0), (1, .iload_n 1, 1, 0, 0, 0), (2, .iload_n 2, 1, 0, 0, 0), (3, .ldc 242, 2, 0, 0, 1000000), (5, .invokestatic 113, 3, 13, 2, 0), (8, .ifCond .eq 15, 3, 0, 0, 0), (11, .iload_n 3, 1, 0, 0, 0), (12, .iconst 2, 1, 0, 0, 0), (13, .invokestatic 113, 3, 13, 2, 0), (16, .ifCond .eq 7, 3, 0, 0, 0), (19, .iconst 1, 1, 0, 0, 0), (20, .goto 4, 3, 0, 0, 0), (23, .iconst 0, 1, 0, 0, 0), (24, .invokevirtual 178, 3, 107, 3, 0), (27, .istore 4, 2, 0, 0, 0), (29, .iload 4, 2, 0, 0, 0), (31, .ifCond .eq 11, 3, 0, 0, 0), (34, .aload_n 0, 1, 0, 0, 0), (35, .iload 4, 2, 0, 0, 0), (37, .invokevirtual 80, 3, 92, 2, 0), (40, .i2l, 1, 0, 0, 0), (41, .lreturn, 1, 0, 0, 0), (42, .aload_n 0, 1, 0, 0, 0), (43, .getfield 55, 3, 9, 7, 0), (46, .aload_n 0, 1, 0, 0, 0), (47, .getfield 62, 3, 9, 8, 0), (50, .iload_n 2, 1, 0, 0, 0), (51, .invokevirtual 243, 3, 39, 3, 0), (54, .iload_n 3, 1, 0, 0, 0), (55, .ifCond .ne 30, 3, 0, 0, 0), (58, .aload_n 0, 1, 0, 0, 0), (59, .getfield 55, 3, 9, 7, 0), (62, .aload_n 0, 1, 0, 0, 0), (63, .getfield 10, 3, 9, 0, 0), (66, .iload_n 1, 1, 0, 0, 0), (67, .invokevirtual 124, 3, 16, 2, 0), (70, .aload_n 0, 1, 0, 0, 0), (71, .getfield 10, 3, 9, 0, 0), (74, .getfield 134, 3, 3, 1, 0), (77, .iload_n 1, 1, 0, 0, 0), (78, .aaload, 1, 0, 0, 0), (79, .invokevirtual 247, 3, 43, 3, 0), (82, .goto 23, 3, 0, 0, 0), (85, .aload_n 0, 1, 0, 0, 0), (86, .aload_n 0, 1, 0, 0, 0), (87, .getfield 45, 3, 9, 5, 0), (90, .iload_n 1, 1, 0, 0, 0), (91, .invokevirtual 182, 3, 108, 3, 0), (94, .aload_n 0, 1, 0, 0, 0), (95, .getfield 55, 3, 9, 7, 0), (98, .aload_n 0, 1, 0, 0, 0), (99, .getfield 45, 3, 9, 5, 0), (102, .invokevirtual 250, 3, 44, 2, 0), (105, .aload_n 0, 1, 0, 0, 0), (106, .getfield 55, 3, 9, 7, 0), (109, .invokevirtual 254, 3, 45, 1, 0), (112, .lreturn, 1, 0, 0, 0)]
/-- 119 EdgeMoves.shareOfWhole(II)I -/
def kc_119 : List ACe := [(0, .aload_n 0, 1, 0, 0, 0), (1, .iload_n 1, 1, 0, 0, 0), (2, .invokevirtual 155, 3, 99, 2, 0), (5, .ifCond .ne 14, 3, 0, 0, 0), (8, .iload_n 2, 1, 0, 0, 0), (9, .iconst 2, 1, 0, 0, 0), (10, .if_icmp .ne 7, 3, 0, 0, 0), (13, .iconst 1, 1, 0, 0, 0), (14, .goto 4, 3, 0, 0, 0), (17, .iconst 0, 1, 0, 0, 0), (18, .ireturn, 1, 0, 0, 0), (19, .aload_n 0, 1, 0, 0, 0), (20, .aload_n 0, 1, 0, 0, 0), (21, .getfield 45, 3, 9, 5, 0), (24, .iload_n 1, 1, 0, 0, 0), (25, .invokevirtual 182, 3, 108, 3, 0), (28, .iload_n 2, 1, 0, 0, 0), (29, .tableswitch 78 0 2 #[27, 48, 76], 27, 0, 0, 0), (56, .aload_n 0, 1, 0, 0, 0), (57, .getfield 10, 3, 9, 0, 0), (60, .getfield 134, 3, 3, 1, 0), (63, .iload_n 1, 1, 0, 0, 0), (64, .aaload, 1, 0, 0, 0), (65, .getfield 143, 3, 2, 3, 0), (68, .aload_n 0, 1, 0, 0, 0), (69, .getfield 45, 3, 9, 5, 0), (72, .invokevirtual 202, 3, 67, 1, 0), (75, .imul, 1, 0, 0, 0), (76, .ireturn, 1, 0, 0, 0), (77, .aload_n 0, 1, 0, 0, 0), (78, .getfield 10, 3, 9, 0, 0), (81, .iload_n 1, 1, 0, 0, 0), (82, .invokevirtual 158, 3, 22, 2, 0), (85, .iconst 2, 1, 0, 0, 0), (86, .if_icmp .ne 17, 3, 0, 0, 0), (89, .aload_n 0, 1, 0, 0, 0), (90, .getfield 45, 3, 9, 5, 0), (93, .getfield 186, 3, 6, 3, 0), (96, .ifCond .le 7, 3, 0, 0, 0), (99, .iconst 1, 1, 0, 0, 0), (100, .goto 4, 3, 0, 0, 0), (103, .iconst 0, 1, 0, 0, 0), (104, .ireturn, 1, 0, 0, 0), (105, .iconst 0, 1, 0, 0, 0), (106, .ireturn, 1, 0, 0, 0), (107, .aload_n 0, 1, 0, 0, 0), (108, .getfield 45, 3, 9, 5, 0), (111, .getfield 186, 3, 6, 3, 0), (114, .ireturn, 1, 0, 0, 0)]
/-- 120 EdgeMoves.whole(I)I -/
def kc_120 : List ACe := [(0, .iload_n 1, 1, 0, 0, 0), (1, .iconst 4, 1, 0, 0, 0), (2, .invokestatic 113, 3, 13, 2, 0), (5, .ifCond .ne 11, 3, 0, 0, 0), (8, .aload_n 0, 1, 0, 0, 0), (9, .sipush (-202), 3, 0, 0, 0), (12, .invokevirtual 80, 3, 92, 2, 0), (15, .ireturn, 1, 0, 0, 0), (16, .iconst 0, 1, 0, 0, 0), (17, .istore_n 2, 1, 0, 0, 0), (18, .iconst 0, 1, 0, 0, 0), (19, .istore_n 3, 1, 0, 0, 0), (20, .iload_n 3, 1, 0, 0, 0), (21, .aload_n 0, 1, 0, 0, 0), (22, .getfield 10, 3, 9, 0, 0), (25, .getfield 70, 3, 3, 3, 0), (28, .if_icmp .ge 18, 3, 0, 0, 0), (31, .iload_n 2, 1, 0, 0, 0), (32, .aload_n 0, 1, 0, 0, 0), (33, .iload_n 3, 1, 0, 0, 0), (34, .iload_n 1, 1, 0, 0, 0), (35, .invokevirtual 258, 3, 119, 3, 0), (38, .iadd, 1, 0, 0, 0), (39, .istore_n 2, 1, 0, 0, 0), (40, .iinc 3 1, 3, 0, 0, 0), (43, .goto (-23), 3, 0, 0, 0), (46, .iload_n 2, 1, 0, 0, 0), (47, .ireturn, 1, 0, 0, 0)]
/-- 121 EdgeMoves.weighedPrice(I)I -/
def kc_121 : List ACe := [(0, .aload_n 0, 1, 0, 0, 0), (1, .getfield 10, 3, 9, 0, 0), (4, .getfield 134, 3, 3, 1, 0), (7, .iload_n 1, 1, 0, 0, 0), (8, .aaload, 1, 0, 0, 0), (9, .getfield 143, 3, 2, 3, 0), (12, .aload_n 0, 1, 0, 0, 0), (13, .iload_n 1, 1, 0, 0, 0), (14, .aload_n 0, 1, 0, 0, 0), (15, .getfield 146, 3, 9, 10, 0), (18, .invokevirtual 218, 3, 113, 3, 0), (21, .imul, 1, 0, 0, 0), (22, .ireturn, 1, 0, 0, 0)]
/-- 122 EdgeMoves.dearest()I -/
def kc_122 : List ACe := [(0, .sipush (-201), 3, 0, 0, 0), (3, .istore_n 1, 1, 0, 0, 0), (4, .iconst (-1), 1, 0, 0, 0), (5, .istore_n 2, 1, 0, 0, 0), (6, .iconst 0, 1, 0, 0, 0), (7, .istore_n 3, 1, 0, 0, 0), (8, .iload_n 3, 1, 0, 0, 0), (9, .aload_n 0, 1, 0, 0, 0), (10, .getfield 10, 3, 9, 0, 0), (13, .getfield 70, 3, 3, 3, 0), (16, .if_icmp .ge 34, 3, 0, 0, 0), (19, .aload_n 0, 1, 0, 0, 0), (20, .iload_n 3, 1, 0, 0, 0), (21, .invokevirtual 155, 3, 99, 2, 0), (24, .ifCond .eq 20, 3, 0, 0, 0), (27, .aload_n 0, 1, 0, 0, 0), (28, .iload_n 3, 1, 0, 0, 0), (29, .invokevirtual 261, 3, 121, 2, 0), (32, .iload_n 2, 1, 0, 0, 0), (33, .if_icmp .le 11, 3, 0, 0, 0), (36, .iload_n 3, 1, 0, 0, 0), (37, .istore_n 1, 1, 0, 0, 0), (38, .aload_n 0, 1, 0, 0, 0), (39, .iload_n 3, 1, 0, 0, 0), (40, .invokevirtual 261, 3, 121, 2, 0), (43, .istore_n 2, 1, 0, 0, 0), (44, .iinc 3 1, 3, 0, 0, 0), (47, .goto (-39), 3, 0, 0, 0), (50, .iload_n 1, 1, 0, 0, 0), (51, .ireturn, 1, 0, 0, 0)]
/-- 123 java/util/Arrays.fill([II)V -/
def kc_123 : List ACe := [(0, .iconst 0, 1, 0, 0, 0), (1, .istore_n 2, 1, 0, 0, 0), (2, .aload_n 0, 1, 0, 0, 0), (3, .arraylength, 1, 0, 0, 0), (4, .istore_n 3, 1, 0, 0, 0), (5, .iload_n 2, 1, 0, 0, 0), (6, .iload_n 3, 1, 0, 0, 0), (7, .if_icmp .ge 13, 3, 0, 0, 0), (10, .aload_n 0, 1, 0, 0, 0), (11, .iload_n 2, 1, 0, 0, 0), (12, .iload_n 1, 1, 0, 0, 0), (13, .iastore, 1, 0, 0, 0), (14, .iinc 2 1, 3, 0, 0, 0), (17, .goto (-12), 3, 0, 0, 0), (20, .return_, 1, 0, 0, 0)]
/-- 124 EdgeMoves.goOneFurther(I)V -/
def kc_124 : List ACe := [(0, .iconst 0, 1, 0, 0, 0), (1, .istore_n 2, 1, 0, 0, 0), (2, .iload_n 2, 1, 0, 0, 0), (3, .aload_n 0, 1, 0, 0, 0), (4, .getfield 10, 3, 9, 0, 0), (7, .getfield 70, 3, 3, 3, 0), (10, .if_icmp .ge 59, 3, 0, 0, 0), (13, .aload_n 0, 1, 0, 0, 0), (14, .getfield 10, 3, 9, 0, 0), (17, .getfield 134, 3, 3, 1, 0), (20, .iload_n 2, 1, 0, 0, 0), (21, .aaload, 1, 0, 0, 0), (22, .astore_n 3, 1, 0, 0, 0), (23, .aload_n 0, 1, 0, 0, 0), (24, .getfield 66, 3, 9, 9, 0), (27, .aload_n 3, 1, 0, 0, 0), (28, .getfield 149, 3, 2, 1, 0), (31, .iaload, 1, 0, 0, 0), (32, .iload_n 1, 1, 0, 0, 0), (33, .if_icmp .ne 30, 3, 0, 0, 0), (36, .aload_n 0, 1, 0, 0, 0), (37, .getfield 66, 3, 9, 9, 0), (40, .aload_n 3, 1, 0, 0, 0), (41, .getfield 152, 3, 2, 2, 0), (44, .iaload, 1, 0, 0, 0), (45, .sipush (-201), 3, 0, 0, 0), (48, .if_icmp .ne 15, 3, 0, 0, 0), (51, .aload_n 0, 1, 0, 0, 0), (52, .getfield 66, 3, 9, 9, 0), (55, .aload_n 3, 1, 0, 0, 0), (56, .getfield 152, 3, 2, 2, 0), (59, .iload_n 1, 1, 0, 0, 0), (60, .iconst 1, 1, 0, 0, 0), (61, .iadd, 1, 0, 0, 0), (62, .iastore, 1, 0, 0, 0), (63, .iinc 2 1, 3, 0, 0, 0), (66, .goto (-64), 3, 0, 0, 0), (69, .return_, 1, 0, 0, 0)]
/-- 125 EdgeMoves.reach(II)I -/
def kc_125 : List ACe := [(0, .aload_n 0, 1, 0, 0, 0), (1, .getfield 10, 3, 9, 0, 0), (4, .iload_n 1, 1, 0, 0, 0), (5, .invokevirtual 88, 3, 14, 2, 0), (8, .ifCond .eq 14, 3, 0, 0, 0), (11, .aload_n 0, 1, 0, 0, 0), (12, .getfield 10, 3, 9, 0, 0), (15, .iload_n 2, 1, 0, 0, 0), (16, .invokevirtual 88, 3, 14, 2, 0), (19, .ifCond .ne 11, 3, 0, 0, 0), (22, .aload_n 0, 1, 0, 0, 0), (23, .sipush (-202), 3, 0, 0, 0), (26, .invokevirtual 80, 3, 92, 2, 0), (29, .ireturn, 1, 0, 0, 0), (30, .aload_n 0, 1, 0, 0, 0), (31, .getfield 66, 3, 9, 9, 0), (34, .sipush (-201), 3, 0, 0, 0), (37, .invokestatic 264, 3, 123, 2, 0), (40, .aload_n 0, 1, 0, 0, 0), (41, .getfield 66, 3, 9, 9, 0), (44, .iload_n 1, 1, 0, 0, 0), (45, .iconst 0, 1, 0, 0, 0), (46, .iastore, 1, 0, 0, 0), (47, .iconst 0, 1, 0, 0, 0), (48, .istore_n 3, 1, 0, 0, 0), (49, .iload_n 3, 1, 0, 0, 0), (50, .aload_n 0, 1, 0, 0, 0), (51, .getfield 10, 3, 9, 0, 0), (54, .getfield 77, 3, 3, 2, 0), (57, .if_icmp .ge 14, 3, 0, 0, 0), (60, .aload_n 0, 1, 0, 0, 0), (61, .iload_n 3, 1, 0, 0, 0), (62, .invokevirtual 270, 3, 124, 2, 0), (65, .iinc 3 1, 3, 0, 0, 0), (68, .goto (-19), 3, 0, 0, 0), (71, .aload_n 0, 1, 0, 0, 0), (72, .getfield 66, 3, 9, 9, 0), (75, .iload_n 2, 1, 0, 0, 0), (76, .iaload, 1, 0, 0, 0), (77, .ireturn, 1, 0, 0, 0)]
/-- 126 EdgeMoves.drawBlock(I)V -/
def kc_126 : List ACe := [(0, .aload_n 0, 1, 0, 0, 0), (1, .getfield 10, 3, 9, 0, 0), (4, .invokevirtual 84, 3, 17, 1, 0), (7, .istore_n 2, 1, 0, 0, 0), (8, .iconst 0, 1, 0, 0, 0), (9, .istore_n 3, 1, 0, 0, 0), (10, .iload_n 3, 1, 0, 0, 0), (11, .iload_n 1, 1, 0, 0, 0), (12, .if_icmp .ge 38, 3, 0, 0, 0), (15, .iconst 4, 1, 0, 0, 0), (16, .aload_n 0, 1, 0, 0, 0), (17, .getfield 62, 3, 9, 8, 0), (20, .iconst 3, 1, 0, 0, 0), (21, .invokevirtual 312, 3, 8, 2, 0), (24, .ishr, 1, 0, 0, 0), (25, .istore 4, 2, 0, 0, 0), (27, .aload_n 0, 1, 0, 0, 0), (28, .getfield 10, 3, 9, 0, 0), (31, .iload_n 2, 1, 0, 0, 0), (32, .iconst 4, 1, 0, 0, 0), (33, .iload_n 3, 1, 0, 0, 0), (34, .imul, 1, 0, 0, 0), (35, .iload 4, 2, 0, 0, 0), (37, .invokestatic 224, 3, 60, 2, 0), (40, .invokevirtual 109, 3, 18, 3, 0), (43, .pop, 1, 0, 0, 0), (44, .iinc 3 1, 3, 0, 0, 0), (47, .goto (-37), 3, 0, 0, 0), (50, .return_, 1, 0, 0, 0)]
/-- 127 EdgeMoves.drawEdge()V -/
def kc_127 : List ACe := [(0, .aload_n 0, 1, 0, 0, 0), (1, .getfield 62, 3, 9, 8, 0), (4, .bipush 8, 2, 0, 0, 0), (6, .invokevirtual 312, 3, 8, 2, 0), (9, .istore_n 1, 1, 0, 0, 0), (10, .aload_n 0, 1, 0, 0, 0), (11, .getfield 62, 3, 9, 8, 0), (14, .bipush 8, 2, 0, 0, 0), (16, .invokevirtual 312, 3, 8, 2, 0), (19, .istore_n 2, 1, 0, 0, 0), (20, .aload_n 0, 1, 0, 0, 0), (21, .getfield 10, 3, 9, 0, 0), (24, .iload_n 1, 1, 0, 0, 0), (25, .iload_n 2, 1, 0, 0, 0), (26, .aload_n 0, 1, 0, 0, 0), (27, .getfield 62, 3, 9, 8, 0), (30, .bipush 100, 2, 0, 0, 0), (32, .invokevirtual 312, 3, 8, 2, 0), (35, .invokevirtual 117, 3, 19, 4, 0), (38, .istore_n 3, 1, 0, 0, 0), (39, .aload_n 0, 1, 0, 0, 0), (40, .getfield 10, 3, 9, 0, 0), (43, .iload_n 3, 1, 0, 0, 0), (44, .invokevirtual 121, 3, 15, 2, 0), (47, .ifCond .ne 4, 3, 0, 0, 0), (50, .return_, 1, 0, 0, 0), (51, .aload_n 0, 1, 0, 0, 0), (52, .getfield 10, 3, 9, 0, 0), (55, .iload_n 3, 1, 0, 0, 0), (56, .invokevirtual 124, 3, 16, 2, 0), (59, .astore 4, 2, 0, 0, 0), (61, .iconst 0, 1, 0, 0, 0), (62, .istore 5, 2, 0, 0, 0), (64, .iload 5, 2, 0, 0, 0), (66, .aload 4, 2, 0, 0, 0), (68, .getfield 106, 3, 0, 1, 0), (71, .if_icmp .ge 82, 3, 0, 0, 0), (74, .aload_n 0, 1, 0, 0, 0), (75, .getfield 62, 3, 9, 8, 0), (78, .bipush 8, 2, 0, 0, 0), (80, .invokevirtual 312, 3, 8, 2, 0), (83, .istore 6, 2, 0, 0, 0), (85, .aload_n 0, 1, 0, 0, 0), (86, .getfield 10, 3, 9, 0, 0), (89, .getfield 134, 3, 3, 1, 0), (92, .iload_n 3, 1, 0, 0, 0), (93, .aaload, 1, 0, 0, 0), (94, .getfield 138, 3, 2, 0, 0), (97, .iload 5, 2, 0, 0, 0), (99, .iload 6, 2, 0, 0, 0), (101, .bipush 7, 2, 0, 0, 0), (103, .if_icmp .ne 25, 3, 0, 0, 0), (106, .aload_n 0, 1, 0, 0, 0), (107, .getfield 62, 3, 9, 8, 0), (110, .getfield 315, 3, 1, 0, 0), (113, .ldc2_w 319, 3, 0, 0, 1024), (116, .ldiv, 1, 0, 0, 0), (117, .ldc2_w 321, 3, 0, 0, 100), (120, .lrem, 1, 0, 0, 0), (121, .l2i, 1, 0, 0, 0), (122, .invokestatic 323, 3, 81, 1, 0), (125, .goto 21, 3, 0, 0, 0), (128, .iconst 4, 1, 0, 0, 0), (129, .iload 6, 2, 0, 0, 0), (131, .imul, 1, 0, 0, 0), (132, .aload 4, 2, 0, 0, 0), (134, .getfield 128, 3, 0, 0, 0), (137, .iload 5, 2, 0, 0, 0), (139, .iaload, 1, 0, 0, 0), (140, .invokestatic 326, 3, 2, 1, 0), (143, .invokestatic 224, 3, 60, 2, 0), (146, .iastore, 1, 0, 0, 0), (147, .iinc 5 1, 3, 0, 0, 0), (150, .goto (-86), 3, 0, 0, 0), (153, .return_, 1, 0, 0, 0)]
/-- 128 EdgeMoves.draw(III)I -/
def kc_128 : List ACe := [(0, .iload_n 1, 1, 0, 0, 0), (1, .ldc 242, 2, 0, 0, 1000000), (3, .invokestatic 113, 3, 13, 2, 0), (6, .ifCond .eq 21, 3, 0, 0, 0), (9, .iload_n 2, 1, 0, 0, 0), (10, .bipush 7, 2, 0, 0, 0), (12, .invokestatic 113, 3, 13, 2, 0), (15, .ifCond .eq 12, 3, 0, 0, 0), (18, .iload_n 3, 1, 0, 0, 0), (19, .bipush 17, 2, 0, 0, 0), (21, .invokestatic 113, 3, 13, 2, 0), (24, .ifCond .ne 11, 3, 0, 0, 0), (27, .aload_n 0, 1, 0, 0, 0), (28, .sipush (-202), 3, 0, 0, 0), (31, .invokevirtual 80, 3, 92, 2, 0), (34, .ireturn, 1, 0, 0, 0), (35, .aload_n 0, 1, 0, 0, 0), (36, .getfield 10, 3, 9, 0, 0), (39, .invokevirtual 74, 3, 12, 1, 0), (42, .aload_n 0, 1, 0, 0, 0), (43, .getfield 62, 3, 9, 8, 0), (46, .iload_n 1, 1, 0, 0, 0), (47, .invokevirtual 273, 3, 7, 2, 0), (50, .iconst 0, 1, 0, 0, 0), (51, .istore 4, 2, 0, 0, 0), (53, .iload 4, 2, 0, 0, 0), (55, .bipush 8, 2, 0, 0, 0), (57, .if_icmp .ge 14, 3, 0, 0, 0), (60, .aload_n 0, 1, 0, 0, 0), (61, .iload_n 2, 1, 0, 0, 0), (62, .invokevirtual 276, 3, 126, 2, 0), (65, .iinc 4 1, 3, 0, 0, 0), (68, .goto (-15), 3, 0, 0, 0), (71, .iconst 0, 1, 0, 0, 0), (72, .istore 4, 2, 0, 0, 0), (74, .iload 4, 2, 0, 0, 0), (76, .iload_n 3, 1, 0, 0, 0), (77, .if_icmp .ge 13, 3, 0, 0, 0), (80, .aload_n 0, 1, 0, 0, 0), (81, .invokevirtual 279, 3, 127, 1, 0), (84, .iinc 4 1, 3, 0, 0, 0), (87, .goto (-13), 3, 0, 0, 0), (90, .iload_n 3, 1, 0, 0, 0), (91, .ireturn, 1, 0, 0, 0)]
/-- 129 EdgeMoves.standing(I)I -/
def kc_129 : List ACe := [(0, .iload_n 1, 1, 0, 0, 0), (1, .tableswitch 78 0 5 #[39, 44, 49, 54, 62, 70], 39, 0, 0, 0), (40, .aload_n 0, 1, 0, 0, 0), (41, .getfield 296, 3, 9, 11, 0), (44, .ireturn, 1, 0, 0, 0), (45, .aload_n 0, 1, 0, 0, 0), (46, .getfield 299, 3, 9, 12, 0), (49, .ireturn, 1, 0, 0, 0), (50, .aload_n 0, 1, 0, 0, 0), (51, .getfield 302, 3, 9, 13, 0), (54, .ireturn, 1, 0, 0, 0), (55, .aload_n 0, 1, 0, 0, 0), (56, .getfield 22, 3, 9, 2, 0), (59, .getfield 167, 3, 8, 1, 0), (62, .ireturn, 1, 0, 0, 0), (63, .aload_n 0, 1, 0, 0, 0), (64, .getfield 10, 3, 9, 0, 0), (67, .getfield 77, 3, 3, 2, 0), (70, .ireturn, 1, 0, 0, 0), (71, .aload_n 0, 1, 0, 0, 0), (72, .getfield 10, 3, 9, 0, 0), (75, .getfield 70, 3, 3, 3, 0), (78, .ireturn, 1, 0, 0, 0), (79, .aload_n 0, 1, 0, 0, 0), (80, .getfield 146, 3, 9, 10, 0), (83, .ireturn, 1, 0, 0, 0)]
/-- 130 EdgeMoves.told(I)I -/
def kc_130 : List ACe := [(0, .iload_n 1, 1, 0, 0, 0), (1, .bipush 7, 2, 0, 0, 0), (3, .invokestatic 113, 3, 13, 2, 0), (6, .ifCond .ne 11, 3, 0, 0, 0), (9, .aload_n 0, 1, 0, 0, 0), (10, .sipush (-202), 3, 0, 0, 0), (13, .invokevirtual 80, 3, 92, 2, 0), (16, .ireturn, 1, 0, 0, 0), (17, .aload_n 0, 1, 0, 0, 0), (18, .iload_n 1, 1, 0, 0, 0), (19, .invokevirtual 282, 3, 129, 2, 0), (22, .ireturn, 1, 0, 0, 0)]
/-- 131 EdgeMoves.digest()J -/
def kc_131 : List ACe := [(0, .ldc2_w 285, 3, 0, 0, 1913), (3, .lstore_n 1, 1, 0, 0, 0), (4, .iconst 0, 1, 0, 0, 0), (5, .istore_n 3, 1, 0, 0, 0), (6, .iload_n 3, 1, 0, 0, 0), (7, .bipush 7, 2, 0, 0, 0), (9, .if_icmp .ge 22, 3, 0, 0, 0), (12, .ldc2_w 287, 3, 0, 0, 31), (15, .lload_n 1, 1, 0, 0, 0), (16, .lmul, 1, 0, 0, 0), (17, .aload_n 0, 1, 0, 0, 0), (18, .iload_n 3, 1, 0, 0, 0), (19, .invokevirtual 282, 3, 129, 2, 0), (22, .i2l, 1, 0, 0, 0), (23, .ladd, 1, 0, 0, 0), (24, .lstore_n 1, 1, 0, 0, 0), (25, .iinc 3 1, 3, 0, 0, 0), (28, .goto (-22), 3, 0, 0, 0), (31, .iconst 0, 1, 0, 0, 0), (32, .istore_n 3, 1, 0, 0, 0), (33, .iload_n 3, 1, 0, 0, 0), (34, .aload_n 0, 1, 0, 0, 0), (35, .getfield 10, 3, 9, 0, 0), (38, .getfield 77, 3, 3, 2, 0), (41, .if_icmp .ge 23, 3, 0, 0, 0), (44, .aload_n 0, 1, 0, 0, 0), (45, .getfield 10, 3, 9, 0, 0), (48, .getfield 97, 3, 3, 0, 0), (51, .iload_n 3, 1, 0, 0, 0), (52, .aaload, 1, 0, 0, 0), (53, .lload_n 1, 1, 0, 0, 0), (54, .invokevirtual 289, 3, 5, 2, 0), (57, .lstore_n 1, 1, 0, 0, 0), (58, .iinc 3 1, 3, 0, 0, 0), (61, .goto (-28), 3, 0, 0, 0), (64, .iconst 0, 1, 0, 0, 0), (65, .istore_n 3, 1, 0, 0, 0), (66, .iload_n 3, 1, 0, 0, 0), (67, .aload_n 0, 1, 0, 0, 0), (68, .getfield 10, 3, 9, 0, 0), (71, .getfield 70, 3, 3, 3, 0), (74, .if_icmp .ge 34, 3, 0, 0, 0), (77, .aload_n 0, 1, 0, 0, 0), (78, .getfield 10, 3, 9, 0, 0), (81, .getfield 134, 3, 3, 1, 0), (84, .iload_n 3, 1, 0, 0, 0), (85, .aaload, 1, 0, 0, 0), (86, .lload_n 1, 1, 0, 0, 0), (87, .aload_n 0, 1, 0, 0, 0), (88, .getfield 10, 3, 9, 0, 0), (91, .iload_n 3, 1, 0, 0, 0), (92, .invokevirtual 124, 3, 16, 2, 0), (95, .getfield 106, 3, 0, 1, 0), (98, .invokevirtual 293, 3, 10, 3, 0), (101, .lstore_n 1, 1, 0, 0, 0), (102, .iinc 3 1, 3, 0, 0, 0), (105, .goto (-39), 3, 0, 0, 0), (108, .lload_n 1, 1, 0, 0, 0), (109, .lreturn, 1, 0, 0, 0)]
/-- 132 EdgeMovesModel.init()V -/
def kc_132_0 : List ACe := [(0, .aload_n 0, 1, 0, 0, 0), (1, .invokespecial 1, 3, 1000, 0, 0), (4, .aload_n 0, 1, 0, 0, 0), (5, .iconst 3, 1, 0, 0, 0), (6, .newarray .int, 2, 0, 0, 0), (8, .putfield 7, 3, 10, 0, 0), (11, .aload_n 0, 1, 0, 0, 0), (12, .bipush 10, 2, 0, 0, 0), (14, .newarray .int, 2, 0, 0, 0), (16, .putfield 13, 3, 10, 4, 0), (19, .aload_n 0, 1, 0, 0, 0), (20, .bipush 60, 2, 0, 0, 0), (22, .newarray .int, 2, 0, 0, 0), (24, .putfield 16, 3, 10, 5, 0), (27, .aload_n 0, 1, 0, 0, 0), (28, .bipush 16, 2, 0, 0, 0), (30, .newarray .int, 2, 0, 0, 0), (32, .putfield 19, 3, 10, 6, 0), (35, .aload_n 0, 1, 0, 0, 0), (36, .bipush 16, 2, 0, 0, 0), (38, .newarray .int, 2, 0, 0, 0), (40, .putfield 22, 3, 10, 7, 0), (43, .aload_n 0, 1, 0, 0, 0), (44, .bipush 16, 2, 0, 0, 0), (46, .newarray .int, 2, 0, 0, 0), (48, .putfield 25, 3, 10, 8, 0), (51, .aload_n 0, 1, 0, 0, 0), (52, .bipush 96, 2, 0, 0, 0), (54, .newarray .int, 2, 0, 0, 0), (56, .putfield 28, 3, 10, 9, 0), (59, .aload_n 0, 1, 0, 0, 0), (60, .bipush 24, 2, 0, 0, 0), (62, .newarray .int, 2, 0, 0, 0), (64, .putfield 31, 3, 10, 11, 0), (67, .aload_n 0, 1, 0, 0, 0), (68, .bipush 24, 2, 0, 0, 0), (70, .newarray .int, 2, 0, 0, 0), (72, .putfield 34, 3, 10, 12, 0), (75, .aload_n 0, 1, 0, 0, 0), (76, .bipush 24, 2, 0, 0, 0), (78, .newarray .int, 2, 0, 0, 0), (80, .putfield 37, 3, 10, 13, 0), (83, .aload_n 0, 1, 0, 0, 0), (84, .bipush 6, 2, 0, 0, 0), (86, .newarray .boolean, 2, 0, 0, 0), (88, .putfield 40, 3, 10, 14, 0), (91, .aload_n 0, 1, 0, 0, 0), (92, .bipush 6, 2, 0, 0, 0), (94, .newarray .int, 2, 0, 0, 0), (96, .putfield 44, 3, 10, 15, 0), (99, .aload_n 0, 1, 0, 0, 0), (100, .bipush 24, 2, 0, 0, 0), (102, .newarray .int, 2, 0, 0, 0), (104, .putfield 47, 3, 10, 17, 0), (107, .aload_n 0, 1, 0, 0, 0), (108, .bipush 24, 2, 0, 0, 0), (110, .newarray .int, 2, 0, 0, 0), (112, .putfield 50, 3, 10, 18, 0), (115, .aload_n 0, 1, 0, 0, 0), (116, .bipush 24, 2, 0, 0, 0)]
def kc_132_1 : List ACe := [(118, .newarray .int, 2, 0, 0, 0), (120, .putfield 53, 3, 10, 19, 0), (123, .aload_n 0, 1, 0, 0, 0), (124, .bipush 36, 2, 0, 0, 0), (126, .newarray .int, 2, 0, 0, 0), (128, .putfield 56, 3, 10, 20, 0), (131, .aload_n 0, 1, 0, 0, 0), (132, .bipush 32, 2, 0, 0, 0), (134, .newarray .int, 2, 0, 0, 0), (136, .putfield 59, 3, 10, 21, 0), (139, .aload_n 0, 1, 0, 0, 0), (140, .bipush 10, 2, 0, 0, 0), (142, .newarray .int, 2, 0, 0, 0), (144, .putfield 62, 3, 10, 22, 0), (147, .aload_n 0, 1, 0, 0, 0), (148, .bipush 120, 2, 0, 0, 0), (150, .newarray .int, 2, 0, 0, 0), (152, .putfield 65, 3, 10, 23, 0), (155, .aload_n 0, 1, 0, 0, 0), (156, .sipush 216, 3, 0, 0, 0), (159, .newarray .int, 2, 0, 0, 0), (161, .putfield 68, 3, 10, 27, 0), (164, .return_, 1, 0, 0, 0)]
def kc_132 : List ACe := kc_132_0 ++ (kc_132_1)
/-- 133 EdgeMovesModel.bad()I -/
def kc_133 : List ACe := [(0, .aload_n 0, 1, 0, 0, 0), (1, .getfield 7, 3, 10, 0, 0), (4, .iconst 0, 1, 0, 0, 0), (5, .dup2, 1, 0, 0, 0), (6, .iaload, 1, 0, 0, 0), (7, .iconst 1, 1, 0, 0, 0), (8, .iadd, 1, 0, 0, 0), (9, .iastore, 1, 0, 0, 0), (10, .sipush (-202), 3, 0, 0, 0), (13, .ireturn, 1, 0, 0, 0)]
/-- 134 EdgeMovesModel.no()I -/
def kc_134 : List ACe := [(0, .aload_n 0, 1, 0, 0, 0), (1, .getfield 7, 3, 10, 0, 0), (4, .iconst 1, 1, 0, 0, 0), (5, .dup2, 1, 0, 0, 0), (6, .iaload, 1, 0, 0, 0), (7, .iconst 1, 1, 0, 0, 0), (8, .iadd, 1, 0, 0, 0), (9, .iastore, 1, 0, 0, 0), (10, .sipush (-203), 3, 0, 0, 0), (13, .ireturn, 1, 0, 0, 0)]
/-- 135 EdgeMovesModel.full()I -/
def kc_135 : List ACe := [(0, .aload_n 0, 1, 0, 0, 0), (1, .getfield 7, 3, 10, 0, 0), (4, .iconst 2, 1, 0, 0, 0), (5, .dup2, 1, 0, 0, 0), (6, .iaload, 1, 0, 0, 0), (7, .iconst 1, 1, 0, 0, 0), (8, .iadd, 1, 0, 0, 0), (9, .iastore, 1, 0, 0, 0), (10, .sipush (-204), 3, 0, 0, 0), (13, .ireturn, 1, 0, 0, 0)]
/-- 136 EdgeMovesModel.in(III)Z -/
def kc_136 : List ACe := [(0, .iload_n 0, 1, 0, 0, 0), (1, .iload_n 1, 1, 0, 0, 0), (2, .if_icmp .lt 12, 3, 0, 0, 0), (5, .iload_n 0, 1, 0, 0, 0), (6, .iload_n 2, 1, 0, 0, 0), (7, .if_icmp .gt 7, 3, 0, 0, 0), (10, .iconst 1, 1, 0, 0, 0), (11, .goto 4, 3, 0, 0, 0), (14, .iconst 0, 1, 0, 0, 0), (15, .ireturn, 1, 0, 0, 0)]
/-- 137 EdgeMovesModel.widthOf(I)I -/
def kc_137 : List ACe := [(0, .iload_n 0, 1, 0, 0, 0), (1, .bipush 10, 2, 0, 0, 0), (3, .irem, 1, 0, 0, 0), (4, .ireturn, 1, 0, 0, 0)]
/-- 138 EdgeMovesModel.byteOf(I)I -/
def kc_138 : List ACe := [(0, .iload_n 0, 1, 0, 0, 0), (1, .bipush 10, 2, 0, 0, 0), (3, .idiv, 1, 0, 0, 0), (4, .ireturn, 1, 0, 0, 0)]
/-- 139 EdgeMovesModel.isWidth(I)Z -/
def kc_139 : List ACe := [(0, .iload_n 0, 1, 0, 0, 0), (1, .iconst 1, 1, 0, 0, 0), (2, .if_icmp .eq 13, 3, 0, 0, 0), (5, .iload_n 0, 1, 0, 0, 0), (6, .iconst 2, 1, 0, 0, 0), (7, .if_icmp .eq 8, 3, 0, 0, 0), (10, .iload_n 0, 1, 0, 0, 0), (11, .iconst 4, 1, 0, 0, 0), (12, .if_icmp .ne 7, 3, 0, 0, 0), (15, .iconst 1, 1, 0, 0, 0), (16, .goto 4, 3, 0, 0, 0), (19, .iconst 0, 1, 0, 0, 0), (20, .ireturn, 1, 0, 0, 0)]
/-- 140 EdgeMovesModel.isRegion(I)Z -/
def kc_140 : List ACe := [(0, .iload_n 0, 1, 0, 0, 0), (1, .ifCond .le 43, 3, 0, 0, 0), (4, .iload_n 0, 1, 0, 0, 0), (5, .invokestatic 71, 3, 137, 1, 0), (8, .invokestatic 75, 3, 139, 1, 0), (11, .ifCond .eq 33, 3, 0, 0, 0), (14, .iload_n 0, 1, 0, 0, 0), (15, .invokestatic 79, 3, 138, 1, 0), (18, .iload_n 0, 1, 0, 0, 0), (19, .invokestatic 71, 3, 137, 1, 0), (22, .irem, 1, 0, 0, 0), (23, .ifCond .ne 21, 3, 0, 0, 0), (26, .iload_n 0, 1, 0, 0, 0), (27, .invokestatic 79, 3, 138, 1, 0), (30, .iload_n 0, 1, 0, 0, 0), (31, .invokestatic 71, 3, 137, 1, 0), (34, .iadd, 1, 0, 0, 0), (35, .bipush 32, 2, 0, 0, 0), (37, .if_icmp .gt 7, 3, 0, 0, 0), (40, .iconst 1, 1, 0, 0, 0), (41, .goto 4, 3, 0, 0, 0), (44, .iconst 0, 1, 0, 0, 0), (45, .ireturn, 1, 0, 0, 0)]
/-- 141 EdgeMovesModel.meet(II)Z -/
def kc_141 : List ACe := [(0, .iload_n 0, 1, 0, 0, 0), (1, .invokestatic 79, 3, 138, 1, 0), (4, .iload_n 1, 1, 0, 0, 0), (5, .invokestatic 79, 3, 138, 1, 0), (8, .iload_n 1, 1, 0, 0, 0), (9, .invokestatic 71, 3, 137, 1, 0), (12, .iadd, 1, 0, 0, 0), (13, .if_icmp .ge 23, 3, 0, 0, 0), (16, .iload_n 1, 1, 0, 0, 0), (17, .invokestatic 79, 3, 138, 1, 0), (20, .iload_n 0, 1, 0, 0, 0), (21, .invokestatic 79, 3, 138, 1, 0), (24, .iload_n 0, 1, 0, 0, 0), (25, .invokestatic 71, 3, 137, 1, 0), (28, .iadd, 1, 0, 0, 0), (29, .if_icmp .ge 7, 3, 0, 0, 0), (32, .iconst 1, 1, 0, 0, 0), (33, .goto 4, 3, 0, 0, 0), (36, .iconst 0, 1, 0, 0, 0), (37, .ireturn, 1, 0, 0, 0)]
/-- 142 EdgeMovesModel.across(II)Z -/
def kc_142 : List ACe := [(0, .iload_n 0, 1, 0, 0, 0), (1, .iload_n 1, 1, 0, 0, 0), (2, .if_icmp .eq 15, 3, 0, 0, 0), (5, .iload_n 0, 1, 0, 0, 0), (6, .iload_n 1, 1, 0, 0, 0), (7, .invokestatic 82, 3, 141, 2, 0), (10, .ifCond .eq 7, 3, 0, 0, 0), (13, .iconst 1, 1, 0, 0, 0), (14, .goto 4, 3, 0, 0, 0), (17, .iconst 0, 1, 0, 0, 0), (18, .ireturn, 1, 0, 0, 0)]
/-- 143 EdgeMovesModel.isBlock(I)Z -/
def kc_143 : List ACe := [(0, .iload_n 1, 1, 0, 0, 0), (1, .iconst 0, 1, 0, 0, 0), (2, .aload_n 0, 1, 0, 0, 0), (3, .getfield 86, 3, 10, 1, 0), (6, .iconst 1, 1, 0, 0, 0), (7, .isub, 1, 0, 0, 0), (8, .invokestatic 90, 3, 136, 3, 0), (11, .ireturn, 1, 0, 0, 0)]
/-- 144 EdgeMovesModel.isEdge(I)Z -/
def kc_144 : List ACe := [(0, .iload_n 1, 1, 0, 0, 0), (1, .iconst 0, 1, 0, 0, 0), (2, .aload_n 0, 1, 0, 0, 0), (3, .getfield 94, 3, 10, 2, 0), (6, .iconst 1, 1, 0, 0, 0), (7, .isub, 1, 0, 0, 0), (8, .invokestatic 90, 3, 136, 3, 0), (11, .ireturn, 1, 0, 0, 0)]
/-- 145 EdgeMovesModel.parameterOf(II)I -/
def kc_145 : List ACe := [(0, .aload_n 0, 1, 0, 0, 0), (1, .getfield 16, 3, 10, 5, 0), (4, .bipush 6, 2, 0, 0, 0), (6, .aload_n 0, 1, 0, 0, 0), (7, .getfield 22, 3, 10, 7, 0), (10, .iload_n 1, 1, 0, 0, 0), (11, .iaload, 1, 0, 0, 0), (12, .imul, 1, 0, 0, 0), (13, .iload_n 2, 1, 0, 0, 0), (14, .iadd, 1, 0, 0, 0), (15, .iaload, 1, 0, 0, 0), (16, .ireturn, 1, 0, 0, 0)]
/-- 146 EdgeMovesModel.manyOf(I)I -/
def kc_146 : List ACe := [(0, .aload_n 0, 1, 0, 0, 0), (1, .getfield 13, 3, 10, 4, 0), (4, .aload_n 0, 1, 0, 0, 0), (5, .getfield 22, 3, 10, 7, 0), (8, .iload_n 1, 1, 0, 0, 0), (9, .iaload, 1, 0, 0, 0), (10, .iaload, 1, 0, 0, 0), (11, .ireturn, 1, 0, 0, 0)]
/-- 147 EdgeMovesModel.givenOf(II)I -/
def kc_147 : List ACe := [(0, .aload_n 0, 1, 0, 0, 0), (1, .getfield 28, 3, 10, 9, 0), (4, .bipush 6, 2, 0, 0, 0), (6, .iload_n 1, 1, 0, 0, 0), (7, .imul, 1, 0, 0, 0), (8, .iload_n 2, 1, 0, 0, 0), (9, .iadd, 1, 0, 0, 0), (10, .iaload, 1, 0, 0, 0), (11, .ireturn, 1, 0, 0, 0)]
/-- 148 EdgeMovesModel.anew()I -/
def kc_148 : List ACe := [(0, .aload_n 0, 1, 0, 0, 0), (1, .getfield 94, 3, 10, 2, 0), (4, .istore_n 1, 1, 0, 0, 0), (5, .aload_n 0, 1, 0, 0, 0), (6, .iconst 0, 1, 0, 0, 0), (7, .putfield 86, 3, 10, 1, 0), (10, .aload_n 0, 1, 0, 0, 0), (11, .iconst 0, 1, 0, 0, 0), (12, .putfield 94, 3, 10, 2, 0), (15, .iload_n 1, 1, 0, 0, 0), (16, .ireturn, 1, 0, 0, 0)]
/-- 149 EdgeMovesModel.newBlock()I -/
def kc_149 : List ACe := [(0, .aload_n 0, 1, 0, 0, 0), (1, .getfield 13, 3, 10, 4, 0), (4, .aload_n 0, 1, 0, 0, 0), (5, .getfield 86, 3, 10, 1, 0), (8, .iconst 0, 1, 0, 0, 0), (9, .iastore, 1, 0, 0, 0), (10, .aload_n 0, 1, 0, 0, 0), (11, .dup, 1, 0, 0, 0), (12, .getfield 86, 3, 10, 1, 0), (15, .iconst 1, 1, 0, 0, 0), (16, .iadd, 1, 0, 0, 0), (17, .putfield 86, 3, 10, 1, 0), (20, .aload_n 0, 1, 0, 0, 0), (21, .getfield 86, 3, 10, 1, 0), (24, .iconst 1, 1, 0, 0, 0), (25, .isub, 1, 0, 0, 0), (26, .ireturn, 1, 0, 0, 0)]
/-- 150 EdgeMovesModel.block()I -/
def kc_150 : List ACe := [(0, .aload_n 0, 1, 0, 0, 0), (1, .getfield 86, 3, 10, 1, 0), (4, .bipush 10, 2, 0, 0, 0), (6, .if_icmp .ne 10, 3, 0, 0, 0), (9, .aload_n 0, 1, 0, 0, 0), (10, .invokevirtual 97, 3, 135, 1, 0), (13, .goto 7, 3, 0, 0, 0), (16, .aload_n 0, 1, 0, 0, 0), (17, .invokevirtual 101, 3, 149, 1, 0), (20, .ireturn, 1, 0, 0, 0)]
/-- 151 EdgeMovesModel.isTaken(II)Z -/
def kc_151 : List ACe := [(0, .iconst 0, 1, 0, 0, 0), (1, .istore_n 3, 1, 0, 0, 0), (2, .iconst 0, 1, 0, 0, 0), (3, .istore 4, 2, 0, 0, 0), (5, .iload 4, 2, 0, 0, 0), (7, .aload_n 0, 1, 0, 0, 0), (8, .getfield 13, 3, 10, 4, 0), (11, .iload_n 1, 1, 0, 0, 0), (12, .iaload, 1, 0, 0, 0), (13, .if_icmp .ge 38, 3, 0, 0, 0), (16, .iload_n 3, 1, 0, 0, 0), (17, .ifCond .ne 22, 3, 0, 0, 0), (20, .aload_n 0, 1, 0, 0, 0), (21, .getfield 16, 3, 10, 5, 0), (24, .bipush 6, 2, 0, 0, 0), (26, .iload_n 1, 1, 0, 0, 0), (27, .imul, 1, 0, 0, 0), (28, .iload 4, 2, 0, 0, 0), (30, .iadd, 1, 0, 0, 0), (31, .iaload, 1, 0, 0, 0), (32, .iload_n 2, 1, 0, 0, 0), (33, .invokestatic 82, 3, 141, 2, 0), (36, .ifCond .eq 7, 3, 0, 0, 0), (39, .iconst 1, 1, 0, 0, 0), (40, .goto 4, 3, 0, 0, 0), (43, .iconst 0, 1, 0, 0, 0), (44, .istore_n 3, 1, 0, 0, 0), (45, .iinc 4 1, 3, 0, 0, 0), (48, .goto (-43), 3, 0, 0, 0), (51, .iload_n 3, 1, 0, 0, 0), (52, .ireturn, 1, 0, 0, 0)]
/-- 152 EdgeMovesModel.newParameter(II)I -/
def kc_152 : List ACe := [(0, .aload_n 0, 1, 0, 0, 0), (1, .getfield 13, 3, 10, 4, 0), (4, .iload_n 1, 1, 0, 0, 0), (5, .iaload, 1, 0, 0, 0), (6, .istore_n 3, 1, 0, 0, 0), (7, .aload_n 0, 1, 0, 0, 0), (8, .getfield 16, 3, 10, 5, 0), (11, .bipush 6, 2, 0, 0, 0), (13, .iload_n 1, 1, 0, 0, 0), (14, .imul, 1, 0, 0, 0), (15, .iload_n 3, 1, 0, 0, 0), (16, .iadd, 1, 0, 0, 0), (17, .iload_n 2, 1, 0, 0, 0), (18, .iastore, 1, 0, 0, 0), (19, .aload_n 0, 1, 0, 0, 0), (20, .getfield 13, 3, 10, 4, 0), (23, .iload_n 1, 1, 0, 0, 0), (24, .dup2, 1, 0, 0, 0), (25, .iaload, 1, 0, 0, 0), (26, .iconst 1, 1, 0, 0, 0), (27, .iadd, 1, 0, 0, 0), (28, .iastore, 1, 0, 0, 0), (29, .iconst 0, 1, 0, 0, 0), (30, .istore 4, 2, 0, 0, 0), (32, .iload 4, 2, 0, 0, 0), (34, .aload_n 0, 1, 0, 0, 0), (35, .getfield 94, 3, 10, 2, 0), (38, .if_icmp .ge 33, 3, 0, 0, 0), (41, .aload_n 0, 1, 0, 0, 0), (42, .getfield 22, 3, 10, 7, 0), (45, .iload 4, 2, 0, 0, 0), (47, .iaload, 1, 0, 0, 0), (48, .iload_n 1, 1, 0, 0, 0), (49, .if_icmp .ne 16, 3, 0, 0, 0), (52, .aload_n 0, 1, 0, 0, 0), (53, .getfield 28, 3, 10, 9, 0), (56, .bipush 6, 2, 0, 0, 0), (58, .iload 4, 2, 0, 0, 0), (60, .imul, 1, 0, 0, 0), (61, .iload_n 3, 1, 0, 0, 0), (62, .iadd, 1, 0, 0, 0), (63, .iload_n 2, 1, 0, 0, 0), (64, .iastore, 1, 0, 0, 0), (65, .iinc 4 1, 3, 0, 0, 0), (68, .goto (-36), 3, 0, 0, 0), (71, .iload_n 3, 1, 0, 0, 0), (72, .ireturn, 1, 0, 0, 0)]
/-- 153 EdgeMovesModel.parameter(II)I -/
def kc_153 : List ACe := [(0, .aload_n 0, 1, 0, 0, 0), (1, .iload_n 1, 1, 0, 0, 0), (2, .invokevirtual 104, 3, 143, 2, 0), (5, .ifCond .eq 10, 3, 0, 0, 0), (8, .iload_n 2, 1, 0, 0, 0), (9, .invokestatic 107, 3, 140, 1, 0), (12, .ifCond .ne 8, 3, 0, 0, 0), (15, .aload_n 0, 1, 0, 0, 0), (16, .invokevirtual 110, 3, 133, 1, 0), (19, .ireturn, 1, 0, 0, 0), (20, .aload_n 0, 1, 0, 0, 0), (21, .iload_n 1, 1, 0, 0, 0), (22, .iload_n 2, 1, 0, 0, 0), (23, .invokevirtual 113, 3, 151, 3, 0), (26, .ifCond .eq 8, 3, 0, 0, 0), (29, .aload_n 0, 1, 0, 0, 0), (30, .invokevirtual 116, 3, 134, 1, 0), (33, .ireturn, 1, 0, 0, 0), (34, .aload_n 0, 1, 0, 0, 0), (35, .getfield 13, 3, 10, 4, 0), (38, .iload_n 1, 1, 0, 0, 0), (39, .iaload, 1, 0, 0, 0), (40, .bipush 6, 2, 0, 0, 0), (42, .if_icmp .ne 10, 3, 0, 0, 0), (45, .aload_n 0, 1, 0, 0, 0), (46, .invokevirtual 97, 3, 135, 1, 0), (49, .goto 9, 3, 0, 0, 0), (52, .aload_n 0, 1, 0, 0, 0), (53, .iload_n 1, 1, 0, 0, 0), (54, .iload_n 2, 1, 0, 0, 0), (55, .invokevirtual 119, 3, 152, 3, 0), (58, .ireturn, 1, 0, 0, 0)]
/-- 154 EdgeMovesModel.newEdge(III)I -/
def kc_154 : List ACe := [(0, .aload_n 0, 1, 0, 0, 0), (1, .getfield 94, 3, 10, 2, 0), (4, .istore 4, 2, 0, 0, 0), (6, .aload_n 0, 1, 0, 0, 0), (7, .getfield 19, 3, 10, 6, 0), (10, .iload 4, 2, 0, 0, 0), (12, .iload_n 1, 1, 0, 0, 0), (13, .iastore, 1, 0, 0, 0), (14, .aload_n 0, 1, 0, 0, 0), (15, .getfield 22, 3, 10, 7, 0), (18, .iload 4, 2, 0, 0, 0), (20, .iload_n 2, 1, 0, 0, 0), (21, .iastore, 1, 0, 0, 0), (22, .aload_n 0, 1, 0, 0, 0), (23, .getfield 25, 3, 10, 8, 0), (26, .iload 4, 2, 0, 0, 0), (28, .iload_n 3, 1, 0, 0, 0), (29, .iastore, 1, 0, 0, 0), (30, .iconst 0, 1, 0, 0, 0), (31, .istore 5, 2, 0, 0, 0), (33, .iload 5, 2, 0, 0, 0), (35, .aload_n 0, 1, 0, 0, 0), (36, .getfield 13, 3, 10, 4, 0), (39, .iload_n 2, 1, 0, 0, 0), (40, .iaload, 1, 0, 0, 0), (41, .if_icmp .ge 34, 3, 0, 0, 0), (44, .aload_n 0, 1, 0, 0, 0), (45, .getfield 28, 3, 10, 9, 0), (48, .bipush 6, 2, 0, 0, 0), (50, .iload 4, 2, 0, 0, 0), (52, .imul, 1, 0, 0, 0), (53, .iload 5, 2, 0, 0, 0), (55, .iadd, 1, 0, 0, 0), (56, .aload_n 0, 1, 0, 0, 0), (57, .getfield 16, 3, 10, 5, 0), (60, .bipush 6, 2, 0, 0, 0), (62, .iload_n 2, 1, 0, 0, 0), (63, .imul, 1, 0, 0, 0), (64, .iload 5, 2, 0, 0, 0), (66, .iadd, 1, 0, 0, 0), (67, .iaload, 1, 0, 0, 0), (68, .iastore, 1, 0, 0, 0), (69, .iinc 5 1, 3, 0, 0, 0), (72, .goto (-39), 3, 0, 0, 0), (75, .aload_n 0, 1, 0, 0, 0), (76, .dup, 1, 0, 0, 0), (77, .getfield 94, 3, 10, 2, 0), (80, .iconst 1, 1, 0, 0, 0), (81, .iadd, 1, 0, 0, 0), (82, .putfield 94, 3, 10, 2, 0), (85, .iload 4, 2, 0, 0, 0), (87, .ireturn, 1, 0, 0, 0)]
/-- 155 EdgeMovesModel.edge(III)I -/
def kc_155 : List ACe := [(0, .aload_n 0, 1, 0, 0, 0), (1, .iload_n 1, 1, 0, 0, 0), (2, .invokevirtual 104, 3, 143, 2, 0), (5, .ifCond .eq 21, 3, 0, 0, 0), (8, .aload_n 0, 1, 0, 0, 0), (9, .iload_n 2, 1, 0, 0, 0), (10, .invokevirtual 104, 3, 143, 2, 0), (13, .ifCond .eq 13, 3, 0, 0, 0), (16, .iload_n 3, 1, 0, 0, 0), (17, .iconst 0, 1, 0, 0, 0), (18, .bipush 99, 2, 0, 0, 0), (20, .invokestatic 90, 3, 136, 3, 0), (23, .ifCond .ne 8, 3, 0, 0, 0), (26, .aload_n 0, 1, 0, 0, 0), (27, .invokevirtual 110, 3, 133, 1, 0), (30, .ireturn, 1, 0, 0, 0), (31, .aload_n 0, 1, 0, 0, 0), (32, .getfield 94, 3, 10, 2, 0), (35, .bipush 16, 2, 0, 0, 0), (37, .if_icmp .ne 10, 3, 0, 0, 0), (40, .aload_n 0, 1, 0, 0, 0), (41, .invokevirtual 97, 3, 135, 1, 0), (44, .goto 10, 3, 0, 0, 0), (47, .aload_n 0, 1, 0, 0, 0), (48, .iload_n 1, 1, 0, 0, 0), (49, .iload_n 2, 1, 0, 0, 0), (50, .iload_n 3, 1, 0, 0, 0), (51, .invokevirtual 123, 3, 154, 4, 0), (54, .ireturn, 1, 0, 0, 0)]
/-- 156 EdgeMovesModel.mayBeGiven(III)Z -/
def kc_156 : List ACe := [(0, .iload_n 3, 1, 0, 0, 0), (1, .ifCond .ge 17, 3, 0, 0, 0), (4, .iload_n 3, 1, 0, 0, 0), (5, .bipush (-100), 2, 0, 0, 0), (7, .if_icmp .lt 7, 3, 0, 0, 0), (10, .iconst 1, 1, 0, 0, 0), (11, .goto 35, 3, 0, 0, 0), (14, .iconst 0, 1, 0, 0, 0), (15, .goto 31, 3, 0, 0, 0), (18, .iload_n 3, 1, 0, 0, 0), (19, .invokestatic 107, 3, 140, 1, 0), (22, .ifCond .eq 23, 3, 0, 0, 0), (25, .iload_n 3, 1, 0, 0, 0), (26, .invokestatic 71, 3, 137, 1, 0), (29, .aload_n 0, 1, 0, 0, 0), (30, .iload_n 1, 1, 0, 0, 0), (31, .iload_n 2, 1, 0, 0, 0), (32, .invokevirtual 127, 3, 145, 3, 0), (35, .invokestatic 71, 3, 137, 1, 0), (38, .if_icmp .ne 7, 3, 0, 0, 0), (41, .iconst 1, 1, 0, 0, 0), (42, .goto 4, 3, 0, 0, 0), (45, .iconst 0, 1, 0, 0, 0), (46, .ireturn, 1, 0, 0, 0)]
/-- 157 EdgeMovesModel.argument(III)I -/
def kc_157 : List ACe := [(0, .aload_n 0, 1, 0, 0, 0), (1, .iload_n 1, 1, 0, 0, 0), (2, .invokevirtual 130, 3, 144, 2, 0), (5, .ifCond .eq 28, 3, 0, 0, 0), (8, .iload_n 2, 1, 0, 0, 0), (9, .iconst 0, 1, 0, 0, 0), (10, .aload_n 0, 1, 0, 0, 0), (11, .iload_n 1, 1, 0, 0, 0), (12, .invokevirtual 133, 3, 146, 2, 0), (15, .iconst 1, 1, 0, 0, 0), (16, .isub, 1, 0, 0, 0), (17, .invokestatic 90, 3, 136, 3, 0), (20, .ifCond .eq 13, 3, 0, 0, 0), (23, .aload_n 0, 1, 0, 0, 0), (24, .iload_n 1, 1, 0, 0, 0), (25, .iload_n 2, 1, 0, 0, 0), (26, .iload_n 3, 1, 0, 0, 0), (27, .invokevirtual 136, 3, 156, 4, 0), (30, .ifCond .ne 8, 3, 0, 0, 0), (33, .aload_n 0, 1, 0, 0, 0), (34, .invokevirtual 110, 3, 133, 1, 0), (37, .ireturn, 1, 0, 0, 0), (38, .aload_n 0, 1, 0, 0, 0), (39, .iload_n 1, 1, 0, 0, 0), (40, .iload_n 2, 1, 0, 0, 0), (41, .invokevirtual 139, 3, 147, 3, 0), (44, .istore 4, 2, 0, 0, 0), (46, .aload_n 0, 1, 0, 0, 0), (47, .getfield 28, 3, 10, 9, 0), (50, .bipush 6, 2, 0, 0, 0), (52, .iload_n 1, 1, 0, 0, 0), (53, .imul, 1, 0, 0, 0), (54, .iload_n 2, 1, 0, 0, 0), (55, .iadd, 1, 0, 0, 0), (56, .iload_n 3, 1, 0, 0, 0), (57, .iastore, 1, 0, 0, 0), (58, .iload 4, 2, 0, 0, 0), (60, .ireturn, 1, 0, 0, 0)]
/-- 158 EdgeMovesModel.weight(II)I -/
def kc_158 : List ACe := [(0, .aload_n 0, 1, 0, 0, 0), (1, .iload_n 1, 1, 0, 0, 0), (2, .invokevirtual 130, 3, 144, 2, 0), (5, .ifCond .eq 13, 3, 0, 0, 0), (8, .iload_n 2, 1, 0, 0, 0), (9, .iconst 0, 1, 0, 0, 0), (10, .bipush 99, 2, 0, 0, 0), (12, .invokestatic 90, 3, 136, 3, 0), (15, .ifCond .ne 8, 3, 0, 0, 0), (18, .aload_n 0, 1, 0, 0, 0), (19, .invokevirtual 110, 3, 133, 1, 0), (22, .ireturn, 1, 0, 0, 0), (23, .aload_n 0, 1, 0, 0, 0), (24, .getfield 25, 3, 10, 8, 0), (27, .iload_n 1, 1, 0, 0, 0), (28, .iaload, 1, 0, 0, 0), (29, .istore_n 3, 1, 0, 0, 0), (30, .aload_n 0, 1, 0, 0, 0), (31, .getfield 25, 3, 10, 8, 0), (34, .iload_n 1, 1, 0, 0, 0), (35, .iload_n 2, 1, 0, 0, 0), (36, .iastore, 1, 0, 0, 0), (37, .iload_n 3, 1, 0, 0, 0), (38, .ireturn, 1, 0, 0, 0)]
/-- 159 EdgeMovesModel.machine(I)I -/
def kc_159 : List ACe := [(0, .iload_n 1, 1, 0, 0, 0), (1, .iconst 0, 1, 0, 0, 0), (2, .iconst 4, 1, 0, 0, 0), (3, .invokestatic 90, 3, 136, 3, 0), (6, .ifCond .ne 8, 3, 0, 0, 0), (9, .aload_n 0, 1, 0, 0, 0), (10, .invokevirtual 110, 3, 133, 1, 0), (13, .ireturn, 1, 0, 0, 0), (14, .aload_n 0, 1, 0, 0, 0), (15, .getfield 142, 3, 10, 3, 0), (18, .istore_n 2, 1, 0, 0, 0), (19, .aload_n 0, 1, 0, 0, 0), (20, .iload_n 1, 1, 0, 0, 0), (21, .putfield 142, 3, 10, 3, 0), (24, .iload_n 2, 1, 0, 0, 0), (25, .ireturn, 1, 0, 0, 0)]
/-- 160 EdgeMovesModel.edgesFrom(I)I -/
def kc_160 : List ACe := [(0, .iconst 0, 1, 0, 0, 0), (1, .istore_n 2, 1, 0, 0, 0), (2, .iconst 0, 1, 0, 0, 0), (3, .istore_n 3, 1, 0, 0, 0), (4, .iload_n 3, 1, 0, 0, 0), (5, .aload_n 0, 1, 0, 0, 0), (6, .getfield 94, 3, 10, 2, 0), (9, .if_icmp .ge 27, 3, 0, 0, 0), (12, .iload_n 2, 1, 0, 0, 0), (13, .aload_n 0, 1, 0, 0, 0), (14, .getfield 19, 3, 10, 6, 0), (17, .iload_n 3, 1, 0, 0, 0), (18, .iaload, 1, 0, 0, 0), (19, .iload_n 1, 1, 0, 0, 0), (20, .if_icmp .ne 7, 3, 0, 0, 0), (23, .iconst 1, 1, 0, 0, 0), (24, .goto 4, 3, 0, 0, 0), (27, .iconst 0, 1, 0, 0, 0), (28, .iadd, 1, 0, 0, 0), (29, .istore_n 2, 1, 0, 0, 0), (30, .iinc 3 1, 3, 0, 0, 0), (33, .goto (-29), 3, 0, 0, 0), (36, .iload_n 2, 1, 0, 0, 0), (37, .ireturn, 1, 0, 0, 0)]
/-- 161 EdgeMovesModel.edgesTo(I)I -/
def kc_161 : List ACe := [(0, .iconst 0, 1, 0, 0, 0), (1, .istore_n 2, 1, 0, 0, 0), (2, .iconst 0, 1, 0, 0, 0), (3, .istore_n 3, 1, 0, 0, 0), (4, .iload_n 3, 1, 0, 0, 0), (5, .aload_n 0, 1, 0, 0, 0), (6, .getfield 94, 3, 10, 2, 0), (9, .if_icmp .ge 27, 3, 0, 0, 0), (12, .iload_n 2, 1, 0, 0, 0), (13, .aload_n 0, 1, 0, 0, 0), (14, .getfield 22, 3, 10, 7, 0), (17, .iload_n 3, 1, 0, 0, 0), (18, .iaload, 1, 0, 0, 0), (19, .iload_n 1, 1, 0, 0, 0), (20, .if_icmp .ne 7, 3, 0, 0, 0), (23, .iconst 1, 1, 0, 0, 0), (24, .goto 4, 3, 0, 0, 0), (27, .iconst 0, 1, 0, 0, 0), (28, .iadd, 1, 0, 0, 0), (29, .istore_n 2, 1, 0, 0, 0), (30, .iinc 3 1, 3, 0, 0, 0), (33, .goto (-29), 3, 0, 0, 0), (36, .iload_n 2, 1, 0, 0, 0), (37, .ireturn, 1, 0, 0, 0)]
/-- 162 EdgeMovesModel.whereOf(I)I -/
def kc_162 : List ACe := [(0, .aload_n 0, 1, 0, 0, 0), (1, .aload_n 0, 1, 0, 0, 0), (2, .getfield 19, 3, 10, 6, 0), (5, .iload_n 1, 1, 0, 0, 0), (6, .iaload, 1, 0, 0, 0), (7, .invokevirtual 145, 3, 160, 2, 0), (10, .iconst 1, 1, 0, 0, 0), (11, .if_icmp .ne 7, 3, 0, 0, 0), (14, .iconst 0, 1, 0, 0, 0), (15, .goto 22, 3, 0, 0, 0), (18, .aload_n 0, 1, 0, 0, 0), (19, .aload_n 0, 1, 0, 0, 0), (20, .getfield 22, 3, 10, 7, 0), (23, .iload_n 1, 1, 0, 0, 0), (24, .iaload, 1, 0, 0, 0), (25, .invokevirtual 148, 3, 161, 2, 0), (28, .iconst 1, 1, 0, 0, 0), (29, .if_icmp .ne 7, 3, 0, 0, 0), (32, .iconst 1, 1, 0, 0, 0), (33, .goto 4, 3, 0, 0, 0), (36, .iconst 2, 1, 0, 0, 0), (37, .ireturn, 1, 0, 0, 0)]
/-- 163 EdgeMovesModel.moves(II)Z -/
def kc_163 : List ACe := [(0, .aload_n 0, 1, 0, 0, 0), (1, .iload_n 1, 1, 0, 0, 0), (2, .iload_n 2, 1, 0, 0, 0), (3, .invokevirtual 139, 3, 147, 3, 0), (6, .aload_n 0, 1, 0, 0, 0), (7, .iload_n 1, 1, 0, 0, 0), (8, .iload_n 2, 1, 0, 0, 0), (9, .invokevirtual 127, 3, 145, 3, 0), (12, .if_icmp .eq 7, 3, 0, 0, 0), (15, .iconst 1, 1, 0, 0, 0), (16, .goto 4, 3, 0, 0, 0), (19, .iconst 0, 1, 0, 0, 0), (20, .ireturn, 1, 0, 0, 0)]
/-- 164 EdgeMovesModel.isAcross(II)Z -/
def kc_164 : List ACe := [(0, .iconst 0, 1, 0, 0, 0), (1, .istore_n 3, 1, 0, 0, 0), (2, .iconst 0, 1, 0, 0, 0), (3, .istore 4, 2, 0, 0, 0), (5, .iload 4, 2, 0, 0, 0), (7, .aload_n 0, 1, 0, 0, 0), (8, .iload_n 1, 1, 0, 0, 0), (9, .invokevirtual 133, 3, 146, 2, 0), (12, .if_icmp .ge 79, 3, 0, 0, 0), (15, .aload_n 0, 1, 0, 0, 0), (16, .iload_n 1, 1, 0, 0, 0), (17, .iload 4, 2, 0, 0, 0), (19, .invokevirtual 127, 3, 145, 3, 0), (22, .iload_n 2, 1, 0, 0, 0), (23, .invokestatic 151, 3, 142, 2, 0), (26, .ifCond .ne 27, 3, 0, 0, 0), (29, .aload_n 0, 1, 0, 0, 0), (30, .iload_n 1, 1, 0, 0, 0), (31, .iload 4, 2, 0, 0, 0), (33, .invokevirtual 139, 3, 147, 3, 0), (36, .ifCond .le 21, 3, 0, 0, 0), (39, .aload_n 0, 1, 0, 0, 0), (40, .iload_n 1, 1, 0, 0, 0), (41, .iload 4, 2, 0, 0, 0), (43, .invokevirtual 139, 3, 147, 3, 0), (46, .iload_n 2, 1, 0, 0, 0), (47, .invokestatic 151, 3, 142, 2, 0), (50, .ifCond .eq 7, 3, 0, 0, 0), (53, .iconst 1, 1, 0, 0, 0), (54, .goto 4, 3, 0, 0, 0), (57, .iconst 0, 1, 0, 0, 0), (58, .istore 5, 2, 0, 0, 0), (60, .iload_n 3, 1, 0, 0, 0), (61, .ifCond .ne 18, 3, 0, 0, 0), (64, .aload_n 0, 1, 0, 0, 0), (65, .iload_n 1, 1, 0, 0, 0), (66, .iload 4, 2, 0, 0, 0), (68, .invokevirtual 154, 3, 163, 3, 0), (71, .ifCond .eq 12, 3, 0, 0, 0), (74, .iload 5, 2, 0, 0, 0), (76, .ifCond .eq 7, 3, 0, 0, 0), (79, .iconst 1, 1, 0, 0, 0), (80, .goto 4, 3, 0, 0, 0), (83, .iconst 0, 1, 0, 0, 0), (84, .istore_n 3, 1, 0, 0, 0), (85, .iinc 4 1, 3, 0, 0, 0), (88, .goto (-83), 3, 0, 0, 0), (91, .iload_n 3, 1, 0, 0, 0), (92, .ireturn, 1, 0, 0, 0)]
/-- 165 EdgeMovesModel.isClear(I)Z -/
def kc_165 : List ACe := [(0, .iconst 1, 1, 0, 0, 0), (1, .istore_n 2, 1, 0, 0, 0), (2, .iconst 0, 1, 0, 0, 0), (3, .istore_n 3, 1, 0, 0, 0), (4, .iload_n 3, 1, 0, 0, 0), (5, .aload_n 0, 1, 0, 0, 0), (6, .iload_n 1, 1, 0, 0, 0), (7, .invokevirtual 133, 3, 146, 2, 0), (10, .if_icmp .ge 65, 3, 0, 0, 0), (13, .aload_n 0, 1, 0, 0, 0), (14, .iload_n 1, 1, 0, 0, 0), (15, .iload_n 3, 1, 0, 0, 0), (16, .invokevirtual 154, 3, 163, 3, 0), (19, .ifCond .eq 50, 3, 0, 0, 0), (22, .iload_n 2, 1, 0, 0, 0), (23, .ifCond .eq 44, 3, 0, 0, 0), (26, .aload_n 0, 1, 0, 0, 0), (27, .iload_n 1, 1, 0, 0, 0), (28, .aload_n 0, 1, 0, 0, 0), (29, .iload_n 1, 1, 0, 0, 0), (30, .iload_n 3, 1, 0, 0, 0), (31, .invokevirtual 127, 3, 145, 3, 0), (34, .invokevirtual 157, 3, 164, 3, 0), (37, .ifCond .ne 30, 3, 0, 0, 0), (40, .aload_n 0, 1, 0, 0, 0), (41, .iload_n 1, 1, 0, 0, 0), (42, .iload_n 3, 1, 0, 0, 0), (43, .invokevirtual 139, 3, 147, 3, 0), (46, .ifCond .lt 17, 3, 0, 0, 0), (49, .aload_n 0, 1, 0, 0, 0), (50, .iload_n 1, 1, 0, 0, 0), (51, .aload_n 0, 1, 0, 0, 0), (52, .iload_n 1, 1, 0, 0, 0), (53, .iload_n 3, 1, 0, 0, 0), (54, .invokevirtual 139, 3, 147, 3, 0), (57, .invokevirtual 157, 3, 164, 3, 0), (60, .ifCond .ne 7, 3, 0, 0, 0), (63, .iconst 1, 1, 0, 0, 0), (64, .goto 4, 3, 0, 0, 0), (67, .iconst 0, 1, 0, 0, 0), (68, .istore_n 2, 1, 0, 0, 0), (69, .iinc 3 1, 3, 0, 0, 0), (72, .goto (-68), 3, 0, 0, 0), (75, .iload_n 2, 1, 0, 0, 0), (76, .ireturn, 1, 0, 0, 0)]
/-- 166 EdgeMovesModel.of(II)I -/
def kc_166 : List ACe := [(0, .aload_n 0, 1, 0, 0, 0), (1, .iload_n 1, 1, 0, 0, 0), (2, .invokevirtual 130, 3, 144, 2, 0), (5, .ifCond .eq 12, 3, 0, 0, 0), (8, .iload_n 2, 1, 0, 0, 0), (9, .iconst 0, 1, 0, 0, 0), (10, .iconst 4, 1, 0, 0, 0), (11, .invokestatic 90, 3, 136, 3, 0), (14, .ifCond .ne 8, 3, 0, 0, 0), (17, .aload_n 0, 1, 0, 0, 0), (18, .invokevirtual 110, 3, 133, 1, 0), (21, .ireturn, 1, 0, 0, 0), (22, .iload_n 2, 1, 0, 0, 0), (23, .tableswitch 64 0 3 #[29, 36, 43, 50], 29, 0, 0, 0), (52, .aload_n 0, 1, 0, 0, 0), (53, .getfield 19, 3, 10, 6, 0), (56, .iload_n 1, 1, 0, 0, 0), (57, .iaload, 1, 0, 0, 0), (58, .ireturn, 1, 0, 0, 0), (59, .aload_n 0, 1, 0, 0, 0), (60, .getfield 22, 3, 10, 7, 0), (63, .iload_n 1, 1, 0, 0, 0), (64, .iaload, 1, 0, 0, 0), (65, .ireturn, 1, 0, 0, 0), (66, .aload_n 0, 1, 0, 0, 0), (67, .getfield 25, 3, 10, 8, 0), (70, .iload_n 1, 1, 0, 0, 0), (71, .iaload, 1, 0, 0, 0), (72, .ireturn, 1, 0, 0, 0), (73, .aload_n 0, 1, 0, 0, 0), (74, .iload_n 1, 1, 0, 0, 0), (75, .invokevirtual 160, 3, 165, 2, 0), (78, .ifCond .eq 7, 3, 0, 0, 0), (81, .iconst 1, 1, 0, 0, 0), (82, .goto 4, 3, 0, 0, 0), (85, .iconst 0, 1, 0, 0, 0), (86, .ireturn, 1, 0, 0, 0), (87, .aload_n 0, 1, 0, 0, 0), (88, .iload_n 1, 1, 0, 0, 0), (89, .invokevirtual 163, 3, 162, 2, 0), (92, .ireturn, 1, 0, 0, 0)]
/-- 167 EdgeMovesModel.about(II)I -/
def kc_167 : List ACe := [(0, .aload_n 0, 1, 0, 0, 0), (1, .iload_n 1, 1, 0, 0, 0), (2, .invokevirtual 104, 3, 143, 2, 0), (5, .ifCond .eq 12, 3, 0, 0, 0), (8, .iload_n 2, 1, 0, 0, 0), (9, .iconst 0, 1, 0, 0, 0), (10, .iconst 2, 1, 0, 0, 0), (11, .invokestatic 90, 3, 136, 3, 0), (14, .ifCond .ne 8, 3, 0, 0, 0), (17, .aload_n 0, 1, 0, 0, 0), (18, .invokevirtual 110, 3, 133, 1, 0), (21, .ireturn, 1, 0, 0, 0), (22, .iload_n 2, 1, 0, 0, 0), (23, .ifCond .ne 12, 3, 0, 0, 0), (26, .aload_n 0, 1, 0, 0, 0), (27, .getfield 13, 3, 10, 4, 0), (30, .iload_n 1, 1, 0, 0, 0), (31, .iaload, 1, 0, 0, 0), (32, .goto 21, 3, 0, 0, 0), (35, .iload_n 2, 1, 0, 0, 0), (36, .iconst 1, 1, 0, 0, 0), (37, .if_icmp .ne 11, 3, 0, 0, 0), (40, .aload_n 0, 1, 0, 0, 0), (41, .iload_n 1, 1, 0, 0, 0), (42, .invokevirtual 145, 3, 160, 2, 0), (45, .goto 8, 3, 0, 0, 0), (48, .aload_n 0, 1, 0, 0, 0), (49, .iload_n 1, 1, 0, 0, 0), (50, .invokevirtual 148, 3, 161, 2, 0), (53, .ireturn, 1, 0, 0, 0)]
/-- 168 EdgeMovesModel.region(II)I -/
def kc_168 : List ACe := [(0, .aload_n 0, 1, 0, 0, 0), (1, .iload_n 1, 1, 0, 0, 0), (2, .invokevirtual 104, 3, 143, 2, 0), (5, .ifCond .eq 7, 3, 0, 0, 0), (8, .iload_n 2, 1, 0, 0, 0), (9, .ifCond .ge 8, 3, 0, 0, 0), (12, .aload_n 0, 1, 0, 0, 0), (13, .invokevirtual 110, 3, 133, 1, 0), (16, .ireturn, 1, 0, 0, 0), (17, .iload_n 2, 1, 0, 0, 0), (18, .aload_n 0, 1, 0, 0, 0), (19, .getfield 13, 3, 10, 4, 0), (22, .iload_n 1, 1, 0, 0, 0), (23, .iaload, 1, 0, 0, 0), (24, .if_icmp .ge 17, 3, 0, 0, 0), (27, .aload_n 0, 1, 0, 0, 0), (28, .getfield 16, 3, 10, 5, 0), (31, .bipush 6, 2, 0, 0, 0), (33, .iload_n 1, 1, 0, 0, 0), (34, .imul, 1, 0, 0, 0), (35, .iload_n 2, 1, 0, 0, 0), (36, .iadd, 1, 0, 0, 0), (37, .iaload, 1, 0, 0, 0), (38, .goto 6, 3, 0, 0, 0), (41, .sipush (-201), 3, 0, 0, 0), (44, .ireturn, 1, 0, 0, 0)]
/-- 169 EdgeMovesModel.given(II)I -/
def kc_169 : List ACe := [(0, .aload_n 0, 1, 0, 0, 0), (1, .iload_n 1, 1, 0, 0, 0), (2, .invokevirtual 130, 3, 144, 2, 0), (5, .ifCond .eq 7, 3, 0, 0, 0), (8, .iload_n 2, 1, 0, 0, 0), (9, .ifCond .ge 8, 3, 0, 0, 0), (12, .aload_n 0, 1, 0, 0, 0), (13, .invokevirtual 110, 3, 133, 1, 0), (16, .ireturn, 1, 0, 0, 0), (17, .iload_n 2, 1, 0, 0, 0), (18, .aload_n 0, 1, 0, 0, 0), (19, .iload_n 1, 1, 0, 0, 0), (20, .invokevirtual 133, 3, 146, 2, 0), (23, .if_icmp .ge 12, 3, 0, 0, 0), (26, .aload_n 0, 1, 0, 0, 0), (27, .iload_n 1, 1, 0, 0, 0), (28, .iload_n 2, 1, 0, 0, 0), (29, .invokevirtual 139, 3, 147, 3, 0), (32, .goto 6, 3, 0, 0, 0), (35, .sipush (-201), 3, 0, 0, 0), (38, .ireturn, 1, 0, 0, 0)]
/-- 170 EdgeMovesModel.moveCost(II)I -/
def kc_170 : List ACe := [(0, .iload_n 0, 1, 0, 0, 0), (1, .iconst 3, 1, 0, 0, 0), (2, .if_icmp .ne 7, 3, 0, 0, 0), (5, .iload_n 1, 1, 0, 0, 0), (6, .goto 17, 3, 0, 0, 0), (9, .iload_n 0, 1, 0, 0, 0), (10, .iconst 4, 1, 0, 0, 0), (11, .if_icmp .ne 11, 3, 0, 0, 0), (14, .iload_n 1, 1, 0, 0, 0), (15, .iconst 1, 1, 0, 0, 0), (16, .iadd, 1, 0, 0, 0), (17, .iconst 2, 1, 0, 0, 0), (18, .idiv, 1, 0, 0, 0), (19, .goto 4, 3, 0, 0, 0), (22, .iconst 1, 1, 0, 0, 0), (23, .ireturn, 1, 0, 0, 0)]
/-- 171 EdgeMovesModel.changeCost(II)I -/
def kc_171 : List ACe := [(0, .iload_n 0, 1, 0, 0, 0), (1, .iconst 1, 1, 0, 0, 0), (2, .if_icmp .ne 7, 3, 0, 0, 0), (5, .iconst 1, 1, 0, 0, 0), (6, .goto 28, 3, 0, 0, 0), (9, .iload_n 0, 1, 0, 0, 0), (10, .iconst 2, 1, 0, 0, 0), (11, .if_icmp .ne 7, 3, 0, 0, 0), (14, .iconst 3, 1, 0, 0, 0), (15, .goto 19, 3, 0, 0, 0), (18, .iload_n 0, 1, 0, 0, 0), (19, .iconst 4, 1, 0, 0, 0), (20, .if_icmp .ne 13, 3, 0, 0, 0), (23, .iload_n 1, 1, 0, 0, 0), (24, .iconst 1, 1, 0, 0, 0), (25, .iadd, 1, 0, 0, 0), (26, .iconst 2, 1, 0, 0, 0), (27, .idiv, 1, 0, 0, 0), (28, .iconst 1, 1, 0, 0, 0), (29, .iadd, 1, 0, 0, 0), (30, .goto 4, 3, 0, 0, 0), (33, .iconst 0, 1, 0, 0, 0), (34, .ireturn, 1, 0, 0, 0)]
/-- 172 EdgeMovesModel.comes(III)V -/
def kc_172 : List ACe := [(0, .aload_n 0, 1, 0, 0, 0), (1, .getfield 31, 3, 10, 11, 0), (4, .aload_n 0, 1, 0, 0, 0), (5, .getfield 166, 3, 10, 10, 0), (8, .iload_n 1, 1, 0, 0, 0), (9, .iastore, 1, 0, 0, 0), (10, .aload_n 0, 1, 0, 0, 0), (11, .getfield 34, 3, 10, 12, 0), (14, .aload_n 0, 1, 0, 0, 0), (15, .getfield 166, 3, 10, 10, 0), (18, .iload_n 2, 1, 0, 0, 0), (19, .iastore, 1, 0, 0, 0), (20, .aload_n 0, 1, 0, 0, 0), (21, .getfield 37, 3, 10, 13, 0), (24, .aload_n 0, 1, 0, 0, 0), (25, .getfield 166, 3, 10, 10, 0), (28, .iload_n 3, 1, 0, 0, 0), (29, .iastore, 1, 0, 0, 0), (30, .aload_n 0, 1, 0, 0, 0), (31, .dup, 1, 0, 0, 0), (32, .getfield 166, 3, 10, 10, 0), (35, .iconst 1, 1, 0, 0, 0), (36, .iadd, 1, 0, 0, 0), (37, .putfield 166, 3, 10, 10, 0), (40, .return_, 1, 0, 0, 0)]
/-- 173 EdgeMovesModel.isWanted(II)Z -/
def kc_173 : List ACe := [(0, .iconst 0, 1, 0, 0, 0), (1, .istore_n 3, 1, 0, 0, 0), (2, .iconst 0, 1, 0, 0, 0), (3, .istore 4, 2, 0, 0, 0), (5, .iload 4, 2, 0, 0, 0), (7, .iload_n 2, 1, 0, 0, 0), (8, .if_icmp .ge 40, 3, 0, 0, 0), (11, .iload_n 3, 1, 0, 0, 0), (12, .ifCond .ne 24, 3, 0, 0, 0), (15, .aload_n 0, 1, 0, 0, 0), (16, .getfield 40, 3, 10, 14, 0), (19, .iload 4, 2, 0, 0, 0), (21, .baload, 1, 0, 0, 0), (22, .ifCond .eq 18, 3, 0, 0, 0), (25, .aload_n 0, 1, 0, 0, 0), (26, .getfield 44, 3, 10, 15, 0), (29, .iload 4, 2, 0, 0, 0), (31, .iaload, 1, 0, 0, 0), (32, .iload_n 1, 1, 0, 0, 0), (33, .if_icmp .ne 7, 3, 0, 0, 0), (36, .iconst 1, 1, 0, 0, 0), (37, .goto 4, 3, 0, 0, 0), (40, .iconst 0, 1, 0, 0, 0), (41, .istore_n 3, 1, 0, 0, 0), (42, .iinc 4 1, 3, 0, 0, 0), (45, .goto (-40), 3, 0, 0, 0), (48, .iload_n 3, 1, 0, 0, 0), (49, .ireturn, 1, 0, 0, 0)]
/-- 174 EdgeMovesModel.openMany(I)I -/
def kc_174 : List ACe := [(0, .iconst 0, 1, 0, 0, 0), (1, .istore_n 2, 1, 0, 0, 0), (2, .iconst 0, 1, 0, 0, 0), (3, .istore_n 3, 1, 0, 0, 0), (4, .iload_n 3, 1, 0, 0, 0), (5, .iload_n 1, 1, 0, 0, 0), (6, .if_icmp .ge 26, 3, 0, 0, 0), (9, .iload_n 2, 1, 0, 0, 0), (10, .aload_n 0, 1, 0, 0, 0), (11, .getfield 40, 3, 10, 14, 0), (14, .iload_n 3, 1, 0, 0, 0), (15, .baload, 1, 0, 0, 0), (16, .ifCond .eq 7, 3, 0, 0, 0), (19, .iconst 1, 1, 0, 0, 0), (20, .goto 4, 3, 0, 0, 0), (23, .iconst 0, 1, 0, 0, 0), (24, .iadd, 1, 0, 0, 0), (25, .istore_n 2, 1, 0, 0, 0), (26, .iinc 3 1, 3, 0, 0, 0), (29, .goto (-25), 3, 0, 0, 0), (32, .iload_n 2, 1, 0, 0, 0), (33, .ireturn, 1, 0, 0, 0)]
/-- 175 EdgeMovesModel.leastOpen(IZ)I -/
def kc_175 : List ACe := [(0, .aload_n 0, 1, 0, 0, 0), (1, .iload_n 1, 1, 0, 0, 0), (2, .invokevirtual 133, 3, 146, 2, 0), (5, .istore_n 3, 1, 0, 0, 0), (6, .sipush (-201), 3, 0, 0, 0), (9, .istore 4, 2, 0, 0, 0), (11, .iconst 0, 1, 0, 0, 0), (12, .istore 5, 2, 0, 0, 0), (14, .iload 5, 2, 0, 0, 0), (16, .iload_n 3, 1, 0, 0, 0), (17, .if_icmp .ge 90, 3, 0, 0, 0), (20, .aload_n 0, 1, 0, 0, 0), (21, .getfield 40, 3, 10, 14, 0), (24, .iload 5, 2, 0, 0, 0), (26, .baload, 1, 0, 0, 0), (27, .ifCond .eq 26, 3, 0, 0, 0), (30, .iload_n 2, 1, 0, 0, 0), (31, .ifCond .eq 18, 3, 0, 0, 0), (34, .aload_n 0, 1, 0, 0, 0), (35, .aload_n 0, 1, 0, 0, 0), (36, .iload_n 1, 1, 0, 0, 0), (37, .iload 5, 2, 0, 0, 0), (39, .invokevirtual 127, 3, 145, 3, 0), (42, .iload_n 3, 1, 0, 0, 0), (43, .invokevirtual 169, 3, 173, 3, 0), (46, .ifCond .ne 7, 3, 0, 0, 0), (49, .iconst 1, 1, 0, 0, 0), (50, .goto 4, 3, 0, 0, 0), (53, .iconst 0, 1, 0, 0, 0), (54, .istore 6, 2, 0, 0, 0), (56, .iload 6, 2, 0, 0, 0), (58, .ifCond .eq 39, 3, 0, 0, 0), (61, .iload 4, 2, 0, 0, 0), (63, .sipush (-201), 3, 0, 0, 0), (66, .if_icmp .eq 26, 3, 0, 0, 0), (69, .aload_n 0, 1, 0, 0, 0), (70, .iload_n 1, 1, 0, 0, 0), (71, .iload 5, 2, 0, 0, 0), (73, .invokevirtual 127, 3, 145, 3, 0), (76, .invokestatic 79, 3, 138, 1, 0), (79, .aload_n 0, 1, 0, 0, 0), (80, .iload_n 1, 1, 0, 0, 0), (81, .iload 4, 2, 0, 0, 0), (83, .invokevirtual 127, 3, 145, 3, 0), (86, .invokestatic 79, 3, 138, 1, 0), (89, .if_icmp .ge 8, 3, 0, 0, 0), (92, .iload 5, 2, 0, 0, 0), (94, .goto 5, 3, 0, 0, 0), (97, .iload 4, 2, 0, 0, 0), (99, .istore 4, 2, 0, 0, 0), (101, .iinc 5 1, 3, 0, 0, 0), (104, .goto (-90), 3, 0, 0, 0), (107, .iload 4, 2, 0, 0, 0), (109, .ireturn, 1, 0, 0, 0)]
/-- 176 EdgeMovesModel.whoHas(II)I -/
def kc_176 : List ACe := [(0, .sipush (-201), 3, 0, 0, 0), (3, .istore_n 3, 1, 0, 0, 0), (4, .iconst 0, 1, 0, 0, 0), (5, .istore 4, 2, 0, 0, 0), (7, .iload 4, 2, 0, 0, 0), (9, .aload_n 0, 1, 0, 0, 0), (10, .iload_n 1, 1, 0, 0, 0), (11, .invokevirtual 133, 3, 146, 2, 0), (14, .if_icmp .ge 27, 3, 0, 0, 0), (17, .aload_n 0, 1, 0, 0, 0), (18, .iload_n 1, 1, 0, 0, 0), (19, .iload 4, 2, 0, 0, 0), (21, .invokevirtual 127, 3, 145, 3, 0), (24, .iload_n 2, 1, 0, 0, 0), (25, .if_icmp .ne 8, 3, 0, 0, 0), (28, .iload 4, 2, 0, 0, 0), (30, .goto 4, 3, 0, 0, 0), (33, .iload_n 3, 1, 0, 0, 0), (34, .istore_n 3, 1, 0, 0, 0), (35, .iinc 4 1, 3, 0, 0, 0), (38, .goto (-31), 3, 0, 0, 0), (41, .iload_n 3, 1, 0, 0, 0), (42, .ireturn, 1, 0, 0, 0)]
/-- 177 EdgeMovesModel.lies(III)V -/
def kc_177 : List ACe := [(0, .iconst 0, 1, 0, 0, 0), (1, .istore 4, 2, 0, 0, 0), (3, .iload 4, 2, 0, 0, 0), (5, .aload_n 0, 1, 0, 0, 0), (6, .iload_n 1, 1, 0, 0, 0), (7, .invokevirtual 133, 3, 146, 2, 0), (10, .if_icmp .ge 38, 3, 0, 0, 0), (13, .aload_n 0, 1, 0, 0, 0), (14, .getfield 44, 3, 10, 15, 0), (17, .iload 4, 2, 0, 0, 0), (19, .aload_n 0, 1, 0, 0, 0), (20, .getfield 44, 3, 10, 15, 0), (23, .iload 4, 2, 0, 0, 0), (25, .iaload, 1, 0, 0, 0), (26, .iload_n 2, 1, 0, 0, 0), (27, .if_icmp .ne 7, 3, 0, 0, 0), (30, .iload_n 3, 1, 0, 0, 0), (31, .goto 10, 3, 0, 0, 0), (34, .aload_n 0, 1, 0, 0, 0), (35, .getfield 44, 3, 10, 15, 0), (38, .iload 4, 2, 0, 0, 0), (40, .iaload, 1, 0, 0, 0), (41, .iastore, 1, 0, 0, 0), (42, .iinc 4 1, 3, 0, 0, 0), (45, .goto (-42), 3, 0, 0, 0), (48, .return_, 1, 0, 0, 0)]
/-- 178 EdgeMovesModel.movesTo(II)V -/
def kc_178 : List ACe := [(0, .aload_n 0, 1, 0, 0, 0), (1, .iload_n 1, 1, 0, 0, 0), (2, .iload_n 2, 1, 0, 0, 0), (3, .invokevirtual 127, 3, 145, 3, 0), (6, .istore_n 3, 1, 0, 0, 0), (7, .aload_n 0, 1, 0, 0, 0), (8, .getfield 44, 3, 10, 15, 0), (11, .iload_n 2, 1, 0, 0, 0), (12, .iaload, 1, 0, 0, 0), (13, .istore 4, 2, 0, 0, 0), (15, .aload_n 0, 1, 0, 0, 0), (16, .iconst 0, 1, 0, 0, 0), (17, .iload_n 3, 1, 0, 0, 0), (18, .iload 4, 2, 0, 0, 0), (20, .invokevirtual 172, 3, 172, 4, 0), (23, .aload_n 0, 1, 0, 0, 0), (24, .getfield 40, 3, 10, 14, 0), (27, .iload_n 2, 1, 0, 0, 0), (28, .iconst 0, 1, 0, 0, 0), (29, .bastore, 1, 0, 0, 0), (30, .aload_n 0, 1, 0, 0, 0), (31, .iload_n 1, 1, 0, 0, 0), (32, .iload 4, 2, 0, 0, 0), (34, .iload_n 3, 1, 0, 0, 0), (35, .invokevirtual 176, 3, 177, 4, 0), (38, .return_, 1, 0, 0, 0)]
/-- 179 EdgeMovesModel.breaks(III)V -/
def kc_179_0 : List ACe := [(0, .aload_n 0, 1, 0, 0, 0), (1, .iload_n 1, 1, 0, 0, 0), (2, .iload_n 2, 1, 0, 0, 0), (3, .invokevirtual 127, 3, 145, 3, 0), (6, .istore 4, 2, 0, 0, 0), (8, .iload 4, 2, 0, 0, 0), (10, .invokestatic 71, 3, 137, 1, 0), (13, .istore 5, 2, 0, 0, 0), (15, .iconst 1, 1, 0, 0, 0), (16, .istore 6, 2, 0, 0, 0), (18, .aload_n 0, 1, 0, 0, 0), (19, .iload_n 1, 1, 0, 0, 0), (20, .aload_n 0, 1, 0, 0, 0), (21, .getfield 44, 3, 10, 15, 0), (24, .iload_n 2, 1, 0, 0, 0), (25, .iaload, 1, 0, 0, 0), (26, .invokevirtual 179, 3, 176, 3, 0), (29, .istore 7, 2, 0, 0, 0), (31, .iload 7, 2, 0, 0, 0), (33, .iload_n 2, 1, 0, 0, 0), (34, .if_icmp .eq 23, 3, 0, 0, 0), (37, .iinc 6 1, 3, 0, 0, 0), (40, .aload_n 0, 1, 0, 0, 0), (41, .iload_n 1, 1, 0, 0, 0), (42, .aload_n 0, 1, 0, 0, 0), (43, .getfield 44, 3, 10, 15, 0), (46, .iload 7, 2, 0, 0, 0), (48, .iaload, 1, 0, 0, 0), (49, .invokevirtual 179, 3, 176, 3, 0), (52, .istore 7, 2, 0, 0, 0), (54, .goto (-23), 3, 0, 0, 0), (57, .iload_n 3, 1, 0, 0, 0), (58, .iload 5, 2, 0, 0, 0), (60, .invokestatic 182, 3, 171, 2, 0), (63, .istore 7, 2, 0, 0, 0), (65, .iload 7, 2, 0, 0, 0), (67, .ifCond .eq 24, 3, 0, 0, 0), (70, .iload 6, 2, 0, 0, 0), (72, .iconst 1, 1, 0, 0, 0), (73, .isub, 1, 0, 0, 0), (74, .iload 7, 2, 0, 0, 0), (76, .imul, 1, 0, 0, 0), (77, .iload 6, 2, 0, 0, 0), (79, .iconst 1, 1, 0, 0, 0), (80, .iadd, 1, 0, 0, 0), (81, .iload_n 3, 1, 0, 0, 0), (82, .iload 5, 2, 0, 0, 0), (84, .invokestatic 185, 3, 170, 2, 0), (87, .imul, 1, 0, 0, 0), (88, .if_icmp .lt 30, 3, 0, 0, 0), (91, .aload_n 0, 1, 0, 0, 0), (92, .iconst 0, 1, 0, 0, 0), (93, .sipush 320, 3, 0, 0, 0), (96, .iload 5, 2, 0, 0, 0), (98, .iadd, 1, 0, 0, 0), (99, .iload 4, 2, 0, 0, 0), (101, .invokevirtual 172, 3, 172, 4, 0), (104, .aload_n 0, 1, 0, 0, 0), (105, .iload_n 1, 1, 0, 0, 0), (106, .iload 4, 2, 0, 0, 0)]
def kc_179_1 : List ACe := [(108, .sipush 320, 3, 0, 0, 0), (111, .iload 5, 2, 0, 0, 0), (113, .iadd, 1, 0, 0, 0), (114, .invokevirtual 176, 3, 177, 4, 0), (117, .return_, 1, 0, 0, 0), (118, .iload_n 2, 1, 0, 0, 0), (119, .istore 8, 2, 0, 0, 0), (121, .iconst 1, 1, 0, 0, 0), (122, .istore 9, 2, 0, 0, 0), (124, .iload 9, 2, 0, 0, 0), (126, .iload 6, 2, 0, 0, 0), (128, .if_icmp .ge 50, 3, 0, 0, 0), (131, .aload_n 0, 1, 0, 0, 0), (132, .iconst 1, 1, 0, 0, 0), (133, .aload_n 0, 1, 0, 0, 0), (134, .iload_n 1, 1, 0, 0, 0), (135, .iload 8, 2, 0, 0, 0), (137, .invokevirtual 127, 3, 145, 3, 0), (140, .aload_n 0, 1, 0, 0, 0), (141, .getfield 44, 3, 10, 15, 0), (144, .iload 8, 2, 0, 0, 0), (146, .iaload, 1, 0, 0, 0), (147, .invokevirtual 172, 3, 172, 4, 0), (150, .aload_n 0, 1, 0, 0, 0), (151, .getfield 40, 3, 10, 14, 0), (154, .iload 8, 2, 0, 0, 0), (156, .iconst 0, 1, 0, 0, 0), (157, .bastore, 1, 0, 0, 0), (158, .aload_n 0, 1, 0, 0, 0), (159, .iload_n 1, 1, 0, 0, 0), (160, .aload_n 0, 1, 0, 0, 0), (161, .getfield 44, 3, 10, 15, 0), (164, .iload 8, 2, 0, 0, 0), (166, .iaload, 1, 0, 0, 0), (167, .invokevirtual 179, 3, 176, 3, 0), (170, .istore 8, 2, 0, 0, 0), (172, .iinc 9 1, 3, 0, 0, 0), (175, .goto (-51), 3, 0, 0, 0), (178, .aload_n 0, 1, 0, 0, 0), (179, .getfield 40, 3, 10, 14, 0), (182, .iload 8, 2, 0, 0, 0), (184, .iconst 0, 1, 0, 0, 0), (185, .bastore, 1, 0, 0, 0), (186, .return_, 1, 0, 0, 0)]
def kc_179 : List ACe := kc_179_0 ++ (kc_179_1)
/-- 180 EdgeMovesModel.setOpen(I)V -/
def kc_180 : List ACe := [(0, .iconst 0, 1, 0, 0, 0), (1, .istore_n 2, 1, 0, 0, 0), (2, .iload_n 2, 1, 0, 0, 0), (3, .aload_n 0, 1, 0, 0, 0), (4, .iload_n 1, 1, 0, 0, 0), (5, .invokevirtual 133, 3, 146, 2, 0), (8, .if_icmp .ge 65, 3, 0, 0, 0), (11, .aload_n 0, 1, 0, 0, 0), (12, .getfield 40, 3, 10, 14, 0), (15, .iload_n 2, 1, 0, 0, 0), (16, .aload_n 0, 1, 0, 0, 0), (17, .iload_n 1, 1, 0, 0, 0), (18, .iload_n 2, 1, 0, 0, 0), (19, .invokevirtual 154, 3, 163, 3, 0), (22, .ifCond .eq 16, 3, 0, 0, 0), (25, .aload_n 0, 1, 0, 0, 0), (26, .iload_n 1, 1, 0, 0, 0), (27, .iload_n 2, 1, 0, 0, 0), (28, .invokevirtual 139, 3, 147, 3, 0), (31, .ifCond .le 7, 3, 0, 0, 0), (34, .iconst 1, 1, 0, 0, 0), (35, .goto 4, 3, 0, 0, 0), (38, .iconst 0, 1, 0, 0, 0), (39, .bastore, 1, 0, 0, 0), (40, .aload_n 0, 1, 0, 0, 0), (41, .getfield 44, 3, 10, 15, 0), (44, .iload_n 2, 1, 0, 0, 0), (45, .aload_n 0, 1, 0, 0, 0), (46, .getfield 40, 3, 10, 14, 0), (49, .iload_n 2, 1, 0, 0, 0), (50, .baload, 1, 0, 0, 0), (51, .ifCond .eq 12, 3, 0, 0, 0), (54, .aload_n 0, 1, 0, 0, 0), (55, .iload_n 1, 1, 0, 0, 0), (56, .iload_n 2, 1, 0, 0, 0), (57, .invokevirtual 139, 3, 147, 3, 0), (60, .goto 6, 3, 0, 0, 0), (63, .sipush (-201), 3, 0, 0, 0), (66, .iastore, 1, 0, 0, 0), (67, .iinc 2 1, 3, 0, 0, 0), (70, .goto (-68), 3, 0, 0, 0), (73, .return_, 1, 0, 0, 0)]
/-- 181 EdgeMovesModel.setSteps(II)V -/
def kc_181 : List ACe := [(0, .aload_n 0, 1, 0, 0, 0), (1, .iload_n 1, 1, 0, 0, 0), (2, .invokevirtual 133, 3, 146, 2, 0), (5, .istore_n 3, 1, 0, 0, 0), (6, .aload_n 0, 1, 0, 0, 0), (7, .iconst 0, 1, 0, 0, 0), (8, .putfield 166, 3, 10, 10, 0), (11, .aload_n 0, 1, 0, 0, 0), (12, .iload_n 1, 1, 0, 0, 0), (13, .invokevirtual 188, 3, 180, 2, 0), (16, .aload_n 0, 1, 0, 0, 0), (17, .iload_n 3, 1, 0, 0, 0), (18, .invokevirtual 192, 3, 174, 2, 0), (21, .ifCond .le 44, 3, 0, 0, 0), (24, .aload_n 0, 1, 0, 0, 0), (25, .iload_n 1, 1, 0, 0, 0), (26, .iconst 1, 1, 0, 0, 0), (27, .invokevirtual 195, 3, 175, 3, 0), (30, .istore 4, 2, 0, 0, 0), (32, .iload 4, 2, 0, 0, 0), (34, .sipush (-201), 3, 0, 0, 0), (37, .if_icmp .ne 18, 3, 0, 0, 0), (40, .aload_n 0, 1, 0, 0, 0), (41, .iload_n 1, 1, 0, 0, 0), (42, .aload_n 0, 1, 0, 0, 0), (43, .iload_n 1, 1, 0, 0, 0), (44, .iconst 0, 1, 0, 0, 0), (45, .invokevirtual 195, 3, 175, 3, 0), (48, .iload_n 2, 1, 0, 0, 0), (49, .invokevirtual 199, 3, 179, 4, 0), (52, .goto 10, 3, 0, 0, 0), (55, .aload_n 0, 1, 0, 0, 0), (56, .iload_n 1, 1, 0, 0, 0), (57, .iload 4, 2, 0, 0, 0), (59, .invokevirtual 202, 3, 178, 3, 0), (62, .goto (-46), 3, 0, 0, 0), (65, .iconst 0, 1, 0, 0, 0), (66, .istore 4, 2, 0, 0, 0), (68, .iload 4, 2, 0, 0, 0), (70, .bipush 32, 2, 0, 0, 0), (72, .if_icmp .ge 68, 3, 0, 0, 0), (75, .iconst 0, 1, 0, 0, 0), (76, .istore 5, 2, 0, 0, 0), (78, .iload 5, 2, 0, 0, 0), (80, .iload_n 3, 1, 0, 0, 0), (81, .if_icmp .ge 53, 3, 0, 0, 0), (84, .aload_n 0, 1, 0, 0, 0), (85, .iload_n 1, 1, 0, 0, 0), (86, .iload 5, 2, 0, 0, 0), (88, .invokevirtual 139, 3, 147, 3, 0), (91, .ifCond .ge 37, 3, 0, 0, 0), (94, .aload_n 0, 1, 0, 0, 0), (95, .iload_n 1, 1, 0, 0, 0), (96, .iload 5, 2, 0, 0, 0), (98, .invokevirtual 127, 3, 145, 3, 0), (101, .invokestatic 79, 3, 138, 1, 0), (104, .iload 4, 2, 0, 0, 0), (106, .if_icmp .ne 22, 3, 0, 0, 0), (109, .aload_n 0, 1, 0, 0, 0), (110, .iconst 2, 1, 0, 0, 0), (111, .aload_n 0, 1, 0, 0, 0), (112, .iload_n 1, 1, 0, 0, 0), (113, .iload 5, 2, 0, 0, 0), (115, .invokevirtual 127, 3, 145, 3, 0), (118, .aload_n 0, 1, 0, 0, 0), (119, .iload_n 1, 1, 0, 0, 0), (120, .iload 5, 2, 0, 0, 0), (122, .invokevirtual 139, 3, 147, 3, 0), (125, .invokevirtual 172, 3, 172, 4, 0), (128, .iinc 5 1, 3, 0, 0, 0), (131, .goto (-53), 3, 0, 0, 0), (134, .iinc 4 1, 3, 0, 0, 0), (137, .goto (-69), 3, 0, 0, 0), (140, .return_, 1, 0, 0, 0)]
/-- 182 EdgeMovesModel.costBy(II)I -/
def kc_182 : List ACe := [(0, .aload_n 0, 1, 0, 0, 0), (1, .iload_n 1, 1, 0, 0, 0), (2, .iload_n 2, 1, 0, 0, 0), (3, .invokevirtual 206, 3, 181, 3, 0), (6, .iconst 0, 1, 0, 0, 0), (7, .istore_n 3, 1, 0, 0, 0), (8, .iconst 0, 1, 0, 0, 0), (9, .istore 4, 2, 0, 0, 0), (11, .iload 4, 2, 0, 0, 0), (13, .aload_n 0, 1, 0, 0, 0), (14, .getfield 166, 3, 10, 10, 0), (17, .if_icmp .ge 50, 3, 0, 0, 0), (20, .aload_n 0, 1, 0, 0, 0), (21, .getfield 34, 3, 10, 12, 0), (24, .iload 4, 2, 0, 0, 0), (26, .iaload, 1, 0, 0, 0), (27, .invokestatic 71, 3, 137, 1, 0), (30, .istore 5, 2, 0, 0, 0), (32, .iload_n 3, 1, 0, 0, 0), (33, .aload_n 0, 1, 0, 0, 0), (34, .getfield 31, 3, 10, 11, 0), (37, .iload 4, 2, 0, 0, 0), (39, .iaload, 1, 0, 0, 0), (40, .iconst 1, 1, 0, 0, 0), (41, .if_icmp .ne 12, 3, 0, 0, 0), (44, .iload_n 2, 1, 0, 0, 0), (45, .iload 5, 2, 0, 0, 0), (47, .invokestatic 182, 3, 171, 2, 0), (50, .goto 9, 3, 0, 0, 0), (53, .iload_n 2, 1, 0, 0, 0), (54, .iload 5, 2, 0, 0, 0), (56, .invokestatic 185, 3, 170, 2, 0), (59, .iadd, 1, 0, 0, 0), (60, .istore_n 3, 1, 0, 0, 0), (61, .iinc 4 1, 3, 0, 0, 0), (64, .goto (-53), 3, 0, 0, 0), (67, .iload_n 3, 1, 0, 0, 0), (68, .ireturn, 1, 0, 0, 0)]
/-- 183 EdgeMovesModel.counted(I)I -/
def kc_183 : List ACe := [(0, .iconst 0, 1, 0, 0, 0), (1, .istore_n 2, 1, 0, 0, 0), (2, .iconst 0, 1, 0, 0, 0), (3, .istore_n 3, 1, 0, 0, 0), (4, .iload_n 3, 1, 0, 0, 0), (5, .aload_n 0, 1, 0, 0, 0), (6, .getfield 166, 3, 10, 10, 0), (9, .if_icmp .ge 67, 3, 0, 0, 0), (12, .iload_n 1, 1, 0, 0, 0), (13, .ifCond .eq 37, 3, 0, 0, 0), (16, .iload_n 1, 1, 0, 0, 0), (17, .iconst 4, 1, 0, 0, 0), (18, .if_icmp .ne 15, 3, 0, 0, 0), (21, .aload_n 0, 1, 0, 0, 0), (22, .getfield 34, 3, 10, 12, 0), (25, .iload_n 3, 1, 0, 0, 0), (26, .iaload, 1, 0, 0, 0), (27, .sipush 320, 3, 0, 0, 0), (30, .if_icmp .ge 20, 3, 0, 0, 0), (33, .iload_n 1, 1, 0, 0, 0), (34, .iconst 4, 1, 0, 0, 0), (35, .if_icmp .ge 19, 3, 0, 0, 0), (38, .iload_n 1, 1, 0, 0, 0), (39, .iconst 1, 1, 0, 0, 0), (40, .isub, 1, 0, 0, 0), (41, .aload_n 0, 1, 0, 0, 0), (42, .getfield 31, 3, 10, 11, 0), (45, .iload_n 3, 1, 0, 0, 0), (46, .iaload, 1, 0, 0, 0), (47, .if_icmp .ne 7, 3, 0, 0, 0), (50, .iconst 1, 1, 0, 0, 0), (51, .goto 4, 3, 0, 0, 0), (54, .iconst 0, 1, 0, 0, 0), (55, .istore 4, 2, 0, 0, 0), (57, .iload_n 2, 1, 0, 0, 0), (58, .iload 4, 2, 0, 0, 0), (60, .ifCond .eq 7, 3, 0, 0, 0), (63, .iconst 1, 1, 0, 0, 0), (64, .goto 4, 3, 0, 0, 0), (67, .iconst 0, 1, 0, 0, 0), (68, .iadd, 1, 0, 0, 0), (69, .istore_n 2, 1, 0, 0, 0), (70, .iinc 3 1, 3, 0, 0, 0), (73, .goto (-69), 3, 0, 0, 0), (76, .iload_n 2, 1, 0, 0, 0), (77, .ireturn, 1, 0, 0, 0)]
/-- 184 EdgeMovesModel.steps(II)I -/
def kc_184 : List ACe := [(0, .aload_n 0, 1, 0, 0, 0), (1, .iload_n 1, 1, 0, 0, 0), (2, .invokevirtual 130, 3, 144, 2, 0), (5, .ifCond .eq 12, 3, 0, 0, 0), (8, .iload_n 2, 1, 0, 0, 0), (9, .iconst 0, 1, 0, 0, 0), (10, .iconst 4, 1, 0, 0, 0), (11, .invokestatic 90, 3, 136, 3, 0), (14, .ifCond .ne 8, 3, 0, 0, 0), (17, .aload_n 0, 1, 0, 0, 0), (18, .invokevirtual 110, 3, 133, 1, 0), (21, .ireturn, 1, 0, 0, 0), (22, .aload_n 0, 1, 0, 0, 0), (23, .iload_n 1, 1, 0, 0, 0), (24, .invokevirtual 160, 3, 165, 2, 0), (27, .ifCond .ne 8, 3, 0, 0, 0), (30, .aload_n 0, 1, 0, 0, 0), (31, .invokevirtual 116, 3, 134, 1, 0), (34, .ireturn, 1, 0, 0, 0), (35, .aload_n 0, 1, 0, 0, 0), (36, .iload_n 1, 1, 0, 0, 0), (37, .aload_n 0, 1, 0, 0, 0), (38, .getfield 142, 3, 10, 3, 0), (41, .invokevirtual 206, 3, 181, 3, 0), (44, .aload_n 0, 1, 0, 0, 0), (45, .iload_n 2, 1, 0, 0, 0), (46, .invokevirtual 209, 3, 183, 2, 0), (49, .ireturn, 1, 0, 0, 0)]
/-- 185 EdgeMovesModel.step(III)I -/
def kc_185 : List ACe := [(0, .aload_n 0, 1, 0, 0, 0), (1, .iload_n 1, 1, 0, 0, 0), (2, .invokevirtual 130, 3, 144, 2, 0), (5, .ifCond .eq 16, 3, 0, 0, 0), (8, .iload_n 2, 1, 0, 0, 0), (9, .ifCond .lt 12, 3, 0, 0, 0), (12, .iload_n 3, 1, 0, 0, 0), (13, .iconst 0, 1, 0, 0, 0), (14, .iconst 2, 1, 0, 0, 0), (15, .invokestatic 90, 3, 136, 3, 0), (18, .ifCond .ne 8, 3, 0, 0, 0), (21, .aload_n 0, 1, 0, 0, 0), (22, .invokevirtual 110, 3, 133, 1, 0), (25, .ireturn, 1, 0, 0, 0), (26, .aload_n 0, 1, 0, 0, 0), (27, .iload_n 1, 1, 0, 0, 0), (28, .invokevirtual 160, 3, 165, 2, 0), (31, .ifCond .ne 8, 3, 0, 0, 0), (34, .aload_n 0, 1, 0, 0, 0), (35, .invokevirtual 116, 3, 134, 1, 0), (38, .ireturn, 1, 0, 0, 0), (39, .aload_n 0, 1, 0, 0, 0), (40, .iload_n 1, 1, 0, 0, 0), (41, .aload_n 0, 1, 0, 0, 0), (42, .getfield 142, 3, 10, 3, 0), (45, .invokevirtual 206, 3, 181, 3, 0), (48, .iload_n 2, 1, 0, 0, 0), (49, .aload_n 0, 1, 0, 0, 0), (50, .getfield 166, 3, 10, 10, 0), (53, .if_icmp .lt 7, 3, 0, 0, 0), (56, .sipush (-201), 3, 0, 0, 0), (59, .ireturn, 1, 0, 0, 0), (60, .iload_n 3, 1, 0, 0, 0), (61, .ifCond .ne 12, 3, 0, 0, 0), (64, .aload_n 0, 1, 0, 0, 0), (65, .getfield 31, 3, 10, 11, 0), (68, .iload_n 2, 1, 0, 0, 0), (69, .iaload, 1, 0, 0, 0), (70, .goto 23, 3, 0, 0, 0), (73, .iload_n 3, 1, 0, 0, 0), (74, .iconst 1, 1, 0, 0, 0), (75, .if_icmp .ne 12, 3, 0, 0, 0), (78, .aload_n 0, 1, 0, 0, 0), (79, .getfield 34, 3, 10, 12, 0), (82, .iload_n 2, 1, 0, 0, 0), (83, .iaload, 1, 0, 0, 0), (84, .goto 9, 3, 0, 0, 0), (87, .aload_n 0, 1, 0, 0, 0), (88, .getfield 37, 3, 10, 13, 0), (91, .iload_n 2, 1, 0, 0, 0), (92, .iaload, 1, 0, 0, 0), (93, .ireturn, 1, 0, 0, 0)]
/-- 186 EdgeMovesModel.cost(I)I -/
def kc_186 : List ACe := [(0, .aload_n 0, 1, 0, 0, 0), (1, .iload_n 1, 1, 0, 0, 0), (2, .invokevirtual 130, 3, 144, 2, 0), (5, .ifCond .ne 8, 3, 0, 0, 0), (8, .aload_n 0, 1, 0, 0, 0), (9, .invokevirtual 110, 3, 133, 1, 0), (12, .ireturn, 1, 0, 0, 0), (13, .aload_n 0, 1, 0, 0, 0), (14, .iload_n 1, 1, 0, 0, 0), (15, .invokevirtual 160, 3, 165, 2, 0), (18, .ifCond .eq 15, 3, 0, 0, 0), (21, .aload_n 0, 1, 0, 0, 0), (22, .iload_n 1, 1, 0, 0, 0), (23, .aload_n 0, 1, 0, 0, 0), (24, .getfield 142, 3, 10, 3, 0), (27, .invokevirtual 212, 3, 182, 3, 0), (30, .goto 7, 3, 0, 0, 0), (33, .aload_n 0, 1, 0, 0, 0), (34, .invokevirtual 116, 3, 134, 1, 0), (37, .ireturn, 1, 0, 0, 0)]
/-- 187 EdgeMovesModel.wantedTimes(II)I -/
def kc_187 : List ACe := [(0, .iconst 0, 1, 0, 0, 0), (1, .istore_n 3, 1, 0, 0, 0), (2, .iconst 0, 1, 0, 0, 0), (3, .istore 4, 2, 0, 0, 0), (5, .iload 4, 2, 0, 0, 0), (7, .aload_n 0, 1, 0, 0, 0), (8, .iload_n 1, 1, 0, 0, 0), (9, .invokevirtual 133, 3, 146, 2, 0), (12, .if_icmp .ge 38, 3, 0, 0, 0), (15, .iload_n 3, 1, 0, 0, 0), (16, .aload_n 0, 1, 0, 0, 0), (17, .getfield 40, 3, 10, 14, 0), (20, .iload 4, 2, 0, 0, 0), (22, .baload, 1, 0, 0, 0), (23, .ifCond .eq 18, 3, 0, 0, 0), (26, .aload_n 0, 1, 0, 0, 0), (27, .getfield 44, 3, 10, 15, 0), (30, .iload 4, 2, 0, 0, 0), (32, .iaload, 1, 0, 0, 0), (33, .iload_n 2, 1, 0, 0, 0), (34, .if_icmp .ne 7, 3, 0, 0, 0), (37, .iconst 1, 1, 0, 0, 0), (38, .goto 4, 3, 0, 0, 0), (41, .iconst 0, 1, 0, 0, 0), (42, .iadd, 1, 0, 0, 0), (43, .istore_n 3, 1, 0, 0, 0), (44, .iinc 4 1, 3, 0, 0, 0), (47, .goto (-42), 3, 0, 0, 0), (50, .iload_n 3, 1, 0, 0, 0), (51, .ireturn, 1, 0, 0, 0)]
/-- 188 EdgeMovesModel.ringOf(II)I -/
def kc_188 : List ACe := [(0, .iload_n 2, 1, 0, 0, 0), (1, .istore_n 3, 1, 0, 0, 0), (2, .iconst 0, 1, 0, 0, 0), (3, .istore 4, 2, 0, 0, 0), (5, .iconst 1, 1, 0, 0, 0), (6, .istore 5, 2, 0, 0, 0), (8, .iload 5, 2, 0, 0, 0), (10, .ifCond .eq 108, 3, 0, 0, 0), (13, .iload 4, 2, 0, 0, 0), (15, .ifCond .eq 8, 3, 0, 0, 0), (18, .iload_n 3, 1, 0, 0, 0), (19, .iload_n 2, 1, 0, 0, 0), (20, .if_icmp .eq 98, 3, 0, 0, 0), (23, .iload 4, 2, 0, 0, 0), (25, .bipush 6, 2, 0, 0, 0), (27, .if_icmp .gt 91, 3, 0, 0, 0), (30, .aload_n 0, 1, 0, 0, 0), (31, .getfield 40, 3, 10, 14, 0), (34, .iload_n 3, 1, 0, 0, 0), (35, .baload, 1, 0, 0, 0), (36, .ifCond .eq 22, 3, 0, 0, 0), (39, .aload_n 0, 1, 0, 0, 0), (40, .iload_n 1, 1, 0, 0, 0), (41, .aload_n 0, 1, 0, 0, 0), (42, .iload_n 1, 1, 0, 0, 0), (43, .iload_n 3, 1, 0, 0, 0), (44, .invokevirtual 127, 3, 145, 3, 0), (47, .invokevirtual 215, 3, 187, 3, 0), (50, .iconst 1, 1, 0, 0, 0), (51, .if_icmp .ne 7, 3, 0, 0, 0), (54, .iconst 1, 1, 0, 0, 0), (55, .goto 4, 3, 0, 0, 0), (58, .iconst 0, 1, 0, 0, 0), (59, .istore 5, 2, 0, 0, 0), (61, .iinc 4 1, 3, 0, 0, 0), (64, .iload 5, 2, 0, 0, 0), (66, .ifCond .eq 17, 3, 0, 0, 0), (69, .aload_n 0, 1, 0, 0, 0), (70, .iload_n 1, 1, 0, 0, 0), (71, .aload_n 0, 1, 0, 0, 0), (72, .getfield 44, 3, 10, 15, 0), (75, .iload_n 3, 1, 0, 0, 0), (76, .iaload, 1, 0, 0, 0), (77, .invokevirtual 179, 3, 176, 3, 0), (80, .goto 6, 3, 0, 0, 0), (83, .sipush (-201), 3, 0, 0, 0), (86, .istore 6, 2, 0, 0, 0), (88, .iload 6, 2, 0, 0, 0), (90, .sipush (-201), 3, 0, 0, 0), (93, .if_icmp .eq 7, 3, 0, 0, 0), (96, .iconst 1, 1, 0, 0, 0), (97, .goto 4, 3, 0, 0, 0), (100, .iconst 0, 1, 0, 0, 0), (101, .istore 5, 2, 0, 0, 0), (103, .iload 5, 2, 0, 0, 0), (105, .ifCond .eq 8, 3, 0, 0, 0), (108, .iload 6, 2, 0, 0, 0), (110, .goto 4, 3, 0, 0, 0), (113, .iload_n 3, 1, 0, 0, 0), (114, .istore_n 3, 1, 0, 0, 0), (115, .goto (-107), 3, 0, 0, 0), (118, .iload 5, 2, 0, 0, 0), (120, .ifCond .eq 13, 3, 0, 0, 0), (123, .iload_n 3, 1, 0, 0, 0), (124, .iload_n 2, 1, 0, 0, 0), (125, .if_icmp .ne 8, 3, 0, 0, 0), (128, .iload 4, 2, 0, 0, 0), (130, .goto 4, 3, 0, 0, 0), (133, .iconst 0, 1, 0, 0, 0), (134, .ireturn, 1, 0, 0, 0)]
/-- 189 EdgeMovesModel.rings(II)I -/
def kc_189_0 : List ACe := [(0, .aload_n 0, 1, 0, 0, 0), (1, .iload_n 1, 1, 0, 0, 0), (2, .invokevirtual 130, 3, 144, 2, 0), (5, .ifCond .eq 12, 3, 0, 0, 0), (8, .iload_n 2, 1, 0, 0, 0), (9, .iconst 0, 1, 0, 0, 0), (10, .iconst 2, 1, 0, 0, 0), (11, .invokestatic 90, 3, 136, 3, 0), (14, .ifCond .ne 8, 3, 0, 0, 0), (17, .aload_n 0, 1, 0, 0, 0), (18, .invokevirtual 110, 3, 133, 1, 0), (21, .ireturn, 1, 0, 0, 0), (22, .aload_n 0, 1, 0, 0, 0), (23, .iload_n 1, 1, 0, 0, 0), (24, .invokevirtual 160, 3, 165, 2, 0), (27, .ifCond .ne 8, 3, 0, 0, 0), (30, .aload_n 0, 1, 0, 0, 0), (31, .invokevirtual 116, 3, 134, 1, 0), (34, .ireturn, 1, 0, 0, 0), (35, .aload_n 0, 1, 0, 0, 0), (36, .iload_n 1, 1, 0, 0, 0), (37, .invokevirtual 188, 3, 180, 2, 0), (40, .iconst 0, 1, 0, 0, 0), (41, .istore_n 3, 1, 0, 0, 0), (42, .iconst 0, 1, 0, 0, 0), (43, .istore 4, 2, 0, 0, 0), (45, .iconst 0, 1, 0, 0, 0), (46, .istore 5, 2, 0, 0, 0), (48, .iconst 0, 1, 0, 0, 0), (49, .istore 6, 2, 0, 0, 0), (51, .iload 6, 2, 0, 0, 0), (53, .aload_n 0, 1, 0, 0, 0), (54, .iload_n 1, 1, 0, 0, 0), (55, .invokevirtual 133, 3, 146, 2, 0), (58, .if_icmp .ge 89, 3, 0, 0, 0), (61, .aload_n 0, 1, 0, 0, 0), (62, .getfield 40, 3, 10, 14, 0), (65, .iload 6, 2, 0, 0, 0), (67, .baload, 1, 0, 0, 0), (68, .ifCond .eq 13, 3, 0, 0, 0), (71, .aload_n 0, 1, 0, 0, 0), (72, .iload_n 1, 1, 0, 0, 0), (73, .iload 6, 2, 0, 0, 0), (75, .invokevirtual 218, 3, 188, 3, 0), (78, .goto 4, 3, 0, 0, 0), (81, .iconst 0, 1, 0, 0, 0), (82, .istore 7, 2, 0, 0, 0), (84, .iload 4, 2, 0, 0, 0), (86, .aload_n 0, 1, 0, 0, 0), (87, .getfield 40, 3, 10, 14, 0), (90, .iload 6, 2, 0, 0, 0), (92, .baload, 1, 0, 0, 0), (93, .ifCond .eq 12, 3, 0, 0, 0), (96, .iload 7, 2, 0, 0, 0), (98, .ifCond .ne 7, 3, 0, 0, 0), (101, .iconst 1, 1, 0, 0, 0), (102, .goto 4, 3, 0, 0, 0), (105, .iconst 0, 1, 0, 0, 0), (106, .iadd, 1, 0, 0, 0), (107, .istore 4, 2, 0, 0, 0)]
def kc_189_1 : List ACe := [(109, .iload 7, 2, 0, 0, 0), (111, .iload_n 3, 1, 0, 0, 0), (112, .if_icmp .le 8, 3, 0, 0, 0), (115, .iload 7, 2, 0, 0, 0), (117, .goto 4, 3, 0, 0, 0), (120, .iload_n 3, 1, 0, 0, 0), (121, .istore_n 3, 1, 0, 0, 0), (122, .iload 5, 2, 0, 0, 0), (124, .iload 7, 2, 0, 0, 0), (126, .ifCond .le 11, 3, 0, 0, 0), (129, .bipush 60, 2, 0, 0, 0), (131, .iload 7, 2, 0, 0, 0), (133, .idiv, 1, 0, 0, 0), (134, .goto 4, 3, 0, 0, 0), (137, .iconst 0, 1, 0, 0, 0), (138, .iadd, 1, 0, 0, 0), (139, .istore 5, 2, 0, 0, 0), (141, .iinc 6 1, 3, 0, 0, 0), (144, .goto (-93), 3, 0, 0, 0), (147, .iload_n 2, 1, 0, 0, 0), (148, .ifCond .ne 11, 3, 0, 0, 0), (151, .iload 5, 2, 0, 0, 0), (153, .bipush 60, 2, 0, 0, 0), (155, .idiv, 1, 0, 0, 0), (156, .goto 14, 3, 0, 0, 0), (159, .iload_n 2, 1, 0, 0, 0), (160, .iconst 1, 1, 0, 0, 0), (161, .if_icmp .ne 7, 3, 0, 0, 0), (164, .iload_n 3, 1, 0, 0, 0), (165, .goto 5, 3, 0, 0, 0), (168, .iload 4, 2, 0, 0, 0), (170, .ireturn, 1, 0, 0, 0)]
def kc_189 : List ACe := kc_189_0 ++ (kc_189_1)
/-- 190 EdgeMovesModel.cheapest(II)I -/
def kc_190 : List ACe := [(0, .aload_n 0, 1, 0, 0, 0), (1, .iload_n 1, 1, 0, 0, 0), (2, .invokevirtual 130, 3, 144, 2, 0), (5, .ifCond .eq 12, 3, 0, 0, 0), (8, .iload_n 2, 1, 0, 0, 0), (9, .iconst 0, 1, 0, 0, 0), (10, .iconst 1, 1, 0, 0, 0), (11, .invokestatic 90, 3, 136, 3, 0), (14, .ifCond .ne 8, 3, 0, 0, 0), (17, .aload_n 0, 1, 0, 0, 0), (18, .invokevirtual 110, 3, 133, 1, 0), (21, .ireturn, 1, 0, 0, 0), (22, .aload_n 0, 1, 0, 0, 0), (23, .iload_n 1, 1, 0, 0, 0), (24, .invokevirtual 160, 3, 165, 2, 0), (27, .ifCond .ne 8, 3, 0, 0, 0), (30, .aload_n 0, 1, 0, 0, 0), (31, .invokevirtual 116, 3, 134, 1, 0), (34, .ireturn, 1, 0, 0, 0), (35, .sipush (-201), 3, 0, 0, 0), (38, .istore_n 3, 1, 0, 0, 0), (39, .ldc 221, 2, 0, 0, 1048576), (41, .istore 4, 2, 0, 0, 0), (43, .iconst 0, 1, 0, 0, 0), (44, .istore 5, 2, 0, 0, 0), (46, .iload 5, 2, 0, 0, 0), (48, .iconst 5, 1, 0, 0, 0), (49, .if_icmp .ge 48, 3, 0, 0, 0), (52, .aload_n 0, 1, 0, 0, 0), (53, .iload_n 1, 1, 0, 0, 0), (54, .iload 5, 2, 0, 0, 0), (56, .invokevirtual 212, 3, 182, 3, 0), (59, .istore 6, 2, 0, 0, 0), (61, .iload 6, 2, 0, 0, 0), (63, .iload 4, 2, 0, 0, 0), (65, .if_icmp .ge 8, 3, 0, 0, 0), (68, .iload 5, 2, 0, 0, 0), (70, .goto 4, 3, 0, 0, 0), (73, .iload_n 3, 1, 0, 0, 0), (74, .istore_n 3, 1, 0, 0, 0), (75, .iload 6, 2, 0, 0, 0), (77, .iload 4, 2, 0, 0, 0), (79, .if_icmp .ge 8, 3, 0, 0, 0), (82, .iload 6, 2, 0, 0, 0), (84, .goto 5, 3, 0, 0, 0), (87, .iload 4, 2, 0, 0, 0), (89, .istore 4, 2, 0, 0, 0), (91, .iinc 5 1, 3, 0, 0, 0), (94, .goto (-48), 3, 0, 0, 0), (97, .iload_n 2, 1, 0, 0, 0), (98, .ifCond .ne 7, 3, 0, 0, 0), (101, .iload_n 3, 1, 0, 0, 0), (102, .goto 5, 3, 0, 0, 0), (105, .iload 4, 2, 0, 0, 0), (107, .ireturn, 1, 0, 0, 0)]
/-- 191 EdgeMovesModel.free(II)I -/
def kc_191 : List ACe := [(0, .aload_n 0, 1, 0, 0, 0), (1, .iload_n 1, 1, 0, 0, 0), (2, .invokevirtual 130, 3, 144, 2, 0), (5, .ifCond .eq 10, 3, 0, 0, 0), (8, .iload_n 2, 1, 0, 0, 0), (9, .invokestatic 75, 3, 139, 1, 0), (12, .ifCond .ne 8, 3, 0, 0, 0), (15, .aload_n 0, 1, 0, 0, 0), (16, .invokevirtual 110, 3, 133, 1, 0), (19, .ireturn, 1, 0, 0, 0), (20, .iconst 0, 1, 0, 0, 0), (21, .istore_n 3, 1, 0, 0, 0), (22, .iload_n 3, 1, 0, 0, 0), (23, .bipush 32, 2, 0, 0, 0), (25, .if_icmp .ge 104, 3, 0, 0, 0), (28, .iconst 1, 1, 0, 0, 0), (29, .istore 4, 2, 0, 0, 0), (31, .iconst 0, 1, 0, 0, 0), (32, .istore 5, 2, 0, 0, 0), (34, .iload 5, 2, 0, 0, 0), (36, .aload_n 0, 1, 0, 0, 0), (37, .iload_n 1, 1, 0, 0, 0), (38, .invokevirtual 133, 3, 146, 2, 0), (41, .if_icmp .ge 69, 3, 0, 0, 0), (44, .iload 4, 2, 0, 0, 0), (46, .ifCond .eq 55, 3, 0, 0, 0), (49, .aload_n 0, 1, 0, 0, 0), (50, .iload_n 1, 1, 0, 0, 0), (51, .iload 5, 2, 0, 0, 0), (53, .invokevirtual 127, 3, 145, 3, 0), (56, .bipush 10, 2, 0, 0, 0), (58, .iload_n 3, 1, 0, 0, 0), (59, .imul, 1, 0, 0, 0), (60, .iload_n 2, 1, 0, 0, 0), (61, .iadd, 1, 0, 0, 0), (62, .invokestatic 82, 3, 141, 2, 0), (65, .ifCond .ne 36, 3, 0, 0, 0), (68, .aload_n 0, 1, 0, 0, 0), (69, .iload_n 1, 1, 0, 0, 0), (70, .iload 5, 2, 0, 0, 0), (72, .invokevirtual 139, 3, 147, 3, 0), (75, .ifCond .lt 22, 3, 0, 0, 0), (78, .aload_n 0, 1, 0, 0, 0), (79, .iload_n 1, 1, 0, 0, 0), (80, .iload 5, 2, 0, 0, 0), (82, .invokevirtual 139, 3, 147, 3, 0), (85, .bipush 10, 2, 0, 0, 0), (87, .iload_n 3, 1, 0, 0, 0), (88, .imul, 1, 0, 0, 0), (89, .iload_n 2, 1, 0, 0, 0), (90, .iadd, 1, 0, 0, 0), (91, .invokestatic 82, 3, 141, 2, 0), (94, .ifCond .ne 7, 3, 0, 0, 0), (97, .iconst 1, 1, 0, 0, 0), (98, .goto 4, 3, 0, 0, 0), (101, .iconst 0, 1, 0, 0, 0), (102, .istore 4, 2, 0, 0, 0), (104, .iinc 5 1, 3, 0, 0, 0), (107, .goto (-73), 3, 0, 0, 0), (110, .iload 4, 2, 0, 0, 0), (112, .ifCond .eq 10, 3, 0, 0, 0), (115, .bipush 10, 2, 0, 0, 0), (117, .iload_n 3, 1, 0, 0, 0), (118, .imul, 1, 0, 0, 0), (119, .iload_n 2, 1, 0, 0, 0), (120, .iadd, 1, 0, 0, 0), (121, .ireturn, 1, 0, 0, 0), (122, .iload_n 3, 1, 0, 0, 0), (123, .iload_n 2, 1, 0, 0, 0), (124, .iadd, 1, 0, 0, 0), (125, .istore_n 3, 1, 0, 0, 0), (126, .goto (-104), 3, 0, 0, 0), (129, .sipush (-201), 3, 0, 0, 0), (132, .ireturn, 1, 0, 0, 0)]
/-- 192 EdgeMovesModel.asOther()V -/
def kc_192 : List ACe := [(0, .aload_n 0, 1, 0, 0, 0), (1, .aload_n 0, 1, 0, 0, 0), (2, .getfield 166, 3, 10, 10, 0), (5, .putfield 222, 3, 10, 16, 0), (8, .iconst 0, 1, 0, 0, 0), (9, .istore_n 1, 1, 0, 0, 0), (10, .iload_n 1, 1, 0, 0, 0), (11, .aload_n 0, 1, 0, 0, 0), (12, .getfield 166, 3, 10, 10, 0), (15, .if_icmp .ge 45, 3, 0, 0, 0), (18, .aload_n 0, 1, 0, 0, 0), (19, .getfield 47, 3, 10, 17, 0), (22, .iload_n 1, 1, 0, 0, 0), (23, .aload_n 0, 1, 0, 0, 0), (24, .getfield 31, 3, 10, 11, 0), (27, .iload_n 1, 1, 0, 0, 0), (28, .iaload, 1, 0, 0, 0), (29, .iastore, 1, 0, 0, 0), (30, .aload_n 0, 1, 0, 0, 0), (31, .getfield 50, 3, 10, 18, 0), (34, .iload_n 1, 1, 0, 0, 0), (35, .aload_n 0, 1, 0, 0, 0), (36, .getfield 34, 3, 10, 12, 0), (39, .iload_n 1, 1, 0, 0, 0), (40, .iaload, 1, 0, 0, 0), (41, .iastore, 1, 0, 0, 0), (42, .aload_n 0, 1, 0, 0, 0), (43, .getfield 53, 3, 10, 19, 0), (46, .iload_n 1, 1, 0, 0, 0), (47, .aload_n 0, 1, 0, 0, 0), (48, .getfield 37, 3, 10, 13, 0), (51, .iload_n 1, 1, 0, 0, 0), (52, .iaload, 1, 0, 0, 0), (53, .iastore, 1, 0, 0, 0), (54, .iinc 1 1, 3, 0, 0, 0), (57, .goto (-47), 3, 0, 0, 0), (60, .return_, 1, 0, 0, 0)]
/-- 193 EdgeMovesModel.sameBack()I -/
def kc_193 : List ACe := [(0, .iconst 0, 1, 0, 0, 0), (1, .istore_n 1, 1, 0, 0, 0), (2, .iconst 1, 1, 0, 0, 0), (3, .istore_n 2, 1, 0, 0, 0), (4, .iload_n 2, 1, 0, 0, 0), (5, .ifCond .eq 107, 3, 0, 0, 0), (8, .iload_n 1, 1, 0, 0, 0), (9, .aload_n 0, 1, 0, 0, 0), (10, .getfield 166, 3, 10, 10, 0), (13, .if_icmp .ge 99, 3, 0, 0, 0), (16, .iload_n 1, 1, 0, 0, 0), (17, .aload_n 0, 1, 0, 0, 0), (18, .getfield 222, 3, 10, 16, 0), (21, .if_icmp .ge 91, 3, 0, 0, 0), (24, .aload_n 0, 1, 0, 0, 0), (25, .getfield 166, 3, 10, 10, 0), (28, .iconst 1, 1, 0, 0, 0), (29, .isub, 1, 0, 0, 0), (30, .iload_n 1, 1, 0, 0, 0), (31, .isub, 1, 0, 0, 0), (32, .istore_n 3, 1, 0, 0, 0), (33, .aload_n 0, 1, 0, 0, 0), (34, .getfield 222, 3, 10, 16, 0), (37, .iconst 1, 1, 0, 0, 0), (38, .isub, 1, 0, 0, 0), (39, .iload_n 1, 1, 0, 0, 0), (40, .isub, 1, 0, 0, 0), (41, .istore 4, 2, 0, 0, 0), (43, .aload_n 0, 1, 0, 0, 0), (44, .getfield 31, 3, 10, 11, 0), (47, .iload_n 3, 1, 0, 0, 0), (48, .iaload, 1, 0, 0, 0), (49, .aload_n 0, 1, 0, 0, 0), (50, .getfield 47, 3, 10, 17, 0), (53, .iload 4, 2, 0, 0, 0), (55, .iaload, 1, 0, 0, 0), (56, .if_icmp .ne 39, 3, 0, 0, 0), (59, .aload_n 0, 1, 0, 0, 0), (60, .getfield 34, 3, 10, 12, 0), (63, .iload_n 3, 1, 0, 0, 0), (64, .iaload, 1, 0, 0, 0), (65, .aload_n 0, 1, 0, 0, 0), (66, .getfield 50, 3, 10, 18, 0), (69, .iload 4, 2, 0, 0, 0), (71, .iaload, 1, 0, 0, 0), (72, .if_icmp .ne 23, 3, 0, 0, 0), (75, .aload_n 0, 1, 0, 0, 0), (76, .getfield 37, 3, 10, 13, 0), (79, .iload_n 3, 1, 0, 0, 0), (80, .iaload, 1, 0, 0, 0), (81, .aload_n 0, 1, 0, 0, 0), (82, .getfield 53, 3, 10, 19, 0), (85, .iload 4, 2, 0, 0, 0), (87, .iaload, 1, 0, 0, 0), (88, .if_icmp .ne 7, 3, 0, 0, 0), (91, .iconst 1, 1, 0, 0, 0), (92, .goto 4, 3, 0, 0, 0), (95, .iconst 0, 1, 0, 0, 0), (96, .istore_n 2, 1, 0, 0, 0), (97, .iload_n 1, 1, 0, 0, 0), (98, .iload_n 2, 1, 0, 0, 0), (99, .ifCond .eq 7, 3, 0, 0, 0), (102, .iconst 1, 1, 0, 0, 0), (103, .goto 4, 3, 0, 0, 0), (106, .iconst 0, 1, 0, 0, 0), (107, .iadd, 1, 0, 0, 0), (108, .istore_n 1, 1, 0, 0, 0), (109, .goto (-105), 3, 0, 0, 0), (112, .iload_n 1, 1, 0, 0, 0), (113, .ireturn, 1, 0, 0, 0)]
/-- 194 EdgeMovesModel.tail(I)I -/
def kc_194_0 : List ACe := [(0, .aload_n 0, 1, 0, 0, 0), (1, .iload_n 1, 1, 0, 0, 0), (2, .invokevirtual 104, 3, 143, 2, 0), (5, .ifCond .ne 8, 3, 0, 0, 0), (8, .aload_n 0, 1, 0, 0, 0), (9, .invokevirtual 110, 3, 133, 1, 0), (12, .ireturn, 1, 0, 0, 0), (13, .iconst 1, 1, 0, 0, 0), (14, .istore_n 2, 1, 0, 0, 0), (15, .iconst 0, 1, 0, 0, 0), (16, .istore_n 3, 1, 0, 0, 0), (17, .iload_n 3, 1, 0, 0, 0), (18, .aload_n 0, 1, 0, 0, 0), (19, .getfield 94, 3, 10, 2, 0), (22, .if_icmp .ge 37, 3, 0, 0, 0), (25, .iload_n 2, 1, 0, 0, 0), (26, .ifCond .eq 25, 3, 0, 0, 0), (29, .aload_n 0, 1, 0, 0, 0), (30, .getfield 22, 3, 10, 7, 0), (33, .iload_n 3, 1, 0, 0, 0), (34, .iaload, 1, 0, 0, 0), (35, .iload_n 1, 1, 0, 0, 0), (36, .if_icmp .ne 11, 3, 0, 0, 0), (39, .aload_n 0, 1, 0, 0, 0), (40, .iload_n 3, 1, 0, 0, 0), (41, .invokevirtual 160, 3, 165, 2, 0), (44, .ifCond .eq 7, 3, 0, 0, 0), (47, .iconst 1, 1, 0, 0, 0), (48, .goto 4, 3, 0, 0, 0), (51, .iconst 0, 1, 0, 0, 0), (52, .istore_n 2, 1, 0, 0, 0), (53, .iinc 3 1, 3, 0, 0, 0), (56, .goto (-39), 3, 0, 0, 0), (59, .iload_n 2, 1, 0, 0, 0), (60, .ifCond .ne 8, 3, 0, 0, 0), (63, .aload_n 0, 1, 0, 0, 0), (64, .invokevirtual 116, 3, 134, 1, 0), (67, .ireturn, 1, 0, 0, 0), (68, .iconst 0, 1, 0, 0, 0), (69, .istore_n 3, 1, 0, 0, 0), (70, .iconst 1, 1, 0, 0, 0), (71, .istore 4, 2, 0, 0, 0), (73, .iconst 0, 1, 0, 0, 0), (74, .istore 5, 2, 0, 0, 0), (76, .iload 5, 2, 0, 0, 0), (78, .aload_n 0, 1, 0, 0, 0), (79, .getfield 94, 3, 10, 2, 0), (82, .if_icmp .ge 69, 3, 0, 0, 0), (85, .aload_n 0, 1, 0, 0, 0), (86, .getfield 22, 3, 10, 7, 0), (89, .iload 5, 2, 0, 0, 0), (91, .iaload, 1, 0, 0, 0), (92, .iload_n 1, 1, 0, 0, 0), (93, .if_icmp .ne 52, 3, 0, 0, 0), (96, .aload_n 0, 1, 0, 0, 0), (97, .iload 5, 2, 0, 0, 0), (99, .aload_n 0, 1, 0, 0, 0), (100, .getfield 142, 3, 10, 3, 0), (103, .invokevirtual 206, 3, 181, 3, 0), (106, .iload 4, 2, 0, 0, 0)]
def kc_194_1 : List ACe := [(108, .ifCond .eq 18, 3, 0, 0, 0), (111, .aload_n 0, 1, 0, 0, 0), (112, .invokevirtual 225, 3, 192, 1, 0), (115, .aload_n 0, 1, 0, 0, 0), (116, .getfield 166, 3, 10, 10, 0), (119, .istore_n 3, 1, 0, 0, 0), (120, .iconst 0, 1, 0, 0, 0), (121, .istore 4, 2, 0, 0, 0), (123, .goto 22, 3, 0, 0, 0), (126, .aload_n 0, 1, 0, 0, 0), (127, .invokevirtual 228, 3, 193, 1, 0), (130, .istore 6, 2, 0, 0, 0), (132, .iload 6, 2, 0, 0, 0), (134, .iload_n 3, 1, 0, 0, 0), (135, .if_icmp .ge 8, 3, 0, 0, 0), (138, .iload 6, 2, 0, 0, 0), (140, .goto 4, 3, 0, 0, 0), (143, .iload_n 3, 1, 0, 0, 0), (144, .istore_n 3, 1, 0, 0, 0), (145, .iinc 5 1, 3, 0, 0, 0), (148, .goto (-72), 3, 0, 0, 0), (151, .iload_n 3, 1, 0, 0, 0), (152, .ireturn, 1, 0, 0, 0)]
def kc_194 : List ACe := kc_194_0 ++ (kc_194_1)
/-- 195 EdgeMovesModel.next(J)J -/
def kc_195 : List ACe := [(0, .lload_n 0, 1, 0, 0, 0), (1, .ldc2_w 231, 3, 0, 0, 1103515245), (4, .lmul, 1, 0, 0, 0), (5, .ldc2_w 233, 3, 0, 0, 12345), (8, .ladd, 1, 0, 0, 0), (9, .ldc2_w 235, 3, 0, 0, 2147483648), (12, .lrem, 1, 0, 0, 0), (13, .lreturn, 1, 0, 0, 0)]
/-- 196 EdgeMovesModel.beginOf(I)I -/
def kc_196 : List ACe := [(0, .iload_n 0, 1, 0, 0, 0), (1, .sipush 320, 3, 0, 0, 0), (4, .if_icmp .lt 8, 3, 0, 0, 0), (7, .bipush 32, 2, 0, 0, 0), (9, .goto 7, 3, 0, 0, 0), (12, .iload_n 0, 1, 0, 0, 0), (13, .invokestatic 79, 3, 138, 1, 0), (16, .ireturn, 1, 0, 0, 0)]
/-- 197 EdgeMovesModel.puts(II)V -/
def kc_197 : List ACe := [(0, .iconst 0, 1, 0, 0, 0), (1, .istore_n 3, 1, 0, 0, 0), (2, .iload_n 3, 1, 0, 0, 0), (3, .iload_n 1, 1, 0, 0, 0), (4, .invokestatic 71, 3, 137, 1, 0), (7, .if_icmp .ge 29, 3, 0, 0, 0), (10, .aload_n 0, 1, 0, 0, 0), (11, .getfield 56, 3, 10, 20, 0), (14, .iload_n 1, 1, 0, 0, 0), (15, .invokestatic 79, 3, 138, 1, 0), (18, .iload_n 3, 1, 0, 0, 0), (19, .iadd, 1, 0, 0, 0), (20, .iload_n 3, 1, 0, 0, 0), (21, .ifCond .ne 7, 3, 0, 0, 0), (24, .iload_n 2, 1, 0, 0, 0), (25, .goto 4, 3, 0, 0, 0), (28, .iconst 0, 1, 0, 0, 0), (29, .iastore, 1, 0, 0, 0), (30, .iinc 3 1, 3, 0, 0, 0), (33, .goto (-31), 3, 0, 0, 0), (36, .return_, 1, 0, 0, 0)]
/-- 198 EdgeMovesModel.stepsOn(I)V -/
def kc_198_0 : List ACe := [(0, .aload_n 0, 1, 0, 0, 0), (1, .getfield 34, 3, 10, 12, 0), (4, .iload_n 1, 1, 0, 0, 0), (5, .iaload, 1, 0, 0, 0), (6, .invokestatic 237, 3, 196, 1, 0), (9, .istore_n 2, 1, 0, 0, 0), (10, .aload_n 0, 1, 0, 0, 0), (11, .getfield 31, 3, 10, 11, 0), (14, .iload_n 1, 1, 0, 0, 0), (15, .iaload, 1, 0, 0, 0), (16, .iconst 2, 1, 0, 0, 0), (17, .if_icmp .ne 22, 3, 0, 0, 0), (20, .aload_n 0, 1, 0, 0, 0), (21, .aload_n 0, 1, 0, 0, 0), (22, .getfield 34, 3, 10, 12, 0), (25, .iload_n 1, 1, 0, 0, 0), (26, .iaload, 1, 0, 0, 0), (27, .iconst (-1), 1, 0, 0, 0), (28, .aload_n 0, 1, 0, 0, 0), (29, .getfield 37, 3, 10, 13, 0), (32, .iload_n 1, 1, 0, 0, 0), (33, .iaload, 1, 0, 0, 0), (34, .isub, 1, 0, 0, 0), (35, .invokevirtual 240, 3, 197, 3, 0), (38, .return_, 1, 0, 0, 0), (39, .aload_n 0, 1, 0, 0, 0), (40, .getfield 37, 3, 10, 13, 0), (43, .iload_n 1, 1, 0, 0, 0), (44, .iaload, 1, 0, 0, 0), (45, .invokestatic 237, 3, 196, 1, 0), (48, .istore_n 3, 1, 0, 0, 0), (49, .iconst 0, 1, 0, 0, 0), (50, .istore 4, 2, 0, 0, 0), (52, .iload 4, 2, 0, 0, 0), (54, .aload_n 0, 1, 0, 0, 0), (55, .getfield 34, 3, 10, 12, 0), (58, .iload_n 1, 1, 0, 0, 0), (59, .iaload, 1, 0, 0, 0), (60, .invokestatic 71, 3, 137, 1, 0), (63, .if_icmp .ge 71, 3, 0, 0, 0), (66, .aload_n 0, 1, 0, 0, 0), (67, .getfield 56, 3, 10, 20, 0), (70, .iload_n 2, 1, 0, 0, 0), (71, .iload 4, 2, 0, 0, 0), (73, .iadd, 1, 0, 0, 0), (74, .iaload, 1, 0, 0, 0), (75, .istore 5, 2, 0, 0, 0), (77, .aload_n 0, 1, 0, 0, 0), (78, .getfield 56, 3, 10, 20, 0), (81, .iload_n 2, 1, 0, 0, 0), (82, .iload 4, 2, 0, 0, 0), (84, .iadd, 1, 0, 0, 0), (85, .aload_n 0, 1, 0, 0, 0), (86, .getfield 56, 3, 10, 20, 0), (89, .iload_n 3, 1, 0, 0, 0), (90, .iload 4, 2, 0, 0, 0), (92, .iadd, 1, 0, 0, 0), (93, .iaload, 1, 0, 0, 0), (94, .iastore, 1, 0, 0, 0), (95, .aload_n 0, 1, 0, 0, 0)]
def kc_198_1 : List ACe := [(96, .getfield 56, 3, 10, 20, 0), (99, .iload_n 3, 1, 0, 0, 0), (100, .iload 4, 2, 0, 0, 0), (102, .iadd, 1, 0, 0, 0), (103, .aload_n 0, 1, 0, 0, 0), (104, .getfield 31, 3, 10, 11, 0), (107, .iload_n 1, 1, 0, 0, 0), (108, .iaload, 1, 0, 0, 0), (109, .iconst 1, 1, 0, 0, 0), (110, .if_icmp .ne 8, 3, 0, 0, 0), (113, .iload 5, 2, 0, 0, 0), (115, .goto 12, 3, 0, 0, 0), (118, .aload_n 0, 1, 0, 0, 0), (119, .getfield 56, 3, 10, 20, 0), (122, .iload_n 3, 1, 0, 0, 0), (123, .iload 4, 2, 0, 0, 0), (125, .iadd, 1, 0, 0, 0), (126, .iaload, 1, 0, 0, 0), (127, .iastore, 1, 0, 0, 0), (128, .iinc 4 1, 3, 0, 0, 0), (131, .goto (-79), 3, 0, 0, 0), (134, .return_, 1, 0, 0, 0)]
def kc_198 : List ACe := kc_198_0 ++ (kc_198_1)
/-- 199 EdgeMovesModel.handsOver(I)V -/
def kc_199 : List ACe := [(0, .iconst 0, 1, 0, 0, 0), (1, .istore_n 2, 1, 0, 0, 0), (2, .iload_n 2, 1, 0, 0, 0), (3, .bipush 32, 2, 0, 0, 0), (5, .if_icmp .ge 21, 3, 0, 0, 0), (8, .aload_n 0, 1, 0, 0, 0), (9, .getfield 59, 3, 10, 21, 0), (12, .iload_n 2, 1, 0, 0, 0), (13, .aload_n 0, 1, 0, 0, 0), (14, .getfield 56, 3, 10, 20, 0), (17, .iload_n 2, 1, 0, 0, 0), (18, .iaload, 1, 0, 0, 0), (19, .iastore, 1, 0, 0, 0), (20, .iinc 2 1, 3, 0, 0, 0), (23, .goto (-21), 3, 0, 0, 0), (26, .iconst 0, 1, 0, 0, 0), (27, .istore_n 2, 1, 0, 0, 0), (28, .iload_n 2, 1, 0, 0, 0), (29, .aload_n 0, 1, 0, 0, 0), (30, .iload_n 1, 1, 0, 0, 0), (31, .invokevirtual 133, 3, 146, 2, 0), (34, .if_icmp .ge 84, 3, 0, 0, 0), (37, .aload_n 0, 1, 0, 0, 0), (38, .iload_n 1, 1, 0, 0, 0), (39, .iload_n 2, 1, 0, 0, 0), (40, .invokevirtual 127, 3, 145, 3, 0), (43, .istore_n 3, 1, 0, 0, 0), (44, .aload_n 0, 1, 0, 0, 0), (45, .iload_n 1, 1, 0, 0, 0), (46, .iload_n 2, 1, 0, 0, 0), (47, .invokevirtual 139, 3, 147, 3, 0), (50, .istore 4, 2, 0, 0, 0), (52, .iload 4, 2, 0, 0, 0), (54, .ifCond .ge 15, 3, 0, 0, 0), (57, .aload_n 0, 1, 0, 0, 0), (58, .iload_n 3, 1, 0, 0, 0), (59, .iconst (-1), 1, 0, 0, 0), (60, .iload 4, 2, 0, 0, 0), (62, .isub, 1, 0, 0, 0), (63, .invokevirtual 240, 3, 197, 3, 0), (66, .goto 46, 3, 0, 0, 0), (69, .iconst 0, 1, 0, 0, 0), (70, .istore 5, 2, 0, 0, 0), (72, .iload 5, 2, 0, 0, 0), (74, .iload_n 3, 1, 0, 0, 0), (75, .invokestatic 71, 3, 137, 1, 0), (78, .if_icmp .ge 34, 3, 0, 0, 0), (81, .aload_n 0, 1, 0, 0, 0), (82, .getfield 56, 3, 10, 20, 0), (85, .iload_n 3, 1, 0, 0, 0), (86, .invokestatic 79, 3, 138, 1, 0), (89, .iload 5, 2, 0, 0, 0), (91, .iadd, 1, 0, 0, 0), (92, .aload_n 0, 1, 0, 0, 0), (93, .getfield 59, 3, 10, 21, 0), (96, .iload 4, 2, 0, 0, 0), (98, .invokestatic 79, 3, 138, 1, 0), (101, .iload 5, 2, 0, 0, 0), (103, .iadd, 1, 0, 0, 0), (104, .iaload, 1, 0, 0, 0), (105, .iastore, 1, 0, 0, 0), (106, .iinc 5 1, 3, 0, 0, 0), (109, .goto (-37), 3, 0, 0, 0), (112, .iinc 2 1, 3, 0, 0, 0), (115, .goto (-87), 3, 0, 0, 0), (118, .return_, 1, 0, 0, 0)]
/-- 200 EdgeMovesModel.run(III)J -/
def kc_200_0 : List ACe := [(0, .aload_n 0, 1, 0, 0, 0), (1, .iload_n 1, 1, 0, 0, 0), (2, .invokevirtual 130, 3, 144, 2, 0), (5, .ifCond .eq 22, 3, 0, 0, 0), (8, .iload_n 2, 1, 0, 0, 0), (9, .iconst 0, 1, 0, 0, 0), (10, .ldc 243, 2, 0, 0, 999999), (12, .invokestatic 90, 3, 136, 3, 0), (15, .ifCond .eq 12, 3, 0, 0, 0), (18, .iload_n 3, 1, 0, 0, 0), (19, .iconst 0, 1, 0, 0, 0), (20, .iconst 1, 1, 0, 0, 0), (21, .invokestatic 90, 3, 136, 3, 0), (24, .ifCond .ne 9, 3, 0, 0, 0), (27, .aload_n 0, 1, 0, 0, 0), (28, .invokevirtual 110, 3, 133, 1, 0), (31, .i2l, 1, 0, 0, 0), (32, .lreturn, 1, 0, 0, 0), (33, .aload_n 0, 1, 0, 0, 0), (34, .iload_n 1, 1, 0, 0, 0), (35, .invokevirtual 160, 3, 165, 2, 0), (38, .ifCond .ne 9, 3, 0, 0, 0), (41, .aload_n 0, 1, 0, 0, 0), (42, .invokevirtual 116, 3, 134, 1, 0), (45, .i2l, 1, 0, 0, 0), (46, .lreturn, 1, 0, 0, 0), (47, .iload_n 2, 1, 0, 0, 0), (48, .i2l, 1, 0, 0, 0), (49, .lstore 4, 2, 0, 0, 0), (51, .iconst 0, 1, 0, 0, 0), (52, .istore 6, 2, 0, 0, 0), (54, .iload 6, 2, 0, 0, 0), (56, .bipush 32, 2, 0, 0, 0), (58, .if_icmp .ge 34, 3, 0, 0, 0), (61, .lload 4, 2, 0, 0, 0), (63, .invokestatic 244, 3, 195, 1, 0), (66, .lstore 4, 2, 0, 0, 0), (68, .aload_n 0, 1, 0, 0, 0), (69, .getfield 56, 3, 10, 20, 0), (72, .iload 6, 2, 0, 0, 0), (74, .lload 4, 2, 0, 0, 0), (76, .ldc2_w 248, 3, 0, 0, 65536), (79, .ldiv, 1, 0, 0, 0), (80, .ldc2_w 250, 3, 0, 0, 256), (83, .lrem, 1, 0, 0, 0), (84, .l2i, 1, 0, 0, 0), (85, .iastore, 1, 0, 0, 0), (86, .iinc 6 1, 3, 0, 0, 0), (89, .goto (-35), 3, 0, 0, 0), (92, .iload_n 3, 1, 0, 0, 0), (93, .ifCond .ne 11, 3, 0, 0, 0), (96, .aload_n 0, 1, 0, 0, 0), (97, .iload_n 1, 1, 0, 0, 0), (98, .invokevirtual 252, 3, 199, 2, 0), (101, .goto 36, 3, 0, 0, 0), (104, .aload_n 0, 1, 0, 0, 0), (105, .iload_n 1, 1, 0, 0, 0), (106, .aload_n 0, 1, 0, 0, 0), (107, .getfield 142, 3, 10, 3, 0), (110, .invokevirtual 206, 3, 181, 3, 0)]
def kc_200_1 : List ACe := [(113, .iconst 0, 1, 0, 0, 0), (114, .istore 6, 2, 0, 0, 0), (116, .iload 6, 2, 0, 0, 0), (118, .aload_n 0, 1, 0, 0, 0), (119, .getfield 166, 3, 10, 10, 0), (122, .if_icmp .ge 15, 3, 0, 0, 0), (125, .aload_n 0, 1, 0, 0, 0), (126, .iload 6, 2, 0, 0, 0), (128, .invokevirtual 255, 3, 198, 2, 0), (131, .iinc 6 1, 3, 0, 0, 0), (134, .goto (-18), 3, 0, 0, 0), (137, .lconst 1, 1, 0, 0, 0), (138, .lstore 6, 2, 0, 0, 0), (140, .iconst 0, 1, 0, 0, 0), (141, .istore 8, 2, 0, 0, 0), (143, .iload 8, 2, 0, 0, 0), (145, .bipush 32, 2, 0, 0, 0), (147, .if_icmp .ge 26, 3, 0, 0, 0), (150, .ldc2_w 258, 3, 0, 0, 31), (153, .lload 6, 2, 0, 0, 0), (155, .lmul, 1, 0, 0, 0), (156, .aload_n 0, 1, 0, 0, 0), (157, .getfield 56, 3, 10, 20, 0), (160, .iload 8, 2, 0, 0, 0), (162, .iaload, 1, 0, 0, 0), (163, .i2l, 1, 0, 0, 0), (164, .ladd, 1, 0, 0, 0), (165, .lstore 6, 2, 0, 0, 0), (167, .iinc 8 1, 3, 0, 0, 0), (170, .goto (-27), 3, 0, 0, 0), (173, .lload 6, 2, 0, 0, 0), (175, .lreturn, 1, 0, 0, 0)]
def kc_200 : List ACe := kc_200_0 ++ (kc_200_1)
/-- 201 EdgeMovesModel.whole(I)I -/
def kc_201_0 : List ACe := [(0, .iload_n 1, 1, 0, 0, 0), (1, .iconst 0, 1, 0, 0, 0), (2, .iconst 3, 1, 0, 0, 0), (3, .invokestatic 90, 3, 136, 3, 0), (6, .ifCond .ne 8, 3, 0, 0, 0), (9, .aload_n 0, 1, 0, 0, 0), (10, .invokevirtual 110, 3, 133, 1, 0), (13, .ireturn, 1, 0, 0, 0), (14, .iconst 0, 1, 0, 0, 0), (15, .istore_n 2, 1, 0, 0, 0), (16, .iconst 0, 1, 0, 0, 0), (17, .istore_n 3, 1, 0, 0, 0), (18, .iload_n 3, 1, 0, 0, 0), (19, .aload_n 0, 1, 0, 0, 0), (20, .getfield 94, 3, 10, 2, 0), (23, .if_icmp .ge 132, 3, 0, 0, 0), (26, .aload_n 0, 1, 0, 0, 0), (27, .iload_n 3, 1, 0, 0, 0), (28, .invokevirtual 160, 3, 165, 2, 0), (31, .istore 4, 2, 0, 0, 0), (33, .iload 4, 2, 0, 0, 0), (35, .ifCond .eq 15, 3, 0, 0, 0), (38, .aload_n 0, 1, 0, 0, 0), (39, .iload_n 3, 1, 0, 0, 0), (40, .aload_n 0, 1, 0, 0, 0), (41, .getfield 142, 3, 10, 3, 0), (44, .invokevirtual 212, 3, 182, 3, 0), (47, .goto 4, 3, 0, 0, 0), (50, .iconst 0, 1, 0, 0, 0), (51, .istore 5, 2, 0, 0, 0), (53, .iload 4, 2, 0, 0, 0), (55, .ifCond .eq 23, 3, 0, 0, 0), (58, .aload_n 0, 1, 0, 0, 0), (59, .getfield 166, 3, 10, 10, 0), (62, .ifCond .le 16, 3, 0, 0, 0), (65, .aload_n 0, 1, 0, 0, 0), (66, .iload_n 3, 1, 0, 0, 0), (67, .invokevirtual 163, 3, 162, 2, 0), (70, .iconst 2, 1, 0, 0, 0), (71, .if_icmp .ne 7, 3, 0, 0, 0), (74, .iconst 1, 1, 0, 0, 0), (75, .goto 4, 3, 0, 0, 0), (78, .iconst 0, 1, 0, 0, 0), (79, .istore 6, 2, 0, 0, 0), (81, .iload_n 2, 1, 0, 0, 0), (82, .iload_n 1, 1, 0, 0, 0), (83, .ifCond .ne 15, 3, 0, 0, 0), (86, .iload 5, 2, 0, 0, 0), (88, .aload_n 0, 1, 0, 0, 0), (89, .getfield 25, 3, 10, 8, 0), (92, .iload_n 3, 1, 0, 0, 0), (93, .iaload, 1, 0, 0, 0), (94, .imul, 1, 0, 0, 0), (95, .goto 52, 3, 0, 0, 0), (98, .iload_n 1, 1, 0, 0, 0), (99, .iconst 1, 1, 0, 0, 0), (100, .if_icmp .ne 16, 3, 0, 0, 0), (103, .iload 6, 2, 0, 0, 0), (105, .ifCond .eq 7, 3, 0, 0, 0), (108, .iconst 1, 1, 0, 0, 0)]
def kc_201_1 : List ACe := [(109, .goto 38, 3, 0, 0, 0), (112, .iconst 0, 1, 0, 0, 0), (113, .goto 34, 3, 0, 0, 0), (116, .iload_n 1, 1, 0, 0, 0), (117, .iconst 2, 1, 0, 0, 0), (118, .if_icmp .ne 16, 3, 0, 0, 0), (121, .iload 4, 2, 0, 0, 0), (123, .ifCond .eq 7, 3, 0, 0, 0), (126, .iconst 0, 1, 0, 0, 0), (127, .goto 20, 3, 0, 0, 0), (130, .iconst 1, 1, 0, 0, 0), (131, .goto 16, 3, 0, 0, 0), (134, .iload 4, 2, 0, 0, 0), (136, .ifCond .eq 10, 3, 0, 0, 0), (139, .aload_n 0, 1, 0, 0, 0), (140, .getfield 166, 3, 10, 10, 0), (143, .goto 4, 3, 0, 0, 0), (146, .iconst 0, 1, 0, 0, 0), (147, .iadd, 1, 0, 0, 0), (148, .istore_n 2, 1, 0, 0, 0), (149, .iinc 3 1, 3, 0, 0, 0), (152, .goto (-134), 3, 0, 0, 0), (155, .iload_n 2, 1, 0, 0, 0), (156, .ireturn, 1, 0, 0, 0)]
def kc_201 : List ACe := kc_201_0 ++ (kc_201_1)
/-- 202 EdgeMovesModel.dearest()I -/
def kc_202 : List ACe := [(0, .sipush (-201), 3, 0, 0, 0), (3, .istore_n 1, 1, 0, 0, 0), (4, .iconst (-1), 1, 0, 0, 0), (5, .istore_n 2, 1, 0, 0, 0), (6, .iconst 0, 1, 0, 0, 0), (7, .istore_n 3, 1, 0, 0, 0), (8, .iload_n 3, 1, 0, 0, 0), (9, .aload_n 0, 1, 0, 0, 0), (10, .getfield 94, 3, 10, 2, 0), (13, .if_icmp .ge 64, 3, 0, 0, 0), (16, .aload_n 0, 1, 0, 0, 0), (17, .iload_n 3, 1, 0, 0, 0), (18, .invokevirtual 160, 3, 165, 2, 0), (21, .ifCond .eq 22, 3, 0, 0, 0), (24, .aload_n 0, 1, 0, 0, 0), (25, .iload_n 3, 1, 0, 0, 0), (26, .aload_n 0, 1, 0, 0, 0), (27, .getfield 142, 3, 10, 3, 0), (30, .invokevirtual 212, 3, 182, 3, 0), (33, .aload_n 0, 1, 0, 0, 0), (34, .getfield 25, 3, 10, 8, 0), (37, .iload_n 3, 1, 0, 0, 0), (38, .iaload, 1, 0, 0, 0), (39, .imul, 1, 0, 0, 0), (40, .goto 4, 3, 0, 0, 0), (43, .iconst (-1), 1, 0, 0, 0), (44, .istore 4, 2, 0, 0, 0), (46, .iload 4, 2, 0, 0, 0), (48, .iload_n 2, 1, 0, 0, 0), (49, .if_icmp .le 7, 3, 0, 0, 0), (52, .iload_n 3, 1, 0, 0, 0), (53, .goto 4, 3, 0, 0, 0), (56, .iload_n 1, 1, 0, 0, 0), (57, .istore_n 1, 1, 0, 0, 0), (58, .iload 4, 2, 0, 0, 0), (60, .iload_n 2, 1, 0, 0, 0), (61, .if_icmp .le 8, 3, 0, 0, 0), (64, .iload 4, 2, 0, 0, 0), (66, .goto 4, 3, 0, 0, 0), (69, .iload_n 2, 1, 0, 0, 0), (70, .istore_n 2, 1, 0, 0, 0), (71, .iinc 3 1, 3, 0, 0, 0), (74, .goto (-66), 3, 0, 0, 0), (77, .iload_n 1, 1, 0, 0, 0), (78, .ireturn, 1, 0, 0, 0)]
/-- 203 EdgeMovesModel.reach(II)I -/
def kc_203_0 : List ACe := [(0, .aload_n 0, 1, 0, 0, 0), (1, .iload_n 1, 1, 0, 0, 0), (2, .invokevirtual 104, 3, 143, 2, 0), (5, .ifCond .eq 11, 3, 0, 0, 0), (8, .aload_n 0, 1, 0, 0, 0), (9, .iload_n 2, 1, 0, 0, 0), (10, .invokevirtual 104, 3, 143, 2, 0), (13, .ifCond .ne 8, 3, 0, 0, 0), (16, .aload_n 0, 1, 0, 0, 0), (17, .invokevirtual 110, 3, 133, 1, 0), (20, .ireturn, 1, 0, 0, 0), (21, .iconst 0, 1, 0, 0, 0), (22, .istore_n 3, 1, 0, 0, 0), (23, .iload_n 3, 1, 0, 0, 0), (24, .aload_n 0, 1, 0, 0, 0), (25, .getfield 86, 3, 10, 1, 0), (28, .if_icmp .ge 26, 3, 0, 0, 0), (31, .aload_n 0, 1, 0, 0, 0), (32, .getfield 62, 3, 10, 22, 0), (35, .iload_n 3, 1, 0, 0, 0), (36, .iload_n 3, 1, 0, 0, 0), (37, .iload_n 1, 1, 0, 0, 0), (38, .if_icmp .ne 7, 3, 0, 0, 0), (41, .iconst 0, 1, 0, 0, 0), (42, .goto 5, 3, 0, 0, 0), (45, .ldc 221, 2, 0, 0, 1048576), (47, .iastore, 1, 0, 0, 0), (48, .iinc 3 1, 3, 0, 0, 0), (51, .goto (-28), 3, 0, 0, 0), (54, .iconst 0, 1, 0, 0, 0), (55, .istore_n 3, 1, 0, 0, 0), (56, .iload_n 3, 1, 0, 0, 0), (57, .aload_n 0, 1, 0, 0, 0), (58, .getfield 86, 3, 10, 1, 0), (61, .if_icmp .ge 89, 3, 0, 0, 0), (64, .iconst 0, 1, 0, 0, 0), (65, .istore 4, 2, 0, 0, 0), (67, .iload 4, 2, 0, 0, 0), (69, .aload_n 0, 1, 0, 0, 0), (70, .getfield 94, 3, 10, 2, 0), (73, .if_icmp .ge 71, 3, 0, 0, 0), (76, .aload_n 0, 1, 0, 0, 0), (77, .getfield 62, 3, 10, 22, 0), (80, .aload_n 0, 1, 0, 0, 0), (81, .getfield 19, 3, 10, 6, 0), (84, .iload 4, 2, 0, 0, 0), (86, .iaload, 1, 0, 0, 0), (87, .iaload, 1, 0, 0, 0), (88, .iconst 1, 1, 0, 0, 0), (89, .iadd, 1, 0, 0, 0), (90, .istore 5, 2, 0, 0, 0), (92, .aload_n 0, 1, 0, 0, 0), (93, .getfield 62, 3, 10, 22, 0), (96, .aload_n 0, 1, 0, 0, 0), (97, .getfield 22, 3, 10, 7, 0), (100, .iload 4, 2, 0, 0, 0), (102, .iaload, 1, 0, 0, 0), (103, .iload 5, 2, 0, 0, 0), (105, .aload_n 0, 1, 0, 0, 0), (106, .getfield 62, 3, 10, 22, 0)]
def kc_203_1 : List ACe := [(109, .aload_n 0, 1, 0, 0, 0), (110, .getfield 22, 3, 10, 7, 0), (113, .iload 4, 2, 0, 0, 0), (115, .iaload, 1, 0, 0, 0), (116, .iaload, 1, 0, 0, 0), (117, .if_icmp .ge 8, 3, 0, 0, 0), (120, .iload 5, 2, 0, 0, 0), (122, .goto 15, 3, 0, 0, 0), (125, .aload_n 0, 1, 0, 0, 0), (126, .getfield 62, 3, 10, 22, 0), (129, .aload_n 0, 1, 0, 0, 0), (130, .getfield 22, 3, 10, 7, 0), (133, .iload 4, 2, 0, 0, 0), (135, .iaload, 1, 0, 0, 0), (136, .iaload, 1, 0, 0, 0), (137, .iastore, 1, 0, 0, 0), (138, .iinc 4 1, 3, 0, 0, 0), (141, .goto (-74), 3, 0, 0, 0), (144, .iinc 3 1, 3, 0, 0, 0), (147, .goto (-91), 3, 0, 0, 0), (150, .aload_n 0, 1, 0, 0, 0), (151, .getfield 62, 3, 10, 22, 0), (154, .iload_n 2, 1, 0, 0, 0), (155, .iaload, 1, 0, 0, 0), (156, .ldc 221, 2, 0, 0, 1048576), (158, .if_icmp .lt 9, 3, 0, 0, 0), (161, .sipush (-201), 3, 0, 0, 0), (164, .goto 9, 3, 0, 0, 0), (167, .aload_n 0, 1, 0, 0, 0), (168, .getfield 62, 3, 10, 22, 0), (171, .iload_n 2, 1, 0, 0, 0), (172, .iaload, 1, 0, 0, 0), (173, .ireturn, 1, 0, 0, 0)]
def kc_203 : List ACe := kc_203_0 ++ (kc_203_1)
/-- 204 EdgeMovesModel.draw(III)I -/
def kc_204_0 : List ACe := [(0, .iload_n 1, 1, 0, 0, 0), (1, .iconst 0, 1, 0, 0, 0), (2, .ldc 243, 2, 0, 0, 999999), (4, .invokestatic 90, 3, 136, 3, 0), (7, .ifCond .eq 23, 3, 0, 0, 0), (10, .iload_n 2, 1, 0, 0, 0), (11, .iconst 0, 1, 0, 0, 0), (12, .bipush 6, 2, 0, 0, 0), (14, .invokestatic 90, 3, 136, 3, 0), (17, .ifCond .eq 13, 3, 0, 0, 0), (20, .iload_n 3, 1, 0, 0, 0), (21, .iconst 0, 1, 0, 0, 0), (22, .bipush 16, 2, 0, 0, 0), (24, .invokestatic 90, 3, 136, 3, 0), (27, .ifCond .ne 8, 3, 0, 0, 0), (30, .aload_n 0, 1, 0, 0, 0), (31, .invokevirtual 110, 3, 133, 1, 0), (34, .ireturn, 1, 0, 0, 0), (35, .aload_n 0, 1, 0, 0, 0), (36, .iconst 0, 1, 0, 0, 0), (37, .putfield 86, 3, 10, 1, 0), (40, .aload_n 0, 1, 0, 0, 0), (41, .iconst 0, 1, 0, 0, 0), (42, .putfield 94, 3, 10, 2, 0), (45, .iload_n 1, 1, 0, 0, 0), (46, .i2l, 1, 0, 0, 0), (47, .lstore 4, 2, 0, 0, 0), (49, .iconst 0, 1, 0, 0, 0), (50, .istore 6, 2, 0, 0, 0), (52, .iload 6, 2, 0, 0, 0), (54, .bipush 8, 2, 0, 0, 0), (56, .if_icmp .ge 82, 3, 0, 0, 0), (59, .aload_n 0, 1, 0, 0, 0), (60, .invokevirtual 101, 3, 149, 1, 0), (63, .pop, 1, 0, 0, 0), (64, .iconst 0, 1, 0, 0, 0), (65, .istore 7, 2, 0, 0, 0), (67, .iload 7, 2, 0, 0, 0), (69, .iload_n 2, 1, 0, 0, 0), (70, .if_icmp .ge 62, 3, 0, 0, 0), (73, .lload 4, 2, 0, 0, 0), (75, .invokestatic 244, 3, 195, 1, 0), (78, .lstore 4, 2, 0, 0, 0), (80, .lload 4, 2, 0, 0, 0), (82, .ldc2_w 248, 3, 0, 0, 65536), (85, .ldiv, 1, 0, 0, 0), (86, .ldc2_w 260, 3, 0, 0, 3), (89, .lrem, 1, 0, 0, 0), (90, .l2i, 1, 0, 0, 0), (91, .istore 8, 2, 0, 0, 0), (93, .aload_n 0, 1, 0, 0, 0), (94, .iload 6, 2, 0, 0, 0), (96, .bipush 40, 2, 0, 0, 0), (98, .iload 7, 2, 0, 0, 0), (100, .imul, 1, 0, 0, 0), (101, .iload 8, 2, 0, 0, 0), (103, .ifCond .ne 7, 3, 0, 0, 0), (106, .iconst 4, 1, 0, 0, 0), (107, .goto 14, 3, 0, 0, 0), (110, .iload 8, 2, 0, 0, 0)]
def kc_204_1 : List ACe := [(112, .iconst 1, 1, 0, 0, 0), (113, .if_icmp .ne 7, 3, 0, 0, 0), (116, .iconst 2, 1, 0, 0, 0), (117, .goto 4, 3, 0, 0, 0), (120, .iconst 1, 1, 0, 0, 0), (121, .iadd, 1, 0, 0, 0), (122, .invokevirtual 119, 3, 152, 3, 0), (125, .pop, 1, 0, 0, 0), (126, .iinc 7 1, 3, 0, 0, 0), (129, .goto (-62), 3, 0, 0, 0), (132, .iinc 6 1, 3, 0, 0, 0), (135, .goto (-83), 3, 0, 0, 0), (138, .iconst 0, 1, 0, 0, 0), (139, .istore 6, 2, 0, 0, 0), (141, .iload 6, 2, 0, 0, 0), (143, .iload_n 3, 1, 0, 0, 0), (144, .if_icmp .ge 169, 3, 0, 0, 0), (147, .lload 4, 2, 0, 0, 0), (149, .invokestatic 244, 3, 195, 1, 0), (152, .lstore 4, 2, 0, 0, 0), (154, .lload 4, 2, 0, 0, 0), (156, .ldc2_w 248, 3, 0, 0, 65536), (159, .ldiv, 1, 0, 0, 0), (160, .ldc2_w 262, 3, 0, 0, 8), (163, .lrem, 1, 0, 0, 0), (164, .l2i, 1, 0, 0, 0), (165, .istore 7, 2, 0, 0, 0), (167, .lload 4, 2, 0, 0, 0), (169, .invokestatic 244, 3, 195, 1, 0), (172, .lstore 4, 2, 0, 0, 0), (174, .lload 4, 2, 0, 0, 0), (176, .ldc2_w 248, 3, 0, 0, 65536), (179, .ldiv, 1, 0, 0, 0), (180, .ldc2_w 262, 3, 0, 0, 8), (183, .lrem, 1, 0, 0, 0), (184, .l2i, 1, 0, 0, 0), (185, .istore 8, 2, 0, 0, 0), (187, .lload 4, 2, 0, 0, 0), (189, .invokestatic 244, 3, 195, 1, 0), (192, .lstore 4, 2, 0, 0, 0), (194, .aload_n 0, 1, 0, 0, 0), (195, .iload 7, 2, 0, 0, 0), (197, .iload 8, 2, 0, 0, 0), (199, .lload 4, 2, 0, 0, 0), (201, .ldc2_w 248, 3, 0, 0, 65536), (204, .ldiv, 1, 0, 0, 0), (205, .ldc2_w 264, 3, 0, 0, 100), (208, .lrem, 1, 0, 0, 0), (209, .l2i, 1, 0, 0, 0), (210, .invokevirtual 123, 3, 154, 4, 0), (213, .istore 9, 2, 0, 0, 0), (215, .iconst 0, 1, 0, 0, 0), (216, .istore 10, 2, 0, 0, 0), (218, .iload 10, 2, 0, 0, 0), (220, .iload_n 2, 1, 0, 0, 0), (221, .if_icmp .ge 86, 3, 0, 0, 0), (224, .lload 4, 2, 0, 0, 0), (226, .invokestatic 244, 3, 195, 1, 0), (229, .lstore 4, 2, 0, 0, 0), (231, .lload 4, 2, 0, 0, 0)]
def kc_204_2 : List ACe := [(233, .ldc2_w 248, 3, 0, 0, 65536), (236, .ldiv, 1, 0, 0, 0), (237, .ldc2_w 262, 3, 0, 0, 8), (240, .lrem, 1, 0, 0, 0), (241, .l2i, 1, 0, 0, 0), (242, .istore 11, 2, 0, 0, 0), (244, .lload 4, 2, 0, 0, 0), (246, .ldc2_w 266, 3, 0, 0, 1024), (249, .ldiv, 1, 0, 0, 0), (250, .ldc2_w 264, 3, 0, 0, 100), (253, .lrem, 1, 0, 0, 0), (254, .l2i, 1, 0, 0, 0), (255, .istore 12, 2, 0, 0, 0), (257, .aload_n 0, 1, 0, 0, 0), (258, .getfield 28, 3, 10, 9, 0), (261, .bipush 6, 2, 0, 0, 0), (263, .iload 9, 2, 0, 0, 0), (265, .imul, 1, 0, 0, 0), (266, .iload 10, 2, 0, 0, 0), (268, .iadd, 1, 0, 0, 0), (269, .iload 11, 2, 0, 0, 0), (271, .bipush 7, 2, 0, 0, 0), (273, .if_icmp .ne 10, 3, 0, 0, 0), (276, .iconst (-1), 1, 0, 0, 0), (277, .iload 12, 2, 0, 0, 0), (279, .isub, 1, 0, 0, 0), (280, .goto 20, 3, 0, 0, 0), (283, .bipush 40, 2, 0, 0, 0), (285, .iload 11, 2, 0, 0, 0), (287, .imul, 1, 0, 0, 0), (288, .aload_n 0, 1, 0, 0, 0), (289, .iload 9, 2, 0, 0, 0), (291, .iload 10, 2, 0, 0, 0), (293, .invokevirtual 127, 3, 145, 3, 0), (296, .invokestatic 71, 3, 137, 1, 0), (299, .iadd, 1, 0, 0, 0), (300, .iastore, 1, 0, 0, 0), (301, .iinc 10 1, 3, 0, 0, 0), (304, .goto (-86), 3, 0, 0, 0), (307, .iinc 6 1, 3, 0, 0, 0), (310, .goto (-169), 3, 0, 0, 0), (313, .iload_n 3, 1, 0, 0, 0), (314, .ireturn, 1, 0, 0, 0)]
def kc_204 : List ACe := kc_204_0 ++ (kc_204_1 ++ (kc_204_2))
/-- 205 EdgeMovesModel.tells(I)I -/
def kc_205 : List ACe := [(0, .iload_n 1, 1, 0, 0, 0), (1, .iconst 3, 1, 0, 0, 0), (2, .if_icmp .ge 12, 3, 0, 0, 0), (5, .aload_n 0, 1, 0, 0, 0), (6, .getfield 7, 3, 10, 0, 0), (9, .iload_n 1, 1, 0, 0, 0), (10, .iaload, 1, 0, 0, 0), (11, .goto 43, 3, 0, 0, 0), (14, .iload_n 1, 1, 0, 0, 0), (15, .iconst 3, 1, 0, 0, 0), (16, .if_icmp .ne 10, 3, 0, 0, 0), (19, .aload_n 0, 1, 0, 0, 0), (20, .getfield 268, 3, 10, 24, 0), (23, .goto 31, 3, 0, 0, 0), (26, .iload_n 1, 1, 0, 0, 0), (27, .iconst 4, 1, 0, 0, 0), (28, .if_icmp .ne 10, 3, 0, 0, 0), (31, .aload_n 0, 1, 0, 0, 0), (32, .getfield 86, 3, 10, 1, 0), (35, .goto 19, 3, 0, 0, 0), (38, .iload_n 1, 1, 0, 0, 0), (39, .iconst 5, 1, 0, 0, 0), (40, .if_icmp .ne 10, 3, 0, 0, 0), (43, .aload_n 0, 1, 0, 0, 0), (44, .getfield 94, 3, 10, 2, 0), (47, .goto 7, 3, 0, 0, 0), (50, .aload_n 0, 1, 0, 0, 0), (51, .getfield 142, 3, 10, 3, 0), (54, .ireturn, 1, 0, 0, 0)]
/-- 206 EdgeMovesModel.told(I)I -/
def kc_206 : List ACe := [(0, .iload_n 1, 1, 0, 0, 0), (1, .iconst 0, 1, 0, 0, 0), (2, .bipush 6, 2, 0, 0, 0), (4, .invokestatic 90, 3, 136, 3, 0), (7, .ifCond .eq 11, 3, 0, 0, 0), (10, .aload_n 0, 1, 0, 0, 0), (11, .iload_n 1, 1, 0, 0, 0), (12, .invokevirtual 271, 3, 205, 2, 0), (15, .goto 7, 3, 0, 0, 0), (18, .aload_n 0, 1, 0, 0, 0), (19, .invokevirtual 110, 3, 133, 1, 0), (22, .ireturn, 1, 0, 0, 0)]
/-- 207 EdgeMovesModel.digest()J -/
def kc_207_0 : List ACe := [(0, .ldc2_w 274, 3, 0, 0, 1913), (3, .lstore_n 1, 1, 0, 0, 0), (4, .iconst 0, 1, 0, 0, 0), (5, .istore_n 3, 1, 0, 0, 0), (6, .iload_n 3, 1, 0, 0, 0), (7, .bipush 7, 2, 0, 0, 0), (9, .if_icmp .ge 22, 3, 0, 0, 0), (12, .ldc2_w 258, 3, 0, 0, 31), (15, .lload_n 1, 1, 0, 0, 0), (16, .lmul, 1, 0, 0, 0), (17, .aload_n 0, 1, 0, 0, 0), (18, .iload_n 3, 1, 0, 0, 0), (19, .invokevirtual 271, 3, 205, 2, 0), (22, .i2l, 1, 0, 0, 0), (23, .ladd, 1, 0, 0, 0), (24, .lstore_n 1, 1, 0, 0, 0), (25, .iinc 3 1, 3, 0, 0, 0), (28, .goto (-22), 3, 0, 0, 0), (31, .iconst 0, 1, 0, 0, 0), (32, .istore_n 3, 1, 0, 0, 0), (33, .iload_n 3, 1, 0, 0, 0), (34, .aload_n 0, 1, 0, 0, 0), (35, .getfield 86, 3, 10, 1, 0), (38, .if_icmp .ge 63, 3, 0, 0, 0), (41, .ldc2_w 258, 3, 0, 0, 31), (44, .lload_n 1, 1, 0, 0, 0), (45, .lmul, 1, 0, 0, 0), (46, .aload_n 0, 1, 0, 0, 0), (47, .getfield 13, 3, 10, 4, 0), (50, .iload_n 3, 1, 0, 0, 0), (51, .iaload, 1, 0, 0, 0), (52, .i2l, 1, 0, 0, 0), (53, .ladd, 1, 0, 0, 0), (54, .lstore_n 1, 1, 0, 0, 0), (55, .iconst 0, 1, 0, 0, 0), (56, .istore 4, 2, 0, 0, 0), (58, .iload 4, 2, 0, 0, 0), (60, .aload_n 0, 1, 0, 0, 0), (61, .getfield 13, 3, 10, 4, 0), (64, .iload_n 3, 1, 0, 0, 0), (65, .iaload, 1, 0, 0, 0), (66, .if_icmp .ge 29, 3, 0, 0, 0), (69, .ldc2_w 258, 3, 0, 0, 31), (72, .lload_n 1, 1, 0, 0, 0), (73, .lmul, 1, 0, 0, 0), (74, .aload_n 0, 1, 0, 0, 0), (75, .getfield 16, 3, 10, 5, 0), (78, .bipush 6, 2, 0, 0, 0), (80, .iload_n 3, 1, 0, 0, 0), (81, .imul, 1, 0, 0, 0), (82, .iload 4, 2, 0, 0, 0), (84, .iadd, 1, 0, 0, 0), (85, .iaload, 1, 0, 0, 0), (86, .i2l, 1, 0, 0, 0), (87, .ladd, 1, 0, 0, 0), (88, .lstore_n 1, 1, 0, 0, 0), (89, .iinc 4 1, 3, 0, 0, 0), (92, .goto (-34), 3, 0, 0, 0), (95, .iinc 3 1, 3, 0, 0, 0), (98, .goto (-65), 3, 0, 0, 0)]
def kc_207_1 : List ACe := [(101, .iconst 0, 1, 0, 0, 0), (102, .istore_n 3, 1, 0, 0, 0), (103, .iload_n 3, 1, 0, 0, 0), (104, .aload_n 0, 1, 0, 0, 0), (105, .getfield 94, 3, 10, 2, 0), (108, .if_icmp .ge 85, 3, 0, 0, 0), (111, .ldc2_w 258, 3, 0, 0, 31), (114, .lload_n 1, 1, 0, 0, 0), (115, .lmul, 1, 0, 0, 0), (116, .aload_n 0, 1, 0, 0, 0), (117, .getfield 19, 3, 10, 6, 0), (120, .iload_n 3, 1, 0, 0, 0), (121, .iaload, 1, 0, 0, 0), (122, .i2l, 1, 0, 0, 0), (123, .ladd, 1, 0, 0, 0), (124, .lstore_n 1, 1, 0, 0, 0), (125, .ldc2_w 258, 3, 0, 0, 31), (128, .lload_n 1, 1, 0, 0, 0), (129, .lmul, 1, 0, 0, 0), (130, .aload_n 0, 1, 0, 0, 0), (131, .getfield 22, 3, 10, 7, 0), (134, .iload_n 3, 1, 0, 0, 0), (135, .iaload, 1, 0, 0, 0), (136, .i2l, 1, 0, 0, 0), (137, .ladd, 1, 0, 0, 0), (138, .lstore_n 1, 1, 0, 0, 0), (139, .ldc2_w 258, 3, 0, 0, 31), (142, .lload_n 1, 1, 0, 0, 0), (143, .lmul, 1, 0, 0, 0), (144, .aload_n 0, 1, 0, 0, 0), (145, .getfield 25, 3, 10, 8, 0), (148, .iload_n 3, 1, 0, 0, 0), (149, .iaload, 1, 0, 0, 0), (150, .i2l, 1, 0, 0, 0), (151, .ladd, 1, 0, 0, 0), (152, .lstore_n 1, 1, 0, 0, 0), (153, .iconst 0, 1, 0, 0, 0), (154, .istore 4, 2, 0, 0, 0), (156, .iload 4, 2, 0, 0, 0), (158, .aload_n 0, 1, 0, 0, 0), (159, .iload_n 3, 1, 0, 0, 0), (160, .invokevirtual 133, 3, 146, 2, 0), (163, .if_icmp .ge 24, 3, 0, 0, 0), (166, .ldc2_w 258, 3, 0, 0, 31), (169, .lload_n 1, 1, 0, 0, 0), (170, .lmul, 1, 0, 0, 0), (171, .aload_n 0, 1, 0, 0, 0), (172, .iload_n 3, 1, 0, 0, 0), (173, .iload 4, 2, 0, 0, 0), (175, .invokevirtual 139, 3, 147, 3, 0), (178, .i2l, 1, 0, 0, 0), (179, .ladd, 1, 0, 0, 0), (180, .lstore_n 1, 1, 0, 0, 0), (181, .iinc 4 1, 3, 0, 0, 0), (184, .goto (-28), 3, 0, 0, 0), (187, .iinc 3 1, 3, 0, 0, 0), (190, .goto (-87), 3, 0, 0, 0), (193, .lload_n 1, 1, 0, 0, 0), (194, .lreturn, 1, 0, 0, 0)]
def kc_207 : List ACe := kc_207_0 ++ (kc_207_1)
/-- 208 EdgeMovesModel.type(I)I -/
def kc_208 : List ACe := [(0, .iload_n 1, 1, 0, 0, 0), (1, .iconst 0, 1, 0, 0, 0), (2, .bipush 127, 2, 0, 0, 0), (4, .invokestatic 90, 3, 136, 3, 0), (7, .ifCond .ne 8, 3, 0, 0, 0), (10, .aload_n 0, 1, 0, 0, 0), (11, .invokevirtual 110, 3, 133, 1, 0), (14, .ireturn, 1, 0, 0, 0), (15, .aload_n 0, 1, 0, 0, 0), (16, .getfield 268, 3, 10, 24, 0), (19, .bipush 120, 2, 0, 0, 0), (21, .if_icmp .ne 8, 3, 0, 0, 0), (24, .aload_n 0, 1, 0, 0, 0), (25, .invokevirtual 97, 3, 135, 1, 0), (28, .ireturn, 1, 0, 0, 0), (29, .aload_n 0, 1, 0, 0, 0), (30, .getfield 65, 3, 10, 23, 0), (33, .aload_n 0, 1, 0, 0, 0), (34, .getfield 268, 3, 10, 24, 0), (37, .iload_n 1, 1, 0, 0, 0), (38, .iastore, 1, 0, 0, 0), (39, .aload_n 0, 1, 0, 0, 0), (40, .dup, 1, 0, 0, 0), (41, .getfield 268, 3, 10, 24, 0), (44, .iconst 1, 1, 0, 0, 0), (45, .iadd, 1, 0, 0, 0), (46, .putfield 268, 3, 10, 24, 0), (49, .aload_n 0, 1, 0, 0, 0), (50, .getfield 268, 3, 10, 24, 0), (53, .ireturn, 1, 0, 0, 0)]
/-- 209 EdgeMovesModel.clear()I -/
def kc_209 : List ACe := [(0, .aload_n 0, 1, 0, 0, 0), (1, .getfield 268, 3, 10, 24, 0), (4, .istore_n 1, 1, 0, 0, 0), (5, .aload_n 0, 1, 0, 0, 0), (6, .iconst 0, 1, 0, 0, 0), (7, .putfield 268, 3, 10, 24, 0), (10, .iload_n 1, 1, 0, 0, 0), (11, .ireturn, 1, 0, 0, 0)]
/-- 210 EdgeMovesModel.here()I -/
def kc_210 : List ACe := [(0, .aload_n 0, 1, 0, 0, 0), (1, .getfield 276, 3, 10, 25, 0), (4, .aload_n 0, 1, 0, 0, 0), (5, .getfield 268, 3, 10, 24, 0), (8, .if_icmp .ge 15, 3, 0, 0, 0), (11, .aload_n 0, 1, 0, 0, 0), (12, .getfield 65, 3, 10, 23, 0), (15, .aload_n 0, 1, 0, 0, 0), (16, .getfield 276, 3, 10, 25, 0), (19, .iaload, 1, 0, 0, 0), (20, .goto 6, 3, 0, 0, 0), (23, .sipush (-201), 3, 0, 0, 0), (26, .ireturn, 1, 0, 0, 0)]
/-- 211 EdgeMovesModel.skip()V -/
def kc_211 : List ACe := [(0, .aload_n 0, 1, 0, 0, 0), (1, .invokevirtual 279, 3, 210, 1, 0), (4, .bipush 32, 2, 0, 0, 0), (6, .if_icmp .ne 16, 3, 0, 0, 0), (9, .aload_n 0, 1, 0, 0, 0), (10, .dup, 1, 0, 0, 0), (11, .getfield 276, 3, 10, 25, 0), (14, .iconst 1, 1, 0, 0, 0), (15, .iadd, 1, 0, 0, 0), (16, .putfield 276, 3, 10, 25, 0), (19, .goto (-19), 3, 0, 0, 0), (22, .return_, 1, 0, 0, 0)]
/-- 212 EdgeMovesModel.isFigure(I)Z -/
def kc_212 : List ACe := [(0, .iload_n 0, 1, 0, 0, 0), (1, .bipush 48, 2, 0, 0, 0), (3, .bipush 57, 2, 0, 0, 0), (5, .invokestatic 90, 3, 136, 3, 0), (8, .ireturn, 1, 0, 0, 0)]
/-- 213 EdgeMovesModel.figures(I)I -/
def kc_213 : List ACe := [(0, .iconst 0, 1, 0, 0, 0), (1, .istore_n 2, 1, 0, 0, 0), (2, .iload_n 1, 1, 0, 0, 0), (3, .iload_n 2, 1, 0, 0, 0), (4, .iadd, 1, 0, 0, 0), (5, .aload_n 0, 1, 0, 0, 0), (6, .getfield 268, 3, 10, 24, 0), (9, .if_icmp .ge 23, 3, 0, 0, 0), (12, .aload_n 0, 1, 0, 0, 0), (13, .getfield 65, 3, 10, 23, 0), (16, .iload_n 1, 1, 0, 0, 0), (17, .iload_n 2, 1, 0, 0, 0), (18, .iadd, 1, 0, 0, 0), (19, .iaload, 1, 0, 0, 0), (20, .invokestatic 282, 3, 212, 1, 0), (23, .ifCond .eq 9, 3, 0, 0, 0), (26, .iinc 2 1, 3, 0, 0, 0), (29, .goto (-27), 3, 0, 0, 0), (32, .iload_n 2, 1, 0, 0, 0), (33, .ireturn, 1, 0, 0, 0)]
/-- 214 EdgeMovesModel.number(II)Z -/
def kc_214 : List ACe := [(0, .aload_n 0, 1, 0, 0, 0), (1, .invokevirtual 285, 3, 211, 1, 0), (4, .aload_n 0, 1, 0, 0, 0), (5, .aload_n 0, 1, 0, 0, 0), (6, .getfield 276, 3, 10, 25, 0), (9, .invokevirtual 288, 3, 213, 2, 0), (12, .istore_n 3, 1, 0, 0, 0), (13, .iconst 0, 1, 0, 0, 0), (14, .istore 4, 2, 0, 0, 0), (16, .iconst 0, 1, 0, 0, 0), (17, .istore 5, 2, 0, 0, 0), (19, .iload 5, 2, 0, 0, 0), (21, .iload_n 3, 1, 0, 0, 0), (22, .if_icmp .ge 38, 3, 0, 0, 0), (25, .iload 5, 2, 0, 0, 0), (27, .iconst 3, 1, 0, 0, 0), (28, .if_icmp .ge 32, 3, 0, 0, 0), (31, .bipush 10, 2, 0, 0, 0), (33, .iload 4, 2, 0, 0, 0), (35, .imul, 1, 0, 0, 0), (36, .aload_n 0, 1, 0, 0, 0), (37, .getfield 65, 3, 10, 23, 0), (40, .aload_n 0, 1, 0, 0, 0), (41, .getfield 276, 3, 10, 25, 0), (44, .iload 5, 2, 0, 0, 0), (46, .iadd, 1, 0, 0, 0), (47, .iaload, 1, 0, 0, 0), (48, .iadd, 1, 0, 0, 0), (49, .bipush 48, 2, 0, 0, 0), (51, .isub, 1, 0, 0, 0), (52, .istore 4, 2, 0, 0, 0), (54, .iinc 5 1, 3, 0, 0, 0), (57, .goto (-38), 3, 0, 0, 0), (60, .iload_n 3, 1, 0, 0, 0), (61, .iconst 1, 1, 0, 0, 0), (62, .iconst 3, 1, 0, 0, 0), (63, .invokestatic 90, 3, 136, 3, 0), (66, .ifCond .eq 13, 3, 0, 0, 0), (69, .iload 4, 2, 0, 0, 0), (71, .iload_n 1, 1, 0, 0, 0), (72, .iload_n 2, 1, 0, 0, 0), (73, .invokestatic 90, 3, 136, 3, 0), (76, .ifCond .ne 5, 3, 0, 0, 0), (79, .iconst 0, 1, 0, 0, 0), (80, .ireturn, 1, 0, 0, 0), (81, .aload_n 0, 1, 0, 0, 0), (82, .iload 4, 2, 0, 0, 0), (84, .putfield 291, 3, 10, 26, 0), (87, .aload_n 0, 1, 0, 0, 0), (88, .dup, 1, 0, 0, 0), (89, .getfield 276, 3, 10, 25, 0), (92, .iload_n 3, 1, 0, 0, 0), (93, .iadd, 1, 0, 0, 0), (94, .putfield 276, 3, 10, 25, 0), (97, .iconst 1, 1, 0, 0, 0), (98, .ireturn, 1, 0, 0, 0)]
/-- 215 EdgeMovesModel.ends()Z -/
def kc_215 : List ACe := [(0, .aload_n 0, 1, 0, 0, 0), (1, .invokevirtual 285, 3, 211, 1, 0), (4, .aload_n 0, 1, 0, 0, 0), (5, .invokevirtual 279, 3, 210, 1, 0), (8, .bipush 59, 2, 0, 0, 0), (10, .if_icmp .eq 5, 3, 0, 0, 0), (13, .iconst 0, 1, 0, 0, 0), (14, .ireturn, 1, 0, 0, 0), (15, .aload_n 0, 1, 0, 0, 0), (16, .dup, 1, 0, 0, 0), (17, .getfield 276, 3, 10, 25, 0), (20, .iconst 1, 1, 0, 0, 0), (21, .iadd, 1, 0, 0, 0), (22, .putfield 276, 3, 10, 25, 0), (25, .iconst 1, 1, 0, 0, 0), (26, .ireturn, 1, 0, 0, 0)]
/-- 216 EdgeMovesModel.readsBlock()Z -/
def kc_216 : List ACe := [(0, .aload_n 0, 1, 0, 0, 0), (1, .getfield 86, 3, 10, 1, 0), (4, .bipush 10, 2, 0, 0, 0), (6, .if_icmp .ne 5, 3, 0, 0, 0), (9, .iconst 0, 1, 0, 0, 0), (10, .ireturn, 1, 0, 0, 0), (11, .aload_n 0, 1, 0, 0, 0), (12, .dup, 1, 0, 0, 0), (13, .getfield 276, 3, 10, 25, 0), (16, .iconst 1, 1, 0, 0, 0), (17, .iadd, 1, 0, 0, 0), (18, .putfield 276, 3, 10, 25, 0), (21, .aload_n 0, 1, 0, 0, 0), (22, .invokevirtual 101, 3, 149, 1, 0), (25, .istore_n 1, 1, 0, 0, 0), (26, .aload_n 0, 1, 0, 0, 0), (27, .invokevirtual 285, 3, 211, 1, 0), (30, .aload_n 0, 1, 0, 0, 0), (31, .invokevirtual 279, 3, 210, 1, 0), (34, .invokestatic 282, 3, 212, 1, 0), (37, .ifCond .eq 78, 3, 0, 0, 0), (40, .aload_n 0, 1, 0, 0, 0), (41, .getfield 276, 3, 10, 25, 0), (44, .istore_n 2, 1, 0, 0, 0), (45, .aload_n 0, 1, 0, 0, 0), (46, .getfield 13, 3, 10, 4, 0), (49, .iload_n 1, 1, 0, 0, 0), (50, .iaload, 1, 0, 0, 0), (51, .bipush 6, 2, 0, 0, 0), (53, .if_icmp .eq 14, 3, 0, 0, 0), (56, .aload_n 0, 1, 0, 0, 0), (57, .iconst 0, 1, 0, 0, 0), (58, .sipush 999, 3, 0, 0, 0), (61, .invokevirtual 294, 3, 214, 3, 0), (64, .ifCond .ne 5, 3, 0, 0, 0), (67, .iconst 0, 1, 0, 0, 0), (68, .ireturn, 1, 0, 0, 0), (69, .aload_n 0, 1, 0, 0, 0), (70, .getfield 291, 3, 10, 26, 0), (73, .invokestatic 107, 3, 140, 1, 0), (76, .ifCond .eq 15, 3, 0, 0, 0), (79, .aload_n 0, 1, 0, 0, 0), (80, .iload_n 1, 1, 0, 0, 0), (81, .aload_n 0, 1, 0, 0, 0), (82, .getfield 291, 3, 10, 26, 0), (85, .invokevirtual 113, 3, 151, 3, 0), (88, .ifCond .eq 10, 3, 0, 0, 0), (91, .aload_n 0, 1, 0, 0, 0), (92, .iload_n 2, 1, 0, 0, 0), (93, .putfield 276, 3, 10, 25, 0), (96, .iconst 0, 1, 0, 0, 0), (97, .ireturn, 1, 0, 0, 0), (98, .aload_n 0, 1, 0, 0, 0), (99, .iload_n 1, 1, 0, 0, 0), (100, .aload_n 0, 1, 0, 0, 0), (101, .getfield 291, 3, 10, 26, 0), (104, .invokevirtual 119, 3, 152, 3, 0), (107, .pop, 1, 0, 0, 0), (108, .aload_n 0, 1, 0, 0, 0), (109, .invokevirtual 285, 3, 211, 1, 0), (112, .goto (-82), 3, 0, 0, 0), (115, .aload_n 0, 1, 0, 0, 0), (116, .invokevirtual 297, 3, 215, 1, 0), (119, .ireturn, 1, 0, 0, 0)]
/-- 217 EdgeMovesModel.readsConstant()I -/
def kc_217 : List ACe := [(0, .aload_n 0, 1, 0, 0, 0), (1, .aload_n 0, 1, 0, 0, 0), (2, .getfield 276, 3, 10, 25, 0), (5, .iconst 1, 1, 0, 0, 0), (6, .iadd, 1, 0, 0, 0), (7, .invokevirtual 288, 3, 213, 2, 0), (10, .istore_n 1, 1, 0, 0, 0), (11, .iconst 0, 1, 0, 0, 0), (12, .istore_n 2, 1, 0, 0, 0), (13, .iconst 0, 1, 0, 0, 0), (14, .istore_n 3, 1, 0, 0, 0), (15, .iload_n 3, 1, 0, 0, 0), (16, .iload_n 1, 1, 0, 0, 0), (17, .if_icmp .ge 36, 3, 0, 0, 0), (20, .iload_n 3, 1, 0, 0, 0), (21, .iconst 3, 1, 0, 0, 0), (22, .if_icmp .ge 31, 3, 0, 0, 0), (25, .bipush 10, 2, 0, 0, 0), (27, .iload_n 2, 1, 0, 0, 0), (28, .imul, 1, 0, 0, 0), (29, .aload_n 0, 1, 0, 0, 0), (30, .getfield 65, 3, 10, 23, 0), (33, .aload_n 0, 1, 0, 0, 0), (34, .getfield 276, 3, 10, 25, 0), (37, .iconst 1, 1, 0, 0, 0), (38, .iadd, 1, 0, 0, 0), (39, .iload_n 3, 1, 0, 0, 0), (40, .iadd, 1, 0, 0, 0), (41, .iaload, 1, 0, 0, 0), (42, .iadd, 1, 0, 0, 0), (43, .bipush 48, 2, 0, 0, 0), (45, .isub, 1, 0, 0, 0), (46, .istore_n 2, 1, 0, 0, 0), (47, .iinc 3 1, 3, 0, 0, 0), (50, .goto (-35), 3, 0, 0, 0), (53, .iload_n 1, 1, 0, 0, 0), (54, .iconst 1, 1, 0, 0, 0), (55, .iconst 3, 1, 0, 0, 0), (56, .invokestatic 90, 3, 136, 3, 0), (59, .ifCond .eq 9, 3, 0, 0, 0), (62, .iload_n 2, 1, 0, 0, 0), (63, .bipush 99, 2, 0, 0, 0), (65, .if_icmp .le 5, 3, 0, 0, 0), (68, .iconst 0, 1, 0, 0, 0), (69, .ireturn, 1, 0, 0, 0), (70, .aload_n 0, 1, 0, 0, 0), (71, .dup, 1, 0, 0, 0), (72, .getfield 276, 3, 10, 25, 0), (75, .iload_n 1, 1, 0, 0, 0), (76, .iconst 1, 1, 0, 0, 0), (77, .iadd, 1, 0, 0, 0), (78, .iadd, 1, 0, 0, 0), (79, .putfield 276, 3, 10, 25, 0), (82, .iconst (-1), 1, 0, 0, 0), (83, .iload_n 2, 1, 0, 0, 0), (84, .isub, 1, 0, 0, 0), (85, .ireturn, 1, 0, 0, 0)]
/-- 218 EdgeMovesModel.readsGiven(II)Z -/
def kc_218 : List ACe := [(0, .aload_n 0, 1, 0, 0, 0), (1, .invokevirtual 285, 3, 211, 1, 0), (4, .aload_n 0, 1, 0, 0, 0), (5, .getfield 276, 3, 10, 25, 0), (8, .istore_n 3, 1, 0, 0, 0), (9, .iconst 0, 1, 0, 0, 0), (10, .istore 4, 2, 0, 0, 0), (12, .aload_n 0, 1, 0, 0, 0), (13, .invokevirtual 279, 3, 210, 1, 0), (16, .bipush 35, 2, 0, 0, 0), (18, .if_icmp .ne 12, 3, 0, 0, 0), (21, .aload_n 0, 1, 0, 0, 0), (22, .invokevirtual 301, 3, 217, 1, 0), (25, .istore 4, 2, 0, 0, 0), (27, .goto 20, 3, 0, 0, 0), (30, .aload_n 0, 1, 0, 0, 0), (31, .iconst 0, 1, 0, 0, 0), (32, .sipush 999, 3, 0, 0, 0), (35, .invokevirtual 294, 3, 214, 3, 0), (38, .ifCond .eq 9, 3, 0, 0, 0), (41, .aload_n 0, 1, 0, 0, 0), (42, .getfield 291, 3, 10, 26, 0), (45, .istore 4, 2, 0, 0, 0), (47, .iload 4, 2, 0, 0, 0), (49, .ifCond .eq 14, 3, 0, 0, 0), (52, .aload_n 0, 1, 0, 0, 0), (53, .iload_n 1, 1, 0, 0, 0), (54, .iload_n 2, 1, 0, 0, 0), (55, .iload 4, 2, 0, 0, 0), (57, .invokevirtual 136, 3, 156, 4, 0), (60, .ifCond .ne 10, 3, 0, 0, 0), (63, .aload_n 0, 1, 0, 0, 0), (64, .iload_n 3, 1, 0, 0, 0), (65, .putfield 276, 3, 10, 25, 0), (68, .iconst 0, 1, 0, 0, 0), (69, .ireturn, 1, 0, 0, 0), (70, .aload_n 0, 1, 0, 0, 0), (71, .getfield 28, 3, 10, 9, 0), (74, .bipush 6, 2, 0, 0, 0), (76, .iload_n 1, 1, 0, 0, 0), (77, .imul, 1, 0, 0, 0), (78, .iload_n 2, 1, 0, 0, 0), (79, .iadd, 1, 0, 0, 0), (80, .iload 4, 2, 0, 0, 0), (82, .iastore, 1, 0, 0, 0), (83, .iconst 1, 1, 0, 0, 0), (84, .ireturn, 1, 0, 0, 0)]
/-- 219 EdgeMovesModel.readsEdge()Z -/
def kc_219_0 : List ACe := [(0, .aload_n 0, 1, 0, 0, 0), (1, .getfield 94, 3, 10, 2, 0), (4, .bipush 16, 2, 0, 0, 0), (6, .if_icmp .ne 5, 3, 0, 0, 0), (9, .iconst 0, 1, 0, 0, 0), (10, .ireturn, 1, 0, 0, 0), (11, .aload_n 0, 1, 0, 0, 0), (12, .dup, 1, 0, 0, 0), (13, .getfield 276, 3, 10, 25, 0), (16, .iconst 1, 1, 0, 0, 0), (17, .iadd, 1, 0, 0, 0), (18, .putfield 276, 3, 10, 25, 0), (21, .aload_n 0, 1, 0, 0, 0), (22, .iconst 0, 1, 0, 0, 0), (23, .aload_n 0, 1, 0, 0, 0), (24, .getfield 86, 3, 10, 1, 0), (27, .iconst 1, 1, 0, 0, 0), (28, .isub, 1, 0, 0, 0), (29, .invokevirtual 294, 3, 214, 3, 0), (32, .ifCond .ne 5, 3, 0, 0, 0), (35, .iconst 0, 1, 0, 0, 0), (36, .ireturn, 1, 0, 0, 0), (37, .aload_n 0, 1, 0, 0, 0), (38, .getfield 291, 3, 10, 26, 0), (41, .istore_n 1, 1, 0, 0, 0), (42, .aload_n 0, 1, 0, 0, 0), (43, .iconst 0, 1, 0, 0, 0), (44, .aload_n 0, 1, 0, 0, 0), (45, .getfield 86, 3, 10, 1, 0), (48, .iconst 1, 1, 0, 0, 0), (49, .isub, 1, 0, 0, 0), (50, .invokevirtual 294, 3, 214, 3, 0), (53, .ifCond .ne 5, 3, 0, 0, 0), (56, .iconst 0, 1, 0, 0, 0), (57, .ireturn, 1, 0, 0, 0), (58, .aload_n 0, 1, 0, 0, 0), (59, .getfield 291, 3, 10, 26, 0), (62, .istore_n 2, 1, 0, 0, 0), (63, .aload_n 0, 1, 0, 0, 0), (64, .iconst 0, 1, 0, 0, 0), (65, .bipush 99, 2, 0, 0, 0), (67, .invokevirtual 294, 3, 214, 3, 0), (70, .ifCond .ne 5, 3, 0, 0, 0), (73, .iconst 0, 1, 0, 0, 0), (74, .ireturn, 1, 0, 0, 0), (75, .aload_n 0, 1, 0, 0, 0), (76, .iload_n 1, 1, 0, 0, 0), (77, .iload_n 2, 1, 0, 0, 0), (78, .aload_n 0, 1, 0, 0, 0), (79, .getfield 291, 3, 10, 26, 0), (82, .invokevirtual 123, 3, 154, 4, 0), (85, .istore_n 3, 1, 0, 0, 0), (86, .aload_n 0, 1, 0, 0, 0), (87, .invokevirtual 285, 3, 211, 1, 0), (90, .aload_n 0, 1, 0, 0, 0), (91, .invokevirtual 279, 3, 210, 1, 0), (94, .bipush 58, 2, 0, 0, 0), (96, .if_icmp .eq 8, 3, 0, 0, 0), (99, .aload_n 0, 1, 0, 0, 0), (100, .invokevirtual 297, 3, 215, 1, 0)]
def kc_219_1 : List ACe := [(103, .ireturn, 1, 0, 0, 0), (104, .aload_n 0, 1, 0, 0, 0), (105, .iload_n 3, 1, 0, 0, 0), (106, .invokevirtual 133, 3, 146, 2, 0), (109, .ifCond .ne 5, 3, 0, 0, 0), (112, .iconst 0, 1, 0, 0, 0), (113, .ireturn, 1, 0, 0, 0), (114, .aload_n 0, 1, 0, 0, 0), (115, .dup, 1, 0, 0, 0), (116, .getfield 276, 3, 10, 25, 0), (119, .iconst 1, 1, 0, 0, 0), (120, .iadd, 1, 0, 0, 0), (121, .putfield 276, 3, 10, 25, 0), (124, .iconst 0, 1, 0, 0, 0), (125, .istore 4, 2, 0, 0, 0), (127, .iload 4, 2, 0, 0, 0), (129, .aload_n 0, 1, 0, 0, 0), (130, .iload_n 3, 1, 0, 0, 0), (131, .invokevirtual 133, 3, 146, 2, 0), (134, .if_icmp .ge 21, 3, 0, 0, 0), (137, .aload_n 0, 1, 0, 0, 0), (138, .iload_n 3, 1, 0, 0, 0), (139, .iload 4, 2, 0, 0, 0), (141, .invokevirtual 304, 3, 218, 3, 0), (144, .ifCond .ne 5, 3, 0, 0, 0), (147, .iconst 0, 1, 0, 0, 0), (148, .ireturn, 1, 0, 0, 0), (149, .iinc 4 1, 3, 0, 0, 0), (152, .goto (-25), 3, 0, 0, 0), (155, .aload_n 0, 1, 0, 0, 0), (156, .invokevirtual 297, 3, 215, 1, 0), (159, .ireturn, 1, 0, 0, 0)]
def kc_219 : List ACe := kc_219_0 ++ (kc_219_1)
/-- 220 EdgeMovesModel.readsAll()I -/
def kc_220 : List ACe := [(0, .aload_n 0, 1, 0, 0, 0), (1, .iconst 0, 1, 0, 0, 0), (2, .putfield 276, 3, 10, 25, 0), (5, .aload_n 0, 1, 0, 0, 0), (6, .iconst 0, 1, 0, 0, 0), (7, .putfield 86, 3, 10, 1, 0), (10, .aload_n 0, 1, 0, 0, 0), (11, .iconst 0, 1, 0, 0, 0), (12, .putfield 94, 3, 10, 2, 0), (15, .iconst 0, 1, 0, 0, 0), (16, .istore_n 1, 1, 0, 0, 0), (17, .aload_n 0, 1, 0, 0, 0), (18, .invokevirtual 285, 3, 211, 1, 0), (21, .aload_n 0, 1, 0, 0, 0), (22, .getfield 276, 3, 10, 25, 0), (25, .aload_n 0, 1, 0, 0, 0), (26, .getfield 268, 3, 10, 24, 0), (29, .if_icmp .ge 52, 3, 0, 0, 0), (32, .aload_n 0, 1, 0, 0, 0), (33, .invokevirtual 279, 3, 210, 1, 0), (36, .bipush 98, 2, 0, 0, 0), (38, .if_icmp .ne 13, 3, 0, 0, 0), (41, .aload_n 0, 1, 0, 0, 0), (42, .invokevirtual 307, 3, 216, 1, 0), (45, .ifCond .ne 26, 3, 0, 0, 0), (48, .goto 19, 3, 0, 0, 0), (51, .aload_n 0, 1, 0, 0, 0), (52, .invokevirtual 279, 3, 210, 1, 0), (55, .bipush 101, 2, 0, 0, 0), (57, .if_icmp .ne 10, 3, 0, 0, 0), (60, .aload_n 0, 1, 0, 0, 0), (61, .invokevirtual 310, 3, 219, 1, 0), (64, .ifCond .ne 7, 3, 0, 0, 0), (67, .sipush (-201), 3, 0, 0, 0), (70, .ireturn, 1, 0, 0, 0), (71, .iinc 1 1, 3, 0, 0, 0), (74, .aload_n 0, 1, 0, 0, 0), (75, .invokevirtual 285, 3, 211, 1, 0), (78, .goto (-57), 3, 0, 0, 0), (81, .iload_n 1, 1, 0, 0, 0), (82, .ifCond .ne 9, 3, 0, 0, 0), (85, .sipush (-201), 3, 0, 0, 0), (88, .goto 4, 3, 0, 0, 0), (91, .iload_n 1, 1, 0, 0, 0), (92, .ireturn, 1, 0, 0, 0)]
/-- 221 EdgeMovesModel.lays()V -/
def kc_221_0 : List ACe := [(0, .aload_n 0, 1, 0, 0, 0), (1, .getfield 68, 3, 10, 27, 0), (4, .iconst 0, 1, 0, 0, 0), (5, .aload_n 0, 1, 0, 0, 0), (6, .getfield 86, 3, 10, 1, 0), (9, .iastore, 1, 0, 0, 0), (10, .aload_n 0, 1, 0, 0, 0), (11, .getfield 68, 3, 10, 27, 0), (14, .iconst 1, 1, 0, 0, 0), (15, .aload_n 0, 1, 0, 0, 0), (16, .getfield 94, 3, 10, 2, 0), (19, .iastore, 1, 0, 0, 0), (20, .iconst 0, 1, 0, 0, 0), (21, .istore_n 1, 1, 0, 0, 0), (22, .iload_n 1, 1, 0, 0, 0), (23, .bipush 10, 2, 0, 0, 0), (25, .if_icmp .ge 23, 3, 0, 0, 0), (28, .aload_n 0, 1, 0, 0, 0), (29, .getfield 68, 3, 10, 27, 0), (32, .iconst 2, 1, 0, 0, 0), (33, .iload_n 1, 1, 0, 0, 0), (34, .iadd, 1, 0, 0, 0), (35, .aload_n 0, 1, 0, 0, 0), (36, .getfield 13, 3, 10, 4, 0), (39, .iload_n 1, 1, 0, 0, 0), (40, .iaload, 1, 0, 0, 0), (41, .iastore, 1, 0, 0, 0), (42, .iinc 1 1, 3, 0, 0, 0), (45, .goto (-23), 3, 0, 0, 0), (48, .iconst 0, 1, 0, 0, 0), (49, .istore_n 1, 1, 0, 0, 0), (50, .iload_n 1, 1, 0, 0, 0), (51, .bipush 60, 2, 0, 0, 0), (53, .if_icmp .ge 24, 3, 0, 0, 0), (56, .aload_n 0, 1, 0, 0, 0), (57, .getfield 68, 3, 10, 27, 0), (60, .bipush 12, 2, 0, 0, 0), (62, .iload_n 1, 1, 0, 0, 0), (63, .iadd, 1, 0, 0, 0), (64, .aload_n 0, 1, 0, 0, 0), (65, .getfield 16, 3, 10, 5, 0), (68, .iload_n 1, 1, 0, 0, 0), (69, .iaload, 1, 0, 0, 0), (70, .iastore, 1, 0, 0, 0), (71, .iinc 1 1, 3, 0, 0, 0), (74, .goto (-24), 3, 0, 0, 0), (77, .iconst 0, 1, 0, 0, 0), (78, .istore_n 1, 1, 0, 0, 0), (79, .iload_n 1, 1, 0, 0, 0), (80, .bipush 16, 2, 0, 0, 0), (82, .if_icmp .ge 54, 3, 0, 0, 0), (85, .aload_n 0, 1, 0, 0, 0), (86, .getfield 68, 3, 10, 27, 0), (89, .bipush 72, 2, 0, 0, 0), (91, .iload_n 1, 1, 0, 0, 0), (92, .iadd, 1, 0, 0, 0), (93, .aload_n 0, 1, 0, 0, 0), (94, .getfield 19, 3, 10, 6, 0), (97, .iload_n 1, 1, 0, 0, 0), (98, .iaload, 1, 0, 0, 0)]
def kc_221_1 : List ACe := [(99, .iastore, 1, 0, 0, 0), (100, .aload_n 0, 1, 0, 0, 0), (101, .getfield 68, 3, 10, 27, 0), (104, .bipush 88, 2, 0, 0, 0), (106, .iload_n 1, 1, 0, 0, 0), (107, .iadd, 1, 0, 0, 0), (108, .aload_n 0, 1, 0, 0, 0), (109, .getfield 22, 3, 10, 7, 0), (112, .iload_n 1, 1, 0, 0, 0), (113, .iaload, 1, 0, 0, 0), (114, .iastore, 1, 0, 0, 0), (115, .aload_n 0, 1, 0, 0, 0), (116, .getfield 68, 3, 10, 27, 0), (119, .bipush 104, 2, 0, 0, 0), (121, .iload_n 1, 1, 0, 0, 0), (122, .iadd, 1, 0, 0, 0), (123, .aload_n 0, 1, 0, 0, 0), (124, .getfield 25, 3, 10, 8, 0), (127, .iload_n 1, 1, 0, 0, 0), (128, .iaload, 1, 0, 0, 0), (129, .iastore, 1, 0, 0, 0), (130, .iinc 1 1, 3, 0, 0, 0), (133, .goto (-54), 3, 0, 0, 0), (136, .iconst 0, 1, 0, 0, 0), (137, .istore_n 1, 1, 0, 0, 0), (138, .iload_n 1, 1, 0, 0, 0), (139, .bipush 96, 2, 0, 0, 0), (141, .if_icmp .ge 24, 3, 0, 0, 0), (144, .aload_n 0, 1, 0, 0, 0), (145, .getfield 68, 3, 10, 27, 0), (148, .bipush 120, 2, 0, 0, 0), (150, .iload_n 1, 1, 0, 0, 0), (151, .iadd, 1, 0, 0, 0), (152, .aload_n 0, 1, 0, 0, 0), (153, .getfield 28, 3, 10, 9, 0), (156, .iload_n 1, 1, 0, 0, 0), (157, .iaload, 1, 0, 0, 0), (158, .iastore, 1, 0, 0, 0), (159, .iinc 1 1, 3, 0, 0, 0), (162, .goto (-24), 3, 0, 0, 0), (165, .return_, 1, 0, 0, 0)]
def kc_221 : List ACe := kc_221_0 ++ (kc_221_1)
/-- 222 EdgeMovesModel.takes()V -/
def kc_222_0 : List ACe := [(0, .aload_n 0, 1, 0, 0, 0), (1, .aload_n 0, 1, 0, 0, 0), (2, .getfield 68, 3, 10, 27, 0), (5, .iconst 0, 1, 0, 0, 0), (6, .iaload, 1, 0, 0, 0), (7, .putfield 86, 3, 10, 1, 0), (10, .aload_n 0, 1, 0, 0, 0), (11, .aload_n 0, 1, 0, 0, 0), (12, .getfield 68, 3, 10, 27, 0), (15, .iconst 1, 1, 0, 0, 0), (16, .iaload, 1, 0, 0, 0), (17, .putfield 94, 3, 10, 2, 0), (20, .iconst 0, 1, 0, 0, 0), (21, .istore_n 1, 1, 0, 0, 0), (22, .iload_n 1, 1, 0, 0, 0), (23, .bipush 10, 2, 0, 0, 0), (25, .if_icmp .ge 23, 3, 0, 0, 0), (28, .aload_n 0, 1, 0, 0, 0), (29, .getfield 13, 3, 10, 4, 0), (32, .iload_n 1, 1, 0, 0, 0), (33, .aload_n 0, 1, 0, 0, 0), (34, .getfield 68, 3, 10, 27, 0), (37, .iconst 2, 1, 0, 0, 0), (38, .iload_n 1, 1, 0, 0, 0), (39, .iadd, 1, 0, 0, 0), (40, .iaload, 1, 0, 0, 0), (41, .iastore, 1, 0, 0, 0), (42, .iinc 1 1, 3, 0, 0, 0), (45, .goto (-23), 3, 0, 0, 0), (48, .iconst 0, 1, 0, 0, 0), (49, .istore_n 1, 1, 0, 0, 0), (50, .iload_n 1, 1, 0, 0, 0), (51, .bipush 60, 2, 0, 0, 0), (53, .if_icmp .ge 24, 3, 0, 0, 0), (56, .aload_n 0, 1, 0, 0, 0), (57, .getfield 16, 3, 10, 5, 0), (60, .iload_n 1, 1, 0, 0, 0), (61, .aload_n 0, 1, 0, 0, 0), (62, .getfield 68, 3, 10, 27, 0), (65, .bipush 12, 2, 0, 0, 0), (67, .iload_n 1, 1, 0, 0, 0), (68, .iadd, 1, 0, 0, 0), (69, .iaload, 1, 0, 0, 0), (70, .iastore, 1, 0, 0, 0), (71, .iinc 1 1, 3, 0, 0, 0), (74, .goto (-24), 3, 0, 0, 0), (77, .iconst 0, 1, 0, 0, 0), (78, .istore_n 1, 1, 0, 0, 0), (79, .iload_n 1, 1, 0, 0, 0), (80, .bipush 16, 2, 0, 0, 0), (82, .if_icmp .ge 54, 3, 0, 0, 0), (85, .aload_n 0, 1, 0, 0, 0), (86, .getfield 19, 3, 10, 6, 0), (89, .iload_n 1, 1, 0, 0, 0), (90, .aload_n 0, 1, 0, 0, 0), (91, .getfield 68, 3, 10, 27, 0), (94, .bipush 72, 2, 0, 0, 0), (96, .iload_n 1, 1, 0, 0, 0), (97, .iadd, 1, 0, 0, 0), (98, .iaload, 1, 0, 0, 0)]
def kc_222_1 : List ACe := [(99, .iastore, 1, 0, 0, 0), (100, .aload_n 0, 1, 0, 0, 0), (101, .getfield 22, 3, 10, 7, 0), (104, .iload_n 1, 1, 0, 0, 0), (105, .aload_n 0, 1, 0, 0, 0), (106, .getfield 68, 3, 10, 27, 0), (109, .bipush 88, 2, 0, 0, 0), (111, .iload_n 1, 1, 0, 0, 0), (112, .iadd, 1, 0, 0, 0), (113, .iaload, 1, 0, 0, 0), (114, .iastore, 1, 0, 0, 0), (115, .aload_n 0, 1, 0, 0, 0), (116, .getfield 25, 3, 10, 8, 0), (119, .iload_n 1, 1, 0, 0, 0), (120, .aload_n 0, 1, 0, 0, 0), (121, .getfield 68, 3, 10, 27, 0), (124, .bipush 104, 2, 0, 0, 0), (126, .iload_n 1, 1, 0, 0, 0), (127, .iadd, 1, 0, 0, 0), (128, .iaload, 1, 0, 0, 0), (129, .iastore, 1, 0, 0, 0), (130, .iinc 1 1, 3, 0, 0, 0), (133, .goto (-54), 3, 0, 0, 0), (136, .iconst 0, 1, 0, 0, 0), (137, .istore_n 1, 1, 0, 0, 0), (138, .iload_n 1, 1, 0, 0, 0), (139, .bipush 96, 2, 0, 0, 0), (141, .if_icmp .ge 24, 3, 0, 0, 0), (144, .aload_n 0, 1, 0, 0, 0), (145, .getfield 28, 3, 10, 9, 0), (148, .iload_n 1, 1, 0, 0, 0), (149, .aload_n 0, 1, 0, 0, 0), (150, .getfield 68, 3, 10, 27, 0), (153, .bipush 120, 2, 0, 0, 0), (155, .iload_n 1, 1, 0, 0, 0), (156, .iadd, 1, 0, 0, 0), (157, .iaload, 1, 0, 0, 0), (158, .iastore, 1, 0, 0, 0), (159, .iinc 1 1, 3, 0, 0, 0), (162, .goto (-24), 3, 0, 0, 0), (165, .return_, 1, 0, 0, 0)]
def kc_222 : List ACe := kc_222_0 ++ (kc_222_1)
/-- 223 EdgeMovesModel.read()I -/
def kc_223 : List ACe := [(0, .aload_n 0, 1, 0, 0, 0), (1, .invokevirtual 313, 3, 221, 1, 0), (4, .aload_n 0, 1, 0, 0, 0), (5, .invokevirtual 316, 3, 220, 1, 0), (8, .istore_n 1, 1, 0, 0, 0), (9, .iload_n 1, 1, 0, 0, 0), (10, .ifCond .ge 16, 3, 0, 0, 0), (13, .aload_n 0, 1, 0, 0, 0), (14, .invokevirtual 319, 3, 222, 1, 0), (17, .sipush (-300), 3, 0, 0, 0), (20, .aload_n 0, 1, 0, 0, 0), (21, .getfield 276, 3, 10, 25, 0), (24, .isub, 1, 0, 0, 0), (25, .ireturn, 1, 0, 0, 0), (26, .iload_n 1, 1, 0, 0, 0), (27, .ireturn, 1, 0, 0, 0)]
/-- 224 EdgeMovesLaw.law([I)Z -/
def kc_224_0 : List ACe := [(0, .new 7, 3, 9, 0, 0), (3, .dup, 1, 0, 0, 0), (4, .invokespecial 9, 3, 90, 1, 0), (7, .astore_n 1, 1, 0, 0, 0), (8, .new 10, 3, 10, 0, 0), (11, .dup, 1, 0, 0, 0), (12, .invokespecial 12, 3, 132, 1, 0), (15, .astore_n 2, 1, 0, 0, 0), (16, .iconst 0, 1, 0, 0, 0), (17, .istore_n 3, 1, 0, 0, 0), (18, .iload_n 3, 1, 0, 0, 0), (19, .aload_n 0, 1, 0, 0, 0), (20, .arraylength, 1, 0, 0, 0), (21, .iconst 4, 1, 0, 0, 0), (22, .isub, 1, 0, 0, 0), (23, .if_icmp .gt 939, 3, 0, 0, 0), (26, .aload_n 0, 1, 0, 0, 0), (27, .iload_n 3, 1, 0, 0, 0), (28, .iaload, 1, 0, 0, 0), (29, .bipush 31, 2, 0, 0, 0), (31, .iand, 1, 0, 0, 0), (32, .tableswitch 924 0 27 #[128, 141, 154, 187, 230, 273, 306, 329, 362, 395, 428, 461, 484, 497, 510, 543, 586, 609, 642, 675, 708, 731, 775, 798, 811, 844, 887, 910], 128, 0, 0, 0), (160, .aload_n 1, 1, 0, 0, 0), (161, .invokevirtual 13, 3, 91, 1, 0), (164, .aload_n 2, 1, 0, 0, 0), (165, .invokevirtual 17, 3, 148, 1, 0), (168, .if_icmp .eq 788, 3, 0, 0, 0), (171, .iconst 0, 1, 0, 0, 0), (172, .ireturn, 1, 0, 0, 0), (173, .aload_n 1, 1, 0, 0, 0), (174, .invokevirtual 18, 3, 93, 1, 0), (177, .aload_n 2, 1, 0, 0, 0), (178, .invokevirtual 21, 3, 150, 1, 0), (181, .if_icmp .eq 775, 3, 0, 0, 0), (184, .iconst 0, 1, 0, 0, 0), (185, .ireturn, 1, 0, 0, 0), (186, .aload_n 1, 1, 0, 0, 0), (187, .aload_n 0, 1, 0, 0, 0), (188, .iload_n 3, 1, 0, 0, 0), (189, .iconst 1, 1, 0, 0, 0), (190, .iadd, 1, 0, 0, 0), (191, .iaload, 1, 0, 0, 0), (192, .aload_n 0, 1, 0, 0, 0), (193, .iload_n 3, 1, 0, 0, 0), (194, .iconst 2, 1, 0, 0, 0), (195, .iadd, 1, 0, 0, 0), (196, .iaload, 1, 0, 0, 0), (197, .invokevirtual 22, 3, 94, 3, 0), (200, .aload_n 2, 1, 0, 0, 0), (201, .aload_n 0, 1, 0, 0, 0), (202, .iload_n 3, 1, 0, 0, 0), (203, .iconst 1, 1, 0, 0, 0), (204, .iadd, 1, 0, 0, 0), (205, .iaload, 1, 0, 0, 0), (206, .aload_n 0, 1, 0, 0, 0), (207, .iload_n 3, 1, 0, 0, 0), (208, .iconst 2, 1, 0, 0, 0), (209, .iadd, 1, 0, 0, 0), (210, .iaload, 1, 0, 0, 0), (211, .invokevirtual 26, 3, 153, 3, 0)]
def kc_224_1 : List ACe := [(214, .if_icmp .eq 742, 3, 0, 0, 0), (217, .iconst 0, 1, 0, 0, 0), (218, .ireturn, 1, 0, 0, 0), (219, .aload_n 1, 1, 0, 0, 0), (220, .aload_n 0, 1, 0, 0, 0), (221, .iload_n 3, 1, 0, 0, 0), (222, .iconst 1, 1, 0, 0, 0), (223, .iadd, 1, 0, 0, 0), (224, .iaload, 1, 0, 0, 0), (225, .aload_n 0, 1, 0, 0, 0), (226, .iload_n 3, 1, 0, 0, 0), (227, .iconst 2, 1, 0, 0, 0), (228, .iadd, 1, 0, 0, 0), (229, .iaload, 1, 0, 0, 0), (230, .aload_n 0, 1, 0, 0, 0), (231, .iload_n 3, 1, 0, 0, 0), (232, .iconst 3, 1, 0, 0, 0), (233, .iadd, 1, 0, 0, 0), (234, .iaload, 1, 0, 0, 0), (235, .invokevirtual 27, 3, 95, 4, 0), (238, .aload_n 2, 1, 0, 0, 0), (239, .aload_n 0, 1, 0, 0, 0), (240, .iload_n 3, 1, 0, 0, 0), (241, .iconst 1, 1, 0, 0, 0), (242, .iadd, 1, 0, 0, 0), (243, .iaload, 1, 0, 0, 0), (244, .aload_n 0, 1, 0, 0, 0), (245, .iload_n 3, 1, 0, 0, 0), (246, .iconst 2, 1, 0, 0, 0), (247, .iadd, 1, 0, 0, 0), (248, .iaload, 1, 0, 0, 0), (249, .aload_n 0, 1, 0, 0, 0), (250, .iload_n 3, 1, 0, 0, 0), (251, .iconst 3, 1, 0, 0, 0), (252, .iadd, 1, 0, 0, 0), (253, .iaload, 1, 0, 0, 0), (254, .invokevirtual 31, 3, 155, 4, 0), (257, .if_icmp .eq 699, 3, 0, 0, 0), (260, .iconst 0, 1, 0, 0, 0), (261, .ireturn, 1, 0, 0, 0), (262, .aload_n 1, 1, 0, 0, 0), (263, .aload_n 0, 1, 0, 0, 0), (264, .iload_n 3, 1, 0, 0, 0), (265, .iconst 1, 1, 0, 0, 0), (266, .iadd, 1, 0, 0, 0), (267, .iaload, 1, 0, 0, 0), (268, .aload_n 0, 1, 0, 0, 0), (269, .iload_n 3, 1, 0, 0, 0), (270, .iconst 2, 1, 0, 0, 0), (271, .iadd, 1, 0, 0, 0), (272, .iaload, 1, 0, 0, 0), (273, .aload_n 0, 1, 0, 0, 0), (274, .iload_n 3, 1, 0, 0, 0), (275, .iconst 3, 1, 0, 0, 0), (276, .iadd, 1, 0, 0, 0), (277, .iaload, 1, 0, 0, 0), (278, .invokevirtual 32, 3, 96, 4, 0), (281, .aload_n 2, 1, 0, 0, 0), (282, .aload_n 0, 1, 0, 0, 0), (283, .iload_n 3, 1, 0, 0, 0)]
def kc_224_2 : List ACe := [(284, .iconst 1, 1, 0, 0, 0), (285, .iadd, 1, 0, 0, 0), (286, .iaload, 1, 0, 0, 0), (287, .aload_n 0, 1, 0, 0, 0), (288, .iload_n 3, 1, 0, 0, 0), (289, .iconst 2, 1, 0, 0, 0), (290, .iadd, 1, 0, 0, 0), (291, .iaload, 1, 0, 0, 0), (292, .aload_n 0, 1, 0, 0, 0), (293, .iload_n 3, 1, 0, 0, 0), (294, .iconst 3, 1, 0, 0, 0), (295, .iadd, 1, 0, 0, 0), (296, .iaload, 1, 0, 0, 0), (297, .invokevirtual 35, 3, 157, 4, 0), (300, .if_icmp .eq 656, 3, 0, 0, 0), (303, .iconst 0, 1, 0, 0, 0), (304, .ireturn, 1, 0, 0, 0), (305, .aload_n 1, 1, 0, 0, 0), (306, .aload_n 0, 1, 0, 0, 0), (307, .iload_n 3, 1, 0, 0, 0), (308, .iconst 1, 1, 0, 0, 0), (309, .iadd, 1, 0, 0, 0), (310, .iaload, 1, 0, 0, 0), (311, .aload_n 0, 1, 0, 0, 0), (312, .iload_n 3, 1, 0, 0, 0), (313, .iconst 2, 1, 0, 0, 0), (314, .iadd, 1, 0, 0, 0), (315, .iaload, 1, 0, 0, 0), (316, .invokevirtual 36, 3, 97, 3, 0), (319, .aload_n 2, 1, 0, 0, 0), (320, .aload_n 0, 1, 0, 0, 0), (321, .iload_n 3, 1, 0, 0, 0), (322, .iconst 1, 1, 0, 0, 0), (323, .iadd, 1, 0, 0, 0), (324, .iaload, 1, 0, 0, 0), (325, .aload_n 0, 1, 0, 0, 0), (326, .iload_n 3, 1, 0, 0, 0), (327, .iconst 2, 1, 0, 0, 0), (328, .iadd, 1, 0, 0, 0), (329, .iaload, 1, 0, 0, 0), (330, .invokevirtual 39, 3, 158, 3, 0), (333, .if_icmp .eq 623, 3, 0, 0, 0), (336, .iconst 0, 1, 0, 0, 0), (337, .ireturn, 1, 0, 0, 0), (338, .aload_n 1, 1, 0, 0, 0), (339, .aload_n 0, 1, 0, 0, 0), (340, .iload_n 3, 1, 0, 0, 0), (341, .iconst 1, 1, 0, 0, 0), (342, .iadd, 1, 0, 0, 0), (343, .iaload, 1, 0, 0, 0), (344, .invokevirtual 40, 3, 98, 2, 0), (347, .aload_n 2, 1, 0, 0, 0), (348, .aload_n 0, 1, 0, 0, 0), (349, .iload_n 3, 1, 0, 0, 0), (350, .iconst 1, 1, 0, 0, 0), (351, .iadd, 1, 0, 0, 0), (352, .iaload, 1, 0, 0, 0), (353, .invokevirtual 44, 3, 159, 2, 0), (356, .if_icmp .eq 600, 3, 0, 0, 0), (359, .iconst 0, 1, 0, 0, 0)]
def kc_224_3 : List ACe := [(360, .ireturn, 1, 0, 0, 0), (361, .aload_n 1, 1, 0, 0, 0), (362, .aload_n 0, 1, 0, 0, 0), (363, .iload_n 3, 1, 0, 0, 0), (364, .iconst 1, 1, 0, 0, 0), (365, .iadd, 1, 0, 0, 0), (366, .iaload, 1, 0, 0, 0), (367, .aload_n 0, 1, 0, 0, 0), (368, .iload_n 3, 1, 0, 0, 0), (369, .iconst 2, 1, 0, 0, 0), (370, .iadd, 1, 0, 0, 0), (371, .iaload, 1, 0, 0, 0), (372, .invokevirtual 45, 3, 100, 3, 0), (375, .aload_n 2, 1, 0, 0, 0), (376, .aload_n 0, 1, 0, 0, 0), (377, .iload_n 3, 1, 0, 0, 0), (378, .iconst 1, 1, 0, 0, 0), (379, .iadd, 1, 0, 0, 0), (380, .iaload, 1, 0, 0, 0), (381, .aload_n 0, 1, 0, 0, 0), (382, .iload_n 3, 1, 0, 0, 0), (383, .iconst 2, 1, 0, 0, 0), (384, .iadd, 1, 0, 0, 0), (385, .iaload, 1, 0, 0, 0), (386, .invokevirtual 48, 3, 166, 3, 0), (389, .if_icmp .eq 567, 3, 0, 0, 0), (392, .iconst 0, 1, 0, 0, 0), (393, .ireturn, 1, 0, 0, 0), (394, .aload_n 1, 1, 0, 0, 0), (395, .aload_n 0, 1, 0, 0, 0), (396, .iload_n 3, 1, 0, 0, 0), (397, .iconst 1, 1, 0, 0, 0), (398, .iadd, 1, 0, 0, 0), (399, .iaload, 1, 0, 0, 0), (400, .aload_n 0, 1, 0, 0, 0), (401, .iload_n 3, 1, 0, 0, 0), (402, .iconst 2, 1, 0, 0, 0), (403, .iadd, 1, 0, 0, 0), (404, .iaload, 1, 0, 0, 0), (405, .invokevirtual 49, 3, 101, 3, 0), (408, .aload_n 2, 1, 0, 0, 0), (409, .aload_n 0, 1, 0, 0, 0), (410, .iload_n 3, 1, 0, 0, 0), (411, .iconst 1, 1, 0, 0, 0), (412, .iadd, 1, 0, 0, 0), (413, .iaload, 1, 0, 0, 0), (414, .aload_n 0, 1, 0, 0, 0), (415, .iload_n 3, 1, 0, 0, 0), (416, .iconst 2, 1, 0, 0, 0), (417, .iadd, 1, 0, 0, 0), (418, .iaload, 1, 0, 0, 0), (419, .invokevirtual 52, 3, 167, 3, 0), (422, .if_icmp .eq 534, 3, 0, 0, 0), (425, .iconst 0, 1, 0, 0, 0), (426, .ireturn, 1, 0, 0, 0), (427, .aload_n 1, 1, 0, 0, 0), (428, .aload_n 0, 1, 0, 0, 0), (429, .iload_n 3, 1, 0, 0, 0), (430, .iconst 1, 1, 0, 0, 0), (431, .iadd, 1, 0, 0, 0)]
def kc_224_4 : List ACe := [(432, .iaload, 1, 0, 0, 0), (433, .aload_n 0, 1, 0, 0, 0), (434, .iload_n 3, 1, 0, 0, 0), (435, .iconst 2, 1, 0, 0, 0), (436, .iadd, 1, 0, 0, 0), (437, .iaload, 1, 0, 0, 0), (438, .invokevirtual 53, 3, 102, 3, 0), (441, .aload_n 2, 1, 0, 0, 0), (442, .aload_n 0, 1, 0, 0, 0), (443, .iload_n 3, 1, 0, 0, 0), (444, .iconst 1, 1, 0, 0, 0), (445, .iadd, 1, 0, 0, 0), (446, .iaload, 1, 0, 0, 0), (447, .aload_n 0, 1, 0, 0, 0), (448, .iload_n 3, 1, 0, 0, 0), (449, .iconst 2, 1, 0, 0, 0), (450, .iadd, 1, 0, 0, 0), (451, .iaload, 1, 0, 0, 0), (452, .invokevirtual 56, 3, 168, 3, 0), (455, .if_icmp .eq 501, 3, 0, 0, 0), (458, .iconst 0, 1, 0, 0, 0), (459, .ireturn, 1, 0, 0, 0), (460, .aload_n 1, 1, 0, 0, 0), (461, .aload_n 0, 1, 0, 0, 0), (462, .iload_n 3, 1, 0, 0, 0), (463, .iconst 1, 1, 0, 0, 0), (464, .iadd, 1, 0, 0, 0), (465, .iaload, 1, 0, 0, 0), (466, .aload_n 0, 1, 0, 0, 0), (467, .iload_n 3, 1, 0, 0, 0), (468, .iconst 2, 1, 0, 0, 0), (469, .iadd, 1, 0, 0, 0), (470, .iaload, 1, 0, 0, 0), (471, .invokevirtual 57, 3, 103, 3, 0), (474, .aload_n 2, 1, 0, 0, 0), (475, .aload_n 0, 1, 0, 0, 0), (476, .iload_n 3, 1, 0, 0, 0), (477, .iconst 1, 1, 0, 0, 0), (478, .iadd, 1, 0, 0, 0), (479, .iaload, 1, 0, 0, 0), (480, .aload_n 0, 1, 0, 0, 0), (481, .iload_n 3, 1, 0, 0, 0), (482, .iconst 2, 1, 0, 0, 0), (483, .iadd, 1, 0, 0, 0), (484, .iaload, 1, 0, 0, 0), (485, .invokevirtual 60, 3, 169, 3, 0), (488, .if_icmp .eq 468, 3, 0, 0, 0), (491, .iconst 0, 1, 0, 0, 0), (492, .ireturn, 1, 0, 0, 0), (493, .aload_n 1, 1, 0, 0, 0), (494, .aload_n 0, 1, 0, 0, 0), (495, .iload_n 3, 1, 0, 0, 0), (496, .iconst 1, 1, 0, 0, 0), (497, .iadd, 1, 0, 0, 0), (498, .iaload, 1, 0, 0, 0), (499, .invokevirtual 61, 3, 104, 2, 0), (502, .aload_n 2, 1, 0, 0, 0), (503, .aload_n 0, 1, 0, 0, 0), (504, .iload_n 3, 1, 0, 0, 0), (505, .iconst 1, 1, 0, 0, 0)]
def kc_224_5 : List ACe := [(506, .iadd, 1, 0, 0, 0), (507, .iaload, 1, 0, 0, 0), (508, .invokevirtual 64, 3, 208, 2, 0), (511, .if_icmp .eq 445, 3, 0, 0, 0), (514, .iconst 0, 1, 0, 0, 0), (515, .ireturn, 1, 0, 0, 0), (516, .aload_n 1, 1, 0, 0, 0), (517, .invokevirtual 65, 3, 105, 1, 0), (520, .aload_n 2, 1, 0, 0, 0), (521, .invokevirtual 68, 3, 209, 1, 0), (524, .if_icmp .eq 432, 3, 0, 0, 0), (527, .iconst 0, 1, 0, 0, 0), (528, .ireturn, 1, 0, 0, 0), (529, .aload_n 1, 1, 0, 0, 0), (530, .invokevirtual 69, 3, 106, 1, 0), (533, .aload_n 2, 1, 0, 0, 0), (534, .invokevirtual 72, 3, 223, 1, 0), (537, .if_icmp .eq 419, 3, 0, 0, 0), (540, .iconst 0, 1, 0, 0, 0), (541, .ireturn, 1, 0, 0, 0), (542, .aload_n 1, 1, 0, 0, 0), (543, .aload_n 0, 1, 0, 0, 0), (544, .iload_n 3, 1, 0, 0, 0), (545, .iconst 1, 1, 0, 0, 0), (546, .iadd, 1, 0, 0, 0), (547, .iaload, 1, 0, 0, 0), (548, .aload_n 0, 1, 0, 0, 0), (549, .iload_n 3, 1, 0, 0, 0), (550, .iconst 2, 1, 0, 0, 0), (551, .iadd, 1, 0, 0, 0), (552, .iaload, 1, 0, 0, 0), (553, .invokevirtual 73, 3, 109, 3, 0), (556, .aload_n 2, 1, 0, 0, 0), (557, .aload_n 0, 1, 0, 0, 0), (558, .iload_n 3, 1, 0, 0, 0), (559, .iconst 1, 1, 0, 0, 0), (560, .iadd, 1, 0, 0, 0), (561, .iaload, 1, 0, 0, 0), (562, .aload_n 0, 1, 0, 0, 0), (563, .iload_n 3, 1, 0, 0, 0), (564, .iconst 2, 1, 0, 0, 0), (565, .iadd, 1, 0, 0, 0), (566, .iaload, 1, 0, 0, 0), (567, .invokevirtual 76, 3, 184, 3, 0), (570, .if_icmp .eq 386, 3, 0, 0, 0), (573, .iconst 0, 1, 0, 0, 0), (574, .ireturn, 1, 0, 0, 0), (575, .aload_n 1, 1, 0, 0, 0), (576, .aload_n 0, 1, 0, 0, 0), (577, .iload_n 3, 1, 0, 0, 0), (578, .iconst 1, 1, 0, 0, 0), (579, .iadd, 1, 0, 0, 0), (580, .iaload, 1, 0, 0, 0), (581, .aload_n 0, 1, 0, 0, 0), (582, .iload_n 3, 1, 0, 0, 0), (583, .iconst 2, 1, 0, 0, 0), (584, .iadd, 1, 0, 0, 0), (585, .iaload, 1, 0, 0, 0), (586, .aload_n 0, 1, 0, 0, 0), (587, .iload_n 3, 1, 0, 0, 0)]
def kc_224_6 : List ACe := [(588, .iconst 3, 1, 0, 0, 0), (589, .iadd, 1, 0, 0, 0), (590, .iaload, 1, 0, 0, 0), (591, .invokevirtual 77, 3, 110, 4, 0), (594, .aload_n 2, 1, 0, 0, 0), (595, .aload_n 0, 1, 0, 0, 0), (596, .iload_n 3, 1, 0, 0, 0), (597, .iconst 1, 1, 0, 0, 0), (598, .iadd, 1, 0, 0, 0), (599, .iaload, 1, 0, 0, 0), (600, .aload_n 0, 1, 0, 0, 0), (601, .iload_n 3, 1, 0, 0, 0), (602, .iconst 2, 1, 0, 0, 0), (603, .iadd, 1, 0, 0, 0), (604, .iaload, 1, 0, 0, 0), (605, .aload_n 0, 1, 0, 0, 0), (606, .iload_n 3, 1, 0, 0, 0), (607, .iconst 3, 1, 0, 0, 0), (608, .iadd, 1, 0, 0, 0), (609, .iaload, 1, 0, 0, 0), (610, .invokevirtual 80, 3, 185, 4, 0), (613, .if_icmp .eq 343, 3, 0, 0, 0), (616, .iconst 0, 1, 0, 0, 0), (617, .ireturn, 1, 0, 0, 0), (618, .aload_n 1, 1, 0, 0, 0), (619, .aload_n 0, 1, 0, 0, 0), (620, .iload_n 3, 1, 0, 0, 0), (621, .iconst 1, 1, 0, 0, 0), (622, .iadd, 1, 0, 0, 0), (623, .iaload, 1, 0, 0, 0), (624, .invokevirtual 81, 3, 111, 2, 0), (627, .aload_n 2, 1, 0, 0, 0), (628, .aload_n 0, 1, 0, 0, 0), (629, .iload_n 3, 1, 0, 0, 0), (630, .iconst 1, 1, 0, 0, 0), (631, .iadd, 1, 0, 0, 0), (632, .iaload, 1, 0, 0, 0), (633, .invokevirtual 84, 3, 186, 2, 0), (636, .if_icmp .eq 320, 3, 0, 0, 0), (639, .iconst 0, 1, 0, 0, 0), (640, .ireturn, 1, 0, 0, 0), (641, .aload_n 1, 1, 0, 0, 0), (642, .aload_n 0, 1, 0, 0, 0), (643, .iload_n 3, 1, 0, 0, 0), (644, .iconst 1, 1, 0, 0, 0), (645, .iadd, 1, 0, 0, 0), (646, .iaload, 1, 0, 0, 0), (647, .aload_n 0, 1, 0, 0, 0), (648, .iload_n 3, 1, 0, 0, 0), (649, .iconst 2, 1, 0, 0, 0), (650, .iadd, 1, 0, 0, 0), (651, .iaload, 1, 0, 0, 0), (652, .invokevirtual 85, 3, 112, 3, 0), (655, .aload_n 2, 1, 0, 0, 0), (656, .aload_n 0, 1, 0, 0, 0), (657, .iload_n 3, 1, 0, 0, 0), (658, .iconst 1, 1, 0, 0, 0), (659, .iadd, 1, 0, 0, 0), (660, .iaload, 1, 0, 0, 0), (661, .aload_n 0, 1, 0, 0, 0)]
def kc_224_7 : List ACe := [(662, .iload_n 3, 1, 0, 0, 0), (663, .iconst 2, 1, 0, 0, 0), (664, .iadd, 1, 0, 0, 0), (665, .iaload, 1, 0, 0, 0), (666, .invokevirtual 88, 3, 189, 3, 0), (669, .if_icmp .eq 287, 3, 0, 0, 0), (672, .iconst 0, 1, 0, 0, 0), (673, .ireturn, 1, 0, 0, 0), (674, .aload_n 1, 1, 0, 0, 0), (675, .aload_n 0, 1, 0, 0, 0), (676, .iload_n 3, 1, 0, 0, 0), (677, .iconst 1, 1, 0, 0, 0), (678, .iadd, 1, 0, 0, 0), (679, .iaload, 1, 0, 0, 0), (680, .aload_n 0, 1, 0, 0, 0), (681, .iload_n 3, 1, 0, 0, 0), (682, .iconst 2, 1, 0, 0, 0), (683, .iadd, 1, 0, 0, 0), (684, .iaload, 1, 0, 0, 0), (685, .invokevirtual 89, 3, 114, 3, 0), (688, .aload_n 2, 1, 0, 0, 0), (689, .aload_n 0, 1, 0, 0, 0), (690, .iload_n 3, 1, 0, 0, 0), (691, .iconst 1, 1, 0, 0, 0), (692, .iadd, 1, 0, 0, 0), (693, .iaload, 1, 0, 0, 0), (694, .aload_n 0, 1, 0, 0, 0), (695, .iload_n 3, 1, 0, 0, 0), (696, .iconst 2, 1, 0, 0, 0), (697, .iadd, 1, 0, 0, 0), (698, .iaload, 1, 0, 0, 0), (699, .invokevirtual 92, 3, 190, 3, 0), (702, .if_icmp .eq 254, 3, 0, 0, 0), (705, .iconst 0, 1, 0, 0, 0), (706, .ireturn, 1, 0, 0, 0), (707, .aload_n 1, 1, 0, 0, 0), (708, .aload_n 0, 1, 0, 0, 0), (709, .iload_n 3, 1, 0, 0, 0), (710, .iconst 1, 1, 0, 0, 0), (711, .iadd, 1, 0, 0, 0), (712, .iaload, 1, 0, 0, 0), (713, .aload_n 0, 1, 0, 0, 0), (714, .iload_n 3, 1, 0, 0, 0), (715, .iconst 2, 1, 0, 0, 0), (716, .iadd, 1, 0, 0, 0), (717, .iaload, 1, 0, 0, 0), (718, .invokevirtual 93, 3, 115, 3, 0), (721, .aload_n 2, 1, 0, 0, 0), (722, .aload_n 0, 1, 0, 0, 0), (723, .iload_n 3, 1, 0, 0, 0), (724, .iconst 1, 1, 0, 0, 0), (725, .iadd, 1, 0, 0, 0), (726, .iaload, 1, 0, 0, 0), (727, .aload_n 0, 1, 0, 0, 0), (728, .iload_n 3, 1, 0, 0, 0), (729, .iconst 2, 1, 0, 0, 0), (730, .iadd, 1, 0, 0, 0), (731, .iaload, 1, 0, 0, 0), (732, .invokevirtual 96, 3, 191, 3, 0), (735, .if_icmp .eq 221, 3, 0, 0, 0)]
def kc_224_8 : List ACe := [(738, .iconst 0, 1, 0, 0, 0), (739, .ireturn, 1, 0, 0, 0), (740, .aload_n 1, 1, 0, 0, 0), (741, .aload_n 0, 1, 0, 0, 0), (742, .iload_n 3, 1, 0, 0, 0), (743, .iconst 1, 1, 0, 0, 0), (744, .iadd, 1, 0, 0, 0), (745, .iaload, 1, 0, 0, 0), (746, .invokevirtual 97, 3, 117, 2, 0), (749, .aload_n 2, 1, 0, 0, 0), (750, .aload_n 0, 1, 0, 0, 0), (751, .iload_n 3, 1, 0, 0, 0), (752, .iconst 1, 1, 0, 0, 0), (753, .iadd, 1, 0, 0, 0), (754, .iaload, 1, 0, 0, 0), (755, .invokevirtual 100, 3, 194, 2, 0), (758, .if_icmp .eq 198, 3, 0, 0, 0), (761, .iconst 0, 1, 0, 0, 0), (762, .ireturn, 1, 0, 0, 0), (763, .aload_n 1, 1, 0, 0, 0), (764, .aload_n 0, 1, 0, 0, 0), (765, .iload_n 3, 1, 0, 0, 0), (766, .iconst 1, 1, 0, 0, 0), (767, .iadd, 1, 0, 0, 0), (768, .iaload, 1, 0, 0, 0), (769, .aload_n 0, 1, 0, 0, 0), (770, .iload_n 3, 1, 0, 0, 0), (771, .iconst 2, 1, 0, 0, 0), (772, .iadd, 1, 0, 0, 0), (773, .iaload, 1, 0, 0, 0), (774, .aload_n 0, 1, 0, 0, 0), (775, .iload_n 3, 1, 0, 0, 0), (776, .iconst 3, 1, 0, 0, 0), (777, .iadd, 1, 0, 0, 0), (778, .iaload, 1, 0, 0, 0), (779, .invokevirtual 101, 3, 118, 4, 0), (782, .aload_n 2, 1, 0, 0, 0), (783, .aload_n 0, 1, 0, 0, 0), (784, .iload_n 3, 1, 0, 0, 0), (785, .iconst 1, 1, 0, 0, 0), (786, .iadd, 1, 0, 0, 0), (787, .iaload, 1, 0, 0, 0), (788, .aload_n 0, 1, 0, 0, 0), (789, .iload_n 3, 1, 0, 0, 0), (790, .iconst 2, 1, 0, 0, 0), (791, .iadd, 1, 0, 0, 0), (792, .iaload, 1, 0, 0, 0), (793, .aload_n 0, 1, 0, 0, 0), (794, .iload_n 3, 1, 0, 0, 0), (795, .iconst 3, 1, 0, 0, 0), (796, .iadd, 1, 0, 0, 0), (797, .iaload, 1, 0, 0, 0), (798, .invokevirtual 105, 3, 200, 4, 0), (801, .lcmp, 1, 0, 0, 0), (802, .ifCond .eq 154, 3, 0, 0, 0), (805, .iconst 0, 1, 0, 0, 0), (806, .ireturn, 1, 0, 0, 0), (807, .aload_n 1, 1, 0, 0, 0), (808, .aload_n 0, 1, 0, 0, 0), (809, .iload_n 3, 1, 0, 0, 0)]
def kc_224_9 : List ACe := [(810, .iconst 1, 1, 0, 0, 0), (811, .iadd, 1, 0, 0, 0), (812, .iaload, 1, 0, 0, 0), (813, .invokevirtual 106, 3, 120, 2, 0), (816, .aload_n 2, 1, 0, 0, 0), (817, .aload_n 0, 1, 0, 0, 0), (818, .iload_n 3, 1, 0, 0, 0), (819, .iconst 1, 1, 0, 0, 0), (820, .iadd, 1, 0, 0, 0), (821, .iaload, 1, 0, 0, 0), (822, .invokevirtual 109, 3, 201, 2, 0), (825, .if_icmp .eq 131, 3, 0, 0, 0), (828, .iconst 0, 1, 0, 0, 0), (829, .ireturn, 1, 0, 0, 0), (830, .aload_n 1, 1, 0, 0, 0), (831, .invokevirtual 110, 3, 122, 1, 0), (834, .aload_n 2, 1, 0, 0, 0), (835, .invokevirtual 113, 3, 202, 1, 0), (838, .if_icmp .eq 118, 3, 0, 0, 0), (841, .iconst 0, 1, 0, 0, 0), (842, .ireturn, 1, 0, 0, 0), (843, .aload_n 1, 1, 0, 0, 0), (844, .aload_n 0, 1, 0, 0, 0), (845, .iload_n 3, 1, 0, 0, 0), (846, .iconst 1, 1, 0, 0, 0), (847, .iadd, 1, 0, 0, 0), (848, .iaload, 1, 0, 0, 0), (849, .aload_n 0, 1, 0, 0, 0), (850, .iload_n 3, 1, 0, 0, 0), (851, .iconst 2, 1, 0, 0, 0), (852, .iadd, 1, 0, 0, 0), (853, .iaload, 1, 0, 0, 0), (854, .invokevirtual 114, 3, 125, 3, 0), (857, .aload_n 2, 1, 0, 0, 0), (858, .aload_n 0, 1, 0, 0, 0), (859, .iload_n 3, 1, 0, 0, 0), (860, .iconst 1, 1, 0, 0, 0), (861, .iadd, 1, 0, 0, 0), (862, .iaload, 1, 0, 0, 0), (863, .aload_n 0, 1, 0, 0, 0), (864, .iload_n 3, 1, 0, 0, 0), (865, .iconst 2, 1, 0, 0, 0), (866, .iadd, 1, 0, 0, 0), (867, .iaload, 1, 0, 0, 0), (868, .invokevirtual 117, 3, 203, 3, 0), (871, .if_icmp .eq 85, 3, 0, 0, 0), (874, .iconst 0, 1, 0, 0, 0), (875, .ireturn, 1, 0, 0, 0), (876, .aload_n 1, 1, 0, 0, 0), (877, .aload_n 0, 1, 0, 0, 0), (878, .iload_n 3, 1, 0, 0, 0), (879, .iconst 1, 1, 0, 0, 0), (880, .iadd, 1, 0, 0, 0), (881, .iaload, 1, 0, 0, 0), (882, .aload_n 0, 1, 0, 0, 0), (883, .iload_n 3, 1, 0, 0, 0), (884, .iconst 2, 1, 0, 0, 0), (885, .iadd, 1, 0, 0, 0), (886, .iaload, 1, 0, 0, 0), (887, .aload_n 0, 1, 0, 0, 0)]
def kc_224_10 : List ACe := [(888, .iload_n 3, 1, 0, 0, 0), (889, .iconst 3, 1, 0, 0, 0), (890, .iadd, 1, 0, 0, 0), (891, .iaload, 1, 0, 0, 0), (892, .invokevirtual 118, 3, 128, 4, 0), (895, .aload_n 2, 1, 0, 0, 0), (896, .aload_n 0, 1, 0, 0, 0), (897, .iload_n 3, 1, 0, 0, 0), (898, .iconst 1, 1, 0, 0, 0), (899, .iadd, 1, 0, 0, 0), (900, .iaload, 1, 0, 0, 0), (901, .aload_n 0, 1, 0, 0, 0), (902, .iload_n 3, 1, 0, 0, 0), (903, .iconst 2, 1, 0, 0, 0), (904, .iadd, 1, 0, 0, 0), (905, .iaload, 1, 0, 0, 0), (906, .aload_n 0, 1, 0, 0, 0), (907, .iload_n 3, 1, 0, 0, 0), (908, .iconst 3, 1, 0, 0, 0), (909, .iadd, 1, 0, 0, 0), (910, .iaload, 1, 0, 0, 0), (911, .invokevirtual 121, 3, 204, 4, 0), (914, .if_icmp .eq 42, 3, 0, 0, 0), (917, .iconst 0, 1, 0, 0, 0), (918, .ireturn, 1, 0, 0, 0), (919, .aload_n 1, 1, 0, 0, 0), (920, .aload_n 0, 1, 0, 0, 0), (921, .iload_n 3, 1, 0, 0, 0), (922, .iconst 1, 1, 0, 0, 0), (923, .iadd, 1, 0, 0, 0), (924, .iaload, 1, 0, 0, 0), (925, .invokevirtual 122, 3, 130, 2, 0), (928, .aload_n 2, 1, 0, 0, 0), (929, .aload_n 0, 1, 0, 0, 0), (930, .iload_n 3, 1, 0, 0, 0), (931, .iconst 1, 1, 0, 0, 0), (932, .iadd, 1, 0, 0, 0), (933, .iaload, 1, 0, 0, 0), (934, .invokevirtual 125, 3, 206, 2, 0), (937, .if_icmp .eq 19, 3, 0, 0, 0), (940, .iconst 0, 1, 0, 0, 0), (941, .ireturn, 1, 0, 0, 0), (942, .aload_n 1, 1, 0, 0, 0), (943, .invokevirtual 126, 3, 131, 1, 0), (946, .aload_n 2, 1, 0, 0, 0), (947, .invokevirtual 130, 3, 207, 1, 0), (950, .lcmp, 1, 0, 0, 0), (951, .ifCond .eq 5, 3, 0, 0, 0), (954, .iconst 0, 1, 0, 0, 0), (955, .ireturn, 1, 0, 0, 0), (956, .iinc 3 4, 3, 0, 0, 0), (959, .goto (-941), 3, 0, 0, 0), (962, .iconst 1, 1, 0, 0, 0), (963, .ireturn, 1, 0, 0, 0)]
def kc_224 : List ACe := kc_224_0 ++ (kc_224_1 ++ (kc_224_2 ++ (kc_224_3 ++ (kc_224_4 ++ (kc_224_5 ++ (kc_224_6 ++ (kc_224_7 ++ (kc_224_8 ++ (kc_224_9 ++ (kc_224_10))))))))))
def codAll : List (List ACe) := [kc_0, kc_1, kc_2, kc_3, kc_4, kc_5, kc_6, kc_7, kc_8, kc_9, kc_10, kc_11, kc_12, kc_13, kc_14, kc_15, kc_16, kc_17, kc_18, kc_19, kc_20, kc_21, kc_22, kc_23, kc_24, kc_25, kc_26, kc_27, kc_28, kc_29, kc_30, kc_31, kc_32, kc_33, kc_34, kc_35, kc_36, kc_37, kc_38, kc_39, kc_40, kc_41, kc_42, kc_43, kc_44, kc_45, kc_46, kc_47, kc_48, kc_49, kc_50, kc_51, kc_52, kc_53, kc_54, kc_55, kc_56, kc_57, kc_58, kc_59, kc_60, kc_61, kc_62, kc_63, kc_64, kc_65, kc_66, kc_67, kc_68, kc_69, kc_70, kc_71, kc_72, kc_73, kc_74, kc_75, kc_76, kc_77, kc_78, kc_79, kc_80, kc_81, kc_82, kc_83, kc_84, kc_85, kc_86, kc_87, kc_88, kc_89, kc_90, kc_91, kc_92, kc_93, kc_94, kc_95, kc_96, kc_97, kc_98, kc_99, kc_100, kc_101, kc_102, kc_103, kc_104, kc_105, kc_106, kc_107, kc_108, kc_109, kc_110, kc_111, kc_112, kc_113, kc_114, kc_115, kc_116, kc_117, kc_118, kc_119, kc_120, kc_121, kc_122, kc_123, kc_124, kc_125, kc_126, kc_127, kc_128, kc_129, kc_130, kc_131, kc_132, kc_133, kc_134, kc_135, kc_136, kc_137, kc_138, kc_139, kc_140, kc_141, kc_142, kc_143, kc_144, kc_145, kc_146, kc_147, kc_148, kc_149, kc_150, kc_151, kc_152, kc_153, kc_154, kc_155, kc_156, kc_157, kc_158, kc_159, kc_160, kc_161, kc_162, kc_163, kc_164, kc_165, kc_166, kc_167, kc_168, kc_169, kc_170, kc_171, kc_172, kc_173, kc_174, kc_175, kc_176, kc_177, kc_178, kc_179, kc_180, kc_181, kc_182, kc_183, kc_184, kc_185, kc_186, kc_187, kc_188, kc_189, kc_190, kc_191, kc_192, kc_193, kc_194, kc_195, kc_196, kc_197, kc_198, kc_199, kc_200, kc_201, kc_202, kc_203, kc_204, kc_205, kc_206, kc_207, kc_208, kc_209, kc_210, kc_211, kc_212, kc_213, kc_214, kc_215, kc_216, kc_217, kc_218, kc_219, kc_220, kc_221, kc_222, kc_223, kc_224]
def codL (i : Nat) : List ACe := codAll.getD i []
def mtAll : List AMt := [(0, 1, 0, 1, 1, 14, 2), (99, 1, 1, 1, 0, 0, 1), (99, 1, 1, 1, 0, 0, 1), (99, 2, 2, 2, 1, 20, 1), (0, 3, 2, 2, 2, 41, 0), (0, 6, 3, 2, 0, 0, 0), (1, 1, 0, 1, 1, 14, 2), (1, 2, 0, 2, 0, 0, 0), (1, 2, 1, 2, 0, 0, 0), (2, 1, 0, 1, 1, 14, 2), (2, 7, 3, 3, 0, 0, 0), (3, 2, 0, 1, 2, 34, 2), (3, 1, 0, 1, 0, 0, 0), (9, 2, 2, 2, 0, 0, 1), (3, 2, 2, 2, 1, 21, 0), (3, 2, 2, 2, 1, 21, 0), (3, 2, 4, 2, 0, 0, 0), (3, 1, 1, 1, 0, 0, 0), (3, 5, 1, 3, 2, 42, 0), (3, 5, 1, 4, 2, 60, 0), (3, 4, 1, 2, 0, 0, 0), (3, 4, 1, 2, 0, 0, 0), (3, 2, 1, 2, 1, 23, 0), (4, 1, 0, 1, 1, 14, 2), (4, 3, 0, 3, 0, 0, 0), (4, 2, 2, 2, 0, 0, 0), (4, 2, 2, 2, 0, 0, 0), (4, 3, 1, 2, 0, 0, 0), (99, 2, 2, 2, 2, 41, 1), (4, 5, 2, 1, 3, 62, 0), (4, 3, 2, 2, 2, 41, 0), (4, 3, 1, 2, 1, 21, 0), (4, 4, 1, 2, 1, 21, 0), (4, 4, 1, 2, 2, 44, 0), (4, 4, 1, 2, 3, 67, 0), (4, 3, 1, 1, 4, 90, 0), (4, 3, 1, 1, 3, 67, 0), (4, 1, 1, 1, 4, 90, 0), (5, 1, 0, 1, 1, 14, 2), (5, 4, 0, 3, 1, 21, 0), (5, 6, 0, 4, 1, 20, 0), (5, 5, 0, 3, 1, 20, 0), (5, 3, 0, 3, 2, 60, 0), (5, 4, 0, 3, 2, 60, 0), (5, 3, 0, 2, 3, 82, 0), (5, 4, 3, 1, 0, 0, 0), (6, 1, 0, 1, 1, 14, 2), (6, 3, 0, 2, 1, 21, 0), (6, 3, 2, 2, 0, 0, 0), (6, 5, 1, 2, 1, 22, 0), (6, 4, 0, 4, 0, 0, 0), (6, 2, 0, 2, 0, 0, 0), (6, 4, 0, 3, 0, 0, 0), (6, 3, 0, 2, 1, 23, 0), (6, 3, 1, 2, 0, 0, 0), (6, 4, 1, 2, 1, 22, 0), (99, 2, 1, 2, 0, 0, 1), (99, 2, 1, 2, 0, 0, 1), (99, 4, 2, 3, 1, 21, 1), (6, 6, 0, 3, 1, 23, 0), (99, 2, 1, 2, 0, 0, 1), (6, 5, 0, 2, 2, 48, 0), (6, 6, 1, 3, 1, 21, 0), (6, 5, 0, 2, 2, 46, 0), (6, 5, 0, 3, 3, 72, 0), (6, 4, 1, 2, 0, 0, 0), (6, 3, 1, 1, 1, 20, 0), (6, 4, 1, 1, 1, 21, 0), (6, 4, 2, 4, 0, 0, 0), (6, 3, 1, 2, 1, 23, 0), (7, 2, 0, 2, 1, 14, 2), (8, 2, 1, 2, 0, 0, 0), (7, 1, 1, 1, 1, 21, 0), (7, 2, 2, 2, 0, 0, 0), (7, 1, 2, 1, 0, 0, 1), (7, 3, 1, 1, 1, 21, 0), (99, 1, 2, 1, 0, 0, 1), (99, 3, 2, 1, 1, 20, 1), (7, 1, 2, 1, 2, 41, 0), (7, 5, 2, 1, 3, 66, 0), (7, 4, 1, 2, 2, 43, 0), (99, 1, 1, 1, 0, 0, 1), (99, 2, 2, 2, 2, 42, 1), (7, 7, 2, 3, 3, 63, 0), (7, 5, 2, 1, 4, 89, 0), (7, 5, 1, 2, 5, 113, 0), (99, 1, 2, 1, 1, 21, 1), (99, 2, 2, 2, 3, 63, 1), (8, 1, 0, 1, 1, 14, 2), (8, 2, 0, 2, 0, 0, 0), (9, 1, 0, 1, 3, 55, 2), (9, 2, 1, 1, 1, 20, 0), (9, 2, 1, 2, 0, 0, 0), (9, 1, 1, 1, 1, 21, 0), (9, 3, 1, 3, 3, 66, 0), (9, 4, 1, 4, 3, 84, 0), (9, 5, 1, 4, 4, 84, 0), (9, 4, 1, 3, 2, 42, 0), (9, 3, 1, 2, 1, 21, 0), (9, 2, 2, 2, 4, 86, 0), (9, 3, 1, 3, 5, 107, 0), (9, 3, 1, 3, 2, 42, 0), (9, 3, 1, 3, 2, 42, 0), (9, 3, 1, 3, 2, 42, 0), (9, 2, 1, 2, 1, 21, 0), (9, 2, 1, 1, 0, 0, 0), (9, 3, 1, 1, 6, 137, 0), (9, 3, 1, 3, 5, 107, 0), (9, 3, 0, 3, 4, 96, 0), (9, 4, 1, 3, 6, 129, 0), (9, 5, 1, 4, 6, 129, 0), (9, 3, 1, 2, 6, 129, 0), (9, 4, 1, 3, 6, 129, 0), (9, 3, 1, 3, 4, 96, 0), (9, 8, 1, 3, 6, 129, 0), (9, 5, 1, 3, 3, 63, 0), (9, 3, 2, 2, 5, 107, 0), (9, 5, 1, 2, 6, 129, 0), (9, 5, 3, 4, 6, 129, 0), (9, 3, 1, 3, 5, 118, 0), (9, 4, 1, 2, 6, 140, 0), (9, 2, 1, 2, 5, 118, 0), (9, 4, 1, 1, 6, 139, 0), (99, 4, 0, 2, 0, 0, 1), (9, 4, 0, 2, 0, 0, 0), (9, 4, 1, 3, 2, 42, 0), (9, 5, 0, 2, 3, 66, 0), (9, 7, 0, 1, 3, 84, 0), (9, 5, 1, 4, 4, 110, 0), (9, 2, 1, 2, 0, 0, 0), (9, 2, 1, 2, 1, 21, 0), (9, 4, 3, 1, 1, 26, 0), (10, 1, 0, 1, 1, 14, 2), (10, 1, 1, 1, 0, 0, 0), (10, 1, 1, 1, 0, 0, 0), (10, 1, 1, 1, 0, 0, 0), (10, 3, 2, 3, 0, 0, 1), (10, 1, 1, 1, 0, 0, 1), (10, 1, 1, 1, 0, 0, 1), (10, 1, 2, 1, 0, 0, 1), (10, 1, 2, 1, 1, 20, 1), (10, 2, 2, 2, 1, 20, 1), (10, 2, 2, 2, 2, 41, 1), (10, 2, 2, 2, 1, 22, 0), (10, 2, 2, 2, 1, 22, 0), (10, 3, 1, 3, 0, 0, 0), (10, 2, 1, 2, 0, 0, 0), (10, 3, 1, 3, 0, 0, 0), (10, 2, 1, 1, 0, 0, 0), (10, 1, 1, 1, 0, 0, 0), (10, 1, 1, 1, 1, 20, 0), (10, 5, 2, 3, 2, 41, 0), (10, 5, 1, 3, 0, 0, 0), (10, 3, 1, 3, 3, 65, 0), (10, 6, 1, 4, 0, 0, 0), (10, 4, 1, 4, 2, 43, 0), (10, 4, 2, 4, 2, 40, 0), (10, 5, 1, 4, 3, 63, 0), (10, 4, 1, 3, 2, 43, 0), (10, 3, 1, 2, 1, 22, 0), (10, 4, 1, 2, 0, 0, 0), (10, 4, 1, 2, 0, 0, 0), (10, 2, 1, 2, 1, 23, 0), (10, 3, 2, 3, 1, 22, 0), (10, 6, 2, 3, 3, 62, 0), (10, 4, 2, 2, 4, 87, 0), (10, 3, 1, 3, 5, 110, 0), (10, 3, 1, 3, 2, 43, 0), (10, 3, 1, 3, 2, 43, 0), (10, 3, 1, 3, 2, 43, 0), (10, 2, 1, 2, 0, 0, 1), (10, 2, 1, 2, 0, 0, 1), (10, 4, 0, 4, 0, 0, 0), (10, 5, 2, 3, 0, 0, 0), (10, 4, 1, 2, 0, 0, 0), (10, 7, 1, 3, 1, 24, 0), (10, 5, 1, 3, 1, 22, 0), (10, 5, 0, 4, 1, 21, 0), (10, 5, 0, 3, 2, 45, 0), (10, 10, 0, 4, 2, 46, 0), (10, 3, 0, 2, 2, 44, 0), (10, 6, 0, 3, 3, 75, 0), (10, 6, 1, 3, 4, 100, 0), (10, 5, 1, 2, 0, 0, 0), (10, 3, 1, 3, 5, 110, 0), (10, 4, 1, 4, 5, 110, 0), (10, 2, 1, 2, 5, 125, 0), (10, 5, 1, 3, 1, 21, 0), (10, 7, 1, 3, 2, 46, 0), (10, 8, 1, 3, 5, 110, 0), (10, 7, 1, 3, 5, 125, 0), (10, 6, 1, 3, 2, 43, 0), (10, 2, 0, 1, 0, 0, 0), (10, 5, 1, 1, 0, 0, 0), (10, 7, 1, 2, 5, 110, 0), (10, 2, 3, 1, 0, 0, 1), (10, 1, 1, 1, 1, 20, 1), (10, 4, 0, 3, 1, 20, 0), (10, 6, 0, 2, 2, 43, 0), (10, 6, 0, 2, 2, 43, 0), (10, 9, 3, 4, 5, 110, 0), (10, 7, 1, 2, 5, 125, 0), (10, 5, 1, 1, 5, 125, 0), (10, 6, 1, 3, 2, 43, 0), (10, 13, 1, 4, 1, 25, 0), (10, 2, 1, 2, 0, 0, 0), (10, 2, 1, 2, 1, 22, 0), (10, 5, 3, 1, 1, 22, 0), (10, 2, 1, 2, 1, 22, 0), (10, 2, 1, 1, 0, 0, 0), (10, 1, 1, 1, 0, 0, 0), (10, 1, 0, 1, 1, 20, 0), (10, 1, 2, 1, 1, 22, 1), (10, 3, 1, 2, 2, 42, 0), (10, 6, 2, 3, 3, 64, 0), (10, 1, 2, 1, 2, 40, 0), (10, 3, 2, 1, 4, 89, 0), (10, 4, 1, 1, 3, 64, 0), (10, 5, 2, 3, 4, 89, 0), (10, 5, 2, 1, 5, 113, 0), (10, 2, 1, 1, 6, 137, 0), (10, 2, 0, 1, 0, 0, 0), (10, 2, 0, 1, 0, 0, 0), (10, 2, 1, 1, 7, 158, 0), (99, 4, 2, 1, 8, 179, 1)]
def mtd (i : Nat) : AMt := mtAll.getD i (99, 0, 9, 0, 0, 0, 9)
def ynAll : List MethodName := [yX0_init, yX9_firstByte, yX9_width, yX9_shareByte, yX0_hasRoomAt, yX0_mix, yX1_init, yX1_start, yX1_nextBelow, yX2_init, yX2_mix, yX3_init, yX3_removeAll, yX11_isBelow, yX3_hasBlock, yX3_hasEdge, yX3_goalOf, yX3_addBlock, yX3_addParameter, yX3_addEdge, yX3_countFrom, yX3_countTo, yX3_whereStepsGo, yX4_init, yX4_look, yX4_isSet, yX4_isOpen, yX4_involved, yX9_areAcross, yX4_isClear, yX4_touches, yX4_openAt, yX4_countWanting, yX4_ringSize, yX4_countInRingsOf, yX4_countRings, yX4_longestRing, yX4_countOpenOutsideRings, yX5_init, yX5_fillBy, yX5_copy, yX5_put, yX5_exchange, yX5_handOver, yX5_follow, yX5_hash, yX6_init, yX6_openAll, yX6_isWanted, yX6_leastOpen, yX6_add, yX6_close, yX6_moveWhatLies, yX6_moveTo, yX6_openAt, yX6_ringSize, yX7_change, yX7_move, yX7_isRingChanged, yX6_changeRing, yX9_asTold, yX6_breakRing, yX6_leastSetBehind, yX6_addSettings, yX6_make, yX6_countSort, yX6_countToSpare, yX6_price, yX6_isSame, yX6_countSameAtEnd, yX8_init, yX10_at, yX8_nextByte, yX8_failAt, yX8_isFigure, yX8_readNumber, yX9_isWidth, yX9_isRegion, yX8_readEnd, yX8_readBlock, yX8_readNumberBelow, yX9_toldConstant, yX9_isAsWide, yX8_readArguments, yX8_readEdge, yX8_readInto, yX9_isConstant, yX9_isArgumentFor, yX10_init, yX10_append, yX11_init, yX11_anew, yX11_refuse, yX11_block, yX11_parameter, yX11_edge, yX11_argument, yX11_weight, yX11_machine, yX11_isClear, yX11_of, yX11_about, yX11_region, yX11_given, yX11_type, yX11_clear, yX11_read, yX11_refusalFor, yX11_makePlan, yX11_steps, yX11_step, yX11_cost, yX11_rings, yX11_priceBy, yX11_cheapest, yX11_free, yX11_allClearTo, yX11_tail, yX11_run, yX11_shareOfWhole, yX11_whole, yX11_weighedPrice, yX11_dearest, yJ7_fill_53178, yX11_goOneFurther, yX11_reach, yX11_drawBlock, yX11_drawEdge, yX11_draw, yX11_standing, yX11_told, yX11_digest, yX12_init, yX12_bad, yX12_no, yX12_full, yX12_in, yX12_widthOf, yX12_byteOf, yX12_isWidth, yX12_isRegion, yX12_meet, yX12_across, yX12_isBlock, yX12_isEdge, yX12_parameterOf, yX12_manyOf, yX12_givenOf, yX12_anew, yX12_newBlock, yX12_block, yX12_isTaken, yX12_newParameter, yX12_parameter, yX12_newEdge, yX12_edge, yX12_mayBeGiven, yX12_argument, yX12_weight, yX12_machine, yX12_edgesFrom, yX12_edgesTo, yX12_whereOf, yX12_moves, yX12_isAcross, yX12_isClear, yX12_of, yX12_about, yX12_region, yX12_given, yX12_moveCost, yX12_changeCost, yX12_comes, yX12_isWanted, yX12_openMany, yX12_leastOpen, yX12_whoHas, yX12_lies, yX12_movesTo, yX12_breaks, yX12_setOpen, yX12_setSteps, yX12_costBy, yX12_counted, yX12_steps, yX12_step, yX12_cost, yX12_wantedTimes, yX12_ringOf, yX12_rings, yX12_cheapest, yX12_free, yX12_asOther, yX12_sameBack, yX12_tail, yX12_next, yX12_beginOf, yX12_puts, yX12_stepsOn, yX12_handsOver, yX12_run, yX12_whole, yX12_dearest, yX12_reach, yX12_draw, yX12_tells, yX12_told, yX12_digest, yX12_type, yX12_clear, yX12_here, yX12_skip, yX12_isFigure, yX12_figures, yX12_number, yX12_ends, yX12_readsBlock, yX12_readsConstant, yX12_readsGiven, yX12_readsEdge, yX12_readsAll, yX12_lays, yX12_takes, yX12_read, yL_law]
def ynm (i : Nat) : MethodName := ynAll.getD i objectInit
def bcAll : List ByteArray := [cX0_init, cX9_firstByte, cX9_width, cX9_shareByte, cX0_hasRoomAt, cX0_mix, cX1_init, cX1_start, cX1_nextBelow, cX2_init, cX2_mix, cX3_init, cX3_removeAll, cX11_isBelow, cX3_hasBlock, cX3_hasEdge, cX3_goalOf, cX3_addBlock, cX3_addParameter, cX3_addEdge, cX3_countFrom, cX3_countTo, cX3_whereStepsGo, cX4_init, cX4_look, cX4_isSet, cX4_isOpen, cX4_involved, cX9_areAcross, cX4_isClear, cX4_touches, cX4_openAt, cX4_countWanting, cX4_ringSize, cX4_countInRingsOf, cX4_countRings, cX4_longestRing, cX4_countOpenOutsideRings, cX5_init, cX5_fillBy, cX5_copy, cX5_put, cX5_exchange, cX5_handOver, cX5_follow, cX5_hash, cX6_init, cX6_openAll, cX6_isWanted, cX6_leastOpen, cX6_add, cX6_close, cX6_moveWhatLies, cX6_moveTo, cX6_openAt, cX6_ringSize, cX7_change, cX7_move, cX7_isRingChanged, cX6_changeRing, cX9_asTold, cX6_breakRing, cX6_leastSetBehind, cX6_addSettings, cX6_make, cX6_countSort, cX6_countToSpare, cX6_price, cX6_isSame, cX6_countSameAtEnd, cX8_init, cX10_at, cX8_nextByte, cX8_failAt, cX8_isFigure, cX8_readNumber, cX9_isWidth, cX9_isRegion, cX8_readEnd, cX8_readBlock, cX8_readNumberBelow, cX9_toldConstant, cX9_isAsWide, cX8_readArguments, cX8_readEdge, cX8_readInto, cX9_isConstant, cX9_isArgumentFor, cX10_init, cX10_append, cX11_init, cX11_anew, cX11_refuse, cX11_block, cX11_parameter, cX11_edge, cX11_argument, cX11_weight, cX11_machine, cX11_isClear, cX11_of, cX11_about, cX11_region, cX11_given, cX11_type, cX11_clear, cX11_read, cX11_refusalFor, cX11_makePlan, cX11_steps, cX11_step, cX11_cost, cX11_rings, cX11_priceBy, cX11_cheapest, cX11_free, cX11_allClearTo, cX11_tail, cX11_run, cX11_shareOfWhole, cX11_whole, cX11_weighedPrice, cX11_dearest, cJ7_fill_53178, cX11_goOneFurther, cX11_reach, cX11_drawBlock, cX11_drawEdge, cX11_draw, cX11_standing, cX11_told, cX11_digest, cX12_init, cX12_bad, cX12_no, cX12_full, cX12_in, cX12_widthOf, cX12_byteOf, cX12_isWidth, cX12_isRegion, cX12_meet, cX12_across, cX12_isBlock, cX12_isEdge, cX12_parameterOf, cX12_manyOf, cX12_givenOf, cX12_anew, cX12_newBlock, cX12_block, cX12_isTaken, cX12_newParameter, cX12_parameter, cX12_newEdge, cX12_edge, cX12_mayBeGiven, cX12_argument, cX12_weight, cX12_machine, cX12_edgesFrom, cX12_edgesTo, cX12_whereOf, cX12_moves, cX12_isAcross, cX12_isClear, cX12_of, cX12_about, cX12_region, cX12_given, cX12_moveCost, cX12_changeCost, cX12_comes, cX12_isWanted, cX12_openMany, cX12_leastOpen, cX12_whoHas, cX12_lies, cX12_movesTo, cX12_breaks, cX12_setOpen, cX12_setSteps, cX12_costBy, cX12_counted, cX12_steps, cX12_step, cX12_cost, cX12_wantedTimes, cX12_ringOf, cX12_rings, cX12_cheapest, cX12_free, cX12_asOther, cX12_sameBack, cX12_tail, cX12_next, cX12_beginOf, cX12_puts, cX12_stepsOn, cX12_handsOver, cX12_run, cX12_whole, cX12_dearest, cX12_reach, cX12_draw, cX12_tells, cX12_told, cX12_digest, cX12_type, cX12_clear, cX12_here, cX12_skip, cX12_isFigure, cX12_figures, cX12_number, cX12_ends, cX12_readsBlock, cX12_readsConstant, cX12_readsGiven, cX12_readsEdge, cX12_readsAll, cX12_lays, cX12_takes, cX12_read, cL_law]
def bcm (i : Nat) : ByteArray := bcAll.getD i ⟨#[]⟩
def rtAll : List (Option FieldType) := [none, (some FieldType.int), (some FieldType.int), (some FieldType.boolean), (some FieldType.boolean), (some FieldType.long), none, none, (some FieldType.int), none, (some FieldType.long), none, none, (some FieldType.boolean), (some FieldType.boolean), (some FieldType.boolean), (some (FieldType.object "EdgeMoves$Block")), (some FieldType.int), (some FieldType.int), (some FieldType.int), (some FieldType.int), (some FieldType.int), (some FieldType.int), none, none, (some FieldType.boolean), (some FieldType.boolean), (some FieldType.int), (some FieldType.boolean), (some FieldType.boolean), (some FieldType.boolean), (some FieldType.int), (some FieldType.int), (some FieldType.int), (some FieldType.int), (some FieldType.int), (some FieldType.int), (some FieldType.int), none, none, none, none, none, none, none, (some FieldType.long), none, none, (some FieldType.boolean), (some FieldType.int), none, none, none, none, (some FieldType.int), (some FieldType.int), (some FieldType.int), (some FieldType.int), (some FieldType.boolean), none, (some FieldType.int), none, (some FieldType.int), none, none, (some FieldType.int), (some FieldType.int), (some FieldType.int), (some FieldType.boolean), (some FieldType.int), none, (some FieldType.int), (some FieldType.int), (some FieldType.boolean), (some FieldType.boolean), (some FieldType.int), (some FieldType.boolean), (some FieldType.boolean), (some FieldType.boolean), (some FieldType.boolean), (some FieldType.int), (some FieldType.int), (some FieldType.boolean), (some FieldType.boolean), (some FieldType.boolean), (some FieldType.int), (some FieldType.boolean), (some FieldType.boolean), none, none, none, (some FieldType.int), (some FieldType.int), (some FieldType.int), (some FieldType.int), (some FieldType.int), (some FieldType.int), (some FieldType.int), (some FieldType.int), (some FieldType.boolean), (some FieldType.int), (some FieldType.int), (some FieldType.int), (some FieldType.int), (some FieldType.int), (some FieldType.int), (some FieldType.int), (some FieldType.int), none, (some FieldType.int), (some FieldType.int), (some FieldType.int), (some FieldType.int), (some FieldType.int), (some FieldType.int), (some FieldType.int), (some FieldType.boolean), (some FieldType.int), (some FieldType.long), (some FieldType.int), (some FieldType.int), (some FieldType.int), (some FieldType.int), none, none, (some FieldType.int), none, none, (some FieldType.int), (some FieldType.int), (some FieldType.int), (some FieldType.long), none, (some FieldType.int), (some FieldType.int), (some FieldType.int), (some FieldType.boolean), (some FieldType.int), (some FieldType.int), (some FieldType.boolean), (some FieldType.boolean), (some FieldType.boolean), (some FieldType.boolean), (some FieldType.boolean), (some FieldType.boolean), (some FieldType.int), (some FieldType.int), (some FieldType.int), (some FieldType.int), (some FieldType.int), (some FieldType.int), (some FieldType.boolean), (some FieldType.int), (some FieldType.int), (some FieldType.int), (some FieldType.int), (some FieldType.boolean), (some FieldType.int), (some FieldType.int), (some FieldType.int), (some FieldType.int), (some FieldType.int), (some FieldType.int), (some FieldType.boolean), (some FieldType.boolean), (some FieldType.boolean), (some FieldType.int), (some FieldType.int), (some FieldType.int), (some FieldType.int), (some FieldType.int), (some FieldType.int), none, (some FieldType.boolean), (some FieldType.int), (some FieldType.int), (some FieldType.int), none, none, none, none, none, (some FieldType.int), (some FieldType.int), (some FieldType.int), (some FieldType.int), (some FieldType.int), (some FieldType.int), (some FieldType.int), (some FieldType.int), (some FieldType.int), (some FieldType.int), none, (some FieldType.int), (some FieldType.int), (some FieldType.long), (some FieldType.int), none, none, none, (some FieldType.long), (some FieldType.int), (some FieldType.int), (some FieldType.int), (some FieldType.int), (some FieldType.int), (some FieldType.int), (some FieldType.long), (some FieldType.int), (some FieldType.int), (some FieldType.int), none, (some FieldType.boolean), (some FieldType.int), (some FieldType.boolean), (some FieldType.boolean), (some FieldType.boolean), (some FieldType.int), (some FieldType.boolean), (some FieldType.boolean), (some FieldType.int), none, none, (some FieldType.int), (some .boolean)]
def rtm (i : Nat) : Option FieldType := rtAll.getD i none
def nmeth : Nat := 225
def nlaw : Nat := 224
end
section
def apad (l : List AVal) (n : Nat) : List AVal := l ++ List.replicate (n - l.length) vU
/-- n rows of a method j from a place on, its calls among them -/
def ex : Nat → Nat → Nat → List AVal → List AVal → List AShp → AMem → Option ARes
  | 0, _, _, _, _, _, _ => none
  | n + 1, j, pc, ls, st, sh, g =>
    match look (codL j) pc with
    | none => none
    | some (ins, (_, (x, (y, z)))) =>
      match akd ins x with
      | 0 => match stp ins x y z pc ls st sh g with
        | some (pc', ls', st', sh', g') => ex n j pc' ls' st' sh' g'
        | none => none
      | 1 => if y ≤ st.length ∧ awg (st.drop y) ≤ 8 ∧ a_rcv (mtd x) sh (st.take y).reverse = true ∧ (aent (st.take y).reverse).length ≤ (mtd x).2.1 then
          match ex n x 0 (apad (aent (st.take y).reverse) (mtd x).2.1) [] sh g with
          | some r => ex n j (pc + 3) ls (r.1 ++ st.drop y) r.2.1 r.2.2
          | none => none
        else none
      | _ => match a_end ins (mtd j).2.2.1 st with
        | some v => some (v, sh, g)
        | none => none
def tch : Nat → List Cond
  | 0 => k2_sels lw_privs
  | 1 => tables_1_1
  | 2 => tables_1_2
  | 3 => tables_1_3
  | 4 => tables_1_4
  | 5 => tables_1_5
  | _ => tables_1_6
theorem tch_in {k i : Nat} {w : Cond} (h : (tch k)[i]? = some w) (hg : goodWord w = true) : w ∈ wsA := by
  have hm := List.mem_of_getElem? h
  refine List.mem_filter.mpr ⟨?_, hg⟩
  unfold lw_tbl
  have ht : ∀ q : Cond, q ∈ tables_1_1 ∨ q ∈ tables_1_2 ∨ q ∈ tables_1_3 ∨ q ∈ tables_1_4 ∨ q ∈ tables_1_5 ∨ q ∈ tables_1_6 → q ∈ tables_1 := by
    intro q hq
    unfold tables_1
    simp only [List.mem_append]
    exact hq
  match k, hm with
  | 0, hm => exact List.mem_append_left _ hm
  | 1, hm => exact List.mem_append_right _ (ht _ (Or.inl hm))
  | 2, hm => exact List.mem_append_right _ (ht _ (Or.inr (Or.inl hm)))
  | 3, hm => exact List.mem_append_right _ (ht _ (Or.inr (Or.inr (Or.inl hm))))
  | 4, hm => exact List.mem_append_right _ (ht _ (Or.inr (Or.inr (Or.inr (Or.inl hm)))))
  | 5, hm => exact List.mem_append_right _ (ht _ (Or.inr (Or.inr (Or.inr (Or.inr (Or.inl hm))))))
  | _ + 6, hm => exact List.mem_append_right _ (ht _ (Or.inr (Or.inr (Or.inr (Or.inr (Or.inr hm))))))
def vcl (x : Nat) : vw_C := vwCl.getD x (RX0, TX0, 0)
def nestW : List Cond := [.methodLinkNest RX11 61 yX1_init RX11, .methodLinkNest RX3 32 yX11_isBelow RX11, .methodLinkNest RX9 26 yX11_isBelow RX11, .methodLinkNest RX8 61 yX11_isBelow RX11]
/-- the words of a row -/
def nWords (j : Nat) (ins : Instr) (x y : Nat) (z : Int) : List Cond := match ins with
  | .ldc i => [.constant (ynm j).cls i (Int32.ofInt z)]
  | .ldc2_w i => [.constantLong (ynm j).cls i (Int64.ofInt z)]
  | .getfield i => [.fieldLink (ynm j).cls i (vcl x).1 ((vcl x).2.1 y).2.1 ((vcl x).2.1 y).2.2.1]
  | .putfield i => [.fieldLink (ynm j).cls i (vcl x).1 ((vcl x).2.1 y).2.1 ((vcl x).2.1 y).2.2.1]
  | .new i => [.classLink (ynm j).cls i (vcl x).1, .instantiable (vcl x).1 (vcl x).2.2, .initialized (vcl x).1]
  | .newarray t => [.arrayClass (newarray.typeOf t)]
  | .anewarray i => [.classLink (ynm j).cls i (if x = 22 then RX0 else RX2)]
  | .invokevirtual i => [.methodLink (ynm j).cls i (ynm x), .instanceMethod (ynm x), .selects (ynm x).cls (ynm x) (ynm x), .initialized (ynm x).cls, .code (ynm x) (bcm x) (mtd x).2.1 (rtm x)]
  | .invokestatic i => if x = 1001 then [.methodLink (ynm j).cls i arraycopyName, .native arraycopyName, .static arraycopyName, .initialized "java/lang/System"]
    else if x = 1002 then [.methodLink (ynm j).cls i Lib.Math.max.name, .static Lib.Math.max.name, .initialized "java/lang/Math", .code Lib.Math.max.name Lib.Math.max.code 2 (some .int)]
    else if 1001 ≤ x then [.methodLink (ynm j).cls i Lib.Math.min.name, .static Lib.Math.min.name, .initialized "java/lang/Math", .code Lib.Math.min.name Lib.Math.min.code 2 (some .int)]
    else (if z = 0 then [.methodLink (ynm j).cls i (ynm x)] else []) ++ [.static (ynm x), .initialized (ynm x).cls, .code (ynm x) (bcm x) (mtd x).2.1 (rtm x)]
  | .invokespecial i => if x = 1000 then [.methodLink (ynm j).cls i objectInit, .instanceMethod objectInit, .code objectInit ⟨#[0xb1]⟩ 1 none]
    else (if z = 0 then [.methodLink (ynm j).cls i (ynm x)] else []) ++ [.instanceMethod (ynm x), .initialized (ynm x).cls, .code (ynm x) (bcm x) (mtd x).2.1 (rtm x)]
  | _ => []
def cRoom (j x : Nat) : Bool := decide ((mtd x).2.2.2.2.1 + 1 ≤ (mtd j).2.2.2.2.1 ∧ 8 + ((mtd x).2.1 + 11) + (mtd x).2.2.2.2.2.1 ≤ (mtd j).2.2.2.2.2.1)
def cOk (j x y : Nat) (h : Nat) : Bool := cRoom j x && decide ((mtd x).2.2.2.2.2.2 = h) && decide ((ynm x).cls ≠ "java/lang/invoke/MethodHandle" ∧ (ynm x).cls ≠ "java/lang/invoke/VarHandle")
  && decide ((parseMethodDescriptor (ynm x).desc).map (fun d => d.parameters.length) = some (if h = 1 then y else y - 1)) && decide (h = 1 ∨ 1 ≤ y) && decide (x < nlaw) && decide (h = 0 → (mtd x).1 < 11 ∧ (vcl (mtd x).1).1 = (ynm x).cls)
/-- what a row must fulfil in numbers -/
def nBool (j pc : Nat) (ins : Instr) (len x y : Nat) (z : Int) : Bool := match ins with
  | .iconst n => decide (len = 1 ∧ iw n = n)
  | .bipush n => decide (len = 2 ∧ (Int8.ofInt n).toInt32 = Int32.ofInt n ∧ iw n = n)
  | .sipush n => decide (len = 3 ∧ (Int16.ofInt n).toInt32 = Int32.ofInt n ∧ iw n = n)
  | .ldc _ => decide (len = 2 ∧ iw z = z)
  | .ldc2_w _ => decide (len = 3 ∧ lw z = z)
  | .lconst n => decide (len = 1 ∧ Int64.ofNat (n : Nat) = Int64.ofInt (n : Nat))
  | .iload_n _ => decide (len = 1)
  | .iload _ => decide (len = 2)
  | .lload_n _ => decide (len = 1)
  | .lload _ => decide (len = 2)
  | .aload_n _ => decide (len = 1)
  | .aload _ => decide (len = 2)
  | .istore_n _ => decide (len = 1)
  | .istore _ => decide (len = 2)
  | .lstore_n _ => decide (len = 1)
  | .lstore _ => decide (len = 2)
  | .astore_n _ => decide (len = 1)
  | .astore _ => decide (len = 2)
  | .iinc _ _ => decide (len = 3)
  | .ifCond _ o => decide (len = 3 ∧ 0 ≤ (pc : Int) + o)
  | .if_icmp _ o => decide (len = 3 ∧ 0 ≤ (pc : Int) + o)
  | .goto o => decide (len = 3 ∧ 0 ≤ (pc : Int) + o)
  | .tableswitch _ _ _ _ => true
  | .lookupswitch _ ps => (ps.toList.zip (ps.toList.drop 1)).all (fun (a, next) => a.1 < next.1)
  | .getfield _ => decide (len = 3 ∧ x < 11)
  | .putfield _ => decide (len = 3 ∧ x < 11) && (match (jfld x)[y]?, parseFieldDescriptor ((vcl x).2.1 y).2.2.1 with
    | some 0, some .int => !((vcl x).2.1 y).2.2.2
    | some 1, some .long => !((vcl x).2.1 y).2.2.2
    | some 2, some (.object _) => !((vcl x).2.1 y).2.2.2
    | some 2, some (.array _) => !((vcl x).2.1 y).2.2.2
    | some 3, some (.object _) => ((vcl x).2.1 y).2.2.2 && decide ((ynm j).name = "<init>" ∧ ((vcl x).2.1 y).1 = (ynm j).cls)
    | some 3, some (.array _) => ((vcl x).2.1 y).2.2.2 && decide ((ynm j).name = "<init>" ∧ ((vcl x).2.1 y).1 = (ynm j).cls)
    | _, _ => false)
  | .new _ => decide (len = 3 ∧ x < 11)
  | .newarray _ => decide (len = 2)
  | .anewarray _ => decide (len = 3)
  | .invokevirtual _ => decide (len = 3) && cOk j x y 0
  | .invokestatic i => decide (len = 3) && (if 1001 ≤ x then decide (1 ≤ (mtd j).2.2.2.2.1 ∧ 60 ≤ (mtd j).2.2.2.2.2.1) else cOk j x y 1 && decide (z = 0 ∨ (.methodLinkNest (ynm j).cls i (ynm x) RX11) ∈ nestW))
  | .invokespecial i => decide (len = 3) && (if x = 1000 then decide (1 ≤ (mtd j).2.2.2.2.1 ∧ 14 ≤ (mtd j).2.2.2.2.2.1) else cOk j x y 2 && decide ((ynm x).name = "<init>" ∧ rtm x = none) && decide (z = 0 ∨ (.methodLinkNest (ynm j).cls i (ynm x) RX11) ∈ nestW))
  | _ => decide (len = 1)
def rok (j : Nat) (r : ACe) : Prop := decode (bcm j) r.1 = .ok (r.2.1, r.2.2.1) ∧ nBool j r.1 r.2.1 r.2.2.1 r.2.2.2.1 r.2.2.2.2.1 r.2.2.2.2.2 = true ∧ ∀ w ∈ nWords j r.2.1 r.2.2.2.1 r.2.2.2.2.1 r.2.2.2.2.2, w ∈ wsA
def wchk (ws : List Cond) (hs : List (Nat × Nat)) : Bool := decide (ws.map some = hs.map (fun q => (tch q.1)[q.2]?)) && ws.all goodWord
theorem wchk_in {ws : List Cond} {hs : List (Nat × Nat)} (h : wchk ws hs = true) : ∀ w ∈ ws, w ∈ wsA := by
  unfold wchk at h
  simp only [Bool.and_eq_true, decide_eq_true_eq] at h
  intro w hw
  have h1 : some w ∈ hs.map (fun q => (tch q.1)[q.2]?) := by rw [← h.1]; exact List.mem_map_of_mem hw
  obtain ⟨q, -, hq⟩ := List.mem_map.mp h1
  exact tch_in hq (List.all_eq_true.mp h.2 w hw)
def rchk (j : Nat) : List ACe → List (List (Nat × Nat)) → Bool
  | [], [] => true
  | r :: t, hs :: u => decide (decode (bcm j) r.1 = .ok (r.2.1, r.2.2.1)) && nBool j r.1 r.2.1 r.2.2.1 r.2.2.2.1 r.2.2.2.2.1 r.2.2.2.2.2 && wchk (nWords j r.2.1 r.2.2.2.1 r.2.2.2.2.1 r.2.2.2.2.2) hs && rchk j t u
  | _, _ => false
theorem rchk_ok {j : Nat} : ∀ {t : List ACe} {u : List (List (Nat × Nat))}, rchk j t u = true → ∀ r ∈ t, rok j r
  | [], _, _, r, hr => by cases hr
  | q :: t, [], h, r, hr => by simp [rchk] at h
  | q :: t, hs :: u, h, r, hr => by
    simp only [rchk, Bool.and_eq_true, decide_eq_true_eq] at h
    rcases List.mem_cons.mp hr with e | e
    · subst e
      exact ⟨h.1.1.1, h.1.1.2, wchk_in h.1.2⟩
    · exact rchk_ok h.2 r e
end
section
/-! numbers -/
theorem ofI_iw (x : Int) : Int32.ofInt (iw x) = Int32.ofInt x := by
  apply Int32.toInt_inj.1
  rw [Int32.toInt_ofInt, Int32.toInt_ofInt]
  exact Int.bmod_bmod
theorem ofL_lw (x : Int) : Int64.ofInt (lw x) = Int64.ofInt x := by
  apply Int64.toInt_inj.1
  rw [Int64.toInt_ofInt, Int64.toInt_ofInt]
  exact Int.bmod_bmod
theorem toI_of {x : Int} (h : iw x = x) : (Int32.ofInt x).toInt = x := by
  rw [Int32.toInt_ofInt]
  exact h
theorem toL_of {x : Int} (h : lw x = x) : (Int64.ofInt x).toInt = x := by
  rw [Int64.toInt_ofInt]
  exact h
theorem iw_iw (x : Int) : iw (iw x) = iw x := Int.bmod_bmod
theorem lw_lw (x : Int) : lw (lw x) = lw x := Int.bmod_bmod
theorem iw_toInt (x : Int32) : iw x.toInt = x.toInt := Int32.toInt_bmod x
theorem iw_bd {x : Int} (h : iw x = x) : -2147483648 ≤ x ∧ x < 2147483648 := by
  have a := Int32.le_toInt (Int32.ofInt x)
  have c := Int32.toInt_lt (Int32.ofInt x)
  rw [toI_of h] at a c
  omega
theorem iw_id {x : Int} (h1 : -2147483648 ≤ x) (h2 : x < 2147483648) : iw x = x := by
  have h := Int32.toInt_ofInt_of_le (n := x) (by omega) (by omega)
  rw [Int32.toInt_ofInt] at h
  exact h
theorem lw_id {x : Int} (h1 : -9223372036854775808 ≤ x) (h2 : x < 9223372036854775808) : lw x = x := by
  have h := Int64.toInt_ofInt_of_le (n := x) (by omega) (by omega)
  rw [Int64.toInt_ofInt] at h
  exact h
theorem lw_of_iw {x : Int} (h : iw x = x) : lw x = x := by
  have a := iw_bd h
  exact lw_id (by omega) (by omega)
theorem ofI_add (x y : Int) : Int32.ofInt (iw (x + y)) = Int32.ofInt x + Int32.ofInt y := by rw [ofI_iw, Int32.ofInt_add]
theorem ofI_sub (x y : Int) : Int32.ofInt (iw (x - y)) = Int32.ofInt x - Int32.ofInt y := by rw [ofI_iw, Int32.ofInt_sub]
theorem ofI_mul (x y : Int) : Int32.ofInt (iw (x * y)) = Int32.ofInt x * Int32.ofInt y := by rw [ofI_iw, Int32.ofInt_mul]
theorem ofI_div {x y : Int} (hx : iw x = x) (hy : iw y = y) : Int32.ofInt (iw (x.tdiv y)) = Int32.ofInt x / Int32.ofInt y := by
  apply Int32.toInt_inj.1
  rw [Int32.toInt_div, toI_of hx, toI_of hy, ofI_iw, Int32.toInt_ofInt]
theorem ofI_rem {x y : Int} (hx : iw x = x) (hy : iw y = y) : Int32.ofInt (iw (x - x.tdiv y * y)) = Int32.ofInt x - Int32.ofInt x / Int32.ofInt y * Int32.ofInt y := by
  rw [ofI_iw, Int32.ofInt_sub, Int32.ofInt_mul, ← ofI_div hx hy, ofI_iw]
theorem ofL_add (x y : Int) : Int64.ofInt (lw (x + y)) = Int64.ofInt x + Int64.ofInt y := by rw [ofL_lw, Int64.ofInt_add]
theorem ofL_mul (x y : Int) : Int64.ofInt (lw (x * y)) = Int64.ofInt x * Int64.ofInt y := by rw [ofL_lw, Int64.ofInt_mul]
theorem ofL_div {x y : Int} (hx : lw x = x) (hy : lw y = y) : Int64.ofInt (lw (x.tdiv y)) = Int64.ofInt x / Int64.ofInt y := by
  apply Int64.toInt_inj.1
  rw [Int64.toInt_div, toL_of hx, toL_of hy, ofL_lw, Int64.toInt_ofInt]
theorem ofL_rem {x y : Int} (hx : lw x = x) (hy : lw y = y) : Int64.ofInt (lw (x - x.tdiv y * y)) = Int64.ofInt x - Int64.ofInt x / Int64.ofInt y * Int64.ofInt y := by
  rw [ofL_lw, Int64.ofInt_sub, Int64.ofInt_mul, ← ofL_div hx hy, ofL_lw]
theorem ofI_inj {x y : Int} (hx : iw x = x) (hy : iw y = y) : Int32.ofInt x = Int32.ofInt y ↔ x = y :=
  ⟨fun h => by rw [← toI_of hx, ← toI_of hy, h], fun h => by rw [h]⟩
theorem ofL_inj {x y : Int} (hx : lw x = x) (hy : lw y = y) : Int64.ofInt x = Int64.ofInt y ↔ x = y :=
  ⟨fun h => by rw [← toL_of hx, ← toL_of hy, h], fun h => by rw [h]⟩
theorem ofI_lt {x y : Int} (hx : iw x = x) (hy : iw y = y) : Int32.ofInt x < Int32.ofInt y ↔ x < y := by
  rw [Int32.lt_iff_toInt_lt, toI_of hx, toI_of hy]
theorem ofI_le {x y : Int} (hx : iw x = x) (hy : iw y = y) : Int32.ofInt x ≤ Int32.ofInt y ↔ x ≤ y := by
  rw [Int32.le_iff_toInt_le, toI_of hx, toI_of hy]
theorem ofI_0 : (0 : Int32) = Int32.ofInt 0 := by decide +kernel
theorem ofL_0 : (0 : Int64) = Int64.ofInt 0 := by decide +kernel
theorem iw_0 : iw 0 = 0 := by decide +kernel
theorem lw_0 : lw 0 = 0 := by decide +kernel
theorem ofL_cmp {x y : Int} (hx : lw x = x) (hy : lw y = y) : Int32.ofInt (if y < x then 1 else if x = y then 0 else -1) = lg_cmp (Int64.ofInt x) (Int64.ofInt y) := by
  unfold lg_cmp
  simp only [gt_iff_lt, Int64.lt_iff_toInt_lt, toL_of hx, toL_of hy, ofL_inj hx hy]
  split
  · decide +kernel
  · split <;> decide +kernel
theorem i2l_of {x : Int} (hx : iw x = x) : (Int32.ofInt x).toInt64 = Int64.ofInt x := by
  apply Int64.toInt_inj.1
  rw [Int32.toInt_toInt64, toI_of hx, toL_of (lw_of_iw hx)]
theorem l2i_of (x : Int) : (Int64.ofInt x).toInt32 = Int32.ofInt (iw x) := by rw [Int64.toInt32_ofInt, ofI_iw]
theorem ofI_in {i : Int} {n : Nat} (hi : iw i = i) : vp_in (Int32.ofInt i) n ↔ 0 ≤ i ∧ i < n := by rw [vp_in_iff, toI_of hi]
theorem ofI_nat {i : Int} (hi : iw i = i) : (Int32.ofInt i).toNatClampNeg = i.toNat := by rw [← Int32.toNat_toInt, toI_of hi]
/-! cells -/
def adr (b base : Nat) (x : Int) : Nat := if x = 1 then b else base + (x.toNat - 2)
def rfo (b base : Nat) (x : Int) : Option Nat := if 1 ≤ x then some (adr b base x) else none
def evv (b base : Nat) : AVal → Value
  | .inl x => .int (Int32.ofInt x)
  | .inr (.inl x) => .long (Int64.ofInt x)
  | .inr (.inr (.inl x)) => va_rf (rfo b base x)
  | .inr (.inr (.inr _)) => .null
theorem adr_2 {b base : Nat} {x : Int} (h : 2 ≤ x) : adr b base x = base + (x.toNat - 2) := if_neg (by omega)
theorem evv_r {b base : Nat} {x : Int} (h : 1 ≤ x) : evv b base (vR x) = .ref (adr b base x) := by
  show va_rf (rfo b base x) = _
  rw [rfo, if_pos h]
  rfl
def fvl (t : Nat) (x r : Int) : AVal := match t with
  | 0 => vI x
  | 1 => vL x
  | 2 => vR x
  | _ => vR r
def fldE (b base : Nat) (s : AShp) (a : Int) (g : AMem) : List Value := (List.range (jfld s.1).length).map (fun (k : Nat) => evv b base (fvl ((jfld s.1).getD k 0) (g a k) (s.2.2.getD k 0)))
def celE (b base : Nat) (cs : Nat → ClassId) (s : AShp) (a : Int) (g : AMem) : va_E :=
  if s.1 = 20 then .inl (cs 0, s.2.1, .inl (fun (j : Nat) => Int32.ofInt (g a j)))
  else if s.1 = 21 then .inl (cs 1, s.2.1, .inl (fun (j : Nat) => Int32.ofInt (g a j)))
  else if s.1 = 22 then .inl (cs 2, s.2.1, .inr (.inr (.inr (.inr (fun (j : Nat) => rfo b base (s.2.2.getD j 0))))))
  else if s.1 = 23 then .inl (cs 3, s.2.1, .inr (.inr (.inr (.inr (fun (j : Nat) => rfo b base (s.2.2.getD j 0))))))
  else .inr (s.1, fldE b base s a g)
def WSa (b base : Nat) (cs : Nat → ClassId) (sh : List AShp) (g : AMem) : va_W := (List.range (sh.length - 2)).map (fun (k : Nat) => (base + k, celE b base cs (sh.getD (k + 2) (0, 0, [])) ((k : Int) + 2) g))
section WLD
variable {b base : Nat} {cs : Nat → ClassId} {sh : List AShp} {g g' : AMem}
theorem ws_len : (WSa b base cs sh g).length = sh.length - 2 := by simp [WSa]
theorem ws_ix {k : Nat} (hk : k < sh.length - 2) : (WSa b base cs sh g)[k]? = some (base + k, celE b base cs (sh.getD (k + 2) (0, 0, [])) ((k : Int) + 2) g) := by
  unfold WSa
  rw [List.getElem?_map, List.getElem?_range hk]
  rfl
theorem ws_at {t : Int} {s : AShp} (hs : sh[t.toNat]? = some s) (h2 : 2 ≤ t) : (WSa b base cs sh g)[t.toNat - 2]? = some (adr b base t, celE b base cs s t g) := by
  have hl := (List.getElem?_eq_some_iff.mp hs).1
  have e : t.toNat - 2 + 2 = t.toNat := by omega
  have e2 : ((t.toNat - 2 : Nat) : Int) + 2 = t := by omega
  rw [ws_ix (by omega), e, e2, adr_2 h2, List.getD_eq_getElem?_getD, hs]
  rfl
theorem celE_cong {s : AShp} {a : Int} (h : ∀ k : Int, g' a k = g a k) : celE b base cs s a g' = celE b base cs s a g := by
  unfold celE fldE
  simp only [h]
theorem ws_mem {t : Int} {s : AShp} (hs : sh[t.toNat]? = some s) (h2 : 2 ≤ t) (hg : ∀ a k : Int, a ≠ t → g' a k = g a k) : WSa b base cs sh g' = (WSa b base cs sh g).set (t.toNat - 2) (adr b base t, celE b base cs s t g') := by
  have hl := (List.getElem?_eq_some_iff.mp hs).1
  apply List.ext_getElem?
  intro k
  by_cases hk : k < sh.length - 2
  · by_cases hkt : k = t.toNat - 2
    · subst hkt
      rw [ws_at hs h2, List.getElem?_set_self (by rw [ws_len]; exact hk)]
    · rw [List.getElem?_set_ne (Ne.symm hkt), ws_ix hk, ws_ix hk, celE_cong (fun q => hg _ q (by omega))]
  · rw [List.getElem?_eq_none (by rw [ws_len]; omega), List.getElem?_eq_none (by rw [List.length_set, ws_len]; omega)]
theorem ws_shp {t : Int} {s' : AShp} (ht : t.toNat < sh.length) (h2 : 2 ≤ t) : WSa b base cs (sh.set t.toNat s') g = (WSa b base cs sh g).set (t.toNat - 2) (adr b base t, celE b base cs s' t g) := by
  apply List.ext_getElem?
  intro k
  by_cases hk : k < sh.length - 2
  · by_cases hkt : k = t.toNat - 2
    · subst hkt
      rw [ws_at (s := s') (by rw [List.getElem?_set_self ht]) h2, List.getElem?_set_self (by rw [ws_len]; exact hk)]
    · rw [List.getElem?_set_ne (Ne.symm hkt), ws_ix (by rw [List.length_set]; exact hk), ws_ix hk]
      rw [List.getD_eq_getElem?_getD, List.getElem?_set_ne (by omega), ← List.getD_eq_getElem?_getD]
  · rw [List.getElem?_eq_none (by rw [ws_len, List.length_set]; omega), List.getElem?_eq_none (by rw [List.length_set, ws_len]; omega)]
theorem ws_psh {s : AShp} (h2 : 2 ≤ sh.length) (hg : ∀ a k : Int, a ≠ sh.length → g' a k = g a k) : WSa b base cs (sh ++ [s]) g' = WSa b base cs sh g ++ [(base + (sh.length - 2), celE b base cs s sh.length g')] := by
  have hl : (WSa b base cs sh g).length = sh.length - 2 := ws_len
  apply List.ext_getElem?
  intro k
  by_cases hk : k < sh.length - 2
  · rw [List.getElem?_append_left (by rw [hl]; exact hk), ws_ix hk, ws_ix (by rw [List.length_append, List.length_singleton]; omega), celE_cong (fun q => hg _ q (by omega))]
    rw [List.getD_eq_getElem?_getD, List.getElem?_append_left (by omega), ← List.getD_eq_getElem?_getD]
  · by_cases hk2 : k = sh.length - 2
    · subst hk2
      rw [List.getElem?_append_right (by rw [hl]; omega), hl, Nat.sub_self, ws_ix (by rw [List.length_append, List.length_singleton]; omega)]
      have e : sh.length - 2 + 2 = sh.length := by omega
      have e2 : ((sh.length - 2 : Nat) : Int) + 2 = sh.length := by omega
      rw [e, e2, List.getD_eq_getElem?_getD, List.getElem?_append_right (by omega), Nat.sub_self]
      rfl
    · rw [List.getElem?_eq_none (by rw [ws_len, List.length_append, List.length_singleton]; omega), List.getElem?_eq_none (by rw [List.length_append, hl, List.length_singleton]; omega)]
theorem ws_D : va_D (fun q : Nat => base ≤ q) (WSa b base cs sh g) := by
  have key : ∀ (k : Nat) (q : Nat × va_E), (WSa b base cs sh g)[k]? = some q → q.1 = base + k := by
    intro k q hq
    have hk : k < sh.length - 2 := by
      have := (List.getElem?_eq_some_iff.mp hq).1
      rwa [ws_len] at this
    rw [ws_ix hk] at hq
    cases hq
    rfl
  refine ⟨fun i j p q hp hq e => ?_, fun k q hq => ?_⟩
  · have h1 := key i p hp
    have h2 := key j q hq
    omega
  · show base ≤ q.1
    rw [key k q hq]
    omega
theorem fld_at {s : AShp} {a : Int} {y t : Nat} (hy : (jfld s.1)[y]? = some t) : (fldE b base s a g)[y]? = some (evv b base (fvl t (g a y) (s.2.2.getD y 0))) := by
  have hl := (List.getElem?_eq_some_iff.mp hy).1
  unfold fldE
  rw [List.getElem?_map, List.getElem?_range hl]
  simp only [Option.map_some, List.getD_eq_getElem?_getD, hy, Option.getD_some]
theorem fld_len {s : AShp} {a : Int} : (fldE b base s a g).length = (jfld s.1).length := by simp [fldE]
theorem fld_put {s : AShp} {a x : Int} {y t : Nat} (hy : (jfld s.1)[y]? = some t) : fldE b base s a (up g a y x) = (fldE b base s a g).set y (evv b base (fvl t x (s.2.2.getD y 0))) := by
  have hl := (List.getElem?_eq_some_iff.mp hy).1
  apply List.ext_getElem?
  intro k
  by_cases hk : k < (jfld s.1).length
  · obtain ⟨q, hq⟩ : ∃ q, (jfld s.1)[k]? = some q := ⟨_, List.getElem?_eq_getElem hk⟩
    by_cases hky : k = y
    · subst hky
      rw [List.getElem?_set_self (by rw [fld_len]; exact hl), fld_at hy]
      simp [up]
    · rw [List.getElem?_set_ne (Ne.symm hky), fld_at hq, fld_at hq]
      have : ¬ ((k : Int) = (y : Int)) := by omega
      simp [up, this]
  · rw [List.getElem?_eq_none (by rw [fld_len]; omega), List.getElem?_eq_none (by rw [List.length_set, fld_len]; omega)]
theorem fld_fin {s : AShp} {a x : Int} {y : Nat} (hy : (jfld s.1)[y]? = some 3) (hr : y < s.2.2.length) : fldE b base (s.1, s.2.1, s.2.2.set y x) a g = (fldE b base s a g).set y (evv b base (vR x)) := by
  have hl := (List.getElem?_eq_some_iff.mp hy).1
  apply List.ext_getElem?
  intro k
  by_cases hk : k < (jfld s.1).length
  · obtain ⟨q, hq⟩ : ∃ q, (jfld s.1)[k]? = some q := ⟨_, List.getElem?_eq_getElem hk⟩
    by_cases hky : k = y
    · subst hky
      rw [List.getElem?_set_self (by rw [fld_len]; exact hl), fld_at (s := (s.1, s.2.1, s.2.2.set k x)) hy]
      simp [fvl, List.getD_eq_getElem?_getD, List.getElem?_set_self hr]
    · rw [List.getElem?_set_ne (Ne.symm hky), fld_at (s := (s.1, s.2.1, s.2.2.set y x)) hq, fld_at hq]
      simp only [List.getD_eq_getElem?_getD, List.getElem?_set_ne (Ne.symm hky)]
  · rw [List.getElem?_eq_none (by rw [fld_len]; exact Nat.not_lt.mp hk), List.getElem?_eq_none (by rw [List.length_set, fld_len]; omega)]
end WLD
end
section
/-! what the machine has, for what the numbers say -/
def slt (sh : List AShp) : Nat := (sh.map (fun s => s.2.1)).sum
def plk (sh : List AShp) (a k : Int) : Nat := match sh[a.toNat]? with
  | none => 9
  | some s => if s.1 = 20 ∨ s.1 = 21 ∨ s.1 = 30 then 0 else (jfld s.1).getD k.toNat 9
def okM (sh : List AShp) (g : AMem) : Prop := ∀ a k : Int, (plk sh a k = 0 → iw (g a k) = g a k) ∧ (plk sh a k = 1 → lw (g a k) = g a k)
def okV : AVal → Prop
  | .inl x => iw x = x
  | .inr (.inl x) => lw x = x
  | _ => True
def PF (L : Nat) (xs : Nat → Int32) (sh : List AShp) (g : AMem) : Prop := 2 ≤ sh.length ∧ sh[0]? = some (99, 0, []) ∧ sh[1]? = some (30, L, []) ∧ L ≤ 2048 ∧ okM sh g ∧ ∀ j : Nat, j < L → Int32.ofInt (g 1 j) = xs j
def TYs (cs : Nat → ClassId) : List (ClassId × FieldType) := [(cs 0, .int), (cs 1, .boolean), (cs 2, .object RX0), (cs 3, .object RX2)]
def KF (D : va_G) (cs : Nat → ClassId) (U : State) : Prop := va_K D vwCl (TYs cs) U ∧ va_AO RX0 U ∧ va_AO RX2 U ∧ ∀ w ∈ nestW, va_Nw w U
def isS : AVal → Bool
  | .inr (.inr (.inr _)) => false
  | _ => true
def lvl (b base : Nat) (ls : List AVal) : List (Nat × Value) := (List.range ls.length).filterMap (fun i => (ls[i]?).bind (fun v => if isS v = true then some (i, evv b base v) else none))
def LH (b base : Nat) (lsA : Array Slot) (ls : List AVal) : Prop := lsA.size = ls.length ∧ lv_wf lsA ∧ ∀ (i : Nat) (v : AVal), ls[i]? = some v → isS v = true → lsA[i]? = some (.val (evv b base v))
theorem lvl_mem {b base : Nat} {ls : List AVal} {i : Nat} {v : AVal} (h : ls[i]? = some v) (hs : isS v = true) : (i, evv b base v) ∈ lvl b base ls :=
  List.mem_filterMap.mpr ⟨i, List.mem_range.mpr (List.getElem?_eq_some_iff.mp h).1, by rw [h]; simp [hs]⟩
theorem LH.has {b base : Nat} {lsA : Array Slot} {ls : List AVal} (h : LH b base lsA ls) : lv_has lsA ls.length (lvl b base ls) := by
  refine ⟨h.1, h.2.1, fun q hq => ?_⟩
  obtain ⟨i, -, hi⟩ := List.mem_filterMap.mp hq
  cases hv : ls[i]? with
  | none => rw [hv] at hi; simp at hi
  | some v =>
    rw [hv] at hi
    simp only [Option.bind_some] at hi
    by_cases hs : isS v = true
    · rw [if_pos hs] at hi
      cases hi
      exact h.2.2 i v hv hs
    · rw [if_neg hs] at hi
      cases hi
theorem evv_cat (b base : Nat) (v : AVal) : (evv b base v).category = if ac1 v = true then 1 else 2 := by
  rcases v with x | x | x | x
  · rfl
  · rfl
  · show (va_rf (rfo b base x)).category = _
    cases rfo b base x <;> rfl
  · rfl
theorem lh_set1 {b base : Nat} {lsA ls' : Array Slot} {ls : List AVal} {i : Nat} {v : AVal} (hi : i < ls.length) (hk : okst ls i = true)
    (hh : lv_has ls' ls.length ((i, evv b base v) :: (lvl b base ls).filter (fun q => !(q.1 == i) && !(q.1 + 1 == i && q.2.category == 2)))) : LH b base ls' (ls.set i v) := by
  refine ⟨by rw [List.length_set]; exact hh.1, hh.2.1, fun k w hw hs => ?_⟩
  by_cases hki : k = i
  · subst hki
    rw [List.getElem?_set_self hi] at hw
    cases hw
    exact hh.2.2 (k, evv b base v) List.mem_cons_self
  · rw [List.getElem?_set_ne (Ne.symm hki)] at hw
    refine hh.2.2 (k, evv b base w) (List.mem_cons_of_mem _ (List.mem_filter.mpr ⟨lvl_mem hw hs, ?_⟩))
    have h1 : (k == i) = false := by simpa using hki
    have h2 : (k + 1 == i && (evv b base w).category == 2) = false := by
      rw [evv_cat]
      by_cases e : k + 1 = i
      · subst e
        simp only [okst, hw] at hk
        rcases w with x | x | x | x
        · simp [ac1]
        · simp at hk
        · simp [ac1]
        · simp [ac1]
      · simp [e]
    simp only [h1, h2]
    rfl
theorem lh_set2 {b base : Nat} {lsA ls' : Array Slot} {ls : List AVal} {i : Nat} {v : AVal} (hi : i + 1 < ls.length) (hk : okst ls i = true)
    (hh : lv_has ls' ls.length ((i, evv b base v) :: (lvl b base ls).filter (fun q => !(q.1 == i) && (!(q.1 == i + 1) && !(q.1 + 1 == i && q.2.category == 2))))) : LH b base ls' ((ls.set i v).set (i + 1) vU) := by
  refine ⟨by rw [List.length_set, List.length_set]; exact hh.1, hh.2.1, fun k w hw hs => ?_⟩
  by_cases hki1 : k = i + 1
  · subst hki1
    rw [List.getElem?_set_self (by rw [List.length_set]; exact hi)] at hw
    cases hw
    cases hs
  · rw [List.getElem?_set_ne (Ne.symm hki1)] at hw
    by_cases hki : k = i
    · subst hki
      rw [List.getElem?_set_self (by omega)] at hw
      cases hw
      exact hh.2.2 (k, evv b base v) List.mem_cons_self
    · rw [List.getElem?_set_ne (Ne.symm hki)] at hw
      refine hh.2.2 (k, evv b base w) (List.mem_cons_of_mem _ (List.mem_filter.mpr ⟨lvl_mem hw hs, ?_⟩))
      have h1 : (k == i) = false := by simpa using hki
      have h3 : (k == i + 1) = false := by simpa using hki1
      have h2 : (k + 1 == i && (evv b base w).category == 2) = false := by
        rw [evv_cat]
        by_cases e : k + 1 = i
        · subst e
          simp only [okst, hw] at hk
          rcases w with x | x | x | x
          · simp [ac1]
          · simp at hk
          · simp [ac1]
          · simp [ac1]
        · simp [e]
      simp only [h1, h2, h3]
      rfl
def SFc (b base L : Nat) (xs : Nat → Int32) (D : va_G) (cs : Nat → ClassId) (s : State) (lsA : Array Slot) (ls st : List AVal) (sh : List AShp) (g : AMem) (H : Heap) (locs : List Loc) : Prop :=
  va_P D vwCl (WSa b base cs sh g) H ∧ PF L xs sh g ∧ va_S (fun q : Nat => base ≤ q) s.heap H locs ∧ LH b base lsA ls ∧ (∀ v ∈ ls, okV v) ∧ ∀ v ∈ st, okV v
/-- what stays through a method -/
def Cxt (b base L : Nat) (xs : Nat → Int32) (D : va_G) (cs : Nat → ClassId) (j n0 : Nat) (Ts : List Cond) (p : Program) (R : Room) (s : State) (m : MethodId) (args : Array Value) (meth : Method) (c : Code) : Prop :=
  p.tables.exec = Jvm.exec ∧ c.code = bcm j ∧ s.vm.findClass (ynm j).cls = some m.cls ∧ (∀ w ∈ Ts, w.before args s = true) ∧ (∀ w ∈ wsA, w ∈ Ts) ∧ KF D cs s ∧ va_X b L xs s s.heap ∧ b < base ∧ (2 ≤ n0 ∧ s.heap.size = base + (n0 - 2)) ∧ ((ynm j).name = "<init>" → meth.name = "<init>") ∧ (mtd j).2.2.2.2.1 ≤ R.frames ∧ (mtd j).2.2.2.2.2.1 ≤ R.locals
theorem clsOK : ∀ (x : Nat) (C : String) (T : u_T) (N : Nat), vwCl[x]? = some (C, T, N) → N = (jfld x).length ∧ x < 11 ∧ (∀ a, a < N → ∀ b, b < N → a ≠ b → (T a).2.1 ≠ (T b).2.1) ∧ (∀ k, k < N → (T k).1 = C) ∧ ∃ ty : Nat → FieldType, (∀ k, k < N → parseFieldDescriptor (T k).2.2.1 = some (ty k)) ∧ ∀ k, k < N → defaultValue (ty k) = evv 0 0 (fvl ((jfld x).getD k 0) 0 0) := by
  intro x C T N h
  match x, h with
  | 0, h => cases h; exact ⟨rfl, by decide, nmX0, by decide +kernel, tyX0, tyX0_ok, by decide +kernel⟩
  | 1, h => cases h; exact ⟨rfl, by decide, nmX1, by decide +kernel, tyX1, tyX1_ok, by decide +kernel⟩
  | 2, h => cases h; exact ⟨rfl, by decide, nmX2, by decide +kernel, tyX2, tyX2_ok, by decide +kernel⟩
  | 3, h => cases h; exact ⟨rfl, by decide, nmX3, by decide +kernel, tyX3, tyX3_ok, by decide +kernel⟩
  | 4, h => cases h; exact ⟨rfl, by decide, nmX4, by decide +kernel, tyX4, tyX4_ok, by decide +kernel⟩
  | 5, h => cases h; exact ⟨rfl, by decide, nmX5, by decide +kernel, tyX5, tyX5_ok, by decide +kernel⟩
  | 6, h => cases h; exact ⟨rfl, by decide, nmX6, by decide +kernel, tyX6, tyX6_ok, by decide +kernel⟩
  | 7, h => cases h; exact ⟨rfl, by decide, nmX8, by decide +kernel, tyX8, tyX8_ok, by decide +kernel⟩
  | 8, h => cases h; exact ⟨rfl, by decide, nmX10, by decide +kernel, tyX10, tyX10_ok, by decide +kernel⟩
  | 9, h => cases h; exact ⟨rfl, by decide, nmX11, by decide +kernel, tyX11, tyX11_ok, by decide +kernel⟩
  | 10, h => cases h; exact ⟨rfl, by decide, nmX12, by decide +kernel, tyX12, tyX12_ok, by decide +kernel⟩
  | x + 11, h => simp [vwCl] at h
theorem cls_wA : ∀ (x : Nat) (C : String) (T : u_T) (N : Nat), vwCl[x]? = some (C, T, N) → ∀ w ∈ u_ws C T N, w ∈ wsA := by
  intro x C T N h
  match x, h with
  | 0, h => cases h; exact wchk_in (hs := [(1, 50), (1, 52)]) (by decide +kernel)
  | 1, h => cases h; exact wchk_in (hs := [(1, 228)]) (by decide +kernel)
  | 2, h => cases h; exact wchk_in (hs := [(1, 78), (1, 80), (1, 82), (1, 84)]) (by decide +kernel)
  | 3, h => cases h; exact wchk_in (hs := [(1, 99), (1, 101), (1, 103), (1, 105)]) (by decide +kernel)
  | 4, h => cases h; exact wchk_in (hs := [(1, 154), (1, 156), (1, 158)]) (by decide +kernel)
  | 5, h => cases h; exact wchk_in (hs := [(1, 215), (1, 217)]) (by decide +kernel)
  | 6, h => cases h; exact wchk_in (hs := [(1, 185), (1, 187), (1, 189), (1, 191), (1, 193), (1, 195), (1, 197), (1, 199), (1, 201), (1, 203)]) (by decide +kernel)
  | 7, h => cases h; exact wchk_in (hs := [(1, 133), (1, 135), (1, 137), (1, 139)]) (by decide +kernel)
  | 8, h => cases h; exact wchk_in (hs := [(1, 118), (1, 120)]) (by decide +kernel)
  | 9, h => cases h; exact wchk_in (hs := [(2, 5), (2, 7), (2, 9), (2, 11), (2, 13), (2, 15), (2, 17), (2, 19), (2, 21), (2, 23), (2, 25), (2, 27), (2, 29), (2, 31)]) (by decide +kernel)
  | 10, h => cases h; exact wchk_in (hs := [(4, 113), (4, 115), (4, 117), (4, 119), (4, 121), (4, 123), (4, 125), (4, 127), (4, 129), (4, 131), (4, 133), (4, 135), (4, 137), (4, 139), (4, 141), (4, 143), (4, 145), (4, 147), (4, 149), (4, 151), (4, 153), (4, 155), (4, 157), (4, 159), (4, 161), (4, 163), (4, 165), (4, 167)]) (by decide +kernel)
  | x + 11, h => simp [vwCl] at h
theorem vcl_at {x : Nat} (h : x < 11) : vwCl[x]? = some ((vcl x).1, (vcl x).2.1, (vcl x).2.2) := by
  match x, h with
  | 0, _ => rfl
  | 1, _ => rfl
  | 2, _ => rfl
  | 3, _ => rfl
  | 4, _ => rfl
  | 5, _ => rfl
  | 6, _ => rfl
  | 7, _ => rfl
  | 8, _ => rfl
  | 9, _ => rfl
  | 10, _ => rfl
  | x + 11, h => exact absurd h (by omega)
section SND
variable {p : Program} {l : Launch} {e : Env} {R : Room} {s : State} {m : MethodId} {args : Array Value} {below : List Frame} {meth : Method} {c : Code} {Q : State → Prop}
variable {b base L j n0 s0 : Nat} {xs : Nat → Int32} {D : va_G} {cs : Nat → ClassId} {Ts : List Cond} {pc pc' pc1 x y : Nat} {z : Int} {ls ls' st st' : List AVal} {sh sh' : List AShp} {g g' : AMem} {lsA : Array Slot} {H : Heap} {locs : List Loc}
theorem okS_tail {v : AVal} {r : List AVal} (h : ∀ w ∈ v :: r, okV w) : ∀ w ∈ r, okV w := fun w hw => h w (List.mem_cons_of_mem _ hw)
theorem okS_head {v : AVal} {r : List AVal} (h : ∀ w ∈ v :: r, okV w) : okV v := h v List.mem_cons_self
theorem okS_cons {v : AVal} {r : List AVal} (h1 : okV v) (h2 : ∀ w ∈ r, okV w) : ∀ w ∈ v :: r, okV w := fun w hw => (List.mem_cons.mp hw).elim (fun e => e ▸ h1) (h2 w)
theorem okS_set {v : AVal} {r : List AVal} {i : Nat} (h1 : okV v) (h2 : ∀ w ∈ r, okV w) : ∀ w ∈ r.set i v, okV w := fun w hw => (List.mem_or_eq_of_mem_set hw).elim (h2 w) (fun e => e ▸ h1)
theorem SFc.stk {st1 : List AVal} (h : SFc b base L xs D cs s lsA ls st sh g H locs) (k : ∀ w ∈ st1, okV w) : SFc b base L xs D cs s lsA ls st1 sh g H locs := ⟨h.1, h.2.1, h.2.2.1, h.2.2.2.1, h.2.2.2.2.1, k⟩
theorem SFc.lcl {ls1 st1 : List AVal} {lsA1 : Array Slot} (h : SFc b base L xs D cs s lsA ls st sh g H locs) (k1 : LH b base lsA1 ls1) (k2 : ∀ w ∈ ls1, okV w) (k : ∀ w ∈ st1, okV w) : SFc b base L xs D cs s lsA1 ls1 st1 sh g H locs := ⟨h.1, h.2.1, h.2.2.1, k1, k2, k⟩
theorem SFc.stO (h : SFc b base L xs D cs s lsA ls st sh g H locs) : ∀ w ∈ st, okV w := h.2.2.2.2.2
theorem SFc.lsO (h : SFc b base L xs D cs s lsA ls st sh g H locs) : ∀ w ∈ ls, okV w := h.2.2.2.2.1
theorem SFc.lhO (h : SFc b base L xs D cs s lsA ls st sh g H locs) : LH b base lsA ls := h.2.2.2.1
theorem SFc.lsz (h : SFc b base L xs D cs s lsA ls st sh g H locs) : lsA.size = ls.length := h.2.2.2.1.1
/-- a pushed constant -/
theorem sr_push {v : AVal} {w : Value} (hv : evv b base v = w) (ho : okV v) (hS : SFc b base L xs D cs s lsA ls st sh g H locs)
    (row : W p l e R s m args below meth c H locs (sh.length - n0) (slt sh - s0) Q (F0 m pc' lsA (w :: st.map (evv b base))) → W p l e R s m args below meth c H locs (sh.length - n0) (slt sh - s0) Q (F0 m pc lsA (st.map (evv b base))))
    (kk : ∀ lsA' H' locs', SFc b base L xs D cs s lsA' ls (v :: st) sh g H' locs' → W p l e R s m args below meth c H' locs' (sh.length - n0) (slt sh - s0) Q (F0 m pc' lsA' ((v :: st).map (evv b base)))) : W p l e R s m args below meth c H locs (sh.length - n0) (slt sh - s0) Q (F0 m pc lsA (st.map (evv b base))) := by
  subst hv
  exact row (kk lsA H locs (hS.stk (okS_cons ho hS.stO)))
theorem sr_ldI {i : Nat} (h : a_ldI i pc' ls st sh g = some (pc1, ls', st', sh', g')) (hS : SFc b base L xs D cs s lsA ls st sh g H locs)
    (row : ∀ x : Int32, lsA[i]? = some (.val (.int x)) → W p l e R s m args below meth c H locs (sh.length - n0) (slt sh - s0) Q (F0 m pc' lsA (.int x :: st.map (evv b base))) → W p l e R s m args below meth c H locs (sh.length - n0) (slt sh - s0) Q (F0 m pc lsA (st.map (evv b base))))
    (kk : ∀ lsA' H' locs', SFc b base L xs D cs s lsA' ls' st' sh' g' H' locs' → W p l e R s m args below meth c H' locs' (sh'.length - n0) (slt sh' - s0) Q (F0 m pc1 lsA' (st'.map (evv b base)))) : W p l e R s m args below meth c H locs (sh.length - n0) (slt sh - s0) Q (F0 m pc lsA (st.map (evv b base))) := by
  unfold a_ldI at h
  split at h
  · rename_i x hx
    cases h
    exact row _ (hS.lhO.2.2 i _ hx rfl) (kk lsA H locs (hS.stk (okS_cons (hS.lsO _ (List.mem_of_getElem? hx)) hS.stO)))
  · cases h
theorem sr_ldL {i : Nat} (h : a_ldL i pc' ls st sh g = some (pc1, ls', st', sh', g')) (hS : SFc b base L xs D cs s lsA ls st sh g H locs)
    (row : ∀ x : Int64, lsA[i]? = some (.val (.long x)) → W p l e R s m args below meth c H locs (sh.length - n0) (slt sh - s0) Q (F0 m pc' lsA (.long x :: st.map (evv b base))) → W p l e R s m args below meth c H locs (sh.length - n0) (slt sh - s0) Q (F0 m pc lsA (st.map (evv b base))))
    (kk : ∀ lsA' H' locs', SFc b base L xs D cs s lsA' ls' st' sh' g' H' locs' → W p l e R s m args below meth c H' locs' (sh'.length - n0) (slt sh' - s0) Q (F0 m pc1 lsA' (st'.map (evv b base)))) : W p l e R s m args below meth c H locs (sh.length - n0) (slt sh - s0) Q (F0 m pc lsA (st.map (evv b base))) := by
  unfold a_ldL at h
  split at h
  · rename_i x hx
    cases h
    exact row _ (hS.lhO.2.2 i _ hx rfl) (kk lsA H locs (hS.stk (okS_cons (hS.lsO _ (List.mem_of_getElem? hx)) hS.stO)))
  · cases h
theorem sr_ldR {i : Nat} (h : a_ldR i pc' ls st sh g = some (pc1, ls', st', sh', g')) (hS : SFc b base L xs D cs s lsA ls st sh g H locs)
    (row : ∀ x : Nat, lsA[i]? = some (.val (.ref x)) → W p l e R s m args below meth c H locs (sh.length - n0) (slt sh - s0) Q (F0 m pc' lsA (.ref x :: st.map (evv b base))) → W p l e R s m args below meth c H locs (sh.length - n0) (slt sh - s0) Q (F0 m pc lsA (st.map (evv b base))))
    (kk : ∀ lsA' H' locs', SFc b base L xs D cs s lsA' ls' st' sh' g' H' locs' → W p l e R s m args below meth c H' locs' (sh'.length - n0) (slt sh' - s0) Q (F0 m pc1 lsA' (st'.map (evv b base)))) : W p l e R s m args below meth c H locs (sh.length - n0) (slt sh - s0) Q (F0 m pc lsA (st.map (evv b base))) := by
  unfold a_ldR at h
  split at h
  · rename_i x hx
    split at h
    · rename_i h1
      cases h
      have e := evv_r (b := b) (base := base) h1
      have h2 := hS.lhO.2.2 i _ hx rfl
      rw [e] at h2
      have h3 := kk lsA H locs (hS.stk (okS_cons (hS.lsO _ (List.mem_of_getElem? hx)) hS.stO))
      rw [List.map_cons, e] at h3
      exact row _ h2 h3
    · cases h
  · cases h
theorem sr_stI {i : Nat} (h : a_stI i pc' ls st sh g = some (pc1, ls', st', sh', g')) (hS : SFc b base L xs D cs s lsA ls st sh g H locs)
    (row : ∀ (x : Int32) (r : List Value), lv_has lsA ls.length (lvl b base ls) → i < ls.length → (∀ ls1 : Array Slot, lv_has ls1 ls.length ((i, Value.int x) :: (lvl b base ls).filter (fun q => !(q.1 == i) && !(q.1 + 1 == i && q.2.category == 2))) → W p l e R s m args below meth c H locs (sh.length - n0) (slt sh - s0) Q (F0 m pc' ls1 (r))) → W p l e R s m args below meth c H locs (sh.length - n0) (slt sh - s0) Q (F0 m pc lsA (.int x :: r)))
    (kk : ∀ lsA' H' locs', SFc b base L xs D cs s lsA' ls' st' sh' g' H' locs' → W p l e R s m args below meth c H' locs' (sh'.length - n0) (slt sh' - s0) Q (F0 m pc1 lsA' (st'.map (evv b base)))) : W p l e R s m args below meth c H locs (sh.length - n0) (slt sh - s0) Q (F0 m pc lsA (st.map (evv b base))) := by
  unfold a_stI at h
  split at h
  · rename_i x r
    split at h
    · rename_i h1
      cases h
      exact row _ _ hS.lhO.has h1.1 (fun ls1 h2 => kk ls1 H locs (hS.lcl (lh_set1 (lsA := lsA) h1.1 h1.2 h2) (okS_set (okS_head hS.stO) hS.lsO) (okS_tail hS.stO)))
    · cases h
  · cases h
theorem sr_stR {i : Nat} (h : a_stR i pc' ls st sh g = some (pc1, ls', st', sh', g')) (hS : SFc b base L xs D cs s lsA ls st sh g H locs)
    (row : ∀ (x : Nat) (r : List Value), lv_has lsA ls.length (lvl b base ls) → i < ls.length → (∀ ls1 : Array Slot, lv_has ls1 ls.length ((i, Value.ref x) :: (lvl b base ls).filter (fun q => !(q.1 == i) && !(q.1 + 1 == i && q.2.category == 2))) → W p l e R s m args below meth c H locs (sh.length - n0) (slt sh - s0) Q (F0 m pc' ls1 (r))) → W p l e R s m args below meth c H locs (sh.length - n0) (slt sh - s0) Q (F0 m pc lsA (.ref x :: r)))
    (kk : ∀ lsA' H' locs', SFc b base L xs D cs s lsA' ls' st' sh' g' H' locs' → W p l e R s m args below meth c H' locs' (sh'.length - n0) (slt sh' - s0) Q (F0 m pc1 lsA' (st'.map (evv b base)))) : W p l e R s m args below meth c H locs (sh.length - n0) (slt sh - s0) Q (F0 m pc lsA (st.map (evv b base))) := by
  unfold a_stR at h
  split at h
  · rename_i x r
    split at h
    · rename_i h1
      cases h
      have e := evv_r (b := b) (base := base) h1.2.2
      rw [List.map_cons, e]
      exact row _ _ hS.lhO.has h1.1 (fun ls1 h2 => kk ls1 H locs (hS.lcl (lh_set1 (lsA := lsA) h1.1 h1.2.1 (by rw [e]; exact h2)) (okS_set (okS_head hS.stO) hS.lsO) (okS_tail hS.stO)))
    · cases h
  · cases h
theorem sr_stL {i : Nat} (h : a_stL i pc' ls st sh g = some (pc1, ls', st', sh', g')) (hS : SFc b base L xs D cs s lsA ls st sh g H locs)
    (row : ∀ (x : Int64) (r : List Value), lv_has lsA ls.length (lvl b base ls) → i + 1 < ls.length → (∀ ls1 : Array Slot, lv_has ls1 ls.length ((i, Value.long x) :: (lvl b base ls).filter (fun q => !(q.1 == i) && (!(q.1 == i + 1) && !(q.1 + 1 == i && q.2.category == 2)))) → W p l e R s m args below meth c H locs (sh.length - n0) (slt sh - s0) Q (F0 m pc' ls1 (r))) → W p l e R s m args below meth c H locs (sh.length - n0) (slt sh - s0) Q (F0 m pc lsA (.long x :: r)))
    (kk : ∀ lsA' H' locs', SFc b base L xs D cs s lsA' ls' st' sh' g' H' locs' → W p l e R s m args below meth c H' locs' (sh'.length - n0) (slt sh' - s0) Q (F0 m pc1 lsA' (st'.map (evv b base)))) : W p l e R s m args below meth c H locs (sh.length - n0) (slt sh - s0) Q (F0 m pc lsA (st.map (evv b base))) := by
  unfold a_stL at h
  split at h
  · rename_i x r
    split at h
    · rename_i h1
      cases h
      exact row _ _ hS.lhO.has h1.1 (fun ls1 h2 => kk ls1 H locs (hS.lcl (lh_set2 (lsA := lsA) h1.1 h1.2 h2) (okS_set True.intro (okS_set (okS_head hS.stO) hS.lsO)) (okS_tail hS.stO)))
    · cases h
  · cases h
theorem sr_bi {gd : Bool} {f : Int → Int → Int} {fr : Int32 → Int32 → Int32} (h : a_bi gd f pc' ls st sh g = some (pc1, ls', st', sh', g')) (hS : SFc b base L xs D cs s lsA ls st sh g H locs)
    (hf : ∀ x y : Int, iw x = x → iw y = y → Int32.ofInt (f x y) = fr (Int32.ofInt x) (Int32.ofInt y)) (hc : ∀ x y : Int, iw (f x y) = f x y)
    (row : ∀ (x y : Int32) (r : List Value), (gd = true → ¬ y = 0) → W p l e R s m args below meth c H locs (sh.length - n0) (slt sh - s0) Q (F0 m pc' lsA (.int (fr x y) :: r)) → W p l e R s m args below meth c H locs (sh.length - n0) (slt sh - s0) Q (F0 m pc lsA (.int y :: .int x :: r)))
    (kk : ∀ lsA' H' locs', SFc b base L xs D cs s lsA' ls' st' sh' g' H' locs' → W p l e R s m args below meth c H' locs' (sh'.length - n0) (slt sh' - s0) Q (F0 m pc1 lsA' (st'.map (evv b base)))) : W p l e R s m args below meth c H locs (sh.length - n0) (slt sh - s0) Q (F0 m pc lsA (st.map (evv b base))) := by
  unfold a_bi at h
  split at h
  · rename_i y x r
    split at h
    · cases h
    · rename_i h1
      cases h
      have hy : iw y = y := okS_head hS.stO
      have hx : iw x = x := okS_head (okS_tail hS.stO)
      have h3 := kk lsA H locs (hS.stk (okS_cons (hc x y) (okS_tail (okS_tail hS.stO))))
      refine row _ _ _ (fun hg h0 => h1 ⟨hg, ?_⟩) ?_
      · rw [ofI_0, ofI_inj hy iw_0] at h0
        exact h0
      · rw [← hf x y hx hy]
        exact h3
  · cases h
theorem sr_bl {gd : Bool} {f : Int → Int → Int} {fr : Int64 → Int64 → Int64} (h : a_bl gd f pc' ls st sh g = some (pc1, ls', st', sh', g')) (hS : SFc b base L xs D cs s lsA ls st sh g H locs)
    (hf : ∀ x y : Int, lw x = x → lw y = y → Int64.ofInt (f x y) = fr (Int64.ofInt x) (Int64.ofInt y)) (hc : ∀ x y : Int, lw (f x y) = f x y)
    (row : ∀ (x y : Int64) (r : List Value), (gd = true → ¬ y = 0) → W p l e R s m args below meth c H locs (sh.length - n0) (slt sh - s0) Q (F0 m pc' lsA (.long (fr x y) :: r)) → W p l e R s m args below meth c H locs (sh.length - n0) (slt sh - s0) Q (F0 m pc lsA (.long y :: .long x :: r)))
    (kk : ∀ lsA' H' locs', SFc b base L xs D cs s lsA' ls' st' sh' g' H' locs' → W p l e R s m args below meth c H' locs' (sh'.length - n0) (slt sh' - s0) Q (F0 m pc1 lsA' (st'.map (evv b base)))) : W p l e R s m args below meth c H locs (sh.length - n0) (slt sh - s0) Q (F0 m pc lsA (st.map (evv b base))) := by
  unfold a_bl at h
  split at h
  · rename_i y x r
    split at h
    · cases h
    · rename_i h1
      cases h
      have hy : lw y = y := okS_head hS.stO
      have hx : lw x = x := okS_head (okS_tail hS.stO)
      have h3 := kk lsA H locs (hS.stk (okS_cons (hc x y) (okS_tail (okS_tail hS.stO))))
      refine row _ _ _ (fun hg h0 => h1 ⟨hg, ?_⟩) ?_
      · rw [ofL_0, ofL_inj hy lw_0] at h0
        exact h0
      · rw [← hf x y hx hy]
        exact h3
  · cases h
theorem sr_if {cn : ClassFile.Cond} {t f : Nat} (h : a_if cn t f ls st sh g = some (pc1, ls', st', sh', g')) (hS : SFc b base L xs D cs s lsA ls st sh g H locs)
    (row : ∀ (x : Int) (r : List Value), iw x = x → (acnd cn x 0 → W p l e R s m args below meth c H locs (sh.length - n0) (slt sh - s0) Q (F0 m t lsA (r))) → (¬ acnd cn x 0 → W p l e R s m args below meth c H locs (sh.length - n0) (slt sh - s0) Q (F0 m f lsA (r))) → W p l e R s m args below meth c H locs (sh.length - n0) (slt sh - s0) Q (F0 m pc lsA (.int (Int32.ofInt x) :: r)))
    (kk : ∀ lsA' H' locs', SFc b base L xs D cs s lsA' ls' st' sh' g' H' locs' → W p l e R s m args below meth c H' locs' (sh'.length - n0) (slt sh' - s0) Q (F0 m pc1 lsA' (st'.map (evv b base)))) : W p l e R s m args below meth c H locs (sh.length - n0) (slt sh - s0) Q (F0 m pc lsA (st.map (evv b base))) := by
  unfold a_if at h
  split at h
  · rename_i x r
    split at h
    · rename_i hd hdd
      cases h
      exact row x _ (okS_head hS.stO) (fun _ => kk lsA H locs (hS.stk (okS_tail hS.stO))) (fun hn => absurd hd hn)
    · rename_i hd hdd
      cases h
      exact row x _ (okS_head hS.stO) (fun hn => absurd hn hd) (fun _ => kk lsA H locs (hS.stk (okS_tail hS.stO)))
  · cases h
theorem sr_ic {cn : ClassFile.Cond} {t f : Nat} (h : a_ic cn t f ls st sh g = some (pc1, ls', st', sh', g')) (hS : SFc b base L xs D cs s lsA ls st sh g H locs)
    (row : ∀ (x y : Int) (r : List Value), iw x = x → iw y = y → (acnd cn x y → W p l e R s m args below meth c H locs (sh.length - n0) (slt sh - s0) Q (F0 m t lsA (r))) → (¬ acnd cn x y → W p l e R s m args below meth c H locs (sh.length - n0) (slt sh - s0) Q (F0 m f lsA (r))) → W p l e R s m args below meth c H locs (sh.length - n0) (slt sh - s0) Q (F0 m pc lsA (.int (Int32.ofInt y) :: .int (Int32.ofInt x) :: r)))
    (kk : ∀ lsA' H' locs', SFc b base L xs D cs s lsA' ls' st' sh' g' H' locs' → W p l e R s m args below meth c H' locs' (sh'.length - n0) (slt sh' - s0) Q (F0 m pc1 lsA' (st'.map (evv b base)))) : W p l e R s m args below meth c H locs (sh.length - n0) (slt sh - s0) Q (F0 m pc lsA (st.map (evv b base))) := by
  unfold a_ic at h
  split at h
  · rename_i y x r
    split at h
    · rename_i hd hdd
      cases h
      exact row x y _ (okS_head (okS_tail hS.stO)) (okS_head hS.stO) (fun _ => kk lsA H locs (hS.stk (okS_tail (okS_tail hS.stO)))) (fun hn => absurd hd hn)
    · rename_i hd hdd
      cases h
      exact row x y _ (okS_head (okS_tail hS.stO)) (okS_head hS.stO) (fun hn => absurd hn hd) (fun _ => kk lsA H locs (hS.stk (okS_tail (okS_tail hS.stO))))
  · cases h
end SND
end
section
theorem kin_of {sh : List AShp} {t : Int} {x : Nat} (h : kin sh t = x) (hx : x < 90) : ∃ s : AShp, sh[t.toNat]? = some s ∧ s.1 = x ∧ 2 ≤ t := by
  unfold kin at h
  split at h
  · rename_i s hs
    split at h
    · rename_i h2
      exact ⟨s, hs, h, h2⟩
    · omega
  · omega
section HEP
variable {b base : Nat} {cs : Nat → ClassId} {s : AShp} {a : Int} {g : AMem}
theorem celE_o (h : s.1 < 11) : celE b base cs s a g = .inr (s.1, fldE b base s a g) := by
  unfold celE
  rw [if_neg (by omega), if_neg (by omega), if_neg (by omega), if_neg (by omega)]
theorem celE_i (h : s.1 = 20) : celE b base cs s a g = .inl (cs 0, s.2.1, .inl (fun (j : Nat) => Int32.ofInt (g a j))) := by
  unfold celE
  rw [if_pos h]
theorem celE_z (h : s.1 = 21) : celE b base cs s a g = .inl (cs 1, s.2.1, .inl (fun (j : Nat) => Int32.ofInt (g a j))) := by
  unfold celE
  rw [if_neg (by omega), if_pos h]
theorem celE_b (h : s.1 = 22) : celE b base cs s a g = .inl (cs 2, s.2.1, .inr (.inr (.inr (.inr (fun (j : Nat) => rfo b base (s.2.2.getD j 0)))))) := by
  unfold celE
  rw [if_neg (by omega), if_neg (by omega), if_pos h]
theorem celE_e (h : s.1 = 23) : celE b base cs s a g = .inl (cs 3, s.2.1, .inr (.inr (.inr (.inr (fun (j : Nat) => rfo b base (s.2.2.getD j 0)))))) := by
  unfold celE
  rw [if_neg (by omega), if_neg (by omega), if_neg (by omega), if_pos h]
end HEP
theorem up_ne {g : AMem} {t k u a q : Int} (h : a ≠ t) : up g t k u a q = g a q := if_neg (fun e => h e.1)
theorem evv_0 (b base t : Nat) : evv b base (fvl t 0 0) = evv 0 0 (fvl t 0 0) := by
  match t with
  | 0 => rfl
  | 1 => rfl
  | 2 => rfl
  | t + 3 => rfl
theorem sh_2 {L : Nat} {xs : Nat → Int32} {sh : List AShp} {g : AMem} (hF : PF L xs sh g) {a : Int} {s : AShp} (hs : sh[a.toNat]? = some s) (h : s.1 = 20 ∨ s.1 = 21 ∨ s.1 = 22 ∨ s.1 = 23) : 2 ≤ a := by
  obtain ⟨-, h0, h1, -⟩ := hF
  by_cases e0 : a.toNat = 0
  · rw [e0, h0] at hs
    cases hs
    simp at h
  · by_cases e1 : a.toNat = 1
    · rw [e1, h1] at hs
      cases hs
      simp at h
    · omega
theorem rf_fit {ty : FieldType} (h : (∃ C, ty = .object C) ∨ ∃ t, ty = .array t) (r : Option Nat) : narrow ty (va_rf r) = va_rf r ∧ fits ty (va_rf r) = true := by
  rcases h with ⟨C, rfl⟩ | ⟨t, rfl⟩ <;> cases r <;> exact ⟨rfl, rfl⟩
section SNH
variable {p : Program} {l : Launch} {e : Env} {R : Room} {s : State} {m : MethodId} {args : Array Value} {below : List Frame} {meth : Method} {c : Code} {Q : State → Prop}
variable {b base L j n0 s0 : Nat} {xs : Nat → Int32} {D : va_G} {cs : Nat → ClassId} {Ts : List Cond} {pc pc' pc1 x y i : Nat} {z : Int} {ls ls' st st' : List AVal} {sh sh' : List AShp} {g g' : AMem} {lsA : Array Slot} {H : Heap} {locs : List Loc}
theorem w_size {cells slots : Nat} {fr : JFrame} (h : H.size ≤ s.heap.size + cells → W p l e R s m args below meth c H locs cells slots Q fr) : W p l e R s m args below meth c H locs cells slots Q fr :=
  fun T hT X => h (by have h1 := X.heapSize; rw [hT] at h1; exact h1) T hT X
theorem sz_of (hP : va_P D vwCl (WSa b base cs sh g) H) (hS : va_S (fun q : Nat => base ≤ q) s.heap H locs) (hsz : s.heap.size = base + (n0 - 2)) (hn : n0 ≤ sh.length) (h2 : 2 ≤ n0) (hu : H.size ≤ s.heap.size + (sh.length - n0)) : H.size = base + (sh.length - 2) := by
  have h3 : base + (sh.length - 2) ≤ H.size := by
    by_cases e : sh.length = n0
    · have := hS.1
      rw [e]
      omega
    · have h4 := (hP (sh.length - 3) _ (ws_ix (by omega))).lt
      dsimp only at h4
      omega
  omega
theorem q_of {q : Nat} {u : va_E} {H1 : Heap} (hP : va_P D vwCl (WSa b base cs sh g ++ [(q, u)]) H1) (hD : va_D (fun q : Nat => base ≤ q) (WSa b base cs sh g ++ [(q, u)])) (hsz : s.heap.size = base + (n0 - 2)) (hn : n0 ≤ sh.length) (h2 : 2 ≤ n0) (hu : H1.size ≤ s.heap.size + (sh.length - n0 + 1)) : q = base + (sh.length - 2) := by
  have hl : (WSa b base cs sh g ++ [(q, u)])[sh.length - 2]? = some (q, u) := by
    rw [List.getElem?_append_right (by rw [ws_len]; exact Nat.le_refl _), ws_len, Nat.sub_self]
    rfl
  have h1 := (hP _ _ hl).lt
  have h3 : base ≤ q := hD.2 _ _ hl
  dsimp only at h1
  rcases Nat.lt_or_ge q (base + (sh.length - 2)) with h4 | h4
  · obtain ⟨u2, h5⟩ : ∃ u2, (WSa b base cs sh g ++ [(q, u)])[q - base]? = some (base + (q - base), u2) := ⟨_, by rw [List.getElem?_append_left (by rw [ws_len]; omega), ws_ix (by omega)]⟩
    have h6 := hD.1 _ _ _ _ h5 hl (by dsimp only; omega)
    omega
  · omega
theorem plk_at {t k : Int} {r : AShp} (hs : sh[t.toNat]? = some r) : plk sh t k = if r.1 = 20 ∨ r.1 = 21 ∨ r.1 = 30 then 0 else (jfld r.1).getD k.toNat 9 := by
  unfold plk
  rw [hs]
theorem sr_getf (hC : Cxt b base L xs D cs j n0 Ts p R s m args meth c) (hdg : decode (bcm j) pc = .ok (.getfield i, 3)) (hx11 : x < 11) (hw : Cond.fieldLink (ynm j).cls i (vcl x).1 ((vcl x).2.1 y).2.1 ((vcl x).2.1 y).2.2.1 ∈ wsA)
    (h : a_getf x y (pc + 3) ls st sh g = some (pc1, ls', st', sh', g')) (hS : SFc b base L xs D cs s lsA ls st sh g H locs)
    (kk : ∀ lsA' H' locs', SFc b base L xs D cs s lsA' ls' st' sh' g' H' locs' → W p l e R s m args below meth c H' locs' (sh'.length - n0) (slt sh' - s0) Q (F0 m pc1 lsA' (st'.map (evv b base)))) : W p l e R s m args below meth c H locs (sh.length - n0) (slt sh - s0) Q (F0 m pc lsA (st.map (evv b base))) := by
  obtain ⟨hx, hb, hown, hts, hwa, ⟨hK, hAO1, hAO2, hNw⟩, hX, hbb, ⟨h2n, hsz⟩, hini, hfr, hlo⟩ := hC
  unfold a_getf at h
  split at h
  · rename_i t r
    split at h
    · rename_i hk
      obtain ⟨q, hq, hq1, h2⟩ := kin_of hk (by omega)
      have hv := vcl_at hx11
      obtain ⟨hN, -, hnm, hdec, ty, hty, hdf⟩ := clsOK _ _ _ _ hv
      have he := ws_at (b := b) (base := base) (cs := cs) (g := g) hq h2
      rw [celE_o (by omega)] at he
      rw [List.map_cons, evv_r (by omega)]
      have go : ∀ t1 : Nat, (jfld x)[y]? = some t1 → W p l e R s m args below meth c H locs (sh.length - n0) (slt sh - s0) Q (F0 m (pc + 3) lsA (evv b base (fvl t1 (g t y) (q.2.2.getD y 0)) :: r.map (evv b base))) → W p l e R s m args below meth c H locs (sh.length - n0) (slt sh - s0) Q (F0 m pc lsA (.ref (adr b base t) :: r.map (evv b base))) := by
        intro t1 ht1 k
        have hlt := (List.getElem?_eq_some_iff.mp ht1).1
        refine va_get (C := (vcl x).1) (T := (vcl x).2.1) (N := (vcl x).2.2) (ref := (vcl x).1) hx hb hts (fun w h => hwa w (cls_wA _ _ _ _ hv w h)) hown hK hS.1 (t.toNat - 2) he (by rw [hq1]; exact hv) y (by rw [hN]; exact hlt) (hts _ (hwa _ hw)) (fun u hu => by rw [hdec y (by rw [hN]; exact hlt)] at hu; exact hu) (fld_at (by rw [hq1]; exact ht1)) hdg k
      have hM := hS.2.1.2.2.2.2.1
      split at h
      · rename_i hs0
        cases h
        have hp : plk sh t (y : Int) = 0 := by
          rw [plk_at hq, if_neg (by omega), hq1, Int.toNat_natCast, List.getD_eq_getElem?_getD, hs0]
          rfl
        exact go 0 hs0 (kk lsA H locs (hS.stk (okS_cons ((hM t y).1 hp) (okS_tail hS.stO))))
      · rename_i hs0
        cases h
        have hp : plk sh t (y : Int) = 1 := by
          rw [plk_at hq, if_neg (by omega), hq1, Int.toNat_natCast, List.getD_eq_getElem?_getD, hs0]
          rfl
        exact go 1 hs0 (kk lsA H locs (hS.stk (okS_cons ((hM t y).2 hp) (okS_tail hS.stO))))
      · rename_i hs0
        split at h
        · cases h
          exact go 2 hs0 (kk lsA H locs (hS.stk (okS_cons True.intro (okS_tail hS.stO))))
        · cases h
      · rename_i hs0
        cases h
        have hf : fin_ sh t y = q.2.2.getD y 0 := by
          unfold fin_
          rw [hq]
        have k3 := kk lsA H locs (hS.stk (okS_cons True.intro (okS_tail hS.stO)))
        rw [hf] at k3
        exact go 3 hs0 k3
      · cases h
    · cases h
  · cases h
theorem okM_up {t k u : Int} (h : okM sh g) (h0 : plk sh t k = 0 → iw u = u) (h1 : plk sh t k = 1 → lw u = u) : okM sh (up g t k u) := by
  intro a q
  unfold up
  by_cases e : a = t ∧ q = k
  · rw [if_pos e]
    obtain ⟨rfl, rfl⟩ := e
    exact ⟨h0, h1⟩
  · rw [if_neg e]
    exact h a q
theorem PF_up {t k u : Int} (h : PF L xs sh g) (h2 : 2 ≤ t) (h0 : plk sh t k = 0 → iw u = u) (h1 : plk sh t k = 1 → lw u = u) : PF L xs sh (up g t k u) := by
  obtain ⟨a1, a2, a3, a4, a5, a6⟩ := h
  refine ⟨a1, a2, a3, a4, okM_up a5 h0 h1, fun q hq => ?_⟩
  rw [show up g t k u 1 q = g 1 q from if_neg (fun e => by omega)]
  exact a6 q hq
theorem slt_set {k : Nat} {r : AShp} (h : sh[k]? = some r) (v : AShp) (hv : v.2.1 = r.2.1) : slt (sh.set k v) = slt sh := by
  unfold slt
  congr 1
  apply List.ext_getElem?
  intro q
  rw [List.getElem?_map, List.getElem?_map]
  by_cases e : k = q
  · subst e
    rw [List.getElem?_set_self (List.getElem?_eq_some_iff.mp h).1, h]
    simp [hv]
  · rw [List.getElem?_set_ne e]
theorem plk_set {k : Nat} {r v : AShp} (h : sh[k]? = some r) (hv : v.1 = r.1) (a q : Int) : plk (sh.set k v) a q = plk sh a q := by
  unfold plk
  by_cases e : k = a.toNat
  · subst e
    rw [List.getElem?_set_self (List.getElem?_eq_some_iff.mp h).1, h]
    simp [hv]
  · rw [List.getElem?_set_ne e]
theorem PF_set {k : Nat} {r v : AShp} (hF : PF L xs sh g) (h : sh[k]? = some r) (hv : v.1 = r.1) (h2 : 2 ≤ k) : PF L xs (sh.set k v) g := by
  obtain ⟨a1, a2, a3, a4, a5, a6⟩ := hF
  refine ⟨by rw [List.length_set]; exact a1, by rw [List.getElem?_set_ne (by omega)]; exact a2, by rw [List.getElem?_set_ne (by omega)]; exact a3, a4, fun a q => ?_, a6⟩
  rw [plk_set h hv]
  exact a5 a q
theorem sr_putf (hC : Cxt b base L xs D cs j n0 Ts p R s m args meth c) (hdg : decode (bcm j) pc = .ok (.putfield i, 3)) (hx11 : x < 11) (hw : Cond.fieldLink (ynm j).cls i (vcl x).1 ((vcl x).2.1 y).2.1 ((vcl x).2.1 y).2.2.1 ∈ wsA)
    (hnb : (match (jfld x)[y]?, parseFieldDescriptor ((vcl x).2.1 y).2.2.1 with
    | some 0, some .int => !((vcl x).2.1 y).2.2.2
    | some 1, some .long => !((vcl x).2.1 y).2.2.2
    | some 2, some (.object _) => !((vcl x).2.1 y).2.2.2
    | some 2, some (.array _) => !((vcl x).2.1 y).2.2.2
    | some 3, some (.object _) => ((vcl x).2.1 y).2.2.2 && decide ((ynm j).name = "<init>" ∧ ((vcl x).2.1 y).1 = (ynm j).cls)
    | some 3, some (.array _) => ((vcl x).2.1 y).2.2.2 && decide ((ynm j).name = "<init>" ∧ ((vcl x).2.1 y).1 = (ynm j).cls)
    | _, _ => false) = true)
    (h : a_putf x y (pc + 3) ls st sh g = some (pc1, ls', st', sh', g')) (hS : SFc b base L xs D cs s lsA ls st sh g H locs)
    (kk : ∀ lsA' H' locs', SFc b base L xs D cs s lsA' ls' st' sh' g' H' locs' → W p l e R s m args below meth c H' locs' (sh'.length - n0) (slt sh' - s0) Q (F0 m pc1 lsA' (st'.map (evv b base)))) : W p l e R s m args below meth c H locs (sh.length - n0) (slt sh - s0) Q (F0 m pc lsA (st.map (evv b base))) := by
  obtain ⟨hx, hb, hown, hts, hwa, ⟨hK, hAO1, hAO2, hNw⟩, hX, hbb, ⟨h2n, hsz⟩, hini, hfr, hlo⟩ := hC
  unfold a_putf at h
  split at h
  · rename_i v t r
    split at h
    · rename_i hk
      obtain ⟨q, hq, hq1, h2⟩ := kin_of hk (by omega)
      have hv := vcl_at hx11
      obtain ⟨hN, -, hnm, hdec, ty, hty, hdf⟩ := clsOK _ _ _ _ hv
      have he := ws_at (b := b) (base := base) (cs := cs) (g := g) hq h2
      rw [celE_o (by omega)] at he
      rw [List.map_cons, List.map_cons, evv_r (by omega)]
      have hF := hS.2.1
      have hS3 := hS.2.2.1
      -- a place that changes
      have go : ∀ (t1 : Nat) (u : Int) (ty1 : FieldType), (jfld x)[y]? = some t1 → parseFieldDescriptor ((vcl x).2.1 y).2.2.1 = some ty1 → ((vcl x).2.1 y).2.2.2 = false → t1 < 3 → narrow ty1 (evv b base (fvl t1 u (q.2.2.getD y 0))) = evv b base (fvl t1 u (q.2.2.getD y 0)) → fits ty1 (evv b base (fvl t1 u (q.2.2.getD y 0))) = true →
          (t1 = 0 → iw u = u) → (t1 = 1 → lw u = u) → (∀ lsA' H' locs', SFc b base L xs D cs s lsA' ls r sh (up g t y u) H' locs' → W p l e R s m args below meth c H' locs' (sh.length - n0) (slt sh - s0) Q (F0 m (pc + 3) lsA' (r.map (evv b base)))) → W p l e R s m args below meth c H locs (sh.length - n0) (slt sh - s0) Q (F0 m pc lsA (evv b base (fvl t1 u (q.2.2.getD y 0)) :: .ref (adr b base t) :: r.map (evv b base))) := by
        intro t1 u ty1 ht1 hpd hfin ht3 hnar hfit k0 k1 k
        have hlt := (List.getElem?_eq_some_iff.mp ht1).1
        refine va_put (C := (vcl x).1) (T := (vcl x).2.1) (N := (vcl x).2.2) (ref := (vcl x).1) hx hb hts (fun w h => hwa w (cls_wA _ _ _ _ hv w h)) ty hty hnm hown hK hS.1 ws_D hS3 (t.toNat - 2) he (by rw [hq1]; exact hv) y (by rw [hN]; exact hlt) (hts _ (hwa _ hw)) (fun u hu => by rw [hdec y (by rw [hN]; exact hlt)] at hu; exact hu) hfin hpd hnar hfit (by rw [fld_len, hq1]; exact hlt) hdg (fun H1 locs1 hP1 _ hS1 => ?_)
        have hpl : plk sh t (y : Int) = t1 := by
          rw [plk_at hq, if_neg (by omega), hq1, Int.toNat_natCast, List.getD_eq_getElem?_getD, ht1]
          rfl
        refine k lsA H1 locs1 ⟨?_, PF_up hF h2 (fun z => k0 (by omega)) (fun z => k1 (by omega)), hS1, hS.lhO, hS.lsO, okS_tail (okS_tail hS.stO)⟩
        rw [ws_mem (g := g) (g' := up g t (y : Int) u) hq h2 (fun a q ha => up_ne ha), celE_o (by omega), fld_put (t := t1) (by rw [hq1]; exact ht1), hq1]
        rw [hq1] at hP1
        exact hP1
      have gf : ∀ (u : Int) (ty1 : FieldType), (jfld x)[y]? = some 3 → parseFieldDescriptor ((vcl x).2.1 y).2.2.1 = some ty1 → ((vcl x).2.1 y).2.2.2 = true → (ynm j).name = "<init>" → ((vcl x).2.1 y).1 = (ynm j).cls → narrow ty1 (evv b base (vR u)) = evv b base (vR u) → fits ty1 (evv b base (vR u)) = true → y < q.2.2.length →
          (∀ lsA' H' locs', SFc b base L xs D cs s lsA' ls r (sh.set t.toNat (q.1, q.2.1, q.2.2.set y u)) g H' locs' → W p l e R s m args below meth c H' locs' ((sh.set t.toNat (q.1, q.2.1, q.2.2.set y u)).length - n0) (slt (sh.set t.toNat (q.1, q.2.1, q.2.2.set y u)) - s0) Q (F0 m (pc + 3) lsA' (r.map (evv b base)))) → W p l e R s m args below meth c H locs (sh.length - n0) (slt sh - s0) Q (F0 m pc lsA (evv b base (vR u) :: .ref (adr b base t) :: r.map (evv b base))) := by
        intro u ty1 ht1 hpd hfin hin1 hin2 hnar hfit hyl k
        have hlt := (List.getElem?_eq_some_iff.mp ht1).1
        refine va_putF (C := (vcl x).1) (T := (vcl x).2.1) (N := (vcl x).2.2) (ref := (vcl x).1) hx hb hts (fun w h => hwa w (cls_wA _ _ _ _ hv w h)) ty hty hnm hown hK hS.1 ws_D hS3 (t.toNat - 2) he (by rw [hq1]; exact hv) y (by rw [hN]; exact hlt) (hts _ (hwa _ hw)) (fun u hu => by rw [hdec y (by rw [hN]; exact hlt)] at hu; exact hu) hfin (hini hin1) hin2 hpd hnar hfit (by rw [fld_len, hq1]; exact hlt) hdg (fun H1 locs1 hP1 _ hS1 => ?_)
        have k2 := k lsA H1 locs1 ⟨?_, PF_set hF hq rfl (by omega), hS1, hS.lhO, hS.lsO, okS_tail (okS_tail hS.stO)⟩
        · rw [List.length_set, slt_set hq (q.1, q.2.1, q.2.2.set y u) rfl] at k2
          exact k2
        · rw [ws_shp (List.getElem?_eq_some_iff.mp hq).1 h2, celE_o (s := (q.1, q.2.1, q.2.2.set y u)) (by show q.1 < 11; omega), fld_fin (by rw [hq1]; exact ht1) hyl]
          exact hP1
      have hqD : sh[t.toNat]?.getD (0, 0, []) = q := by rw [hq]; rfl
      rw [hqD] at h
      cases hs0 : (jfld x)[y]? with
      | none => rw [hs0] at h; simp at h
      | some t1 =>
        rw [hs0] at h hnb
        cases hpd : parseFieldDescriptor ((vcl x).2.1 y).2.2.1 with
        | none => rw [hpd] at hnb; exfalso; revert hnb; split <;> simp_all
        | some ty1 =>
          rw [hpd] at hnb
          match t1, v, h with
          | 0, .inl u, h =>
            simp only [Option.some.injEq, Prod.mk.injEq] at h
            obtain ⟨rfl, rfl, rfl, rfl, rfl⟩ := h
            have e1 : ty1 = .int := by revert hnb; cases ty1 <;> simp
            subst e1
            exact go 0 u .int hs0 hpd (by simpa using hnb) (by omega) rfl rfl (fun _ => okS_head hS.stO) (fun e => by omega) kk
          | 1, .inr (.inl u), h =>
            simp only [Option.some.injEq, Prod.mk.injEq] at h
            obtain ⟨rfl, rfl, rfl, rfl, rfl⟩ := h
            have e1 : ty1 = .long := by revert hnb; cases ty1 <;> simp
            subst e1
            exact go 1 u .long hs0 hpd (by simpa using hnb) (by omega) rfl rfl (fun e => by omega) (fun _ => okS_head hS.stO) kk
          | 2, .inr (.inr (.inl u)), h =>
            simp only [Option.some.injEq, Prod.mk.injEq] at h
            obtain ⟨rfl, rfl, rfl, rfl, rfl⟩ := h
            have e1 : (∃ C, ty1 = .object C) ∨ ∃ t, ty1 = .array t := by revert hnb; cases ty1 <;> simp
            have e2 : ((vcl x).2.1 y).2.2.2 = false := by rcases e1 with ⟨C, rfl⟩ | ⟨C, rfl⟩ <;> simpa using hnb
            exact go 2 u ty1 hs0 hpd e2 (by omega) (rf_fit e1 _).1 (rf_fit e1 _).2 (fun e => by omega) (fun e => by omega) kk
          | 3, .inr (.inr (.inl u)), h =>
            have h : (if y < q.2.2.length then some (pc + 3, ls, r, sh.set t.toNat (q.1, q.2.1, q.2.2.set y u), g) else none) = some (pc1, ls', st', sh', g') := h
            split at h
            · rename_i hyl
              simp only [Option.some.injEq, Prod.mk.injEq] at h
              obtain ⟨rfl, rfl, rfl, rfl, rfl⟩ := h
              have e1 : (∃ C, ty1 = .object C) ∨ ∃ t, ty1 = .array t := by revert hnb; cases ty1 <;> simp
              have e2 : ((vcl x).2.1 y).2.2.2 = true ∧ (ynm j).name = "<init>" ∧ ((vcl x).2.1 y).1 = (ynm j).cls := by rcases e1 with ⟨C, rfl⟩ | ⟨C, rfl⟩ <;> simpa using hnb
              exact gf u ty1 hs0 hpd e2.1 e2.2.1 e2.2.2 (rf_fit e1 _).1 (rf_fit e1 _).2 hyl kk
            · cases h
          | 0, .inr _, h => simp at h
          | 1, .inl _, h => simp at h
          | 1, .inr (.inr _), h => simp at h
          | 2, .inl _, h => simp at h
          | 2, .inr (.inl _), h => simp at h
          | 2, .inr (.inr (.inr _)), h => simp at h
          | 3, .inl _, h => simp at h
          | 3, .inr (.inl _), h => simp at h
          | 3, .inr (.inr (.inr _)), h => simp at h
          | t1 + 4, _, h => simp at h
    · cases h
  · cases h
end SNH
end
section
section SNA
variable {p : Program} {l : Launch} {e : Env} {R : Room} {s : State} {m : MethodId} {args : Array Value} {below : List Frame} {meth : Method} {c : Code} {Q : State → Prop}
variable {b base L j n0 s0 : Nat} {xs : Nat → Int32} {D : va_G} {cs : Nat → ClassId} {Ts : List Cond} {pc pc' pc1 x y i : Nat} {z : Int} {ls ls' st st' : List AVal} {sh sh' : List AShp} {g g' : AMem} {lsA : Array Slot} {H : Heap} {locs : List Loc}
theorem fn_up {a i x : Int} (h0 : 0 ≤ i) : (fun (j : Nat) => Int32.ofInt (up g a i x a j)) = upd (fun (j : Nat) => Int32.ofInt (g a j)) i.toNat (Int32.ofInt x) := by
  funext j
  unfold up upd
  by_cases e : j = i.toNat
  · subst e
    rw [if_pos ⟨rfl, by omega⟩, if_pos rfl]
  · rw [if_neg (by omega), if_neg e]
theorem sr_iald (hC : Cxt b base L xs D cs j n0 Ts p R s m args meth c) (hdg : decode (bcm j) pc = .ok (.iaload, 1))
    (h : a_iald (pc + 1) ls st sh g = some (pc1, ls', st', sh', g')) (hS : SFc b base L xs D cs s lsA ls st sh g H locs)
    (kk : ∀ lsA' H' locs', SFc b base L xs D cs s lsA' ls' st' sh' g' H' locs' → W p l e R s m args below meth c H' locs' (sh'.length - n0) (slt sh' - s0) Q (F0 m pc1 lsA' (st'.map (evv b base)))) : W p l e R s m args below meth c H locs (sh.length - n0) (slt sh - s0) Q (F0 m pc lsA (st.map (evv b base))) := by
  obtain ⟨hx, hb, hown, hts, hwa, ⟨hK, hAO1, hAO2, hNw⟩, hX, hbb, ⟨h2n, hsz⟩, hini, hfr, hlo⟩ := hC
  unfold a_iald at h
  split at h
  · rename_i i a r
    split at h
    · rename_i hin
      cases h
      have hi : iw i = i := okS_head hS.stO
      have e : ((Int32.ofInt i).toNatClampNeg : Int) = i := by rw [ofI_nat hi]; omega
      have hF := hS.2.1
      obtain ⟨h0, hin⟩ := hin
      unfold aln at hin
      split at hin
      · rename_i q hq
        split at hin
        · rename_i hk
          rcases hk with hk | ⟨hk, rfl⟩
          · have h2 := sh_2 hF hq (Or.inl hk)
            have he := ws_at (b := b) (base := base) (cs := cs) (g := g) hq h2
            rw [celE_i hk] at he
            rw [List.map_cons, List.map_cons, evv_r (by omega)]
            refine va_iald hx hb hK hS.1 (a.toNat - 2) 0 he rfl ((ofI_in hi).mpr ⟨h0, hin⟩) hdg ?_
            rw [e]
            refine kk lsA H locs (hS.stk (okS_cons ((hF.2.2.2.2.1 a i).1 ?_) (okS_tail (okS_tail hS.stO))))
            rw [plk_at hq, if_pos (Or.inl hk)]
          · rw [show ((1 : Int).toNat) = 1 from rfl, hF.2.2.1] at hq
            cases hq
            rw [List.map_cons, List.map_cons, evv_r (by omega), show adr b base 1 = b from rfl]
            refine va_sld hx hb hX (by omega) (by omega) hS.2.2.1 ((ofI_in hi).mpr ⟨h0, hin⟩) hdg ?_
            have h6 := hF.2.2.2.2.2 (Int32.ofInt i).toNatClampNeg (by rw [ofI_nat hi]; dsimp only at hin; omega)
            rw [← h6, e]
            refine kk lsA H locs (hS.stk (okS_cons ((hF.2.2.2.2.1 1 i).1 ?_) (okS_tail (okS_tail hS.stO))))
            rw [plk_at (show sh[(1 : Int).toNat]? = _ from hF.2.2.1), if_pos (Or.inr (Or.inr rfl))]
        · omega
      · omega
    · cases h
  · cases h
theorem sr_iast (hC : Cxt b base L xs D cs j n0 Ts p R s m args meth c) (hdg : decode (bcm j) pc = .ok (.iastore, 1))
    (h : a_iast (pc + 1) ls st sh g = some (pc1, ls', st', sh', g')) (hS : SFc b base L xs D cs s lsA ls st sh g H locs)
    (kk : ∀ lsA' H' locs', SFc b base L xs D cs s lsA' ls' st' sh' g' H' locs' → W p l e R s m args below meth c H' locs' (sh'.length - n0) (slt sh' - s0) Q (F0 m pc1 lsA' (st'.map (evv b base)))) : W p l e R s m args below meth c H locs (sh.length - n0) (slt sh - s0) Q (F0 m pc lsA (st.map (evv b base))) := by
  obtain ⟨hx, hb, hown, hts, hwa, ⟨hK, hAO1, hAO2, hNw⟩, hX, hbb, ⟨h2n, hsz⟩, hini, hfr, hlo⟩ := hC
  unfold a_iast at h
  split at h
  · rename_i u i a r
    split at h
    · rename_i hin
      cases h
      have hu : iw u = u := okS_head hS.stO
      have hi : iw i = i := okS_head (okS_tail hS.stO)
      have hF := hS.2.1
      obtain ⟨h0, hin, h2⟩ := hin
      unfold aln at hin
      split at hin
      · rename_i q hq
        split at hin
        · rename_i hk
          rcases hk with hk | ⟨-, rfl⟩
          · have he := ws_at (b := b) (base := base) (cs := cs) (g := g) hq h2
            rw [celE_i hk] at he
            rw [List.map_cons, List.map_cons, List.map_cons, evv_r (by omega)]
            refine va_iast hx hb hK hS.1 ws_D hS.2.2.1 (a.toNat - 2) 0 he rfl ((ofI_in hi).mpr ⟨h0, hin⟩) hdg (fun H1 locs1 hP1 _ hS1 => ?_)
            have hpl : plk sh a i = 0 := by rw [plk_at hq, if_pos (Or.inl hk)]
            refine kk lsA H1 locs1 ⟨?_, PF_up hF h2 (fun _ => hu) (fun z => by omega), hS1, hS.lhO, hS.lsO, okS_tail (okS_tail (okS_tail hS.stO))⟩
            rw [ws_mem (g := g) (g' := up g a i u) hq h2 (fun a q ha => up_ne ha), celE_i hk, fn_up h0]
            rw [ofI_nat hi] at hP1
            exact hP1
          · omega
        · omega
      · omega
    · cases h
  · cases h
theorem vnar_b {x : Int} (h : x = 0 ∨ x = 1) : vp_nar .boolean (Int32.ofInt x) = Int32.ofInt x := by
  rcases h with rfl | rfl <;> decide +kernel
theorem sr_bald (hC : Cxt b base L xs D cs j n0 Ts p R s m args meth c) (hdg : decode (bcm j) pc = .ok (.baload, 1))
    (h : a_bald (pc + 1) ls st sh g = some (pc1, ls', st', sh', g')) (hS : SFc b base L xs D cs s lsA ls st sh g H locs)
    (kk : ∀ lsA' H' locs', SFc b base L xs D cs s lsA' ls' st' sh' g' H' locs' → W p l e R s m args below meth c H' locs' (sh'.length - n0) (slt sh' - s0) Q (F0 m pc1 lsA' (st'.map (evv b base)))) : W p l e R s m args below meth c H locs (sh.length - n0) (slt sh - s0) Q (F0 m pc lsA (st.map (evv b base))) := by
  obtain ⟨hx, hb, hown, hts, hwa, ⟨hK, hAO1, hAO2, hNw⟩, hX, hbb, ⟨h2n, hsz⟩, hini, hfr, hlo⟩ := hC
  unfold a_bald at h
  split at h
  · rename_i i a r
    split at h
    · rename_i hin
      cases h
      have hi : iw i = i := okS_head hS.stO
      have e : ((Int32.ofInt i).toNatClampNeg : Int) = i := by rw [ofI_nat hi]; omega
      have hF := hS.2.1
      obtain ⟨h0, hin⟩ := hin
      unfold bln at hin
      split at hin
      · rename_i q hq
        split at hin
        · rename_i hk
          have h2 := sh_2 hF hq (Or.inr (Or.inl hk))
          have he := ws_at (b := b) (base := base) (cs := cs) (g := g) hq h2
          rw [celE_z hk] at he
          rw [List.map_cons, List.map_cons, evv_r (by omega)]
          refine va_zald hx hb hK hS.1 (a.toNat - 2) 1 he rfl ((ofI_in hi).mpr ⟨h0, hin⟩) hdg ?_
          rw [e]
          refine kk lsA H locs (hS.stk (okS_cons ((hF.2.2.2.2.1 a i).1 ?_) (okS_tail (okS_tail hS.stO))))
          rw [plk_at hq, if_pos (Or.inr (Or.inl hk))]
        · omega
      · omega
    · cases h
  · cases h
theorem sr_bast (hC : Cxt b base L xs D cs j n0 Ts p R s m args meth c) (hdg : decode (bcm j) pc = .ok (.bastore, 1))
    (h : a_bast (pc + 1) ls st sh g = some (pc1, ls', st', sh', g')) (hS : SFc b base L xs D cs s lsA ls st sh g H locs)
    (kk : ∀ lsA' H' locs', SFc b base L xs D cs s lsA' ls' st' sh' g' H' locs' → W p l e R s m args below meth c H' locs' (sh'.length - n0) (slt sh' - s0) Q (F0 m pc1 lsA' (st'.map (evv b base)))) : W p l e R s m args below meth c H locs (sh.length - n0) (slt sh - s0) Q (F0 m pc lsA (st.map (evv b base))) := by
  obtain ⟨hx, hb, hown, hts, hwa, ⟨hK, hAO1, hAO2, hNw⟩, hX, hbb, ⟨h2n, hsz⟩, hini, hfr, hlo⟩ := hC
  unfold a_bast at h
  split at h
  · rename_i u i a r
    split at h
    · rename_i hin
      cases h
      have hu : iw u = u := okS_head hS.stO
      have hi : iw i = i := okS_head (okS_tail hS.stO)
      have hF := hS.2.1
      obtain ⟨h0, hin, hub⟩ := hin
      unfold bln at hin
      split at hin
      · rename_i q hq
        split at hin
        · rename_i hk
          have h2 := sh_2 hF hq (Or.inr (Or.inl hk))
          have he := ws_at (b := b) (base := base) (cs := cs) (g := g) hq h2
          rw [celE_z hk] at he
          rw [List.map_cons, List.map_cons, List.map_cons, evv_r (by omega)]
          refine va_zast hx hb hK hS.1 ws_D hS.2.2.1 (a.toNat - 2) 1 he rfl ((ofI_in hi).mpr ⟨h0, hin⟩) hdg (fun H1 locs1 hP1 _ hS1 => ?_)
          have hpl : plk sh a i = 0 := by rw [plk_at hq, if_pos (Or.inr (Or.inl hk))]
          refine kk lsA H1 locs1 ⟨?_, PF_up hF h2 (fun _ => hu) (fun z => by omega), hS1, hS.lhO, hS.lsO, okS_tail (okS_tail (okS_tail hS.stO))⟩
          rw [ws_mem (g := g) (g' := up g a i u) hq h2 (fun a q ha => up_ne ha), celE_z hk, fn_up h0]
          rw [ofI_nat hi, vnar_b hub] at hP1
          exact hP1
        · omega
      · omega
    · cases h
  · cases h
theorem sr_aald (hC : Cxt b base L xs D cs j n0 Ts p R s m args meth c) (hdg : decode (bcm j) pc = .ok (.aaload, 1))
    (h : a_aald (pc + 1) ls st sh g = some (pc1, ls', st', sh', g')) (hS : SFc b base L xs D cs s lsA ls st sh g H locs)
    (kk : ∀ lsA' H' locs', SFc b base L xs D cs s lsA' ls' st' sh' g' H' locs' → W p l e R s m args below meth c H' locs' (sh'.length - n0) (slt sh' - s0) Q (F0 m pc1 lsA' (st'.map (evv b base)))) : W p l e R s m args below meth c H locs (sh.length - n0) (slt sh - s0) Q (F0 m pc lsA (st.map (evv b base))) := by
  obtain ⟨hx, hb, hown, hts, hwa, ⟨hK, hAO1, hAO2, hNw⟩, hX, hbb, ⟨h2n, hsz⟩, hini, hfr, hlo⟩ := hC
  unfold a_aald at h
  split at h
  · rename_i i a r
    split at h
    · rename_i hin
      cases h
      have hi : iw i = i := okS_head hS.stO
      have hF := hS.2.1
      obtain ⟨h0, hin⟩ := hin
      unfold rln at hin
      split at hin
      · rename_i q hq
        split at hin
        · rename_i hk
          have h2 := sh_2 hF hq (by omega)
          have he := ws_at (b := b) (base := base) (cs := cs) (g := g) hq h2
          have hf : fin_ sh a i.toNat = q.2.2.getD i.toNat 0 := by
            unfold fin_
            rw [hq]
          rw [List.map_cons, List.map_cons, evv_r (by omega)]
          have k3 := kk lsA H locs (hS.stk (okS_cons True.intro (okS_tail (okS_tail hS.stO))))
          rw [hf] at k3
          rcases hk with hk | hk
          · rw [celE_b hk] at he
            refine va_aldq hx hb hK hS.1 (a.toNat - 2) 2 he rfl ((ofI_in hi).mpr ⟨h0, hin⟩) hdg ?_
            rw [ofI_nat hi]
            exact k3
          · rw [celE_e hk] at he
            refine va_aldq hx hb hK hS.1 (a.toNat - 2) 3 he rfl ((ofI_in hi).mpr ⟨h0, hin⟩) hdg ?_
            rw [ofI_nat hi]
            exact k3
        · omega
      · omega
    · cases h
  · cases h
theorem fn_rf {rf : List Int} {i : Nat} {v : Int} (hi : i < rf.length) (hv : 1 ≤ v) : (fun (j : Nat) => rfo b base ((rf.set i v).getD j 0)) = va_up (fun (j : Nat) => rfo b base (rf.getD j 0)) i (some (adr b base v)) := by
  funext j
  unfold va_up
  by_cases e : j = i
  · subst e
    rw [if_pos rfl, List.getD_eq_getElem?_getD, List.getElem?_set_self hi, Option.getD_some, rfo, if_pos hv]
  · rw [if_neg e, List.getD_eq_getElem?_getD, List.getElem?_set_ne (Ne.symm e), ← List.getD_eq_getElem?_getD]
theorem sr_aast (hC : Cxt b base L xs D cs j n0 Ts p R s m args meth c) (hdg : decode (bcm j) pc = .ok (.aastore, 1))
    (h : a_aast (pc + 1) ls st sh g = some (pc1, ls', st', sh', g')) (hS : SFc b base L xs D cs s lsA ls st sh g H locs)
    (kk : ∀ lsA' H' locs', SFc b base L xs D cs s lsA' ls' st' sh' g' H' locs' → W p l e R s m args below meth c H' locs' (sh'.length - n0) (slt sh' - s0) Q (F0 m pc1 lsA' (st'.map (evv b base)))) : W p l e R s m args below meth c H locs (sh.length - n0) (slt sh - s0) Q (F0 m pc lsA (st.map (evv b base))) := by
  obtain ⟨hx, hb, hown, hts, hwa, ⟨hK, hAO1, hAO2, hNw⟩, hX, hbb, ⟨h2n, hsz⟩, hini, hfr, hlo⟩ := hC
  unfold a_aast at h
  split at h
  · rename_i v i a r
    split at h
    · rename_i hin
      have hi : iw i = i := okS_head (okS_tail hS.stO)
      have hF := hS.2.1
      obtain ⟨h0, hin, hil, hkk⟩ := hin
      unfold rln at hin
      split at hin
      · rename_i q hq
        have hqD : sh[a.toNat]?.getD (0, 0, []) = q := by rw [hq]; rfl
        rw [hqD] at h hil
        split at hin
        · rename_i hk
          have h2 := sh_2 hF hq (by omega)
          have hkq : kin sh a = q.1 := by unfold kin; rw [hq]; exact if_pos h2
          have he := ws_at (b := b) (base := base) (cs := cs) (g := g) hq h2
          cases h
          rcases hkk with ⟨k1, k2⟩ | ⟨k1, k2⟩
          · obtain ⟨q2, hq2, hq21, h22⟩ := kin_of k2 (by omega)
            have hv := ws_at (b := b) (base := base) (cs := cs) (g := g) hq2 h22
            rw [celE_o (by omega), hq21] at hv
            rw [celE_b (by omega)] at he
            rw [List.map_cons, List.map_cons, List.map_cons, evv_r (by omega), evv_r (by omega)]
            refine va_astq (r := (RX0, TX0, 2)) hx hb hK hS.1 ws_D hS.2.2.1 (a.toNat - 2) 2 (v.toNat - 2) 0 he rfl hv rfl ((ofI_in hi).mpr ⟨h0, hin⟩) hdg (fun H1 locs1 hP1 _ hS1 => ?_)
            have k5 := kk lsA H1 locs1 ⟨?_, PF_set hF hq rfl (by omega), hS1, hS.lhO, hS.lsO, okS_tail (okS_tail (okS_tail hS.stO))⟩
            · rw [List.length_set, slt_set hq (q.1, q.2.1, q.2.2.set i.toNat v) rfl] at k5
              exact k5
            · rw [ws_shp (List.getElem?_eq_some_iff.mp hq).1 h2, celE_b (s := (q.1, q.2.1, q.2.2.set i.toNat v)) (by show q.1 = 22; omega), fn_rf hil (by omega)]
              rw [ofI_nat hi] at hP1
              exact hP1
          · obtain ⟨q2, hq2, hq21, h22⟩ := kin_of k2 (by omega)
            have hv := ws_at (b := b) (base := base) (cs := cs) (g := g) hq2 h22
            rw [celE_o (by omega), hq21] at hv
            rw [celE_e (by omega)] at he
            rw [List.map_cons, List.map_cons, List.map_cons, evv_r (by omega), evv_r (by omega)]
            refine va_astq (r := (RX2, TX2, 4)) hx hb hK hS.1 ws_D hS.2.2.1 (a.toNat - 2) 3 (v.toNat - 2) 2 he rfl hv rfl ((ofI_in hi).mpr ⟨h0, hin⟩) hdg (fun H1 locs1 hP1 _ hS1 => ?_)
            have k5 := kk lsA H1 locs1 ⟨?_, PF_set hF hq rfl (by omega), hS1, hS.lhO, hS.lsO, okS_tail (okS_tail (okS_tail hS.stO))⟩
            · rw [List.length_set, slt_set hq (q.1, q.2.1, q.2.2.set i.toNat v) rfl] at k5
              exact k5
            · rw [ws_shp (List.getElem?_eq_some_iff.mp hq).1 h2, celE_e (s := (q.1, q.2.1, q.2.2.set i.toNat v)) (by show q.1 = 23; omega), fn_rf hil (by omega)]
              rw [ofI_nat hi] at hP1
              exact hP1
        · omega
      · omega
    · cases h
  · cases h
theorem sr_alen (hC : Cxt b base L xs D cs j n0 Ts p R s m args meth c) (hdg : decode (bcm j) pc = .ok (.arraylength, 1))
    (h : a_alen (pc + 1) ls st sh g = some (pc1, ls', st', sh', g')) (hS : SFc b base L xs D cs s lsA ls st sh g H locs)
    (kk : ∀ lsA' H' locs', SFc b base L xs D cs s lsA' ls' st' sh' g' H' locs' → W p l e R s m args below meth c H' locs' (sh'.length - n0) (slt sh' - s0) Q (F0 m pc1 lsA' (st'.map (evv b base)))) : W p l e R s m args below meth c H locs (sh.length - n0) (slt sh - s0) Q (F0 m pc lsA (st.map (evv b base))) := by
  obtain ⟨hx, hb, hown, hts, hwa, ⟨hK, hAO1, hAO2, hNw⟩, hX, hbb, ⟨h2n, hsz⟩, hini, hfr, hlo⟩ := hC
  unfold a_alen at h
  split at h
  · rename_i a r
    split at h
    · rename_i hin
      cases h
      have hF := hS.2.1
      obtain ⟨hk, hle⟩ := hin
      have hnn : 0 ≤ aln sh a := by
        unfold aln
        split
        · split <;> omega
        · omega
      have k3 := kk lsA H locs (hS.stk (okS_cons (show iw (aln sh a) = aln sh a from iw_id (by omega) (by omega)) (okS_tail hS.stO)))
      rcases hk with hk | rfl
      · obtain ⟨q, hq, hq1, h2⟩ := kin_of hk (by omega)
        have he := ws_at (b := b) (base := base) (cs := cs) (g := g) hq h2
        rw [celE_i hq1] at he
        have hl : aln sh a = q.2.1 := by
          unfold aln
          rw [hq]
          exact if_pos (Or.inl hq1)
        rw [List.map_cons, evv_r (by omega)]
        refine va_alen hx hb hK hS.1 (a.toNat - 2) 0 he rfl (v := Int32.ofInt (aln sh a)) ?_ hdg k3
        rw [hl, Int32.ofInt_eq_ofNat]
      · have hl : aln sh 1 = L := by
          unfold aln
          rw [show ((1 : Int).toNat) = 1 from rfl, hF.2.2.1]
          exact if_pos (Or.inr ⟨rfl, rfl⟩)
        rw [List.map_cons, evv_r (by omega), show adr b base 1 = b from rfl]
        refine va_slen hx hb hX (by omega) (by omega) hS.2.2.1 hdg ?_
        rw [List.map_cons, hl] at k3
        rw [← Int32.ofInt_eq_ofNat]
        exact k3
    · cases h
  · cases h
end SNA
end
section
section SNB
variable {p : Program} {l : Launch} {e : Env} {R : Room} {s : State} {m : MethodId} {args : Array Value} {below : List Frame} {meth : Method} {c : Code} {Q : State → Prop}
variable {b base L j n0 s0 : Nat} {xs : Nat → Int32} {D : va_G} {cs : Nat → ClassId} {Ts : List Cond} {pc pc' pc1 x y i : Nat} {z : Int} {ls ls' st st' : List AVal} {sh sh' : List AShp} {g g' : AMem} {lsA : Array Slot} {H : Heap} {locs : List Loc}
theorem slt_psh {r : AShp} : slt (sh ++ [r]) = slt sh + r.2.1 := by simp [slt]
theorem PF_psh {r : AShp} (h : PF L xs sh g) (hr : ∀ k : Int, plk (sh ++ [r]) sh.length k = plk (sh ++ [r]) sh.length k) : PF L xs (sh ++ [r]) (zr g sh.length) := by
  obtain ⟨a1, a2, a3, a4, a5, a6⟩ := h
  refine ⟨by rw [List.length_append]; omega, by rw [List.getElem?_append_left (by omega)]; exact a2, by rw [List.getElem?_append_left (by omega)]; exact a3, a4, fun a q => ?_, fun q hq => ?_⟩
  · unfold zr
    by_cases e : a = sh.length
    · rw [if_pos e]
      exact ⟨fun _ => iw_0, fun _ => lw_0⟩
    · rw [if_neg e]
      by_cases e2 : a.toNat < sh.length
      · have : plk (sh ++ [r]) a q = plk sh a q := by
          unfold plk
          rw [List.getElem?_append_left e2]
        rw [this]
        exact a5 a q
      · have : plk (sh ++ [r]) a q = 9 := by
          unfold plk
          rw [List.getElem?_eq_none (by rw [List.length_append, List.length_singleton]; omega)]
        rw [this]
        exact ⟨fun z => by omega, fun z => by omega⟩
  · rw [show zr g sh.length 1 q = g 1 q from if_neg (by omega)]
    exact a6 q hq
theorem zr_ne {a q t : Int} (h : a ≠ t) : zr g t a q = g a q := if_neg h
theorem adr_new (h : 2 ≤ sh.length) : adr b base (sh.length : Int) = base + (sh.length - 2) := by rw [adr_2 (by omega), Int.toNat_natCast]
theorem sr_new (hC : Cxt b base L xs D cs j n0 Ts p R s m args meth c) (hdg : decode (bcm j) pc = .ok (.new i, 3)) (hx11 : x < 11)
    (hw : Cond.classLink (ynm j).cls i (vcl x).1 ∈ wsA ∧ Cond.instantiable (vcl x).1 (vcl x).2.2 ∈ wsA ∧ Cond.initialized (vcl x).1 ∈ wsA)
    (h : a_new x (pc + 3) ls st sh g = some (pc1, ls', st', sh', g')) (hS : SFc b base L xs D cs s lsA ls st sh g H locs) (hn : n0 ≤ sh.length) (hs0 : s0 ≤ slt sh) (hR1 : sh'.length - n0 ≤ R.cells) (hR2 : slt sh' - s0 ≤ R.slots)
    (kk : ∀ lsA' H' locs', SFc b base L xs D cs s lsA' ls' st' sh' g' H' locs' → W p l e R s m args below meth c H' locs' (sh'.length - n0) (slt sh' - s0) Q (F0 m pc1 lsA' (st'.map (evv b base)))) : W p l e R s m args below meth c H locs (sh.length - n0) (slt sh - s0) Q (F0 m pc lsA (st.map (evv b base))) := by
  obtain ⟨hx, hb, hown, hts, hwa, ⟨hK, hAO1, hAO2, hNw⟩, hX, hbb, ⟨h2n, hsz⟩, hini, hfr, hlo⟩ := hC
  unfold a_new at h
  cases h
  have hv := vcl_at hx11
  obtain ⟨hN, -, hnm, hdec, ty, hty, hdf⟩ := clsOK _ _ _ _ hv
  have hF := hS.2.1
  have e1 : (sh ++ [(x, (jfld x).length, List.replicate (jfld x).length 0)]).length - n0 = sh.length - n0 + 1 := by rw [List.length_append, List.length_singleton]; omega
  have e2 : slt (sh ++ [(x, (jfld x).length, List.replicate (jfld x).length 0)]) - s0 = slt sh - s0 + (jfld x).length := by rw [slt_psh]; dsimp only; omega
  rw [e1] at hR1
  rw [e2] at hR2
  refine va_new (fs := fldE b base (x, (jfld x).length, List.replicate (jfld x).length 0) sh.length (zr g sh.length)) hx hb hts (fun w h => hwa w (cls_wA _ _ _ _ hv w h)) ty hty hown (hts _ (hwa _ hw.1)) (hts _ (hwa _ hw.2.1)) (hts _ (hwa _ hw.2.2)) hK hS.1 ws_D hS.2.2.1 (fun q h => by omega) hv ?_ hR1 (by rw [hN]; exact hR2) hdg (fun q H1 hP1 hD1 hS1 => ?_)
  · intro k hk
    rw [hdf k hk]
    have hlt : k < (jfld x).length := by omega
    have hq : (jfld x)[k]? = some (jfld x)[k] := List.getElem?_eq_getElem hlt
    have hfl : vp_V (fldE b base (x, (jfld x).length, List.replicate (jfld x).length 0) sh.length (zr g sh.length)) k = evv b base (fvl (jfld x)[k] (zr g sh.length sh.length k) ((List.replicate (jfld x).length (0 : Int)).getD k 0)) := by
      unfold vp_V
      rw [List.getD_eq_getElem?_getD, fld_at (s := (x, (jfld x).length, List.replicate (jfld x).length 0)) hq, Option.getD_some]
    rw [hfl, List.getD_eq_getElem?_getD, hq, Option.getD_some]
    have z1 : zr g sh.length sh.length k = 0 := if_pos rfl
    have z2 : (List.replicate (jfld x).length (0 : Int)).getD k 0 = 0 := by
      rw [List.getD_eq_getElem?_getD, List.getElem?_replicate, if_pos hlt]
      rfl
    rw [z1, z2, evv_0 b base]
  · refine w_size (fun hu => ?_)
    have hq := q_of hP1 hD1 hsz hn h2n hu
    have k3 := kk lsA H1 locs ⟨?_, PF_psh hF (fun _ => rfl), hS1, hS.lhO, hS.lsO, okS_cons True.intro hS.stO⟩
    · rw [e1, e2, List.map_cons, evv_r (by have := hF.1; omega), adr_new hF.1, ← hq] at k3
      rw [hN]
      exact k3
    · rw [ws_psh hF.1 (fun a q ha => zr_ne ha), celE_o (s := (x, (jfld x).length, List.replicate (jfld x).length 0)) hx11, ← hq]
      exact hP1
theorem cs_of {t : Nat} {ty : FieldType} {cA : ClassId} (hK : va_K D vwCl (TYs cs ++ [(cA, ty)]) s) (ht : (TYs cs)[t]? = some (cs t, ty)) : cA = cs t := by
  have h1 := (hK.2 4 (cA, ty) rfl).2
  have h2 := (hK.2 t (cs t, ty) (by rw [List.getElem?_append_left (List.getElem?_eq_some_iff.mp ht).1]; exact ht)).2
  dsimp only at h1 h2
  cases ty with
  | object C =>
    obtain ⟨_, _, -, -, -, h3⟩ := h1
    obtain ⟨_, _, -, -, -, h4⟩ := h2
    exact Option.some.inj (h3.symm.trans h4)
  | _ => exact Option.some.inj (Eq.trans (Eq.symm h1) h2)
theorem vK_sub {cA : ClassId} {ty : FieldType} (hK : va_K D vwCl (TYs cs ++ [(cA, ty)]) s) : va_K D vwCl (TYs cs) s := hK.sub [0, 1, 2, 3] rfl
theorem sr_newi (hC : Cxt b base L xs D cs j n0 Ts p R s m args meth c) (hdg : decode (bcm j) pc = .ok (.newarray .int, 2)) (hw : Cond.arrayClass (newarray.typeOf .int) ∈ wsA)
    (h : a_newa 20 (pc + 2) ls st sh g = some (pc1, ls', st', sh', g')) (hS : SFc b base L xs D cs s lsA ls st sh g H locs) (hn : n0 ≤ sh.length) (hs0 : s0 ≤ slt sh) (hR1 : sh'.length - n0 ≤ R.cells) (hR2 : slt sh' - s0 ≤ R.slots)
    (kk : ∀ lsA' H' locs', SFc b base L xs D cs s lsA' ls' st' sh' g' H' locs' → W p l e R s m args below meth c H' locs' (sh'.length - n0) (slt sh' - s0) Q (F0 m pc1 lsA' (st'.map (evv b base)))) : W p l e R s m args below meth c H locs (sh.length - n0) (slt sh - s0) Q (F0 m pc lsA (st.map (evv b base))) := by
  obtain ⟨hx, hb, hown, hts, hwa, ⟨hK, hAO1, hAO2, hNw⟩, hX, hbb, ⟨h2n, hsz⟩, hini, hfr, hlo⟩ := hC
  unfold a_newa at h
  split at h
  · rename_i n r
    split at h
    · rename_i hin
      cases h
      have hi : iw n = n := okS_head hS.stO
      have hF := hS.2.1
      have e1 : (sh ++ [(20, n.toNat, [])]).length - n0 = sh.length - n0 + 1 := by rw [List.length_append, List.length_singleton]; omega
      have e2 : slt (sh ++ [(20, n.toNat, [])]) - s0 = slt sh - s0 + n.toNat := by rw [slt_psh]; dsimp only; omega
      rw [e1] at hR1
      rw [e2] at hR2
      rw [List.map_cons]
      refine va_newa (atype := .int) (ty := .int) (N' := n.toNat) (a0 := (n.toNat, .inl (fun _ => 0))) hx hb (hts _ (hwa _ hw)) rfl hK hS.1 ws_D hS.2.2.1 (fun q h => by omega) (fun cA => rfl) (by rw [ofI_0, ofI_lt hi iw_0]; omega) (ofI_nat hi) (by show n.toNat * 4 ≤ _; omega) hR1 hR2 hdg (fun q cA H1 hK1 hP1 hD1 hS1 => ?_)
      refine w_size (fun hu => ?_)
      have hq := q_of hP1 hD1 hsz hn h2n hu
      have hcA : cA = cs 0 := cs_of hK1 rfl
      have k3 := kk lsA H1 locs ⟨?_, PF_psh hF (fun _ => rfl), hS1, hS.lhO, hS.lsO, okS_cons True.intro (okS_tail hS.stO)⟩
      · rw [e1, e2, List.map_cons, evv_r (by have := hF.1; omega), adr_new hF.1, ← hq] at k3
        exact k3
      · rw [ws_psh hF.1 (fun a q ha => zr_ne ha), celE_i (s := (20, n.toNat, [])) rfl, ← hq, ← hcA]
        have z1 : (fun (k : Nat) => Int32.ofInt (zr g sh.length sh.length k)) = (fun _ => (0 : Int32)) := by
          funext k
          rw [show zr g sh.length sh.length k = 0 from if_pos rfl, ← ofI_0]
        rw [z1]
        exact hP1
    · cases h
  · cases h
theorem sr_newz (hC : Cxt b base L xs D cs j n0 Ts p R s m args meth c) (hdg : decode (bcm j) pc = .ok (.newarray .boolean, 2)) (hw : Cond.arrayClass (newarray.typeOf .boolean) ∈ wsA)
    (h : a_newa 21 (pc + 2) ls st sh g = some (pc1, ls', st', sh', g')) (hS : SFc b base L xs D cs s lsA ls st sh g H locs) (hn : n0 ≤ sh.length) (hs0 : s0 ≤ slt sh) (hR1 : sh'.length - n0 ≤ R.cells) (hR2 : slt sh' - s0 ≤ R.slots)
    (kk : ∀ lsA' H' locs', SFc b base L xs D cs s lsA' ls' st' sh' g' H' locs' → W p l e R s m args below meth c H' locs' (sh'.length - n0) (slt sh' - s0) Q (F0 m pc1 lsA' (st'.map (evv b base)))) : W p l e R s m args below meth c H locs (sh.length - n0) (slt sh - s0) Q (F0 m pc lsA (st.map (evv b base))) := by
  obtain ⟨hx, hb, hown, hts, hwa, ⟨hK, hAO1, hAO2, hNw⟩, hX, hbb, ⟨h2n, hsz⟩, hini, hfr, hlo⟩ := hC
  unfold a_newa at h
  split at h
  · rename_i n r
    split at h
    · rename_i hin
      cases h
      have hi : iw n = n := okS_head hS.stO
      have hF := hS.2.1
      have e1 : (sh ++ [(21, n.toNat, [])]).length - n0 = sh.length - n0 + 1 := by rw [List.length_append, List.length_singleton]; omega
      have e2 : slt (sh ++ [(21, n.toNat, [])]) - s0 = slt sh - s0 + n.toNat := by rw [slt_psh]; dsimp only; omega
      rw [e1] at hR1
      rw [e2] at hR2
      rw [List.map_cons]
      refine va_newa (atype := .boolean) (ty := .boolean) (N' := n.toNat) (a0 := (n.toNat, .inl (fun _ => 0))) hx hb (hts _ (hwa _ hw)) rfl hK hS.1 ws_D hS.2.2.1 (fun q h => by omega) (fun cA => rfl) (by rw [ofI_0, ofI_lt hi iw_0]; omega) (ofI_nat hi) (by show n.toNat * 1 ≤ _; omega) hR1 hR2 hdg (fun q cA H1 hK1 hP1 hD1 hS1 => ?_)
      refine w_size (fun hu => ?_)
      have hq := q_of hP1 hD1 hsz hn h2n hu
      have hcA : cA = cs 1 := cs_of hK1 rfl
      have k3 := kk lsA H1 locs ⟨?_, PF_psh hF (fun _ => rfl), hS1, hS.lhO, hS.lsO, okS_cons True.intro (okS_tail hS.stO)⟩
      · rw [e1, e2, List.map_cons, evv_r (by have := hF.1; omega), adr_new hF.1, ← hq] at k3
        exact k3
      · rw [ws_psh hF.1 (fun a q ha => zr_ne ha), celE_z (s := (21, n.toNat, [])) rfl, ← hq, ← hcA]
        have z1 : (fun (k : Nat) => Int32.ofInt (zr g sh.length sh.length k)) = (fun _ => (0 : Int32)) := by
          funext k
          rw [show zr g sh.length sh.length k = 0 from if_pos rfl, ← ofI_0]
        rw [z1]
        exact hP1
    · cases h
  · cases h
theorem rep_rf {n : Nat} : (fun (k : Nat) => rfo b base ((List.replicate n (0 : Int)).getD k 0)) = (fun _ => (none : Option Nat)) := by
  funext k
  have : (List.replicate n (0 : Int)).getD k 0 = 0 := by
    rw [List.getD_eq_getElem?_getD, List.getElem?_replicate]
    split <;> rfl
  rw [this]
  rfl
theorem sr_newq (hC : Cxt b base L xs D cs j n0 Ts p R s m args meth c) (hdg : decode (bcm j) pc = .ok (.anewarray i, 3)) (hxx : x = 22 ∨ x = 23) (hw : Cond.classLink (ynm j).cls i (if x = 22 then RX0 else RX2) ∈ wsA)
    (h : a_newq x (pc + 3) ls st sh g = some (pc1, ls', st', sh', g')) (hS : SFc b base L xs D cs s lsA ls st sh g H locs) (hn : n0 ≤ sh.length) (hs0 : s0 ≤ slt sh) (hR1 : sh'.length - n0 ≤ R.cells) (hR2 : slt sh' - s0 ≤ R.slots)
    (kk : ∀ lsA' H' locs', SFc b base L xs D cs s lsA' ls' st' sh' g' H' locs' → W p l e R s m args below meth c H' locs' (sh'.length - n0) (slt sh' - s0) Q (F0 m pc1 lsA' (st'.map (evv b base)))) : W p l e R s m args below meth c H locs (sh.length - n0) (slt sh - s0) Q (F0 m pc lsA (st.map (evv b base))) := by
  obtain ⟨hx, hb, hown, hts, hwa, ⟨hK, hAO1, hAO2, hNw⟩, hX, hbb, ⟨h2n, hsz⟩, hini, hfr, hlo⟩ := hC
  unfold a_newq at h
  split at h
  · rename_i n r
    split at h
    · rename_i hin
      cases h
      have hi : iw n = n := okS_head hS.stO
      have hF := hS.2.1
      have e1 : (sh ++ [(x, n.toNat, List.replicate n.toNat 0)]).length - n0 = sh.length - n0 + 1 := by rw [List.length_append, List.length_singleton]; omega
      have e2 : slt (sh ++ [(x, n.toNat, List.replicate n.toNat 0)]) - s0 = slt sh - s0 + n.toNat := by rw [slt_psh]; dsimp only; omega
      rw [e1] at hR1
      rw [e2] at hR2
      rw [List.map_cons]
      rcases hxx with rfl | rfl
      · refine va_newq (C := RX0) (N' := n.toNat) hx hb hown (hts _ (hwa _ hw)) hAO1 hK hS.1 ws_D hS.2.2.1 (fun q h => by omega) (by rw [ofI_0, ofI_lt hi iw_0]; omega) (ofI_nat hi) (by omega) hR1 hR2 hdg (fun q cA H1 hK1 hP1 hD1 hS1 => ?_)
        refine w_size (fun hu => ?_)
        have hq := q_of hP1 hD1 hsz hn h2n hu
        have hcA : cA = cs 2 := cs_of hK1 rfl
        have k3 := kk lsA H1 locs ⟨?_, PF_psh hF (fun _ => rfl), hS1, hS.lhO, hS.lsO, okS_cons True.intro (okS_tail hS.stO)⟩
        · rw [e1, e2, List.map_cons, evv_r (by have := hF.1; omega), adr_new hF.1, ← hq] at k3
          exact k3
        · rw [ws_psh hF.1 (fun a q ha => zr_ne ha), celE_b (s := (22, n.toNat, List.replicate n.toNat 0)) rfl, ← hq, ← hcA, rep_rf]
          exact hP1
      · refine va_newq (C := RX2) (N' := n.toNat) hx hb hown (hts _ (hwa _ hw)) hAO2 hK hS.1 ws_D hS.2.2.1 (fun q h => by omega) (by rw [ofI_0, ofI_lt hi iw_0]; omega) (ofI_nat hi) (by omega) hR1 hR2 hdg (fun q cA H1 hK1 hP1 hD1 hS1 => ?_)
        refine w_size (fun hu => ?_)
        have hq := q_of hP1 hD1 hsz hn h2n hu
        have hcA : cA = cs 3 := cs_of hK1 rfl
        have k3 := kk lsA H1 locs ⟨?_, PF_psh hF (fun _ => rfl), hS1, hS.lhO, hS.lsO, okS_cons True.intro (okS_tail hS.stO)⟩
        · rw [e1, e2, List.map_cons, evv_r (by have := hF.1; omega), adr_new hF.1, ← hq] at k3
          exact k3
        · rw [ws_psh hF.1 (fun a q ha => zr_ne ha), celE_e (s := (23, n.toNat, List.replicate n.toNat 0)) rfl, ← hq, ← hcA, rep_rf]
          exact hP1
    · cases h
  · cases h
theorem sr_obj (hC : Cxt b base L xs D cs j n0 Ts p R s m args meth c) (hml : c.maxLocals = ls.length) (hdg : decode (bcm j) pc = .ok (.invokespecial i, 3))
    (hw : Cond.methodLink (ynm j).cls i objectInit ∈ wsA ∧ Cond.instanceMethod objectInit ∈ wsA ∧ Cond.code objectInit ⟨#[0xb1]⟩ 1 none ∈ wsA) (hrm : 1 ≤ (mtd j).2.2.2.2.1 ∧ 14 ≤ (mtd j).2.2.2.2.2.1)
    (h : a_obj (pc + 3) ls st sh g = some (pc1, ls', st', sh', g')) (hS : SFc b base L xs D cs s lsA ls st sh g H locs)
    (kk : ∀ lsA' H' locs', SFc b base L xs D cs s lsA' ls' st' sh' g' H' locs' → W p l e R s m args below meth c H' locs' (sh'.length - n0) (slt sh' - s0) Q (F0 m pc1 lsA' (st'.map (evv b base)))) : W p l e R s m args below meth c H locs (sh.length - n0) (slt sh - s0) Q (F0 m pc lsA (st.map (evv b base))) := by
  obtain ⟨hx, hb, hown, hts, hwa, ⟨hK, hAO1, hAO2, hNw⟩, hX, hbb, ⟨h2n, hsz⟩, hini, hfr, hlo⟩ := hC
  unfold a_obj at h
  split at h
  · rename_i a r
    split at h
    · rename_i hin
      have hr : r = [] := List.eq_nil_of_length_eq_zero hin.2
      subst hr
      cases h
      rw [List.map_cons, evv_r (by omega)]
      refine W.objInit hx hb hown (hts _ (hwa _ hw.1)) (hts _ (hwa _ hw.2.1)) (hts _ (hwa _ hw.2.2)) rfl (by rw [hml]; exact hS.lsz) rfl hdg (Nat.le_trans hrm.1 hfr) ?_ (kk lsA H locs (hS.stk (okS_tail hS.stO)))
      refine Nat.le_trans ?_ (Nat.le_trans hrm.2 hlo)
      show 2 * 0 + 0 + 12 ≤ 14
      omega
    · cases h
  · cases h
end SNB
end
section
theorem z_eq {x : Int} (h : iw x = x) : Int32.ofInt x = 0 ↔ x = 0 := by rw [ofI_0, ofI_inj h iw_0]
theorem z_lt {x : Int} (h : iw x = x) : Int32.ofInt x < 0 ↔ x < 0 := by rw [ofI_0, ofI_lt h iw_0]
theorem z_ge {x : Int} (h : iw x = x) : 0 ≤ Int32.ofInt x ↔ 0 ≤ x := by rw [ofI_0, ofI_le iw_0 h]
theorem z_gt {x : Int} (h : iw x = x) : 0 < Int32.ofInt x ↔ 0 < x := by rw [ofI_0, ofI_lt iw_0 h]
theorem z_le {x : Int} (h : iw x = x) : Int32.ofInt x ≤ 0 ↔ x ≤ 0 := by rw [ofI_0, ofI_le h iw_0]
section SNC
variable {p : Program} {l : Launch} {e : Env} {R : Room} {s : State} {m : MethodId} {args : Array Value} {below : List Frame} {meth : Method} {c : Code} {Q : State → Prop}
variable {b base L j n0 s0 : Nat} {xs : Nat → Int32} {D : va_G} {cs : Nat → ClassId} {Ts : List Cond} {pc pc' pc1 x y i : Nat} {z : Int} {ls ls' st st' : List AVal} {sh sh' : List AShp} {g g' : AMem} {lsA : Array Slot} {H : Heap} {locs : List Loc}
theorem fn_cpy {s d sp dp n : Int} (h1 : 0 ≤ sp) (h2 : 0 ≤ dp) (h3 : 0 ≤ n) : (fun (j : Nat) => Int32.ofInt (cpy g s sp d dp n d j)) = va_cpy (fun (j : Nat) => Int32.ofInt (g s j)) (fun (j : Nat) => Int32.ofInt (g d j)) sp.toNat dp.toNat n.toNat := by
  funext j
  unfold cpy va_cpy
  by_cases e : dp.toNat ≤ j ∧ j < dp.toNat + n.toNat
  · rw [if_pos ⟨rfl, by omega, by omega⟩, if_pos e]
    congr 2
    omega
  · rw [if_neg (by omega), if_neg e]
theorem sr_acpy (hC : Cxt b base L xs D cs j n0 Ts p R s m args meth c) (hml : c.maxLocals = ls.length) (hdg : decode (bcm j) pc = .ok (.invokestatic i, 3))
    (hw : Cond.methodLink (ynm j).cls i arraycopyName ∈ wsA ∧ Cond.native arraycopyName ∈ wsA ∧ Cond.static arraycopyName ∈ wsA ∧ Cond.initialized "java/lang/System" ∈ wsA) (hrm : 1 ≤ (mtd j).2.2.2.2.1 ∧ 60 ≤ (mtd j).2.2.2.2.2.1)
    (h : a_acpy (pc + 3) ls st sh g = some (pc1, ls', st', sh', g')) (hS : SFc b base L xs D cs s lsA ls st sh g H locs)
    (kk : ∀ lsA' H' locs', SFc b base L xs D cs s lsA' ls' st' sh' g' H' locs' → W p l e R s m args below meth c H' locs' (sh'.length - n0) (slt sh' - s0) Q (F0 m pc1 lsA' (st'.map (evv b base)))) : W p l e R s m args below meth c H locs (sh.length - n0) (slt sh - s0) Q (F0 m pc lsA (st.map (evv b base))) := by
  obtain ⟨hx, hb, hown, hts, hwa, ⟨hK, hAO1, hAO2, hNw⟩, hX, hbb, ⟨h2n, hsz⟩, hini, hfr, hlo⟩ := hC
  unfold a_acpy at h
  split at h
  · rename_i n dp d sp a r
    split at h
    · rename_i hin
      obtain ⟨hsp, hdp, hn, hl0, hl1, hk0, hk1, hr0⟩ := hin
      have hr : r = [] := List.eq_nil_of_length_eq_zero hr0
      subst hr
      have on := hS.stO
      have hni : iw n = n := okS_head on
      have hdpi : iw dp = dp := okS_head (okS_tail on)
      have hspi : iw sp = sp := okS_head (okS_tail (okS_tail (okS_tail on)))
      have hF := hS.2.1
      obtain ⟨qa, hqa, hqa1, h2a⟩ := kin_of hk0 (by omega)
      obtain ⟨qd, hqd, hqd1, h2d⟩ := kin_of hk1 (by omega)
      have ea : aln sh a = qa.2.1 := by unfold aln; rw [hqa]; exact if_pos (Or.inl hqa1)
      have ed : aln sh d = qd.2.1 := by unfold aln; rw [hqd]; exact if_pos (Or.inl hqd1)
      have ha := ws_at (b := b) (base := base) (cs := cs) (g := g) hqa h2a
      have hd := ws_at (b := b) (base := base) (cs := cs) (g := g) hqd h2d
      rw [celE_i hqa1] at ha
      rw [celE_i hqd1] at hd
      cases h
      rw [List.map_cons, List.map_cons, List.map_cons, List.map_cons, List.map_cons, evv_r (by omega), evv_r (by omega)]
      refine va_copyi (ty := .int) hx hb (by rw [hml]; exact hS.lsz.symm) hown (hts _ (hwa _ hw.1)) (hts _ (hwa _ hw.2.1)) (hts _ (hwa _ hw.2.2.1)) (hts _ (hwa _ hw.2.2.2)) hK hS.1 ws_D hS.2.2.1 (a.toNat - 2) (d.toNat - 2) 0 0 ha hd rfl rfl rfl (by rw [z_lt hspi]; omega) (by rw [z_lt hdpi]; omega) (by rw [z_lt hni]; omega) (by rw [ofI_nat hspi, ofI_nat hni]; omega) (by rw [ofI_nat hdpi, ofI_nat hni]; omega) (fun _ _ => rfl) (Nat.le_trans hrm.1 hfr) (Nat.le_trans (show 0 + (nativeFrameWords "java/lang/System" "arraycopy" 5 + 11) ≤ 60 by decide +kernel) (Nat.le_trans hrm.2 hlo)) hdg (fun H1 locs1 hP1 _ hS1 => ?_)
      obtain ⟨a1, a2, a3, a4, a5, a6⟩ := hF
      refine kk lsA H1 locs1 ⟨?_, ⟨a1, a2, a3, a4, fun a' q => ?_, fun q hq => ?_⟩, hS1, hS.lhO, hS.lsO, fun w hw => by cases hw⟩
      · rw [ws_mem (g := g) (g' := cpy g a sp d dp n) hqd h2d (fun a' q h => if_neg (fun e => h e.1)), celE_i hqd1, fn_cpy hsp hdp hn]
        rw [ofI_nat hspi, ofI_nat hdpi, ofI_nat hni] at hP1
        exact hP1
      · unfold cpy
        by_cases e : a' = d ∧ dp ≤ q ∧ q < dp + n
        · rw [if_pos e]
          have hp1 : plk sh a' q = 0 := by rw [e.1, plk_at hqd, if_pos (Or.inl hqd1)]
          have hp2 : plk sh a (sp + (q - dp)) = 0 := by rw [plk_at hqa, if_pos (Or.inl hqa1)]
          exact ⟨fun _ => (a5 _ _).1 hp2, fun z => by omega⟩
        · rw [if_neg e]
          exact a5 a' q
      · rw [show cpy g a sp d dp n 1 q = g 1 q from if_neg (by omega)]
        exact a6 q hq
    · cases h
  · cases h
theorem sr_mm {mx : Bool} (hC : Cxt b base L xs D cs j n0 Ts p R s m args meth c) (hml : c.maxLocals = ls.length) (hdg : decode (bcm j) pc = .ok (.invokestatic i, 3))
    (hw : if mx = true then (Cond.methodLink (ynm j).cls i Lib.Math.max.name ∈ wsA ∧ Cond.static Lib.Math.max.name ∈ wsA ∧ Cond.initialized "java/lang/Math" ∈ wsA ∧ Cond.code Lib.Math.max.name Lib.Math.max.code 2 (some .int) ∈ wsA) else (Cond.methodLink (ynm j).cls i Lib.Math.min.name ∈ wsA ∧ Cond.static Lib.Math.min.name ∈ wsA ∧ Cond.initialized "java/lang/Math" ∈ wsA ∧ Cond.code Lib.Math.min.name Lib.Math.min.code 2 (some .int) ∈ wsA)) (hrm : 1 ≤ (mtd j).2.2.2.2.1 ∧ 60 ≤ (mtd j).2.2.2.2.2.1)
    (h : a_mm mx (pc + 3) ls st sh g = some (pc1, ls', st', sh', g')) (hS : SFc b base L xs D cs s lsA ls st sh g H locs) (hR1 : sh'.length - n0 ≤ R.cells) (hR2 : slt sh' - s0 ≤ R.slots)
    (kk : ∀ lsA' H' locs', SFc b base L xs D cs s lsA' ls' st' sh' g' H' locs' → W p l e R s m args below meth c H' locs' (sh'.length - n0) (slt sh' - s0) Q (F0 m pc1 lsA' (st'.map (evv b base)))) : W p l e R s m args below meth c H locs (sh.length - n0) (slt sh - s0) Q (F0 m pc lsA (st.map (evv b base))) := by
  obtain ⟨hx, hb, hown, hts, hwa, ⟨hK, hAO1, hAO2, hNw⟩, hX, hbb, ⟨h2n, hsz⟩, hini, hfr, hlo⟩ := hC
  unfold a_mm at h
  split at h
  · rename_i y x r
    split at h
    · rename_i hr0
      have hr : r = [] := List.eq_nil_of_length_eq_zero hr0
      subst hr
      cases h
      have hy : iw y = y := okS_head hS.stO
      have hxx : iw x = x := okS_head (okS_tail hS.stO)
      have h13 : (([] : List Value).map fun v => v.category).sum + 13 ≤ R.locals := Nat.le_trans (show 0 + 13 ≤ 60 by decide) (Nat.le_trans hrm.2 hlo)
      cases mx with
      | true =>
        rw [if_pos rfl] at hw
        refine va_mmax hx hb (by rw [hml]; exact hS.lsz.symm) hown (hts _ (hwa _ hw.1)) (hts _ (hwa _ hw.2.1)) (hts _ (hwa _ hw.2.2.1)) (hts _ (hwa _ hw.2.2.2)) (Nat.le_trans hrm.1 hfr) h13 hR1 hR2 hdg ?_
        have k := kk lsA H locs (hS.stk (okS_cons (v := vI (if x < y then y else x)) (show iw _ = _ by split; exact hy; exact hxx) (fun w hw => by cases hw)))
        have e : (if Int32.ofInt x < Int32.ofInt y then Int32.ofInt y else Int32.ofInt x) = Int32.ofInt (if x < y then y else x) := by
          by_cases q : x < y
          · rw [if_pos ((ofI_lt hxx hy).mpr q), if_pos q]
          · rw [if_neg (fun z => q ((ofI_lt hxx hy).mp z)), if_neg q]
        rw [e]
        exact k
      | false =>
        rw [if_neg (by decide)] at hw
        refine va_mmin hx hb (by rw [hml]; exact hS.lsz.symm) hown (hts _ (hwa _ hw.1)) (hts _ (hwa _ hw.2.1)) (hts _ (hwa _ hw.2.2.1)) (hts _ (hwa _ hw.2.2.2)) (Nat.le_trans hrm.1 hfr) h13 hR1 hR2 hdg ?_
        have k := kk lsA H locs (hS.stk (okS_cons (v := vI (if y < x then y else x)) (show iw _ = _ by split; exact hy; exact hxx) (fun w hw => by cases hw)))
        have e : (if Int32.ofInt y < Int32.ofInt x then Int32.ofInt y else Int32.ofInt x) = Int32.ofInt (if y < x then y else x) := by
          by_cases q : y < x
          · rw [if_pos ((ofI_lt hy hxx).mpr q), if_pos q]
          · rw [if_neg (fun z => q ((ofI_lt hy hxx).mp z)), if_neg q]
        rw [e]
        exact k
    · cases h
  · cases h
theorem stp_fx {ins : Instr} (h : stp ins x y z pc ls st sh g = some (pc1, ls', st', sh', g')) : ls'.length = ls.length ∧ sh.length ≤ sh'.length ∧ slt sh ≤ slt sh' := by
  have hset : ∀ (t : Nat) (v : List Int), slt sh ≤ slt (sh.set t ((sh[t]?.getD (0, 0, [])).1, (sh[t]?.getD (0, 0, [])).2.1, v)) := by
    intro t v
    cases ht : sh[t]? with
    | none => rw [List.set_eq_of_length_le (by simpa using ht)]; exact Nat.le_refl _
    | some r => exact Nat.le_of_eq (slt_set ht (r.1, r.2.1, v) rfl).symm
  unfold stp at h
  split at h
  all_goals (try unfold a_ldI at h)
  all_goals (try unfold a_ldL at h)
  all_goals (try unfold a_ldR at h)
  all_goals (try unfold a_stI at h)
  all_goals (try unfold a_stL at h)
  all_goals (try unfold a_stR at h)
  all_goals (try unfold a_inc at h)
  all_goals (try unfold a_bi at h)
  all_goals (try unfold a_bl at h)
  all_goals (try unfold a_lcmp at h)
  all_goals (try unfold a_i2l at h)
  all_goals (try unfold a_l2i at h)
  all_goals (try unfold a_dup at h)
  all_goals (try unfold a_dup2 at h)
  all_goals (try unfold a_pop at h)
  all_goals (try unfold a_if at h)
  all_goals (try unfold a_ic at h)
  all_goals (try unfold a_tsw at h)
  all_goals (try unfold a_lsw at h)
  all_goals (try unfold a_getf at h)
  all_goals (try unfold a_putf at h)
  all_goals (try unfold a_new at h)
  all_goals (try unfold a_newa at h)
  all_goals (try unfold a_newq at h)
  all_goals (try unfold a_iald at h)
  all_goals (try unfold a_iast at h)
  all_goals (try unfold a_bald at h)
  all_goals (try unfold a_bast at h)
  all_goals (try unfold a_aald at h)
  all_goals (try unfold a_aast at h)
  all_goals (try unfold a_alen at h)
  all_goals (try unfold a_obj at h)
  all_goals (repeat' split at h)
  all_goals (try unfold a_acpy at h)
  all_goals (try unfold a_mm at h)
  all_goals (repeat' split at h)
  all_goals first
    | (cases h; done)
    | (cases h; exact ⟨by simp, Nat.le_refl _, Nat.le_refl _⟩)
    | (cases h; exact ⟨by simp, by simp, hset _ _⟩)
    | (cases h; exact ⟨by simp, by simp, by rw [slt_psh]; omega⟩)
end SNC
end
section
section SND2
variable {p : Program} {l : Launch} {e : Env} {R : Room} {s : State} {m : MethodId} {args : Array Value} {below : List Frame} {meth : Method} {c : Code} {Q : State → Prop}
variable {b base L j n0 s0 : Nat} {xs : Nat → Int32} {D : va_G} {cs : Nat → ClassId} {Ts : List Cond} {pc pc1 x y len : Nat} {z : Int} {ls ls' st st' : List AVal} {sh sh' : List AShp} {g g' : AMem} {lsA : Array Slot} {H : Heap} {locs : List Loc}
theorem sr_one (h : a_lcmp (pc + 1) ls st sh g = some (pc1, ls', st', sh', g')) (hS : SFc b base L xs D cs s lsA ls st sh g H locs)
    (row : ∀ (x y : Int64) (r : List Value), W p l e R s m args below meth c H locs (sh.length - n0) (slt sh - s0) Q (F0 m (pc + 1) lsA (.int (lg_cmp x y) :: r)) → W p l e R s m args below meth c H locs (sh.length - n0) (slt sh - s0) Q (F0 m pc lsA (.long y :: .long x :: r)))
    (kk : ∀ lsA' H' locs', SFc b base L xs D cs s lsA' ls' st' sh' g' H' locs' → W p l e R s m args below meth c H' locs' (sh'.length - n0) (slt sh' - s0) Q (F0 m pc1 lsA' (st'.map (evv b base)))) : W p l e R s m args below meth c H locs (sh.length - n0) (slt sh - s0) Q (F0 m pc lsA (st.map (evv b base))) := by
  unfold a_lcmp at h
  split at h
  · rename_i y x r
    cases h
    have hy : lw y = y := okS_head hS.stO
    have hx : lw x = x := okS_head (okS_tail hS.stO)
    refine row (Int64.ofInt x) (Int64.ofInt y) (r.map (evv b base)) ?_
    rw [← ofL_cmp hx hy]
    refine kk lsA H locs (hS.stk (okS_cons (show iw _ = _ from ?_) (okS_tail (okS_tail hS.stO))))
    split
    · decide +kernel
    · split <;> decide +kernel
  · cases h
theorem cat_1 {v : AVal} (h : ac1 v = true) : (evv b base v).category = 1 := by rw [evv_cat, if_pos h]
theorem snd_stp {ins : Instr} (hC : Cxt b base L xs D cs j n0 Ts p R s m args meth c) (hml : c.maxLocals = ls.length) (hr : rok j (pc, ins, len, x, y, z)) (hk0 : akd ins x = 0)
    (h : stp ins x y z pc ls st sh g = some (pc1, ls', st', sh', g')) (hS : SFc b base L xs D cs s lsA ls st sh g H locs) (hn : n0 ≤ sh.length) (hs0 : s0 ≤ slt sh) (hR1 : sh'.length - n0 ≤ R.cells) (hR2 : slt sh' - s0 ≤ R.slots)
    (kk : ∀ lsA' H' locs', SFc b base L xs D cs s lsA' ls' st' sh' g' H' locs' → W p l e R s m args below meth c H' locs' (sh'.length - n0) (slt sh' - s0) Q (F0 m pc1 lsA' (st'.map (evv b base)))) : W p l e R s m args below meth c H locs (sh.length - n0) (slt sh - s0) Q (F0 m pc lsA (st.map (evv b base))) := by
  obtain ⟨hdg, hnb, hww⟩ := hr
  dsimp only at hdg hnb hww
  have hx := hC.1
  have hb := hC.2.1
  have hown := hC.2.2.1
  have hts := hC.2.2.2.1
  have hwa := hC.2.2.2.2.1
  cases ins
  case iconst n =>
    simp only [nBool, decide_eq_true_eq] at hnb
    obtain ⟨rfl, hnb⟩ := hnb
    cases h
    exact sr_push (v := vI n) rfl hnb hS (fun k => lv_iconst hx hb hdg rfl k) kk
  case bipush n =>
    simp only [nBool, decide_eq_true_eq] at hnb
    obtain ⟨rfl, hnb⟩ := hnb
    cases h
    exact sr_push (v := vI n) rfl hnb.2 hS (fun k => lv_bipush hx hb hdg hnb.1 k) kk
  case sipush n =>
    simp only [nBool, decide_eq_true_eq] at hnb
    obtain ⟨rfl, hnb⟩ := hnb
    cases h
    exact sr_push (v := vI n) rfl hnb.2 hS (fun k => lv_sipush hx hb hdg hnb.1 k) kk
  case ldc i =>
    simp only [nBool, decide_eq_true_eq] at hnb
    obtain ⟨rfl, hnb⟩ := hnb
    cases h
    exact sr_push (v := vI z) rfl hnb hS (fun k => lv_ldc hx hb hown (hts _ (hwa _ (hww _ (by simp [nWords])))) hdg k) kk
  case ldc2_w i =>
    simp only [nBool, decide_eq_true_eq] at hnb
    obtain ⟨rfl, hnb⟩ := hnb
    cases h
    exact sr_push (v := vL z) rfl hnb hS (fun k => lv_ldc2 hx hb hown (hts _ (hwa _ (hww _ (by simp [nWords])))) hdg k) kk
  case lconst n =>
    simp only [nBool, decide_eq_true_eq] at hnb
    obtain ⟨rfl, hnb⟩ := hnb
    cases h
    refine sr_push (v := vL (n : Nat)) rfl ?_ hS (fun k => lv_lconst hx hb hdg hnb k) kk
    show lw _ = _
    exact lw_id (by omega) (by omega)
  case iload_n n =>
    simp only [nBool, decide_eq_true_eq] at hnb
    subst hnb
    exact sr_ldI h hS (fun x hl k => lv_iload_n hx hb hdg rfl hl k) kk
  case iload n =>
    simp only [nBool, decide_eq_true_eq] at hnb
    subst hnb
    exact sr_ldI h hS (fun x hl k => lv_iload hx hb hdg hl k) kk
  case lload_n n =>
    simp only [nBool, decide_eq_true_eq] at hnb
    subst hnb
    exact sr_ldL h hS (fun x hl k => lv_lload_n hx hb hdg rfl hl k) kk
  case lload n =>
    simp only [nBool, decide_eq_true_eq] at hnb
    subst hnb
    exact sr_ldL h hS (fun x hl k => lv_lload hx hb hdg hl k) kk
  case aload_n n =>
    simp only [nBool, decide_eq_true_eq] at hnb
    subst hnb
    exact sr_ldR h hS (fun x hl k => lv_aload_n hx hb hdg rfl hl k) kk
  case aload n =>
    simp only [nBool, decide_eq_true_eq] at hnb
    subst hnb
    exact sr_ldR h hS (fun x hl k => lv_aload hx hb hdg hl k) kk
  case istore_n n =>
    simp only [nBool, decide_eq_true_eq] at hnb
    subst hnb
    exact sr_stI h hS (fun x r hl hi k => lv_istore_n hx hb hdg rfl hl hi rfl k) kk
  case istore n =>
    simp only [nBool, decide_eq_true_eq] at hnb
    subst hnb
    exact sr_stI h hS (fun x r hl hi k => lv_istore hx hb hdg hl hi rfl k) kk
  case lstore_n n =>
    simp only [nBool, decide_eq_true_eq] at hnb
    subst hnb
    exact sr_stL h hS (fun x r hl hi k => lv_lstore_n hx hb hdg rfl hl hi rfl k) kk
  case lstore n =>
    simp only [nBool, decide_eq_true_eq] at hnb
    subst hnb
    exact sr_stL h hS (fun x r hl hi k => lv_lstore hx hb hdg hl hi rfl k) kk
  case astore_n n =>
    simp only [nBool, decide_eq_true_eq] at hnb
    subst hnb
    exact sr_stR h hS (fun x r hl hi k => lv_astore_n hx hb hdg rfl hl hi rfl k) kk
  case astore n =>
    simp only [nBool, decide_eq_true_eq] at hnb
    subst hnb
    exact sr_stR h hS (fun x r hl hi k => lv_astore hx hb hdg hl hi rfl k) kk
  case iinc i n =>
    simp only [nBool, decide_eq_true_eq] at hnb
    subst hnb
    change a_inc i n (pc + 3) ls st sh g = _ at h
    unfold a_inc at h
    split at h
    · rename_i x0 hx0
      split at h
      · rename_i hk
        cases h
        have hi := (List.getElem?_eq_some_iff.mp hx0).1
        obtain ⟨k0, hk1⟩ := List.getElem?_of_mem (lvl_mem (b := b) (base := base) hx0 rfl)
        refine lv_iinc (v := Int32.ofInt (iw (x0 + n))) hx hb hdg hS.lhO.has hk1 (by rw [ofI_iw, Int32.ofInt_add]) hi rfl (fun ls1 h2 => ?_)
        exact kk ls1 H locs (hS.lcl (lh_set1 (lsA := lsA) (v := vI (iw (x0 + n))) hi hk h2) (okS_set (iw_iw _) hS.lsO) hS.stO)
      · cases h
    · cases h
  case iadd =>
    simp only [nBool, decide_eq_true_eq] at hnb
    subst hnb
    exact sr_bi (fr := fun x y => x + y) h hS (fun x y _ _ => ofI_add x y) (fun x y => iw_iw _) (fun x y r _ k => lv_iadd hx hb hdg k) kk
  case isub =>
    simp only [nBool, decide_eq_true_eq] at hnb
    subst hnb
    exact sr_bi (fr := fun x y => x - y) h hS (fun x y _ _ => ofI_sub x y) (fun x y => iw_iw _) (fun x y r _ k => lv_isub hx hb hdg k) kk
  case imul =>
    simp only [nBool, decide_eq_true_eq] at hnb
    subst hnb
    exact sr_bi (fr := fun x y => x * y) h hS (fun x y _ _ => ofI_mul x y) (fun x y => iw_iw _) (fun x y r _ k => lv_imul hx hb hdg k) kk
  case idiv =>
    simp only [nBool, decide_eq_true_eq] at hnb
    subst hnb
    exact sr_bi (fr := fun x y => x / y) h hS (fun x y h1 h2 => ofI_div h1 h2) (fun x y => iw_iw _) (fun x y r hne k => lv_idiv hx hb hdg (hne rfl) k) kk
  case irem =>
    simp only [nBool, decide_eq_true_eq] at hnb
    subst hnb
    exact sr_bi (fr := fun x y => x - x / y * y) h hS (fun x y h1 h2 => ofI_rem h1 h2) (fun x y => iw_iw _) (fun x y r hne k => lv_irem hx hb hdg (hne rfl) k) kk
  case iand =>
    simp only [nBool, decide_eq_true_eq] at hnb
    subst hnb
    exact sr_bi (fr := fun x y => x &&& y) h hS (fun x y _ _ => Int32.ofInt_toInt _) (fun x y => iw_toInt _) (fun x y r _ k => lv_iand hx hb hdg k) kk
  case ishr =>
    simp only [nBool, decide_eq_true_eq] at hnb
    subst hnb
    exact sr_bi (fr := fun x y => x >>> (y &&& 31)) h hS (fun x y _ _ => Int32.ofInt_toInt _) (fun x y => iw_toInt _) (fun x y r _ k => lv_ishr hx hb hdg k) kk
  case ladd =>
    simp only [nBool, decide_eq_true_eq] at hnb
    subst hnb
    exact sr_bl (fr := fun x y => x + y) h hS (fun x y _ _ => ofL_add x y) (fun x y => lw_lw _) (fun x y r _ k => lv_ladd hx hb hdg k) kk
  case lmul =>
    simp only [nBool, decide_eq_true_eq] at hnb
    subst hnb
    exact sr_bl (fr := fun x y => x * y) h hS (fun x y _ _ => ofL_mul x y) (fun x y => lw_lw _) (fun x y r _ k => lv_lmul hx hb hdg k) kk
  case ldiv =>
    simp only [nBool, decide_eq_true_eq] at hnb
    subst hnb
    exact sr_bl (fr := fun x y => x / y) h hS (fun x y h1 h2 => ofL_div h1 h2) (fun x y => lw_lw _) (fun x y r hne k => lv_ldiv hx hb hdg (hne rfl) k) kk
  case lrem =>
    simp only [nBool, decide_eq_true_eq] at hnb
    subst hnb
    exact sr_bl (fr := fun x y => x - x / y * y) h hS (fun x y h1 h2 => ofL_rem h1 h2) (fun x y => lw_lw _) (fun x y r hne k => lv_lrem hx hb hdg (hne rfl) k) kk
  case lcmp =>
    simp only [nBool, decide_eq_true_eq] at hnb
    subst hnb
    exact sr_one h hS (fun x y r k => W.lcmp hx hb hdg k) kk
  case i2l =>
    simp only [nBool, decide_eq_true_eq] at hnb
    subst hnb
    change a_i2l (pc + 1) ls st sh g = _ at h
    unfold a_i2l at h
    split at h
    · rename_i x0 r
      cases h
      have h0 : iw x0 = x0 := okS_head hS.stO
      exact lv_i2l hx hb hdg (i2l_of h0) (kk lsA H locs (hS.stk (okS_cons (lw_of_iw h0) (okS_tail hS.stO))))
    · cases h
  case l2i =>
    simp only [nBool, decide_eq_true_eq] at hnb
    subst hnb
    change a_l2i (pc + 1) ls st sh g = _ at h
    unfold a_l2i at h
    split at h
    · rename_i x0 r
      cases h
      exact lv_l2i hx hb hdg (l2i_of x0) (kk lsA H locs (hS.stk (okS_cons (iw_iw _) (okS_tail hS.stO))))
    · cases h
  case dup =>
    simp only [nBool, decide_eq_true_eq] at hnb
    subst hnb
    change a_dup (pc + 1) ls st sh g = _ at h
    unfold a_dup at h
    split at h
    · rename_i v r
      split at h
      · rename_i hv
        cases h
        exact lv_dup hx hb hdg (cat_1 hv) (kk lsA H locs (hS.stk (okS_cons (okS_head hS.stO) hS.stO)))
      · cases h
    · cases h
  case dup2 =>
    simp only [nBool, decide_eq_true_eq] at hnb
    subst hnb
    change a_dup2 (pc + 1) ls st sh g = _ at h
    unfold a_dup2 at h
    split at h
    · rename_i v w r
      split at h
      · rename_i hv
        cases h
        exact lv_dup2_11 hx hb hdg (cat_1 hv.1) (cat_1 hv.2) (kk lsA H locs (hS.stk (okS_cons (okS_head hS.stO) (okS_cons (okS_head (okS_tail hS.stO)) hS.stO))))
      · cases h
    · cases h
  case pop =>
    simp only [nBool, decide_eq_true_eq] at hnb
    subst hnb
    change a_pop (pc + 1) ls st sh g = _ at h
    unfold a_pop at h
    split at h
    · rename_i v r
      split at h
      · rename_i hv
        cases h
        exact lv_pop hx hb hdg (cat_1 hv) (kk lsA H locs (hS.stk (okS_tail hS.stO)))
      · cases h
    · cases h
  case ifCond cn o =>
    simp only [nBool, decide_eq_true_eq] at hnb
    obtain ⟨rfl, hnb⟩ := hnb
    have ht : (pc : Int) + o = ((((pc : Int) + o).toNat : Nat) : Int) := by omega
    cases cn
    case eq => exact sr_if h hS (fun x r hxx k1 k2 => lv_if_eq hx hb hdg ht (fun e => k1 ((z_eq hxx).mp e)) (fun e => k2 (fun q => e ((z_eq hxx).mpr q)))) kk
    case ne => exact sr_if h hS (fun x r hxx k1 k2 => lv_if_ne hx hb hdg ht (fun e => k1 (fun q => e ((z_eq hxx).mpr q))) (fun e => k2 (fun q => q ((z_eq hxx).mp e)))) kk
    case lt => exact sr_if h hS (fun x r hxx k1 k2 => lv_if_lt hx hb hdg ht (fun e => k1 ((z_lt hxx).mp e)) (fun e => k2 (fun q => e ((z_lt hxx).mpr q)))) kk
    case ge => exact sr_if h hS (fun x r hxx k1 k2 => lv_if_ge hx hb hdg ht (fun e => k1 ((z_ge hxx).mp e)) (fun e => k2 (fun q => e ((z_ge hxx).mpr q)))) kk
    case gt => exact sr_if h hS (fun x r hxx k1 k2 => lv_if_gt hx hb hdg ht (fun e => k1 ((z_gt hxx).mp e)) (fun e => k2 (fun q => e ((z_gt hxx).mpr q)))) kk
    case le => exact sr_if h hS (fun x r hxx k1 k2 => lv_if_le hx hb hdg ht (fun e => k1 ((z_le hxx).mp e)) (fun e => k2 (fun q => e ((z_le hxx).mpr q)))) kk
  case if_icmp cn o =>
    simp only [nBool, decide_eq_true_eq] at hnb
    obtain ⟨rfl, hnb⟩ := hnb
    have ht : (pc : Int) + o = ((((pc : Int) + o).toNat : Nat) : Int) := by omega
    cases cn
    case eq => exact sr_ic h hS (fun x y r hxx hyy k1 k2 => lv_icmp_eq hx hb hdg ht (fun e => k1 ((ofI_inj hxx hyy).mp e)) (fun e => k2 (fun q => e ((ofI_inj hxx hyy).mpr q)))) kk
    case ne => exact sr_ic h hS (fun x y r hxx hyy k1 k2 => lv_icmp_ne hx hb hdg ht (fun e => k1 (fun q => e ((ofI_inj hxx hyy).mpr q))) (fun e => k2 (fun q => q ((ofI_inj hxx hyy).mp e)))) kk
    case lt => exact sr_ic h hS (fun x y r hxx hyy k1 k2 => lv_icmp_lt hx hb hdg ht (fun e => k1 ((ofI_lt hxx hyy).mp e)) (fun e => k2 (fun q => e ((ofI_lt hxx hyy).mpr q)))) kk
    case ge => exact sr_ic h hS (fun x y r hxx hyy k1 k2 => lv_icmp_ge hx hb hdg ht (fun e => k1 ((ofI_le hyy hxx).mp e)) (fun e => k2 (fun q => e ((ofI_le hyy hxx).mpr q)))) kk
    case gt => exact sr_ic h hS (fun x y r hxx hyy k1 k2 => lv_icmp_gt hx hb hdg ht (fun e => k1 ((ofI_lt hyy hxx).mp e)) (fun e => k2 (fun q => e ((ofI_lt hyy hxx).mpr q)))) kk
    case le => exact sr_ic h hS (fun x y r hxx hyy k1 k2 => lv_icmp_le hx hb hdg ht (fun e => k1 ((ofI_le hxx hyy).mp e)) (fun e => k2 (fun q => e ((ofI_le hxx hyy).mpr q)))) kk
  case goto o =>
    simp only [nBool, decide_eq_true_eq] at hnb
    obtain ⟨rfl, hnb⟩ := hnb
    cases h
    exact lv_goto hx hb hdg (tgt := ((pc : Int) + o).toNat) (by omega) (kk lsA H locs hS)
  case tableswitch d lo hi os =>
    change a_tsw d lo hi os pc ls st sh g = _ at h
    unfold a_tsw at h
    split at h
    · rename_i x0 r
      have h0 : iw x0 = x0 := okS_head hS.stO
      split at h
      · rename_i hd
        split at h
        · cases h
          exact lv_tableOut hx hb hdg (by rw [toI_of h0]; exact hd) (by omega) (kk lsA H locs (hS.stk (okS_tail hS.stO)))
        · cases h
      · rename_i hd
        split at h
        · rename_i of1 hof
          split at h
          · cases h
            exact lv_tableIn (off := of1) hx hb hdg (by rw [toI_of h0]; omega) (by rw [toI_of h0]; omega) (by rw [toI_of h0]; exact hof) (by omega) (kk lsA H locs (hS.stk (okS_tail hS.stO)))
          · cases h
        · cases h
    · cases h
  case lookupswitch d ps =>
    simp only [nBool] at hnb
    change a_lsw d ps pc ls st sh g = _ at h
    unfold a_lsw at h
    split at h
    · rename_i x0 r
      have h0 : iw x0 = x0 := okS_head hS.stO
      split at h
      · cases h
        exact lv_lookup hx hb hdg hnb (by rw [toI_of h0]) (by omega) (kk lsA H locs (hS.stk (okS_tail hS.stO)))
      · cases h
    · cases h
  case getfield i =>
    simp only [nBool, decide_eq_true_eq] at hnb
    obtain ⟨rfl, hnb⟩ := hnb
    exact sr_getf hC hdg hnb (hww _ (by simp [nWords])) h hS kk
  case putfield i =>
    simp only [nBool, Bool.and_eq_true, decide_eq_true_eq] at hnb
    obtain ⟨⟨rfl, hnx⟩, hnb⟩ := hnb
    refine sr_putf hC hdg hnx (hww _ (by simp [nWords])) ?_ h hS kk
    revert hnb
    split <;> simp_all
  case new i =>
    simp only [nBool, decide_eq_true_eq] at hnb
    obtain ⟨rfl, hnb⟩ := hnb
    exact sr_new hC hdg hnb ⟨hww _ (by simp [nWords]), hww _ (by simp [nWords]), hww _ (by simp [nWords])⟩ h hS hn hs0 hR1 hR2 kk
  case newarray t =>
    simp only [nBool, decide_eq_true_eq] at hnb
    subst hnb
    cases t
    case int => exact sr_newi hC hdg (hww _ (by simp [nWords])) h hS hn hs0 hR1 hR2 kk
    case boolean => exact sr_newz hC hdg (hww _ (by simp [nWords])) h hS hn hs0 hR1 hR2 kk
    all_goals exact absurd h (by simp [stp])
  case anewarray i =>
    simp only [nBool, decide_eq_true_eq] at hnb
    subst hnb
    change (if x = 22 ∨ x = 23 then a_newq x (pc + 3) ls st sh g else none) = _ at h
    split at h
    · rename_i hxx
      exact sr_newq hC hdg hxx (hww _ (by simp [nWords])) h hS hn hs0 hR1 hR2 kk
    · cases h
  case iaload =>
    simp only [nBool, decide_eq_true_eq] at hnb
    subst hnb
    exact sr_iald hC hdg h hS kk
  case iastore =>
    simp only [nBool, decide_eq_true_eq] at hnb
    subst hnb
    exact sr_iast hC hdg h hS kk
  case baload =>
    simp only [nBool, decide_eq_true_eq] at hnb
    subst hnb
    exact sr_bald hC hdg h hS kk
  case bastore =>
    simp only [nBool, decide_eq_true_eq] at hnb
    subst hnb
    exact sr_bast hC hdg h hS kk
  case aaload =>
    simp only [nBool, decide_eq_true_eq] at hnb
    subst hnb
    exact sr_aald hC hdg h hS kk
  case aastore =>
    simp only [nBool, decide_eq_true_eq] at hnb
    subst hnb
    exact sr_aast hC hdg h hS kk
  case arraylength =>
    simp only [nBool, decide_eq_true_eq] at hnb
    subst hnb
    exact sr_alen hC hdg h hS kk
  case invokespecial i =>
    have hxx : x = 1000 := by
      by_cases q : x = 1000
      · exact q
      · simp [akd, q] at hk0
    subst hxx
    simp only [nBool, Bool.and_eq_true, decide_eq_true_eq, if_true] at hnb
    obtain ⟨rfl, hnb⟩ := hnb
    exact sr_obj hC hml hdg ⟨hww _ (by simp [nWords]), hww _ (by simp [nWords]), hww _ (by simp [nWords])⟩ (by simpa using hnb) h hS kk
  case invokestatic i =>
    have hxx : 1001 ≤ x := by
      by_cases q : 1001 ≤ x
      · exact q
      · simp [akd, q] at hk0
    simp only [nBool, Bool.and_eq_true, decide_eq_true_eq, hxx, if_true] at hnb
    obtain ⟨rfl, hnb⟩ := hnb
    change (if x = 1001 then a_acpy (pc + 3) ls st sh g else a_mm (x == 1002) (pc + 3) ls st sh g) = _ at h
    split at h
    · rename_i q
      subst q
      exact sr_acpy hC hml hdg ⟨hww _ (by simp [nWords]), hww _ (by simp [nWords]), hww _ (by simp [nWords]), hww _ (by simp [nWords])⟩ (by simpa using hnb) h hS kk
    · rename_i q
      refine sr_mm hC hml hdg ?_ (by simpa using hnb) h hS hR1 hR2 kk
      by_cases q2 : x = 1002
      · subst q2
        rw [if_pos (by decide)]
        exact ⟨hww _ (by simp [nWords]), hww _ (by simp [nWords]), hww _ (by simp [nWords]), hww _ (by simp [nWords])⟩
      · rw [if_neg (by simpa using q2)]
        exact ⟨hww _ (by simp [nWords, q, q2, hxx]), hww _ (by simp [nWords, q, q2, hxx]), hww _ (by simp [nWords, q, q2, hxx]), hww _ (by simp [nWords, q, q2, hxx])⟩
  all_goals exact absurd h (by intro q; cases q)
end SND2
end
section
theorem good_A {w : Cond} (h : w ∈ wsA) : (w.onTables && w.keeps) = true ∨ ∃ ty, w = .arrayClass ty := good_of_word (List.mem_filter.mp h).2
theorem onT : ∀ w ∈ nestW, w.onTables = true := by decide +kernel
theorem KF_same {D : va_G} {cs : Nat → ClassId} {u U : State} (h : u.vm = U.vm) (hK : KF D cs u) : KF D cs U :=
  ⟨hK.1.moved (h ▸ Vm.Alike.refl _), hK.2.1.moved (h ▸ Vm.Alike.refl _), hK.2.2.1.moved (h ▸ Vm.Alike.refl _), fun w hw => va_Nw.same (onT w hw) h (hK.2.2.2 w hw)⟩
theorem KF_warm {D : va_G} {cs : Nat → ClassId} {s U : State} (hW : s.WarmedH U.vm) (hK : KF D cs s) : KF D cs U := by
  refine ⟨hK.1.moved hW.alike, hK.2.1.moved hW.alike, hK.2.2.1.moved hW.alike, fun w hw => ?_⟩
  have h := hK.2.2.2 w hw
  simp only [nestW, List.mem_cons, List.not_mem_nil, or_false] at hw
  rcases hw with rfl | rfl | rfl | rfl <;> exact va_Nw.warmM hW h
def Wdd (b base L : Nat) (xs : Nat → Int32) (D : va_G) (cs : Nat → ClassId) (sh : List AShp) (g : AMem) (U : State) : Prop := va_P D vwCl (WSa b base cs sh g) U.heap ∧ PF L xs sh g ∧ KF D cs U ∧ va_X b L xs U U.heap ∧ U.heap.size = base + (sh.length - 2)
def Qjj (b base L : Nat) (xs : Nat → Int32) (D : va_G) (cs : Nat → ClassId) (rv : List AVal) (sh : List AShp) (g : AMem) : Array Value → State → Outcome → State → Prop := fun _ st oc t => oc = .returned (rv.map (evv b base)).head? ∧ rv.length ≤ 1 ∧ (∀ v ∈ rv, okV v) ∧ va_F (fun q : Nat => base ≤ q) st t ∧ Wdd b base L xs D cs sh g t
theorem cat_wg (b base : Nat) (l : List AVal) : ((l.map (evv b base)).map fun v => v.category).sum = awg l := by
  unfold awg
  rw [List.map_map]
  congr 1
  apply List.map_congr_left
  intro v _
  exact evv_cat b base v
theorem ent_len (b base : Nat) : ∀ l : List AVal, (lg_sl (l.map (evv b base))).length = (aent l).length
  | [] => rfl
  | v :: l => by
    have h := ent_len b base l
    unfold lg_sl aent at h ⊢
    rw [List.map_cons, List.flatMap_cons, List.flatMap_cons, List.length_append, List.length_append, h, evv_cat]
    congr 1
    by_cases e : ac1 v = true
    · simp [e]
    · simp [e]
theorem ent_at (b base : Nat) : ∀ (l : List AVal) (i : Nat) (v : AVal), (aent l)[i]? = some v → isS v = true → (lg_sl (l.map (evv b base)))[i]? = some (.val (evv b base v))
  | [], i, v, h, _ => by simp [aent] at h
  | w :: l, i, v, h, hs => by
    have ih := ent_at b base l
    unfold lg_sl aent at ih
    unfold lg_sl
    unfold aent at h
    rw [List.flatMap_cons] at h
    rw [List.map_cons, List.flatMap_cons, evv_cat]
    by_cases e : ac1 w = true
    · rw [if_pos e] at h
      rw [if_pos e, if_neg (by decide)]
      match i with
      | 0 =>
        simp only [List.cons_append, List.nil_append, List.getElem?_cons_zero] at h ⊢
        cases h
        rfl
      | i + 1 =>
        simp only [List.cons_append, List.nil_append, List.getElem?_cons_succ] at h ⊢
        exact ih i v h hs
    · rw [if_neg e] at h
      rw [if_neg e, if_pos rfl]
      match i with
      | 0 =>
        simp only [List.cons_append, List.nil_append, List.getElem?_cons_zero] at h ⊢
        cases h
        rfl
      | 1 =>
        simp only [List.cons_append, List.nil_append, List.getElem?_cons_succ, List.getElem?_cons_zero] at h
        cases h
        cases hs
      | i + 2 =>
        simp only [List.cons_append, List.nil_append, List.getElem?_cons_succ] at h ⊢
        exact ih i v h hs
theorem ent_ok : ∀ l : List AVal, (∀ v ∈ l, okV v) → ∀ (n : Nat), ∀ v ∈ apad (aent l) n, okV v := by
  intro l hl n v hv
  unfold apad at hv
  rcases List.mem_append.mp hv with h | h
  · unfold aent at h
    obtain ⟨w, hw, h⟩ := List.mem_flatMap.mp h
    split at h
    · rw [List.mem_singleton.mp h]
      exact hl w hw
    · rcases List.mem_cons.mp h with e | e
      · rw [e]
        exact hl w hw
      · rw [List.mem_singleton.mp e]
        exact True.intro
  · rw [(List.mem_replicate.mp h).2]
    exact True.intro
theorem ent_LH (b base : Nat) {l : List AVal} {n : Nat} (hn : (aent l).length ≤ n) : LH b base ((lg_sl (l.map (evv b base)) ++ List.replicate (n - (lg_sl (l.map (evv b base))).length) Slot.unset).toArray) (apad (aent l) n) := by
  have h := lv_entry (l.map (evv b base)) (n := n) (by rw [ent_len]; exact hn)
  refine ⟨?_, h.2.1, fun i v hv hs => ?_⟩
  · rw [h.1]
    unfold apad
    rw [List.length_append, List.length_replicate]
    omega
  · unfold apad at hv
    rw [List.getElem?_toArray]
    by_cases hi : i < (aent l).length
    · rw [List.getElem?_append_left hi] at hv
      rw [List.getElem?_append_left (by rw [ent_len]; exact hi)]
      exact ent_at b base l i v hv hs
    · rw [List.getElem?_append_right (by omega)] at hv
      have := (List.mem_replicate.mp (List.mem_of_getElem? hv)).2
      subst this
      cases hs
theorem pad_len {l : List AVal} {n : Nat} (hn : l.length ≤ n) : (apad l n).length = n := by
  unfold apad
  rw [List.length_append, List.length_replicate]
  omega
def rtOK (x : Nat) : Bool := decide (plainName (ynm x).cls = true) && (match (mtd x).2.2.1, rtm x with
  | 0, none => true
  | 1, some .int => true
  | 2, some .boolean => true
  | 3, some .long => true
  | 4, some (.object _) => true
  | _, _ => false)
theorem rt_all : ∀ x, x < nlaw → rtOK x = true := by decide +kernel
theorem end_sub {ins : Instr} {rk : Nat} {st rv : List AVal} (h : a_end ins rk st = some rv) : rv = st ∧ rv.length ≤ 1 := by
  unfold a_end at h
  split at h
  · cases h; exact ⟨rfl, Nat.le_refl _⟩
  · split at h
    · cases h; exact ⟨rfl, Nat.le_refl _⟩
    · cases h
  · cases h; exact ⟨rfl, Nat.le_refl _⟩
  · split at h
    · cases h; exact ⟨rfl, Nat.le_refl _⟩
    · cases h
  · cases h; exact ⟨rfl, Nat.zero_le _⟩
  · cases h
theorem ex_fx : ∀ (n j pc : Nat) (ls st : List AVal) (sh : List AShp) (g : AMem) (r : ARes), ex n j pc ls st sh g = some r → r.1.length ≤ 1 ∧ sh.length ≤ r.2.1.length ∧ slt sh ≤ slt r.2.1
  | 0, _, _, _, _, _, _, _, h => by simp [ex] at h
  | n + 1, j, pc, ls, st, sh, g, r, h => by
    rw [ex] at h
    split at h
    · cases h
    · split at h
      · split at h
        · rename_i hs
          have h1 := stp_fx hs
          have h2 := ex_fx n _ _ _ _ _ _ _ h
          exact ⟨h2.1, by omega, by omega⟩
        · cases h
      · split at h
        · split at h
          · rename_i hq
            have h1 := ex_fx n _ _ _ _ _ _ _ hq
            have h2 := ex_fx n _ _ _ _ _ _ _ h
            exact ⟨h2.1, by omega, by omega⟩
          · cases h
        · cases h
      · split at h
        · rename_i v hv
          cases h
          exact ⟨(end_sub hv).2, Nat.le_refl _, Nat.le_refl _⟩
        · cases h
section CAL
variable {p : Program} {l : Launch} {e : Env} {R : Room} {s : State} {m : MethodId} {args : Array Value} {below : List Frame} {meth : Method} {c : Code} {Q : State → Prop}
variable {b base L j n0 s0 : Nat} {xs : Nat → Int32} {D : va_G} {cs : Nat → ClassId} {Ts : List Cond} {pc : Nat} {ls st : List AVal} {sh : List AShp} {g : AMem} {lsA : Array Slot} {H : Heap} {locs : List Loc}
theorem va_callG {Qa : State → Outcome → State → Prop} {free : Addr → Prop} {mc ms cells slots : Nat} {st0 rest : List Value} (hr : va_Run p l e R s m args below meth c H locs cells slots mc ms (F0 m pc lsA st0) rest Qa free) (hf : ∀ q, free q → base ≤ q) (hS : va_S (fun q : Nat => base ≤ q) s.heap H locs)
    (hQ : ∀ st v t, Qa st (.returned v) t → va_F (fun q : Nat => base ≤ q) st t)
    (kk : ∀ (st t : State) (v : Option Value) (locs1 : List Loc), Qa st (.returned v) t → va_S (fun q : Nat => base ≤ q) s.heap t.heap locs1 → W p l e R s m args below meth c t.heap locs1 (cells + mc) (slots + ms) Q (F0 m (pc + 3) lsA (v.toList ++ rest))) : W p l e R s m args below meth c H locs cells slots Q (F0 m pc lsA st0) := by
  intro T hT X
  obtain ⟨v, st₀, t, T', Lc, h0, X', hL, e1, e2, hq, st⟩ := hr T hT X
  obtain ⟨hz, hk⟩ := hQ st₀ v t hq
  rw [h0] at hz hk
  obtain ⟨t2, a1, b1⟩ := kk st₀ t v (locs ++ Lc) hq ⟨Nat.le_trans hS.1 hz, fun q h1 h2 => by rw [hk q (Nat.lt_of_lt_of_le h1 hS.1) h2]; exact hS.2.1 q h1 h2, fun q hq => by
      rcases List.mem_append.mp hq with h | h
      · exact hS.2.2 q h
      · exact hf _ (hL q h)⟩ T' e1 X'
  exact ⟨t2, st t2 a1, b1⟩
end CAL
end
section
theorem look_mem : ∀ (t : List ACe) (pc : Nat) (v : Instr × (Nat × (Nat × (Nat × Int)))), look t pc = some v → (pc, v) ∈ t
  | [], _, _, h => by cases h
  | q :: t, pc, v, h => by
    unfold look at h
    split at h
    · rename_i e
      cases h
      have := Nat.eq_of_beq_eq_true e
      subst this
      exact List.mem_cons_self
    · exact List.mem_cons_of_mem _ (look_mem t pc v h)
/-- what the rows of the methods say, and where they end -/
def GoodAt (n : Nat) : Prop := ∀ (j : Nat), j < nmeth → ∀ {p : Program} {l : Launch} {e : Env} {R : Room} {s : State} {m : MethodId} {args : Array Value} {below : List Frame} {meth : Method} {c : Code} {Q : State → Prop} {b base L n0 s0 : Nat} {xs : Nat → Int32} {D : va_G} {cs : Nat → ClassId} {Ts : List Cond} (pc : Nat) (ls st : List AVal) (sh : List AShp) (g : AMem) (rv : List AVal) (sh' : List AShp) (g' : AMem) (lsA : Array Slot) (H : Heap) (locs : List Loc),
  ex n j pc ls st sh g = some (rv, sh', g') → Cxt b base L xs D cs j n0 Ts p R s m args meth c → c.maxLocals = ls.length → SFc b base L xs D cs s lsA ls st sh g H locs → n0 ≤ sh.length → s0 ≤ slt sh → sh'.length - n0 ≤ R.cells → slt sh' - s0 ≤ R.slots →
  (∀ (pc' : Nat) (ins : Instr) (lsA' : Array Slot) (ls2 st' : List AVal) (H' : Heap) (locs' : List Loc), decode (bcm j) pc' = .ok (ins, 1) → a_end ins (mtd j).2.2.1 st' = some rv → SFc b base L xs D cs s lsA' ls2 st' sh' g' H' locs' → W p l e R s m args below meth c H' locs' (sh'.length - n0) (slt sh' - s0) Q (F0 m pc' lsA' (st'.map (evv b base)))) →
  W p l e R s m args below meth c H locs (sh.length - n0) (slt sh - s0) Q (F0 m pc lsA (st.map (evv b base)))
abbrev wsm (x : Nat) : List Cond := Cond.code (ynm x) (bcm x) (mtd x).2.1 (rtm x) :: wsA
abbrev rmm (x mc ms : Nat) : Room := { frames := (mtd x).2.2.2.2.1, cells := mc, slots := ms, locals := (mtd x).2.2.2.2.2.1 }
theorem met_of {n : Nat} (IH : GoodAt n) (hrok : ∀ j, j < nmeth → ∀ r ∈ codL j, rok j r) {l : Launch} {b base L : Nat} {xs : Nat → Int32} {D : va_G} {cs : Nat → ClassId} {x : Nat} (hx : x < nlaw) {as : List AVal} {sh : List AShp} {g : AMem} {r : ARes}
    (hex : ex n x 0 (apad (aent as) (mtd x).2.1) [] sh g = some r) (hlen : (aent as).length ≤ (mtd x).2.1) (has : ∀ v ∈ as, okV v) (hbb : b < base) :
    Met l (ynm x) (wsm x) (rmm x (r.2.1.length - sh.length) (slt r.2.1 - slt sh)) (va_Pc (as.map (evv b base)) (fun U => Wdd b base L xs D cs sh g U)) (Qjj b base L xs D cs r.1 r.2.1 r.2.2) (r.2.1.length - sh.length) (slt r.2.1 - slt sh) (fun q : Nat => base ≤ q) := by
  have hrt := rt_all x hx
  unfold rtOK at hrt
  rw [Bool.and_eq_true, decide_eq_true_eq] at hrt
  obtain ⟨hpn, hrt⟩ := hrt
  refine Met.ofW (cc := bcm x) (maxL := (mtd x).2.1) (ret := rtm x) hpn rfl ?_
  intro p e s m args below meth c s₁ B hml hv
  obtain ⟨rfl, hP, hF, hK, hX, hsz⟩ := hv
  have hex1 := B.exec
  have hb := B.bytes
  have hr := B.returns
  have hts := atoms_spec (ws := wsm x) B.pre
  have hown : s.vm.findClass (ynm x).cls = some m.cls := findClass_of_methodNamed B.named
  have hin : meth.name = (ynm x).name := (name_of_methodNamed B.named B.method).1
  have hlk := B.notSynchronized
  have hC : Cxt b base L xs D cs x sh.length (wsm x) p (headSpec (wsm x) (rmm x (r.2.1.length - sh.length) (slt r.2.1 - slt sh))).room s m (as.map (evv b base)).toArray meth c :=
    ⟨hex1, hb, hown, hts, fun w hw => List.mem_cons_of_mem _ hw, hK, hX, hbb, ⟨hF.1, hsz⟩, fun h => hin.trans h, Nat.le_refl _, Nat.le_refl _⟩
  rw [lg_entry_eq]
  have hS : va_S (fun q : Nat => base ≤ q) s.heap s.heap [] := va_S.rf
  have k := IH x (by unfold nlaw at hx; unfold nmeth; omega) (l := l) (e := e) (below := below) (Q := MQ below (Qjj b base L xs D cs r.1 r.2.1 r.2.2) (as.map (evv b base)).toArray s (r.2.1.length - sh.length) (slt r.2.1 - slt sh) (fun q : Nat => base ≤ q)) (n0 := sh.length) (s0 := slt sh) 0 (apad (aent as) (mtd x).2.1) [] sh g r.1 r.2.1 r.2.2 _ s.heap [] hex hC (by rw [hml, pad_len hlen]) ⟨hP, hF, hS, ent_LH b base hlen, ent_ok as has _, fun v hv => by cases hv⟩ (Nat.le_refl _) (Nat.le_refl _) (Nat.le_refl _) (Nat.le_refl _) ?_
  · rw [Nat.sub_self, Nat.sub_self] at k
    exact k
  · intro pc' ins lsA' ls2 st' H' locs' hdg hend hSF
    have hfx := ex_fx n _ _ _ _ _ _ _ hex
    have hst := end_sub hend
    refine w_size (fun hu => ?_)
    have hsz' : H'.size = base + (r.2.1.length - 2) := sz_of hSF.1 hSF.2.2.1 hsz hfx.2.1 hF.1 hu
    have hq : ∀ t : State, t.heap = H' → s.WarmedH t.vm → Qjj b base L xs D cs r.1 r.2.1 r.2.2 (as.map (evv b base)).toArray s (.returned (r.1.map (evv b base)).head?) t := by
      intro t ht hW
      refine ⟨rfl, hst.2, by rw [hst.1]; exact hSF.stO, hSF.2.2.1.F ht, by rw [ht]; exact hSF.1, hSF.2.1, KF_warm hW hK, ?_, by rw [ht]; exact hsz'⟩
      rw [ht]
      exact (hX.moved hW.alike).kept (hSF.2.2.1.2.1 b (by omega) (by omega))
    have hf : ∀ q ∈ locs', base ≤ q.base := hSF.2.2.1.2.2
    rw [← hst.1]
    clear hst
    generalize r.1 = rv at hend hq ⊢
    generalize (mtd x).2.2.1 = rk at hend hrt
    unfold a_end at hend
    split at hend
    · rename_i v
      have : rtm x = some .int := by revert hrt; cases rtm x with | none => simp | some t => cases t <;> simp
      cases hend
      exact W.iret hex1 hb (by rw [hr, this]) hq hf hdg (hlocks := hlk)
    · rename_i v
      have : rtm x = some .boolean := by revert hrt; cases rtm x with | none => simp | some t => cases t <;> simp
      split at hend
      · rename_i h01
        cases hend
        refine W.zret (ty := .boolean) hex1 hb (by rw [hr, this]) ?_ hq hf hdg (hlocks := hlk)
        rcases h01 with rfl | rfl <;> decide +kernel
      · cases hend
    · rename_i v
      have : rtm x = some .long := by revert hrt; cases rtm x with | none => simp | some t => cases t <;> simp
      cases hend
      exact W.lret hex1 hb (by rw [hr, this]) hq hf hdg (hlocks := hlk)
    · rename_i v
      obtain ⟨C, this⟩ : ∃ C, rtm x = some (.object C) := by
        revert hrt
        cases rtm x with
        | none => simp
        | some t => cases t <;> simp
      split at hend
      · rename_i h01
        cases hend
        rw [List.map_cons, List.map_nil, evv_r h01]
        rw [List.map_cons, List.map_nil, evv_r h01] at hq
        exact W.aret hex1 hb (by rw [hr, this]) (Or.inl ⟨C, rfl⟩) (Or.inr ⟨_, rfl⟩) hq hf hdg (hlocks := hlk)
      · cases hend
    · skip
      have : rtm x = none := by revert hrt; cases rtm x with | none => simp | some t => cases t <;> simp
      cases hend
      exact W.vret hex1 hb (by rw [hr, this]) hq hf hdg (hlocks := hlk)
    · cases hend
end
section
section GOD
variable {p : Program} {l : Launch} {e : Env} {R : Room} {s : State} {m : MethodId} {args : Array Value} {below : List Frame} {meth : Method} {c : Code} {Q : State → Prop}
variable {b base L j n0 s0 : Nat} {xs : Nat → Int32} {D : va_G} {cs : Nat → ClassId} {Ts : List Cond} {pc x y i n : Nat} {z : Int} {ls st : List AVal} {sh : List AShp} {g : AMem} {lsA : Array Slot} {H : Heap} {locs : List Loc} {r : ARes}
theorem snd_call {aa : Array Value} {rest : List AVal} (hS : SFc b base L xs D cs s lsA ls st sh g H locs) (hn : n0 ≤ sh.length) (hs0 : s0 ≤ slt sh) (hfx : r.1.length ≤ 1 ∧ sh.length ≤ r.2.1.length ∧ slt sh ≤ slt r.2.1)
    (hrun : va_Run p l e R s m args below meth c H locs (sh.length - n0) (slt sh - s0) (r.2.1.length - sh.length) (slt r.2.1 - slt sh) (F0 m pc lsA (st.map (evv b base))) (rest.map (evv b base)) (Qjj b base L xs D cs r.1 r.2.1 r.2.2 aa) (fun q : Nat => base ≤ q)) (hrest : ∀ v ∈ rest, okV v)
    (kk : ∀ lsA' H' locs', SFc b base L xs D cs s lsA' ls (r.1 ++ rest) r.2.1 r.2.2 H' locs' → W p l e R s m args below meth c H' locs' (r.2.1.length - n0) (slt r.2.1 - s0) Q (F0 m (pc + 3) lsA' ((r.1 ++ rest).map (evv b base)))) : W p l e R s m args below meth c H locs (sh.length - n0) (slt sh - s0) Q (F0 m pc lsA (st.map (evv b base))) := by
  refine va_callG hrun (fun q h => h) hS.2.2.1 (fun st v t hq => hq.2.2.2.1) (fun st t v locs1 hq hS1 => ?_)
  obtain ⟨hv, hl, hok, -, hP, hF, hK', hX', hsz'⟩ := hq
  have e1 : sh.length - n0 + (r.2.1.length - sh.length) = r.2.1.length - n0 := by omega
  have e2 : slt sh - s0 + (slt r.2.1 - slt sh) = slt r.2.1 - s0 := by omega
  have k := kk lsA t.heap locs1 ⟨hP, hF, hS1, hS.lhO, hS.lsO, fun v hv => (List.mem_append.mp hv).elim (hok v) (hrest v)⟩
  have e3 : v.toList ++ rest.map (evv b base) = (r.1 ++ rest).map (evv b base) := by
    injection hv with hv
    rw [hv, List.map_append]
    congr 1
    match r.1, hl with
    | [], _ => rfl
    | [_], _ => rfl
    | _ :: _ :: _, h => exact absurd h (by simp)
  rw [e1, e2, e3]
  exact k
theorem frB {av : List Value} : FrameBlind (va_Pc av (fun U => Wdd b base L xs D cs sh g U)) := fun a U fr mk q => ⟨q.1, q.2.1, q.2.2.1, KF_same (u := U) (U := U.calling fr mk a) rfl q.2.2.2.1, q.2.2.2.2.1.moved (u := U) (U := U.calling fr mk a) (Vm.Alike.refl _), q.2.2.2.2.2⟩
theorem good_in {big ws : List Cond} (hb : ∀ w ∈ wsA, w ∈ big) (h : ∀ w ∈ ws, w ∈ wsA) : GoodIn big ws := fun w hw => ⟨hb w (h w hw), good_A (h w hw)⟩
theorem st_split {y : Nat} {as : List AVal} (h : (st.take y).reverse = as) : st = as.reverse ++ st.drop y := by
  rw [← h, List.reverse_reverse, List.take_append_drop]
theorem okS_drop {y : Nat} (h : ∀ v ∈ st, okV v) : ∀ v ∈ st.drop y, okV v := fun v hv => h v (List.mem_of_mem_drop hv)
theorem okS_take {y : Nat} (h : ∀ v ∈ st, okV v) : ∀ v ∈ (st.take y).reverse, okV v := fun v hv => h v (List.mem_of_mem_take (List.mem_reverse.mp hv))
theorem len_take {y : Nat} (h : y ≤ st.length) : (st.take y).reverse.length = y := by rw [List.length_reverse, List.length_take]; omega
theorem cOk_of {h : Nat} (hc : cOk j x y h = true) : ((mtd x).2.2.2.2.1 + 1 ≤ (mtd j).2.2.2.2.1 ∧ 8 + ((mtd x).2.1 + 11) + (mtd x).2.2.2.2.2.1 ≤ (mtd j).2.2.2.2.2.1) ∧ (mtd x).2.2.2.2.2.2 = h ∧ ((ynm x).cls ≠ "java/lang/invoke/MethodHandle" ∧ (ynm x).cls ≠ "java/lang/invoke/VarHandle") ∧ (parseMethodDescriptor (ynm x).desc).map (fun d => d.parameters.length) = some (if h = 1 then y else y - 1) ∧ (h = 1 ∨ 1 ≤ y) ∧ x < nlaw ∧ (h = 0 → (mtd x).1 < 11 ∧ (vcl (mtd x).1).1 = (ynm x).cls) := by
  unfold cOk cRoom at hc
  simp only [Bool.and_eq_true, decide_eq_true_eq] at hc
  obtain ⟨⟨⟨⟨⟨⟨h1, h2⟩, h3⟩, h4⟩, h5⟩, h6⟩, h7⟩ := hc
  exact ⟨h1, h2, h3, h4, h5, h6, h7⟩
theorem wd_of {U : State} (hS : SFc b base L xs D cs s lsA ls st sh g H locs) (hC : Cxt b base L xs D cs j n0 Ts p R s m args meth c) (hsz : H.size = base + (sh.length - 2)) (hU : U.heap = H) (hW : s.WarmedH U.vm) : Wdd b base L xs D cs sh g U := by
  obtain ⟨hx, hb, hown, hts, hwa, hK, hX, hbb, ⟨h2n, hsz0⟩, hini, hfr, hlo⟩ := hC
  refine ⟨by rw [hU]; exact hS.1, hS.2.1, KF_warm hW hK, ?_, by rw [hU]; exact hsz⟩
  rw [hU]
  exact (hX.moved hW.alike).kept (hS.2.2.1.2.1 b (by omega) (by omega))
theorem call_V (IH : GoodAt n) (hrok : ∀ j, j < nmeth → ∀ r ∈ codL j, rok j r) (hC : Cxt b base L xs D cs j n0 Ts p R s m args meth c) (hml : c.maxLocals = ls.length) (hdg : decode (bcm j) pc = .ok (.invokevirtual i, 3)) (hc : cOk j x y 0 = true)
    (hw : ∀ w ∈ [Cond.methodLink (ynm j).cls i (ynm x), .instanceMethod (ynm x), .selects (ynm x).cls (ynm x) (ynm x), .initialized (ynm x).cls, .code (ynm x) (bcm x) (mtd x).2.1 (rtm x)], w ∈ wsA)
    (hy : y ≤ st.length) (hwg : awg (st.drop y) ≤ 8) (hrc : a_rcv (mtd x) sh (st.take y).reverse = true) (hlen : (aent (st.take y).reverse).length ≤ (mtd x).2.1) (hex : ex n x 0 (apad (aent (st.take y).reverse) (mtd x).2.1) [] sh g = some r)
    (hS : SFc b base L xs D cs s lsA ls st sh g H locs) (hn : n0 ≤ sh.length) (hs0 : s0 ≤ slt sh) (hR1 : r.2.1.length - n0 ≤ R.cells) (hR2 : slt r.2.1 - s0 ≤ R.slots)
    (kk : ∀ lsA' H' locs', SFc b base L xs D cs s lsA' ls (r.1 ++ st.drop y) r.2.1 r.2.2 H' locs' → W p l e R s m args below meth c H' locs' (r.2.1.length - n0) (slt r.2.1 - s0) Q (F0 m (pc + 3) lsA' ((r.1 ++ st.drop y).map (evv b base)))) : W p l e R s m args below meth c H locs (sh.length - n0) (slt sh - s0) Q (F0 m pc lsA (st.map (evv b base))) := by
  have hC0 := hC
  obtain ⟨hx, hb, hown, hts, hwa, hK, hX, hbb, ⟨h2n, hsz⟩, hini, hfr, hlo⟩ := hC
  obtain ⟨c1, c2, c3, c4, c5, c6, c7⟩ := cOk_of hc
  have hfx := ex_fx n _ _ _ _ _ _ _ hex
  refine w_size (fun hu => ?_)
  have hszH := sz_of hS.1 hS.2.2.1 hsz hn h2n hu
  unfold a_rcv at hrc
  rw [c2] at hrc
  have hM := met_of IH hrok (l := l) (b := b) (base := base) (L := L) (xs := xs) (D := D) (cs := cs) c6 hex hlen (okS_take hS.stO) hbb
  have hall : ∀ w ∈ wsV (ynm j).cls i (ynm x).cls (ynm x) (wsm x), w ∈ wsA := by
    intro w h
    unfold wsV wsm at h
    simp only [List.cons_append, List.nil_append, List.mem_cons] at h
    rcases h with h | h | h | h | h | h
    · exact hw w (by simp [h])
    · exact hw w (by simp [h])
    · exact hw w (by simp [h])
    · exact hw w (by simp [h])
    · exact hw w (by simp [h])
    · exact h
  generalize has : (st.take y).reverse = as at hrc hM
  have hl0 : as.length = y := by rw [← has]; exact len_take hy
  split at hrc
  · rename_i h0; cases h0
  · rename_i h0; cases h0
  · rename_i t as' h0
    rw [decide_eq_true_eq] at hrc
    obtain ⟨q, hq, hq1, h2⟩ := kin_of hrc (by have := (c7 rfl).1; omega)
    have he := ws_at (b := b) (base := base) (cs := cs) (g := g) hq h2
    have hlt := (c7 rfl).1
    rw [celE_o (by omega), hq1] at he
    have hcell := va_recv hK.1 hS.1 (vcl_at hlt) he
    dsimp only at hcell
    rw [(c7 rfl).2] at hcell
    have hst := st_split has
    have hav : (Value.ref (adr b base t) :: as'.map (evv b base)) = (vR t :: as').map (evv b base) := by rw [List.map_cons, evv_r (by omega)]
    refine snd_call (aa := (Value.ref (adr b base t) :: as'.map (evv b base)).toArray) hS hn hs0 hfx ?_ (okS_drop hS.stO) kk
    refine va_runV (C := (ynm x).cls) (cc := bcm j) (nL := ls.length) ⟨hx, hb, hml, hown, hts⟩ hM (cwV (y - 1) hts (good_in hwa hall) rfl rfl rfl ⟨rfl, c3.1, c3.2, c4⟩ ⟨Nat.le_trans c1.1 hfr, Nat.le_trans c1.2 hlo⟩) ⟨frB, hcell, fun U hU hW => ⟨by rw [hav], wd_of hS hC0 hszH hU hW⟩⟩ rfl (by rw [List.length_map]; simp only [List.length_cons] at hl0; omega) hS.lsz ?_ (lv_room (by rw [cat_wg]; exact hwg)) hdg ⟨by omega, by omega⟩
    show st.map (evv b base) = _
    conv => lhs; rw [hst]
    rw [List.map_append, List.reverse_cons, List.map_append, List.map_reverse, List.append_assoc, List.map_cons, evv_r (by omega)]
    rfl
  · cases hrc
theorem call_S (IH : GoodAt n) (hrok : ∀ j, j < nmeth → ∀ r ∈ codL j, rok j r) (hC : Cxt b base L xs D cs j n0 Ts p R s m args meth c) (hml : c.maxLocals = ls.length) (hdg : decode (bcm j) pc = .ok (.invokestatic i, 3)) (hc : cOk j x y 1 = true) (hzn : z = 0 ∨ Cond.methodLinkNest (ynm j).cls i (ynm x) RX11 ∈ nestW)
    (hw : ∀ w ∈ (if z = 0 then [Cond.methodLink (ynm j).cls i (ynm x)] else []) ++ [Cond.static (ynm x), .initialized (ynm x).cls, .code (ynm x) (bcm x) (mtd x).2.1 (rtm x)], w ∈ wsA)
    (hy : y ≤ st.length) (hwg : awg (st.drop y) ≤ 8) (hlen : (aent (st.take y).reverse).length ≤ (mtd x).2.1) (hex : ex n x 0 (apad (aent (st.take y).reverse) (mtd x).2.1) [] sh g = some r)
    (hS : SFc b base L xs D cs s lsA ls st sh g H locs) (hn : n0 ≤ sh.length) (hs0 : s0 ≤ slt sh) (hR1 : r.2.1.length - n0 ≤ R.cells) (hR2 : slt r.2.1 - s0 ≤ R.slots)
    (kk : ∀ lsA' H' locs', SFc b base L xs D cs s lsA' ls (r.1 ++ st.drop y) r.2.1 r.2.2 H' locs' → W p l e R s m args below meth c H' locs' (r.2.1.length - n0) (slt r.2.1 - s0) Q (F0 m (pc + 3) lsA' ((r.1 ++ st.drop y).map (evv b base)))) : W p l e R s m args below meth c H locs (sh.length - n0) (slt sh - s0) Q (F0 m pc lsA (st.map (evv b base))) := by
  have hC0 := hC
  obtain ⟨hx, hb, hown, hts, hwa, hK, hX, hbb, ⟨h2n, hsz⟩, hini, hfr, hlo⟩ := hC
  obtain ⟨c1, c2, c3, c4, c5, c6, c7⟩ := cOk_of hc
  have hfx := ex_fx n _ _ _ _ _ _ _ hex
  refine w_size (fun hu => ?_)
  have hszH := sz_of hS.1 hS.2.2.1 hsz hn h2n hu
  have hM := met_of IH hrok (l := l) (b := b) (base := base) (L := L) (xs := xs) (D := D) (cs := cs) c6 hex hlen (okS_take hS.stO) hbb
  have hst := st_split (rfl : (st.take y).reverse = (st.take y).reverse)
  have hstk : st.map (evv b base) = ((st.take y).reverse.map (evv b base)).reverse ++ (st.drop y).map (evv b base) := by
    conv => lhs; rw [hst]
    rw [List.map_append, List.map_reverse]
  have w1 : Cond.static (ynm x) ∈ wsA := hw _ (by simp)
  have w2 : Cond.initialized (ynm x).cls ∈ wsA := hw _ (by simp)
  have w3 : Cond.code (ynm x) (bcm x) (mtd x).2.1 (rtm x) ∈ wsA := hw _ (by simp)
  have hgw : GoodIn Ts (wsm x) := good_in hwa (fun w h => (List.mem_cons.mp h).elim (fun e => e ▸ w3) id)
  have hpre : PreS s H (va_Pc ((st.take y).reverse.map (evv b base)) (fun U => Wdd b base L xs D cs sh g U)) ((st.take y).reverse.map (evv b base)) := ⟨frB, fun U hU hW => ⟨rfl, wd_of hS hC0 hszH hU hW⟩⟩
  refine snd_call (aa := ((st.take y).reverse.map (evv b base)).toArray) hS hn hs0 hfx ?_ (okS_drop hS.stO) kk
  by_cases hz : z = 0
  · have w4 : Cond.methodLink (ynm j).cls i (ynm x) ∈ wsA := hw _ (by simp [hz])
    exact va_runS (cc := bcm j) (nL := ls.length) (own := (ynm j).cls) ⟨hx, hb, hml, hown, hts⟩ hM ⟨callB_of y hts hgw rfl rfl rfl (hts _ (hwa _ w2)) (hts _ (hwa _ w4)) ⟨c3.1, c3.2, c4⟩ ⟨Nat.le_trans c1.1 hfr, Nat.le_trans c1.2 hlo⟩, hts _ (hwa _ w1)⟩ hpre rfl (by rw [List.length_map]; exact len_take hy) hS.lsz hstk (lv_room (by rw [cat_wg]; exact hwg)) hdg ⟨by omega, by omega⟩
  · have w4 := hzn.resolve_left hz
    exact va_runSN (cc := bcm j) (nL := ls.length) (own := (ynm j).cls) ⟨hx, hb, hml, hown, hts⟩ hM ⟨va_cnB y hts hgw rfl rfl rfl (hK.2.2.2 _ w4) (hts _ (hwa _ w2)) ⟨c3.1, c3.2, c4⟩ ⟨Nat.le_trans c1.1 hfr, Nat.le_trans c1.2 hlo⟩, hts _ (hwa _ w1), True.intro⟩ hpre rfl (by rw [List.length_map]; exact len_take hy) hS.lsz hstk (lv_room (by rw [cat_wg]; exact hwg)) hdg ⟨by omega, by omega⟩
theorem call_I (IH : GoodAt n) (hrok : ∀ j, j < nmeth → ∀ r ∈ codL j, rok j r) (hC : Cxt b base L xs D cs j n0 Ts p R s m args meth c) (hml : c.maxLocals = ls.length) (hdg : decode (bcm j) pc = .ok (.invokespecial i, 3)) (hc : cOk j x y 2 = true) (hin1 : (ynm x).name = "<init>") (hrt : rtm x = none) (hzn : z = 0 ∨ Cond.methodLinkNest (ynm j).cls i (ynm x) RX11 ∈ nestW)
    (hw : ∀ w ∈ (if z = 0 then [Cond.methodLink (ynm j).cls i (ynm x)] else []) ++ [Cond.instanceMethod (ynm x), .initialized (ynm x).cls, .code (ynm x) (bcm x) (mtd x).2.1 (rtm x)], w ∈ wsA)
    (hy : y ≤ st.length) (hwg : awg (st.drop y) ≤ 8) (hrc : a_rcv (mtd x) sh (st.take y).reverse = true) (hlen : (aent (st.take y).reverse).length ≤ (mtd x).2.1) (hex : ex n x 0 (apad (aent (st.take y).reverse) (mtd x).2.1) [] sh g = some r)
    (hS : SFc b base L xs D cs s lsA ls st sh g H locs) (hn : n0 ≤ sh.length) (hs0 : s0 ≤ slt sh) (hR1 : r.2.1.length - n0 ≤ R.cells) (hR2 : slt r.2.1 - s0 ≤ R.slots)
    (kk : ∀ lsA' H' locs', SFc b base L xs D cs s lsA' ls (r.1 ++ st.drop y) r.2.1 r.2.2 H' locs' → W p l e R s m args below meth c H' locs' (r.2.1.length - n0) (slt r.2.1 - s0) Q (F0 m (pc + 3) lsA' ((r.1 ++ st.drop y).map (evv b base)))) : W p l e R s m args below meth c H locs (sh.length - n0) (slt sh - s0) Q (F0 m pc lsA (st.map (evv b base))) := by
  have hC0 := hC
  obtain ⟨hx, hb, hown, hts, hwa, hK, hX, hbb, ⟨h2n, hsz⟩, hini, hfr, hlo⟩ := hC
  obtain ⟨c1, c2, c3, c4, c5, c6, c7⟩ := cOk_of hc
  have hfx := ex_fx n _ _ _ _ _ _ _ hex
  refine w_size (fun hu => ?_)
  have hszH := sz_of hS.1 hS.2.2.1 hsz hn h2n hu
  unfold a_rcv at hrc
  rw [c2] at hrc
  have hM := met_of IH hrok (l := l) (b := b) (base := base) (L := L) (xs := xs) (D := D) (cs := cs) c6 hex hlen (okS_take hS.stO) hbb
  have w1 : Cond.instanceMethod (ynm x) ∈ wsA := hw _ (by simp)
  have w2 : Cond.initialized (ynm x).cls ∈ wsA := hw _ (by simp)
  have w3 : Cond.code (ynm x) (bcm x) (mtd x).2.1 (rtm x) ∈ wsA := hw _ (by simp)
  have hgw : GoodIn Ts (wsm x) := good_in hwa (fun w h => (List.mem_cons.mp h).elim (fun e => e ▸ w3) id)
  have hwsm : wsm x = Cond.code (ynm x) (bcm x) (mtd x).2.1 none :: wsA := by unfold wsm; rw [hrt]
  generalize has : (st.take y).reverse = as at hrc hM
  have hl0 : as.length = y := by rw [← has]; exact len_take hy
  split at hrc
  · rename_i h0; cases h0
  · rename_i t as' h0
    rw [decide_eq_true_eq] at hrc
    have hst := st_split has
    have hav : (Value.ref (adr b base t) :: as'.map (evv b base)) = (vR t :: as').map (evv b base) := by rw [List.map_cons, evv_r (by omega)]
    have hpre : PreS s H (va_Pc ((vR t :: as').map (evv b base)) (fun U => Wdd b base L xs D cs sh g U)) (Value.ref (adr b base t) :: as'.map (evv b base)) := ⟨frB, fun U hU hW => ⟨by rw [hav], wd_of hS hC0 hszH hU hW⟩⟩
    have hstk : st.map (evv b base) = (as'.map (evv b base)).reverse ++ .ref (adr b base t) :: (st.drop y).map (evv b base) := by
      conv => lhs; rw [hst]
      rw [List.map_append, List.reverse_cons, List.map_append, List.map_reverse, List.append_assoc, List.map_cons, evv_r (by omega)]
      rfl
    refine snd_call (aa := (Value.ref (adr b base t) :: as'.map (evv b base)).toArray) hS hn hs0 hfx ?_ (okS_drop hS.stO) kk
    have hln : (as'.map (evv b base)).length = y - 1 := by rw [List.length_map]; simp only [List.length_cons] at hl0; omega
    by_cases hz : z = 0
    · have w4 : Cond.methodLink (ynm j).cls i (ynm x) ∈ wsA := hw _ (by simp [hz])
      exact va_runI (cc := bcm j) (nL := ls.length) (own := (ynm j).cls) ⟨hx, hb, hml, hown, hts⟩ hM ⟨callB_of (y - 1) hts hgw hwsm rfl rfl (hts _ (hwa _ w2)) (hts _ (hwa _ w4)) ⟨c3.1, c3.2, c4⟩ ⟨Nat.le_trans c1.1 hfr, Nat.le_trans c1.2 hlo⟩, hin1, hts _ (hwa _ w1)⟩ hpre rfl hln hS.lsz hstk (lv_room (by rw [cat_wg]; exact hwg)) hdg ⟨by omega, by omega⟩
    · have w4 := hzn.resolve_left hz
      exact va_runIN (cc := bcm j) (nL := ls.length) (own := (ynm j).cls) ⟨hx, hb, hml, hown, hts⟩ hM ⟨va_cnB (y - 1) hts hgw hwsm rfl rfl (hK.2.2.2 _ w4) (hts _ (hwa _ w2)) ⟨c3.1, c3.2, c4⟩ ⟨Nat.le_trans c1.1 hfr, Nat.le_trans c1.2 hlo⟩, hin1, hts _ (hwa _ w1)⟩ hpre rfl hln hS.lsz hstk (lv_room (by rw [cat_wg]; exact hwg)) hdg ⟨by omega, by omega⟩
  · rename_i h0; cases h0
  · cases hrc
end GOD
theorem end_1 {j pc len x y : Nat} {z : Int} {ins : Instr} {rk : Nat} {st rv : List AVal} (h : a_end ins rk st = some rv) (hb : nBool j pc ins len x y z = true) : len = 1 := by
  unfold a_end at h
  split at h
  · simpa [nBool] using hb
  · simpa [nBool] using hb
  · simpa [nBool] using hb
  · simpa [nBool] using hb
  · simpa [nBool] using hb
  · cases h
theorem good_all (hrok : ∀ j, j < nmeth → ∀ r ∈ codL j, rok j r) : ∀ n, GoodAt n := by
  intro n
  induction n with
  | zero =>
    intro j hj p l e R s m args below meth c Q b base L n0 s0 xs D cs Ts pc ls st sh g rv sh' g' lsA H locs h
    simp [ex] at h
  | succ n ih =>
    intro j hj p l e R s m args below meth c Q b base L n0 s0 xs D cs Ts pc ls st sh g rv sh' g' lsA H locs h hC hml hS hn hs0 hR1 hR2 hret
    rw [ex] at h
    split at h
    · cases h
    · rename_i ins len x y z hlk
      have hr := hrok j hj _ (look_mem _ _ _ hlk)
      split at h
      · rename_i hk0
        split at h
        · rename_i pc' ls' st' sh1 g1 hst
          have hfx := stp_fx hst
          have hex := ex_fx n _ _ _ _ _ _ _ h
          dsimp only at hex
          refine snd_stp hC hml hr hk0 hst hS hn hs0 (by omega) (by omega) (fun lsA' H' locs' hS' => ?_)
          exact ih j hj pc' ls' st' sh1 g1 rv sh' g' lsA' H' locs' h hC (hml.trans hfx.1.symm) hS' (by omega) (by omega) hR1 hR2 hret
        · cases h
      · rename_i hk1
        split at h
        · rename_i hcd
          obtain ⟨hy, hwg, hrc, hlen⟩ := hcd
          split at h
          · rename_i r hex
            have hfx := ex_fx n _ _ _ _ _ _ _ hex
            have hex2 := ex_fx n _ _ _ _ _ _ _ h
            dsimp only at hex2
            have kk : ∀ lsA' H' locs', SFc b base L xs D cs s lsA' ls (r.1 ++ st.drop y) r.2.1 r.2.2 H' locs' → W p l e R s m args below meth c H' locs' (r.2.1.length - n0) (slt r.2.1 - s0) Q (F0 m (pc + 3) lsA' ((r.1 ++ st.drop y).map (evv b base))) := fun lsA' H' locs' hS' => ih j hj (pc + 3) ls (r.1 ++ st.drop y) r.2.1 r.2.2 rv sh' g' lsA' H' locs' h hC hml hS' (by omega) (by omega) hR1 hR2 hret
            obtain ⟨hdg, hnb, hww⟩ := hr
            dsimp only at hdg hnb hww
            have q1 : r.2.1.length - n0 ≤ R.cells := by omega
            have q2 : slt r.2.1 - s0 ≤ R.slots := by omega
            cases ins
            case invokevirtual i =>
              simp only [nBool, Bool.and_eq_true, decide_eq_true_eq] at hnb
              obtain ⟨rfl, hnb⟩ := hnb
              exact call_V ih hrok hC hml hdg hnb hww hy hwg hrc hlen hex hS hn hs0 q1 q2 kk
            case invokestatic i =>
              have hx : ¬ 1001 ≤ x := by
                intro q
                simp [akd, q] at hk1
              simp only [nBool, Bool.and_eq_true, decide_eq_true_eq, hx, if_false] at hnb
              obtain ⟨rfl, hnb⟩ := hnb
              have h1 : ¬ x = 1001 := by omega
              have h2 : ¬ x = 1002 := by omega
              simp only [nWords, h1, h2, hx, if_false] at hww
              exact call_S ih hrok hC hml hdg hnb.1 hnb.2 hww hy hwg hlen hex hS hn hs0 q1 q2 kk
            case invokespecial i =>
              have hx : ¬ x = 1000 := by
                intro q
                simp [akd, q] at hk1
              simp only [nBool, Bool.and_eq_true, decide_eq_true_eq, hx, if_false] at hnb
              obtain ⟨rfl, ⟨hnb, hin, hrt⟩, hzn⟩ := hnb
              simp only [nWords, hx, if_false] at hww
              exact call_I ih hrok hC hml hdg hnb hin hrt hzn hww hy hwg hrc hlen hex hS hn hs0 q1 q2 kk
            all_goals exact absurd hk1 (by simp [akd])
          · cases h
        · cases h
      · split at h
        · rename_i v hv
          cases h
          obtain ⟨hdg, hnb, hww⟩ := hr
          dsimp only at hdg hnb hww
          have h1 := end_1 hv hnb
          subst h1
          exact hret pc ins lsA ls st H locs hdg hv hS
        · cases h
end
section
/-! THE CLAIM OUT OF ONE WALK OF THE LAW'S BODY. Your part is whole_start (and what it stands on); all else here is the same for every law, but numbers. -/
def R_law : String := "EdgeMovesLaw"
def lw_P (b : Addr) (xs : List Int32) (args : Array Value) (s : State) : Prop := args = #[.ref b] ∧ s.IntsAt b xs ∧ xs.length ≤ 2048 ∧ (Jvm.Cond.and given_1 narrow_1).before args s = true
def lw_Q (_ : Array Value) (s : State) (o : Outcome) (t : State) : Prop := o = .returned (some (.int 1)) ∧ Framed s o t [] 600000 7302249
def lw_Z (below : List Frame) (a : Array Value) (s : State) : State → Prop := fun t => ∃ o, t.status = .running ∧ Ended t below o ∧ lw_Q a s o t
/-- the law's own end, with 1 on the stack, nothing written that was there before, its room as the claim has it -/
theorem lw_ret {p : Program} {l : Launch} {e : Env} {s : State} {m : MethodId} {below : List Frame} {meth : Method} {c : Code} {b : Nat} (hx : p.tables.exec = Jvm.exec) (hb : c.code = code) (hr : meth.sig.returnType = ret) (hlocks : meth.locks = false) {pc : Nat} {H : Heap} {ls : Array Slot} (hdg : decode code pc = .ok (.ireturn, 1)) : W p l e room_1 s m #[Value.ref b] below meth c H [] 600000 7302249 (lw_Z below #[Value.ref b] s) (F0 m pc ls [.int 1]) := by
  intro T hT X
  obtain ⟨fs, hret, hrun, hended, hW, hframe⟩ := X.leave (v := some (.int 1)) (hlocks := hlocks) (fun h => by rw [hr] at h; cases h)
  have hmeth' : T.vm.method? m = some meth := X.method'
  refine ⟨T.setFrames fs, ?_, .returned (some (.int 1)), hrun, hended, rfl, ⟨_, rfl⟩, hW, hframe⟩
  jvm_step X.here [X.here.top, hx, hb, hdg, hmeth', hr, ret, narrow_b1]
  (try refine ⟨rfl, ?_⟩); (try refine ⟨rfl, ?_⟩)
  first | (intro acts; rw [hret _ acts rfl rfl rfl]) | rw [hret _ _ rfl rfl rfl]
  exact Steps.refl _
/-- what holds at the law's entry: the machine, the code, the tables' words (any of lw_tbl by 'hts w (by decide +kernel)'), the script of L ints xs at the cell b, what the Statement gives of the start (any of its parts by flat_of_before) -/
def lw_At (p : Program) (s : State) (m : MethodId) (meth : Method) (c : Code) (b L : Nat) (xs : Nat → Int32) : Prop :=
  p.tables.exec = Jvm.exec ∧ c.code = code ∧ meth.sig.returnType = ret ∧ c.maxLocals = 4 ∧ s.vm.findClass R_law = some m.cls ∧ (∀ w ∈ lw_tbl, w.before #[Value.ref b] s = true) ∧ va_X b L xs s s.heap ∧ b < s.heap.size ∧ meth.locks = false ∧ (Jvm.Cond.and given_1 narrow_1).before #[Value.ref b] s = true

theorem tch_tb {k i : Nat} {w : Cond} (h : (tch k)[i]? = some w) : w ∈ lw_tbl := by
  have hm := List.mem_of_getElem? h
  unfold lw_tbl
  have ht : ∀ q : Cond, q ∈ tables_1_1 ∨ q ∈ tables_1_2 ∨ q ∈ tables_1_3 ∨ q ∈ tables_1_4 ∨ q ∈ tables_1_5 ∨ q ∈ tables_1_6 → q ∈ tables_1 := by
    intro q hq
    unfold tables_1
    simp only [List.mem_append]
    exact hq
  match k, hm with
  | 0, hm => exact List.mem_append_left _ hm
  | 1, hm => exact List.mem_append_right _ (ht _ (Or.inl hm))
  | 2, hm => exact List.mem_append_right _ (ht _ (Or.inr (Or.inl hm)))
  | 3, hm => exact List.mem_append_right _ (ht _ (Or.inr (Or.inr (Or.inl hm))))
  | 4, hm => exact List.mem_append_right _ (ht _ (Or.inr (Or.inr (Or.inr (Or.inl hm)))))
  | 5, hm => exact List.mem_append_right _ (ht _ (Or.inr (Or.inr (Or.inr (Or.inr (Or.inl hm))))))
  | _ + 6, hm => exact List.mem_append_right _ (ht _ (Or.inr (Or.inr (Or.inr (Or.inr (Or.inr hm))))))
theorem tw_ao0 : Cond.arrayOver (.object RX0) ∈ lw_tbl := tch_tb (k := 1) (i := 32) (by decide +kernel)
theorem tw_ao2 : Cond.arrayOver (.object RX2) ∈ lw_tbl := tch_tb (k := 1) (i := 57) (by decide +kernel)
theorem tw_aci : Cond.arrayClass .int ∈ lw_tbl := tch_tb (k := 1) (i := 55) (by decide +kernel)
theorem tw_acz : Cond.arrayClass .boolean ∈ lw_tbl := tch_tb (k := 1) (i := 206) (by decide +kernel)
theorem tw_nest : ∀ w ∈ nestW, w ∈ lw_tbl := by
  intro w hw
  simp only [nestW, List.mem_cons, List.not_mem_nil, or_false] at hw
  rcases hw with rfl | rfl | rfl | rfl
  · exact tch_tb (k := 1) (i := 222) (by decide +kernel)
  · exact tch_tb (k := 2) (i := 62) (by decide +kernel)
  · exact tch_tb (k := 2) (i := 119) (by decide +kernel)
  · exact tch_tb (k := 3) (i := 3) (by decide +kernel)
theorem tw_inst : ∀ (x : Nat) (q : vw_C), vwCl[x]? = some q → Cond.instantiable q.1 q.2.2 ∈ lw_tbl := by
  intro x q h
  match x, h with
  | 0, h => cases h; exact tch_tb (k := 1) (i := 33) (by decide +kernel)
  | 1, h => cases h; exact tch_tb (k := 1) (i := 221) (by decide +kernel)
  | 2, h => cases h; exact tch_tb (k := 1) (i := 58) (by decide +kernel)
  | 3, h => cases h; exact tch_tb (k := 1) (i := 26) (by decide +kernel)
  | 4, h => cases h; exact tch_tb (k := 1) (i := 143) (by decide +kernel)
  | 5, h => cases h; exact tch_tb (k := 1) (i := 208) (by decide +kernel)
  | 6, h => cases h; exact tch_tb (k := 1) (i := 162) (by decide +kernel)
  | 7, h => cases h; exact tch_tb (k := 1) (i := 124) (by decide +kernel)
  | 8, h => cases h; exact tch_tb (k := 1) (i := 109) (by decide +kernel)
  | 9, h => cases h; exact tch_tb (k := 1) (i := 18) (by decide +kernel)
  | 10, h => cases h; exact tch_tb (k := 4) (i := 80) (by decide +kernel)
  | x + 11, h => simp [vwCl] at h
/-- the script, and nothing made yet -/
def shS (L : Nat) : List AShp := [(99, 0, []), (30, L, [])]
def gS (L : Nat) (xs : Nat → Int32) : AMem := fun a k => if a = 1 ∧ 0 ≤ k ∧ k < L then (xs k.toNat).toInt else 0
/-- what is left to show, of numbers alone -/
def LawOK : Prop := ∀ (L : Nat), L ≤ 2048 → ∀ xs : Nat → Int32, ∃ (n : Nat) (sh' : List AShp) (g' : AMem), ex n nlaw 0 [vR 1, vU, vU, vU] [] (shS L) (gS L xs) = some ([vI 1], sh', g') ∧ sh'.length ≤ 600000 ∧ slt sh' ≤ 7302249
theorem KF_start {s : State} {a : Array Value} (hts : ∀ w ∈ lw_tbl, w.before a s = true) : ∃ (D : va_G) (cs : Nat → ClassId), KF D cs s := by
  have h : ∀ x : Nat, ∃ d : ClassId × (Nat → Nat), ∀ q : vw_C, vwCl[x]? = some q → u_Kn s q.1 q.2.1 q.2.2 d.1 d.2 := by
    intro x
    cases hx : vwCl[x]? with
    | none => exact ⟨(0, fun _ => 0), fun q h => by cases h⟩
    | some q =>
      obtain ⟨C, T, N⟩ := q
      obtain ⟨cC, iS, hk⟩ := u_known (C := C) (T := T) (N := N) (n := N) hts (fun w hw => (List.mem_filter.mp (cls_wA x C T N hx w hw)).1) (hts _ (tw_inst x _ hx))
      exact ⟨(cC, iS), fun q hq => by cases hq; exact hk⟩
  obtain ⟨d, hd⟩ := Classical.axiomOfChoice h
  obtain ⟨cI, kI, pI, i1, i2, i3⟩ := Cond.arrayClass_spec (hts _ tw_aci)
  obtain ⟨cZ, kZ, pZ, z1, z2, z3⟩ := Cond.arrayClass_spec (hts _ tw_acz)
  obtain ⟨pB, cB, kB, b1, b2, b3, b4, b5⟩ := Cond.arrayOver_spec (hts _ tw_ao0)
  obtain ⟨pE, cE, kE, e1, e2, e3, e4, e5⟩ := Cond.arrayOver_spec (hts _ tw_ao2)
  refine ⟨(fun x => (d x).1, fun x => (d x).2), fun t => if t = 0 then cI else if t = 1 then cZ else if t = 2 then cB else cE, ⟨hd, fun k q hq => ?_⟩, va_AO.of (hts _ tw_ao0), va_AO.of (hts _ tw_ao2), fun w hw => va_Nw.of (onT w hw) (hts _ (tw_nest w hw))⟩
  match k, hq with
  | 0, hq => cases hq; exact ⟨fun n z => ⟨fun k h => (by cases h), kI, i2, pI, i3⟩, i1⟩
  | 1, hq => cases hq; exact ⟨fun n z => ⟨fun k h => (by cases h), kZ, z2, pZ, z3⟩, z1⟩
  | 2, hq => cases hq; exact ⟨fun n z => ⟨fun k h => (by cases h), kB, b3, pB, b4⟩, kB, pB, b3, b4, b1, b5⟩
  | 3, hq => cases hq; exact ⟨fun n z => ⟨fun k h => (by cases h), kE, e3, pE, e4⟩, kE, pE, e3, e4, e1, e5⟩
  | k + 4, hq => simp [TYs] at hq
theorem okM_start (L : Nat) (xs : Nat → Int32) : okM (shS L) (gS L xs) := by
  intro a k
  have h : iw (gS L xs a k) = gS L xs a k := by
    unfold gS
    split
    · exact iw_toInt _
    · exact iw_0
  exact ⟨fun _ => h, fun _ => lw_of_iw h⟩
theorem start_of (hlaw : LawOK) (hrok : ∀ j, j < nmeth → ∀ r ∈ codL j, rok j r) {p : Program} {e : Env} {s : State} {m : MethodId} {below : List Frame} {meth : Method} {c : Code} (l : Launch) (hflags : l.flags = flags0) {b L : Nat} {xs : Nat → Int32} (hL : L ≤ 2048) (C0 : lw_At p s m meth c b L xs) : W p l e room_1 s m #[Value.ref b] below meth c s.heap [] 0 0 (lw_Z below #[Value.ref b] s) (entryFrame m ([Value.ref b] : List Value).toArray 4) := by
  obtain ⟨hx, hb, hr, hml, hown, hts, hX, hbl, hlocks, hgv⟩ := C0
  obtain ⟨D, cs, hK⟩ := KF_start hts
  obtain ⟨n, sh', g', hex, hc1, hc2⟩ := hlaw L hL xs
  have hfx := ex_fx n _ _ _ _ _ _ _ hex
  have hF : PF L xs (shS L) (gS L xs) := by
    refine ⟨Nat.le_refl _, rfl, rfl, hL, okM_start L xs, fun j hj => ?_⟩
    rw [show gS L xs 1 j = (xs j).toInt from by unfold gS; rw [if_pos ⟨rfl, by omega, by omega⟩, Int.toNat_natCast]]
    exact Int32.ofInt_toInt _
  have hC : Cxt b s.heap.size L xs D cs nlaw 2 lw_tbl p room_1 s m #[Value.ref b] meth c :=
    ⟨hx, hb, hown, hts, fun w hw => (List.mem_filter.mp hw).1, hK, hX, hbl, ⟨Nat.le_refl _, rfl⟩, fun h => absurd h (by decide), by decide +kernel, by decide +kernel⟩
  rw [lg_entry_eq]
  have hent := ent_LH b s.heap.size (l := [vR 1]) (n := 4) (by decide)
  have k := good_all hrok n nlaw (by decide) (l := l) (e := e) (below := below) (Q := lw_Z below #[Value.ref b] s) (n0 := 2) (s0 := slt (shS L)) 0 [vR 1, vU, vU, vU] [] (shS L) (gS L xs) [vI 1] sh' g' _ s.heap [] hex hC (by rw [hml]; rfl) ⟨fun k q h => by simp [WSa, shS] at h, hF, va_S.rf, hent, fun v hv => ?_, fun v hv => by cases hv⟩ (Nat.le_refl _) (Nat.le_refl _) (Nat.le_trans (Nat.sub_le _ _) hc1) (Nat.le_trans (Nat.sub_le _ _) hc2) ?_
  · rw [Nat.sub_self] at k
    exact k
  · simp only [List.mem_cons, List.not_mem_nil, or_false] at hv
    rcases hv with rfl | rfl | rfl | rfl <;> exact True.intro
  · intro pc' ins lsA' ls2 st' H' locs' hdg hend hSF
    have hst := end_sub hend
    have hm : (mtd nlaw).2.2.1 = 2 := by decide +kernel
    rw [hm] at hend
    rw [← hst.1]
    clear hst hm
    unfold a_end at hend
    split at hend
    · rename_i h0; cases h0
    · split at hend
      · cases hend
        refine va_forget (fun q hq => hSF.2.2.1.2.2 q hq) ?_
        refine W.widen (k := 600000) (n := 7302249) (Nat.le_trans (Nat.sub_le _ _) hc1) (Nat.le_trans (Nat.sub_le _ _) hc2) ?_
        exact lw_ret hx hb hr hlocks hdg
      · cases hend
    · rename_i h0; cases h0
    · rename_i h0; cases h0
    · rename_i h0; cases h0
    · cases hend
end
section
theorem rok_app {j : Nat} {a c : List ACe} (h1 : ∀ r ∈ a, rok j r) (h2 : ∀ r ∈ c, rok j r) : ∀ r ∈ a ++ c, rok j r := fun r hr => (List.mem_append.mp hr).elim (h1 r) (h2 r)
set_option maxRecDepth 100000 in
theorem kr_0 : rchk 0 kc_0 [[], [(1, 37), (1, 23), (1, 24)], [], [], [(1, 55)], [(1, 38)], []] = true := by decide +kernel
theorem ko_0 : ∀ r ∈ kc_0, rok 0 r := rchk_ok kr_0
set_option maxRecDepth 100000 in
theorem kr_1 : rchk 1 kc_1 [[], [], [], []] = true := by decide +kernel
theorem ko_1 : ∀ r ∈ kc_1, rok 1 r := rchk_ok kr_1
set_option maxRecDepth 100000 in
theorem kr_2 : rchk 2 kc_2 [[], [], [], []] = true := by decide +kernel
theorem ko_2 : ∀ r ∈ kc_2, rok 2 r := rchk_ok kr_2
set_option maxRecDepth 100000 in
theorem kr_3 : rchk 3 kc_3 [[], [(2, 74), (2, 75), (1, 12), (2, 76)], [], [(2, 74), (2, 75), (1, 12), (2, 76)], [], [(2, 68), (2, 69), (1, 12), (2, 70)], [], [], [], [(2, 74), (2, 75), (1, 12), (2, 76)], [], [(2, 74), (2, 75), (1, 12), (2, 76)], [], [(2, 68), (2, 69), (1, 12), (2, 70)], [], [], [], [], [], []] = true := by decide +kernel
theorem ko_3 : ∀ r ∈ kc_3, rok 3 r := rchk_ok kr_3
set_option maxRecDepth 100000 in
theorem kr_4 : rchk 4 kc_4 [[], [], [], [], [(1, 44)], [], [], [(1, 38)], [], [], [], [(2, 81), (2, 82), (1, 12), (2, 83)], [], [], [], [], [], [], []] = true := by decide +kernel
theorem ko_4 : ∀ r ∈ kc_4, rok 4 r := rchk_ok kr_4
set_option maxRecDepth 100000 in
theorem kr_5 : rchk 5 kc_5 [[(4, 73)], [], [], [], [(1, 44)], [], [], [], [], [], [], [], [(1, 44)], [], [(4, 73)], [], [], [], [(1, 38)], [], [], [], [], [], [], [], [], []] = true := by decide +kernel
theorem ko_5 : ∀ r ∈ kc_5, rok 5 r := rchk_ok kr_5
set_option maxRecDepth 100000 in
theorem kr_6 : rchk 6 kc_6 [[], [(1, 225), (1, 23), (1, 24)], []] = true := by decide +kernel
theorem ko_6 : ∀ r ∈ kc_6, rok 6 r := rchk_ok kr_6
set_option maxRecDepth 100000 in
theorem kr_7 : rchk 7 kc_7 [[], [], [], [(1, 226)], []] = true := by decide +kernel
theorem ko_7 : ∀ r ∈ kc_7, rok 7 r := rchk_ok kr_7
set_option maxRecDepth 100000 in
theorem kr_8 : rchk 8 kc_8 [[], [], [(1, 226)], [(3, 218)], [], [(3, 219)], [], [(3, 220)], [], [(1, 226)], [], [], [], [(1, 226)], [(3, 221)], [], [], [], [], [], [], [], []] = true := by decide +kernel
theorem ko_8 : ∀ r ∈ kc_8, rok 8 r := rchk_ok kr_8
set_option maxRecDepth 100000 in
theorem kr_9 : rchk 9 kc_9 [[], [(1, 62), (1, 23), (1, 24)], [], [], [(1, 55)], [(1, 63)], []] = true := by decide +kernel
theorem ko_9 : ∀ r ∈ kc_9, rok 9 r := rchk_ok kr_9
set_option maxRecDepth 100000 in
theorem kr_10 : rchk 10 kc_10 [[(4, 78)], [], [], [], [(1, 69)], [], [], [], [(4, 78)], [], [], [], [(1, 72)], [], [], [], [(4, 78)], [], [], [], [(1, 75)], [], [], [], [], [], [], [], [], [(4, 78)], [], [], [], [(1, 63)], [], [], [], [], [], [], [], [], []] = true := by decide +kernel
theorem ko_10 : ∀ r ∈ kc_10, rok 10 r := rchk_ok kr_10
set_option maxRecDepth 100000 in
theorem kr_11 : rchk 11 kc_11 [[], [(1, 30), (1, 23), (1, 24)], [], [], [(1, 31)], [(1, 87)], [], [], [], [], [], [], [(1, 87)], [], [(1, 31), (1, 33), (1, 3)], [], [(1, 34), (1, 35), (1, 3), (1, 36)], [], [], [], [], [], [(1, 56)], [(1, 90)], [], [], [], [], [], [], [(1, 90)], [], [(1, 56), (1, 58), (1, 4)], [], [(1, 59), (1, 60), (1, 4), (1, 61)], [], [], [], []] = true := by decide +kernel
theorem ko_11 : ∀ r ∈ kc_11, rok 11 r := rchk_ok kr_11
set_option maxRecDepth 100000 in
theorem kr_12 : rchk 12 kc_12 [[], [], [(1, 93)], [], [], [(1, 97)], []] = true := by decide +kernel
theorem ko_12 : ∀ r ∈ kc_12, rok 12 r := rchk_ok kr_12
set_option maxRecDepth 100000 in
theorem kr_13 : rchk 13 kc_13 [[], [], [], [], [], [], [], [], []] = true := by decide +kernel
theorem ko_13 : ∀ r ∈ kc_13, rok 13 r := rchk_ok kr_13
set_option maxRecDepth 100000 in
theorem kr_14 : rchk 14 kc_14 [[], [], [(1, 93)], [(2, 63), (1, 1), (2, 64)], []] = true := by decide +kernel
theorem ko_14 : ∀ r ∈ kc_14, rok 14 r := rchk_ok kr_14
set_option maxRecDepth 100000 in
theorem kr_15 : rchk 15 kc_15 [[], [], [(1, 97)], [(2, 63), (1, 1), (2, 64)], []] = true := by decide +kernel
theorem ko_15 : ∀ r ∈ kc_15, rok 15 r := rchk_ok kr_15
set_option maxRecDepth 100000 in
theorem kr_16 : rchk 16 kc_16 [[], [(1, 87)], [], [(1, 90)], [], [], [(1, 73)], [], []] = true := by decide +kernel
theorem ko_16 : ∀ r ∈ kc_16, rok 16 r := rchk_ok kr_16
set_option maxRecDepth 100000 in
theorem kr_17 : rchk 17 kc_17 [[], [(1, 93)], [], [], [], [], [], [(1, 87)], [], [(1, 93)], [], [], [(1, 48)], [], [], [(1, 93)], [], [], [(1, 93)], [], [(1, 93)], [], [], []] = true := by decide +kernel
theorem ko_17 : ∀ r ∈ kc_17, rok 17 r := rchk_ok kr_17
set_option maxRecDepth 100000 in
theorem kr_18 : rchk 18 kc_18 [[], [], [(2, 88), (2, 59), (2, 60), (1, 2), (2, 61)], [], [], [(1, 87)], [], [], [(1, 48)], [], [], [], [], [], [(1, 87)], [], [], [(1, 48)], [], [], [(1, 87)], [], [], [(1, 42)], [], [], [], [], [(1, 87)], [], [], [], [(1, 48)], [], [], [(1, 48)], [], [], [], [], [(1, 97)], [], [], [(1, 90)], [], [], [(1, 73)], [], [], [], [(1, 90)], [], [], [(1, 67)], [], [], [], [], [], [], []] = true := by decide +kernel
theorem ko_18 : ∀ r ∈ kc_18, rok 18 r := rchk_ok kr_18
set_option maxRecDepth 100000 in
theorem kr_19 : rchk 19 kc_19 [[], [], [(2, 88), (2, 59), (2, 60), (1, 2), (2, 61)], [], [], [], [(2, 88), (2, 59), (2, 60), (1, 2), (2, 61)], [], [], [(1, 97)], [], [], [], [], [], [(1, 90)], [], [(1, 97)], [], [], [], [], [(1, 70)], [], [], [(1, 73)], [], [], [(1, 77)], [], [(1, 87)], [], [], [(1, 42)], [], [], [(1, 67)], [], [], [(1, 87)], [], [], [(1, 48)], [(2, 98), (2, 100), (2, 99), (1, 13)], [], [], [(1, 97)], [], [], [(1, 97)], [], [(1, 97)], [], [], []] = true := by decide +kernel
theorem ko_19 : ∀ r ∈ kc_19, rok 19 r := rchk_ok kr_19
set_option maxRecDepth 100000 in
theorem kr_20 : rchk 20 kc_20 [[], [], [], [], [], [], [(1, 97)], [], [], [], [(1, 90)], [], [], [(1, 70)], [], [], [], [], [], [], [], [], [], [], []] = true := by decide +kernel
theorem ko_20 : ∀ r ∈ kc_20, rok 20 r := rchk_ok kr_20
set_option maxRecDepth 100000 in
theorem kr_21 : rchk 21 kc_21 [[], [], [], [], [], [], [(1, 97)], [], [], [], [(1, 90)], [], [], [(1, 73)], [], [], [], [], [], [], [], [], [], [], []] = true := by decide +kernel
theorem ko_21 : ∀ r ∈ kc_21, rok 21 r := rchk_ok kr_21
set_option maxRecDepth 100000 in
theorem kr_22 : rchk 22 kc_22 [[], [], [(1, 90)], [], [], [(1, 70)], [(2, 160), (2, 161), (2, 162), (1, 2), (2, 163)], [], [], [], [], [], [], [(1, 90)], [], [], [(1, 73)], [(2, 164), (2, 165), (2, 166), (1, 2), (2, 167)], [], [], [], [], [], []] = true := by decide +kernel
theorem ko_22 : ∀ r ∈ kc_22, rok 22 r := rchk_ok kr_22
set_option maxRecDepth 100000 in
theorem kr_23 : rchk 23 kc_23 [[], [(1, 147), (1, 23), (1, 24)], [], [], [(1, 55)], [(1, 148)], [], [], [(1, 148)], [(1, 150)], []] = true := by decide +kernel
theorem ko_23 : ∀ r ∈ kc_23, rok 23 r := rchk_ok kr_23
set_option maxRecDepth 100000 in
theorem kr_24 : rchk 24 kc_24 [[], [], [(1, 39)], [(1, 148)], [], [], [(1, 64)], [(1, 150)], [], [], [(1, 45)], [(1, 152)], []] = true := by decide +kernel
theorem ko_24 : ∀ r ∈ kc_24, rok 24 r := rchk_ok kr_24
set_option maxRecDepth 100000 in
theorem kr_25 : rchk 25 kc_25 [[], [(1, 150)], [], [], [], [], [], [], []] = true := by decide +kernel
theorem ko_25 : ∀ r ∈ kc_25, rok 25 r := rchk_ok kr_25
set_option maxRecDepth 100000 in
theorem kr_26 : rchk 26 kc_26 [[], [(1, 150)], [], [], [], [], [(1, 150)], [], [], [], [(1, 148)], [], [], [], [], [], [], []] = true := by decide +kernel
theorem ko_26 : ∀ r ∈ kc_26, rok 26 r := rchk_ok kr_26
set_option maxRecDepth 100000 in
theorem kr_27 : rchk 27 kc_27 [[], [], [], [], [], [], [(1, 152)], [], [], [(1, 150)], [], [], [], [(1, 148)], [], [], [], [], [], [], [], [], [], [(1, 148)], [], [], [], [], [(1, 150)], [], [], []] = true := by decide +kernel
theorem ko_27 : ∀ r ∈ kc_27, rok 27 r := rchk_ok kr_27
set_option maxRecDepth 100000 in
theorem kr_28 : rchk 28 kc_28 [[], [], [], [], [], [(2, 155), (2, 82), (1, 12), (2, 83)], [], [], [], [], []] = true := by decide +kernel
theorem ko_28 : ∀ r ∈ kc_28, rok 28 r := rchk_ok kr_28
set_option maxRecDepth 100000 in
theorem kr_29 : rchk 29 kc_29 [[], [], [], [], [], [], [], [], [], [], [], [], [(2, 148), (2, 150), (0, 2), (1, 7), (2, 151)], [], [], [], [(2, 148), (2, 150), (0, 2), (1, 7), (2, 151)], [], [], [], [], [], [], [], [(2, 152), (2, 153), (1, 12), (2, 154)], [], [], [], [], [], [], [], [], []] = true := by decide +kernel
theorem ko_29 : ∀ r ∈ kc_29, rok 29 r := rchk_ok kr_29
set_option maxRecDepth 100000 in
theorem kr_30 : rchk 30 kc_30 [[], [], [], [], [(1, 152)], [], [], [(1, 148)], [], [], [], [(3, 181), (2, 82), (1, 12), (2, 83)], [], [], [], [], [(1, 150)], [], [], [], [], [(1, 150)], [], [], [], [(3, 181), (2, 82), (1, 12), (2, 83)], [], [], [], [], [], [], []] = true := by decide +kernel
theorem ko_30 : ∀ r ∈ kc_30, rok 30 r := rchk_ok kr_30
set_option maxRecDepth 100000 in
theorem kr_31 : rchk 31 kc_31 [[], [], [], [], [(1, 152)], [], [], [(1, 148)], [], [], [], [], [], [], [(3, 139), (3, 36), (3, 37), (1, 7), (3, 38)], [], [], [], [], [], [], []] = true := by decide +kernel
theorem ko_31 : ∀ r ∈ kc_31, rok 31 r := rchk_ok kr_31
set_option maxRecDepth 100000 in
theorem kr_32 : rchk 32 kc_32 [[], [], [], [], [], [], [(1, 152)], [], [], [], [], [(3, 139), (3, 36), (3, 37), (1, 7), (3, 38)], [], [], [(1, 150)], [], [], [], [], [], [], [], [], [], [], [], [], []] = true := by decide +kernel
theorem ko_32 : ∀ r ∈ kc_32, rok 32 r := rchk_ok kr_32
set_option maxRecDepth 100000 in
theorem kr_33 : rchk 33 kc_33 [[], [], [], [], [], [], [(1, 152)], [], [], [], [(1, 148)], [], [], [(3, 144), (3, 146), (0, 28), (1, 7), (3, 147)], [], [], [], [], [], [], [(1, 150)], [], [], [(3, 148), (3, 150), (0, 29), (1, 7), (3, 151)], [], [], [], [], [], [], [], [], [], [], [], [], [], []] = true := by decide +kernel
theorem ko_33 : ∀ r ∈ kc_33, rok 33 r := rchk_ok kr_33
set_option maxRecDepth 100000 in
theorem kr_34 : rchk 34 kc_34 [[], [], [], [], [], [], [(1, 152)], [], [], [], [], [(3, 139), (3, 36), (3, 37), (1, 7), (3, 38)], [], [], [], [(3, 140), (3, 142), (0, 27), (1, 7), (3, 143)], [], [], [], [], [], [], [], [], [], [], []] = true := by decide +kernel
theorem ko_34 : ∀ r ∈ kc_34, rok 34 r := rchk_ok kr_34
set_option maxRecDepth 100000 in
theorem kr_35 : rchk 35 kc_35 [[], [], [], [], [], [], [], [], [], [], [(3, 135), (3, 137), (0, 26), (1, 7), (3, 138)], [], [], [], [], [], [], [], []] = true := by decide +kernel
theorem ko_35 : ∀ r ∈ kc_35, rok 35 r := rchk_ok kr_35
set_option maxRecDepth 100000 in
theorem kr_36 : rchk 36 kc_36 [[], [], [], [], [], [], [(1, 152)], [], [], [], [(3, 139), (3, 36), (3, 37), (1, 7), (3, 38)], [], [], [], [], [(3, 140), (3, 142), (0, 27), (1, 7), (3, 143)], [(3, 156), (3, 157), (1, 15), (3, 158)], [], [], [], [], [], [], []] = true := by decide +kernel
theorem ko_36 : ∀ r ∈ kc_36, rok 36 r := rchk_ok kr_36
set_option maxRecDepth 100000 in
theorem kr_37 : rchk 37 kc_37 [[], [], [(3, 135), (3, 137), (0, 26), (1, 7), (3, 138)], []] = true := by decide +kernel
theorem ko_37 : ∀ r ∈ kc_37, rok 37 r := rchk_ok kr_37
set_option maxRecDepth 100000 in
theorem kr_38 : rchk 38 kc_38 [[], [(1, 212), (1, 23), (1, 24)], [], [], [(1, 55)], [(1, 213)], [], [], [(1, 55)], [(1, 214)], []] = true := by decide +kernel
theorem ko_38 : ∀ r ∈ kc_38, rok 38 r := rchk_ok kr_38
set_option maxRecDepth 100000 in
theorem kr_39 : rchk 39 kc_39 [[], [], [(3, 210), (3, 211), (3, 212), (1, 10), (3, 213)], [], [], [], [], [], [], [(1, 213)], [], [], [], [(3, 214), (3, 215), (3, 216), (1, 10), (3, 217)], [], [], [], []] = true := by decide +kernel
theorem ko_39 : ∀ r ∈ kc_39, rok 39 r := rchk_ok kr_39
set_option maxRecDepth 100000 in
theorem kr_40 : rchk 40 kc_40 [[], [(3, 231), (2, 69), (1, 12), (2, 70)], [], [], [], [], [], [], [], [(1, 213)], [], [(3, 232), (2, 75), (1, 12), (2, 76)], [], [], [], [], [(3, 232), (2, 75), (1, 12), (2, 76)], [], [], [], [], [], [], []] = true := by decide +kernel
theorem ko_40 : ∀ r ∈ kc_40, rok 40 r := rchk_ok kr_40
set_option maxRecDepth 100000 in
theorem kr_41 : rchk 41 kc_41 [[], [], [], [], [], [], [], [], [(3, 231), (2, 69), (1, 12), (2, 70)], [], [], [(1, 213)], [], [(3, 232), (2, 75), (1, 12), (2, 76)], [], [], [], [], [], [], [], [], [], [], [], [], []] = true := by decide +kernel
theorem ko_41 : ∀ r ∈ kc_41, rok 41 r := rchk_ok kr_41
set_option maxRecDepth 100000 in
theorem kr_42 : rchk 42 kc_42 [[], [(1, 213)], [], [], [(1, 214)], [], [], [(3, 226), (2, 100), (2, 99), (1, 13)], [], [], [(1, 214)], [], [], [(3, 233), (3, 235), (0, 34), (1, 9), (3, 236)], [], [], [(1, 214)], [], [], [(3, 233), (3, 235), (0, 34), (1, 9), (3, 236)], []] = true := by decide +kernel
theorem ko_42 : ∀ r ∈ kc_42, rok 42 r := rchk_ok kr_42
set_option maxRecDepth 100000 in
theorem kr_43 : rchk 43 kc_43 [[], [(1, 213)], [], [], [(1, 214)], [], [], [(3, 226), (2, 100), (2, 99), (1, 13)], [], [], [], [], [(1, 47)], [], [], [(1, 65)], [], [], [], [], [], [(1, 65)], [], [], [], [(1, 40)], [], [], [(3, 227), (3, 229), (0, 33), (1, 9), (3, 230)], [], [], [], [(1, 214)], [], [(1, 65)], [], [], [], [(1, 40)], [], [], [(3, 233), (3, 235), (0, 34), (1, 9), (3, 236)], [], [], []] = true := by decide +kernel
theorem ko_43 : ∀ r ∈ kc_43, rok 43 r := rchk_ok kr_43
set_option maxRecDepth 100000 in
theorem kr_44 : rchk 44 kc_44 [[], [], [], [], [(1, 177)], [], [], [(1, 168)], [], [], [], [], [], [], [(1, 174)], [], [], [], [(1, 171)], [], [], [(3, 227), (3, 229), (0, 33), (1, 9), (3, 230)], [], [], [(1, 168)], [], [], [], [], [], [], [(1, 171)], [], [], [], [(1, 174)], [], [], [(4, 1), (4, 3), (0, 35), (1, 9), (4, 4)], [], [], [], [(1, 213)], [], [(1, 174)], [], [], [], [(1, 171)], [], [], [(3, 233), (3, 235), (0, 34), (1, 9), (3, 236)], [], [], []] = true := by decide +kernel
theorem ko_44 : ∀ r ∈ kc_44, rok 44 r := rchk_ok kr_44
set_option maxRecDepth 100000 in
theorem kr_45 : rchk 45 kc_45 [[], [], [], [], [], [], [], [(4, 9)], [], [], [], [(1, 213)], [], [], [], [], [], [], [], [], []] = true := by decide +kernel
theorem ko_45 : ∀ r ∈ kc_45, rok 45 r := rchk_ok kr_45
set_option maxRecDepth 100000 in
theorem kr_46 : rchk 46 kc_46 [[], [(1, 166), (1, 23), (1, 24)], [], [], [(1, 55)], [(1, 167)], [], [], [(1, 55)], [(1, 170)], [], [], [(1, 55)], [(1, 173)], [], [], [(1, 55)], [(1, 180)], [], [], [(1, 55)], [(1, 182)], [], [], [(1, 206)], [(1, 183)], []] = true := by decide +kernel
theorem ko_46 : ∀ r ∈ kc_46, rok 46 r := rchk_ok kr_46
set_option maxRecDepth 100000 in
theorem kr_47 : rchk 47 kc_47 [[], [], [(1, 149)], [(1, 180)], [], [], [(1, 153)], [(1, 181)], [], [], [(1, 184)], [], [], [], [], [(1, 181)], [], [], [(1, 182)], [], [], [(1, 151)], [], [], [], [], [(1, 183)], [], [], [], [(3, 35), (3, 36), (3, 37), (1, 7), (3, 38)], [], [], [], [(1, 184)], [], [(1, 183)], [], [], [], [], [], [], [], [(1, 184)], [], [], []] = true := by decide +kernel
theorem ko_47 : ∀ r ∈ kc_47, rok 47 r := rchk_ok kr_47
set_option maxRecDepth 100000 in
theorem kr_48 : rchk 48 kc_48 [[], [], [], [], [(1, 181)], [], [], [(1, 183)], [], [], [], [], [(1, 182)], [], [], [], [], [], [], [], [], [], []] = true := by decide +kernel
theorem ko_48 : ∀ r ∈ kc_48, rok 48 r := rchk_ok kr_48
set_option maxRecDepth 100000 in
theorem kr_49 : rchk 49 kc_49 [[], [], [], [], [], [], [(1, 181)], [], [], [(1, 183)], [], [], [], [], [], [], [], [(1, 180)], [], [], [(3, 43), (3, 45), (0, 15), (1, 8), (3, 46)], [], [], [], [], [], [], [], [], [], [], [(1, 180)], [], [], [], [(1, 180)], [], [], [], [], [], [], [], [], []] = true := by decide +kernel
theorem ko_49 : ∀ r ∈ kc_49, rok 49 r := rchk_ok kr_49
set_option maxRecDepth 100000 in
theorem kr_50 : rchk 50 kc_50 [[], [(1, 176)], [], [], [], [(1, 167)], [], [(1, 176)], [], [], [], [(1, 170)], [], [(1, 176)], [], [], [], [(1, 173)], [], [(1, 176)], [], [], [], [], [(1, 176)], [], [], [(1, 176)], []] = true := by decide +kernel
theorem ko_50 : ∀ r ∈ kc_50, rok 50 r := rchk_ok kr_50
set_option maxRecDepth 100000 in
theorem kr_51 : rchk 51 kc_51 [[], [(1, 183)], [], [], [], [], [], [(1, 184)], [], [], [(1, 184)], []] = true := by decide +kernel
theorem ko_51 : ∀ r ∈ kc_51, rok 51 r := rchk_ok kr_51
set_option maxRecDepth 100000 in
theorem kr_52 : rchk 52 kc_52 [[], [], [], [], [(1, 181)], [], [], [(1, 182)], [], [], [(1, 182)], [], [], [], [], [], [], [], [(1, 182)], [], [], [], [], [], []] = true := by decide +kernel
theorem ko_52 : ∀ r ∈ kc_52, rok 52 r := rchk_ok kr_52
set_option maxRecDepth 100000 in
theorem kr_53 : rchk 53 kc_53 [[], [(1, 182)], [], [], [], [], [], [], [(1, 180)], [], [], [], [(3, 51), (3, 53), (0, 17), (1, 8), (3, 54)], [], [], [(3, 55), (3, 57), (0, 18), (1, 8), (3, 58)], [], [], [], [(1, 180)], [], [], [(3, 59), (3, 61), (0, 19), (1, 8), (3, 62)], []] = true := by decide +kernel
theorem ko_53 : ∀ r ∈ kc_53, rok 53 r := rchk_ok kr_53
set_option maxRecDepth 100000 in
theorem kr_54 : rchk 54 kc_54 [[], [], [], [], [(1, 181)], [], [], [(1, 183)], [], [], [], [], [(1, 180)], [], [], [], [], [], [], [], [], [], []] = true := by decide +kernel
theorem ko_54 : ∀ r ∈ kc_54, rok 54 r := rchk_ok kr_54
set_option maxRecDepth 100000 in
theorem kr_55 : rchk 55 kc_55 [[], [], [(1, 182)], [], [], [(3, 71), (3, 73), (0, 22), (1, 8), (3, 74)], [], [], [], [], [], [], [], [], [], [], [], [], [], [(1, 182)], [], [], [(3, 71), (3, 73), (0, 22), (1, 8), (3, 74)], [], [], [], [], []] = true := by decide +kernel
theorem ko_55 : ∀ r ∈ kc_55, rok 55 r := rchk_ok kr_55
set_option maxRecDepth 100000 in
theorem kr_56 : rchk 56 kc_56 [[], [], [], [], [], [], [], [], [], [], [], [], [], [], [], []] = true := by decide +kernel
theorem ko_56 : ∀ r ∈ kc_56, rok 56 r := rchk_ok kr_56
set_option maxRecDepth 100000 in
theorem kr_57 : rchk 57 kc_57 [[], [], [], [], [], [], [], [], [], [], [], []] = true := by decide +kernel
theorem ko_57 : ∀ r ∈ kc_57, rok 57 r := rchk_ok kr_57
set_option maxRecDepth 100000 in
theorem kr_58 : rchk 58 kc_58 [[], [], [(3, 79), (3, 80), (1, 14), (3, 81)], [], [], [], [], [], [], [], [], [], [], [], [], [], [(3, 82), (3, 83), (1, 14), (3, 84)], [], [], [], [], [], []] = true := by decide +kernel
theorem ko_58 : ∀ r ∈ kc_58, rok 58 r := rchk_ok kr_58
set_option maxRecDepth 100000 in
theorem kr_59 : rchk 59 kc_59 [[], [], [], [], [], [], [], [], [], [], [], [], [(1, 180)], [], [], [], [(1, 182)], [], [], [(3, 51), (3, 53), (0, 17), (1, 8), (3, 54)], [], [], [(1, 182)], [], [], [(3, 71), (3, 73), (0, 22), (1, 8), (3, 74)], [], [], [], [(3, 55), (3, 57), (0, 18), (1, 8), (3, 58)], [], [], [], [], [], [], [], [], [(3, 55), (3, 57), (0, 18), (1, 8), (3, 58)], []] = true := by decide +kernel
theorem ko_59 : ∀ r ∈ kc_59, rok 59 r := rchk_ok kr_59
set_option maxRecDepth 100000 in
theorem kr_60 : rchk 60 kc_60 [[], [], [], [], [], []] = true := by decide +kernel
theorem ko_60 : ∀ r ∈ kc_60, rok 60 r := rchk_ok kr_60
set_option maxRecDepth 100000 in
theorem kr_61 : rchk 61 kc_61 [[], [], [], [], [], [(3, 67), (3, 69), (0, 21), (1, 8), (3, 70)], [], [], [(1, 180)], [], [], [(3, 75), (2, 69), (1, 12), (2, 70)], [], [], [(1, 179)], [], [], [(3, 76), (3, 77), (1, 14), (3, 78)], [], [], [], [], [(3, 85), (3, 87), (0, 23), (1, 8), (3, 88)], [], [], [], [(3, 89), (3, 90), (1, 12), (3, 91)], [], [], [], [], [], [(1, 180)], [], [], [(3, 51), (3, 53), (0, 17), (1, 8), (3, 54)], [], [], [(1, 180)], [], [], [], [(3, 59), (3, 61), (0, 19), (1, 8), (3, 62)], []] = true := by decide +kernel
theorem ko_61 : ∀ r ∈ kc_61, rok 61 r := rchk_ok kr_61
set_option maxRecDepth 100000 in
theorem kr_62 : rchk 62 kc_62 [[], [], [], [], [], [], [(1, 181)], [], [], [], [(3, 100), (3, 101), (3, 102), (1, 7), (3, 103)], [], [], [(1, 180)], [], [], [], [], [], [], [], [], [], [], [], [], [], [(1, 180)], [], [], [], [(1, 180)], [], [], [], [], [], [], [], [], []] = true := by decide +kernel
theorem ko_62 : ∀ r ∈ kc_62, rok 62 r := rchk_ok kr_62
set_option maxRecDepth 100000 in
theorem kr_63 : rchk 63 kc_63 [[], [], [], [], [], [], [(1, 181)], [], [], [], [], [(3, 96), (3, 98), (0, 25), (1, 8), (3, 99)], [], [], [], [], [(1, 180)], [], [], [], [], [], [], [], [(1, 151)], [], [], [(3, 51), (3, 53), (0, 17), (1, 8), (3, 54)], [], [], []] = true := by decide +kernel
theorem ko_63 : ∀ r ∈ kc_63, rok 63 r := rchk_ok kr_63
set_option maxRecDepth 100000 in
theorem kr_64 : rchk 64 kc_64 [[], [], [(1, 176)], [], [], [(1, 179)], [], [], [(3, 31), (3, 33), (0, 13), (1, 8), (3, 34)], [], [], [], [], [], [], [(1, 184)], [], [], [], [(3, 39), (3, 41), (0, 14), (1, 8), (3, 42)], [], [], [], [], [], [(3, 47), (3, 49), (0, 16), (1, 8), (3, 50)], [], [], [], [], [(3, 39), (3, 41), (0, 14), (1, 8), (3, 42)], [(3, 63), (3, 65), (0, 20), (1, 8), (3, 66)], [], [], [], [], [(3, 92), (3, 94), (0, 24), (1, 8), (3, 95)], []] = true := by decide +kernel
theorem ko_64 : ∀ r ∈ kc_64, rok 64 r := rchk_ok kr_64
set_option maxRecDepth 100000 in
theorem kr_65 : rchk 65 kc_65 [[], [], [], [], [], [], [(1, 176)], [], [], [], [(1, 167)], [], [], [], [], [], [], [], [], [], [], [], [], []] = true := by decide +kernel
theorem ko_65 : ∀ r ∈ kc_65, rok 65 r := rchk_ok kr_65
set_option maxRecDepth 100000 in
theorem kr_66 : rchk 66 kc_66 [[], [], [], [], [], [], [(1, 176)], [], [], [], [(1, 170)], [], [], [(3, 112), (2, 75), (1, 12), (2, 76)], [], [], [], [], [], [], [], [], [], [], []] = true := by decide +kernel
theorem ko_66 : ∀ r ∈ kc_66, rok 66 r := rchk_ok kr_66
set_option maxRecDepth 100000 in
theorem kr_67 : rchk 67 kc_67 [[], [], [], [], [], [], [(1, 176)], [], [], [(1, 170)], [], [], [(3, 75), (2, 69), (1, 12), (2, 70)], [], [], [], [(1, 167)], [], [], [], [], [], [(1, 179)], [], [(3, 125), (3, 80), (1, 14), (3, 81)], [], [], [(1, 179)], [], [(3, 126), (3, 83), (1, 14), (3, 84)], [], [], [], [], [], []] = true := by decide +kernel
theorem ko_67 : ∀ r ∈ kc_67, rok 67 r := rchk_ok kr_67
set_option maxRecDepth 100000 in
theorem kr_68 : rchk 68 kc_68 [[], [(1, 167)], [], [], [], [(1, 167)], [], [], [], [], [(1, 170)], [], [], [], [(1, 170)], [], [], [], [], [(1, 173)], [], [], [], [(1, 173)], [], [], [], [], [], [], []] = true := by decide +kernel
theorem ko_68 : ∀ r ∈ kc_68, rok 68 r := rchk_ok kr_68
set_option maxRecDepth 100000 in
theorem kr_69 : rchk 69 kc_69 [[], [], [], [], [(1, 176)], [], [], [], [(1, 176)], [], [], [], [(1, 176)], [], [], [], [], [], [], [(1, 176)], [], [], [], [], [(3, 194), (3, 196), (0, 32), (1, 8), (3, 197)], [], [], [], [], []] = true := by decide +kernel
theorem ko_69 : ∀ r ∈ kc_69, rok 69 r := rchk_ok kr_69
set_option maxRecDepth 100000 in
theorem kr_70 : rchk 70 kc_70 [[], [(1, 128), (1, 23), (1, 24)], [], [], [(1, 129)], []] = true := by decide +kernel
theorem ko_70 : ∀ r ∈ kc_70, rok 70 r := rchk_ok kr_70
set_option maxRecDepth 100000 in
theorem kr_71 : rchk 71 kc_71 [[], [], [], [], [(1, 115)], [], [], [(1, 114)], [], [], [], [], []] = true := by decide +kernel
theorem ko_71 : ∀ r ∈ kc_71, rok 71 r := rchk_ok kr_71
set_option maxRecDepth 100000 in
theorem kr_72 : rchk 72 kc_72 [[], [(1, 131)], [], [(1, 129)], [(1, 116)], [], [], [(1, 129)], [], [(1, 131)], [(2, 207), (2, 208), (2, 209), (1, 5), (2, 210)], [], [], [], [], [(1, 131)], [], [], [(1, 131)], [], [], [(1, 129)], [], [(1, 131)], [(2, 207), (2, 208), (2, 209), (1, 5), (2, 210)], []] = true := by decide +kernel
theorem ko_72 : ∀ r ∈ kc_72, rok 72 r := rchk_ok kr_72
set_option maxRecDepth 100000 in
theorem kr_73 : rchk 73 kc_73 [[], [], [(1, 132)], [], []] = true := by decide +kernel
theorem ko_73 : ∀ r ∈ kc_73, rok 73 r := rchk_ok kr_73
set_option maxRecDepth 100000 in
theorem kr_74 : rchk 74 kc_74 [[], [], [], [], [], [], [], [], [], []] = true := by decide +kernel
theorem ko_74 : ∀ r ∈ kc_74, rok 74 r := rchk_ok kr_74
set_option maxRecDepth 100000 in
theorem kr_75 : rchk 75 kc_75 [[], [], [], [], [], [(1, 131)], [], [(1, 129)], [(1, 116)], [], [], [(1, 129)], [], [(1, 131)], [(2, 207), (2, 208), (2, 209), (1, 5), (2, 210)], [(2, 221), (2, 222), (1, 6), (2, 223)], [], [], [], [], [], [], [], [], [], [], [], [(1, 129)], [], [(1, 131)], [(2, 207), (2, 208), (2, 209), (1, 5), (2, 210)], [], [], [], [], [], [], [(1, 131)], [], [], [(1, 131)], [], [], []] = true := by decide +kernel
theorem ko_75 : ∀ r ∈ kc_75, rok 75 r := rchk_ok kr_75
set_option maxRecDepth 100000 in
theorem kr_76 : rchk 76 kc_76 [[], [], [], [], [], [], [], [], [], [], [], [], []] = true := by decide +kernel
theorem ko_76 : ∀ r ∈ kc_76, rok 76 r := rchk_ok kr_76
set_option maxRecDepth 100000 in
theorem kr_77 : rchk 77 kc_77 [[], [], [], [(2, 68), (2, 69), (1, 12), (2, 70)], [(2, 71), (2, 72), (1, 12), (2, 73)], [], [], [], [], [(2, 74), (2, 75), (1, 12), (2, 76)], [], [], [(2, 68), (2, 69), (1, 12), (2, 70)], [], [], [], [], [], [], [], [], [], [], [], [], [], []] = true := by decide +kernel
theorem ko_77 : ∀ r ∈ kc_77, rok 77 r := rchk_ok kr_77
set_option maxRecDepth 100000 in
theorem kr_78 : rchk 78 kc_78 [[], [(2, 203), (2, 205), (0, 3), (1, 6), (2, 206)], [], [], [], [], [(1, 131)], [(2, 217), (2, 219), (0, 5), (1, 6), (2, 220)], [], [], [], [(1, 131)], [], [], [(1, 131)], [], []] = true := by decide +kernel
theorem ko_78 : ∀ r ∈ kc_78, rok 78 r := rchk_ok kr_78
set_option maxRecDepth 100000 in
theorem kr_79 : rchk 79 kc_79 [[], [(1, 130)], [(2, 215), (2, 51), (2, 52), (1, 2), (2, 53)], [], [], [(1, 130)], [], [(2, 216), (2, 59), (2, 60), (1, 2), (2, 61)], [], [], [], [(1, 131)], [(2, 217), (2, 219), (0, 5), (1, 6), (2, 220)], [], [], [], [(1, 131)], [], [], [(1, 131)], [], [], [], [], [], [], [(2, 203), (2, 205), (0, 3), (1, 6), (2, 206)], [(2, 221), (2, 222), (1, 6), (2, 223)], [], [], [(1, 131)], [], [], [(2, 224), (2, 226), (0, 6), (1, 6), (2, 227)], [], [], [(2, 228), (2, 66), (1, 12), (2, 67)], [], [], [(1, 130)], [(1, 89)], [], [], [], [(2, 229), (2, 78), (2, 79), (1, 3), (2, 80)], [], [], [], [(2, 217), (2, 219), (0, 5), (1, 6), (2, 220)], [], [], [(1, 130)], [], [], [(2, 230), (2, 85), (2, 86), (1, 2), (2, 87)], [], [], [], [], [(2, 231), (2, 233), (0, 7), (1, 6), (2, 234)], []] = true := by decide +kernel
theorem ko_79 : ∀ r ∈ kc_79, rok 79 r := rchk_ok kr_79
set_option maxRecDepth 100000 in
theorem kr_80 : rchk 80 kc_80 [[], [(2, 203), (2, 205), (0, 3), (1, 6), (2, 206)], [(2, 221), (2, 222), (1, 6), (2, 223)], [], [], [], [(1, 131)], [(2, 217), (2, 219), (0, 5), (1, 6), (2, 220)], [], [], [], [], [(1, 131)], [], [], [(2, 224), (2, 226), (0, 6), (1, 6), (2, 227)], [], [], [], [(2, 63), (1, 1), (2, 64)], [], [], [], [(2, 217), (2, 219), (0, 5), (1, 6), (2, 220)], [], [], [], [], []] = true := by decide +kernel
theorem ko_80 : ∀ r ∈ kc_80, rok 80 r := rchk_ok kr_80
set_option maxRecDepth 100000 in
theorem kr_81 : rchk 81 kc_81 [[], [], [], []] = true := by decide +kernel
theorem ko_81 : ∀ r ∈ kc_81, rok 81 r := rchk_ok kr_81
set_option maxRecDepth 100000 in
theorem kr_82 : rchk 82 kc_82 [[], [(2, 123), (2, 66), (1, 12), (2, 67)], [], [], [(2, 68), (2, 69), (1, 12), (2, 70)], [], [(2, 68), (2, 69), (1, 12), (2, 70)], [], [], [], [], []] = true := by decide +kernel
theorem ko_82 : ∀ r ∈ kc_82, rok 82 r := rchk_ok kr_82
set_option maxRecDepth 100000 in
theorem kr_83 : rchk 83 kc_83 [[], [], [], [], [(1, 49)], [], [], [(2, 203), (2, 205), (0, 3), (1, 6), (2, 206)], [], [], [(1, 131)], [], [], [], [], [], [], [(1, 131)], [], [], [(1, 131)], [], [(1, 129)], [], [(1, 131)], [(2, 207), (2, 208), (2, 209), (1, 5), (2, 210)], [(2, 221), (2, 222), (1, 6), (2, 223)], [], [], [], [(2, 217), (2, 219), (0, 5), (1, 6), (2, 220)], [], [], [(2, 224), (2, 226), (0, 6), (1, 6), (2, 227)], [], [], [], [(2, 63), (1, 1), (2, 64)], [], [], [], [(2, 217), (2, 219), (0, 5), (1, 6), (2, 220)], [], [], [(1, 68)], [], [], [(3, 11), (3, 12), (1, 12), (3, 13)], [], [], [], [(2, 221), (2, 222), (1, 6), (2, 223)], [], [], [(2, 224), (2, 226), (0, 6), (1, 6), (2, 227)], [], [], [], [], [], [(1, 43)], [], [], [(3, 14), (2, 121), (1, 12), (2, 122)], [], [], [], [(2, 217), (2, 219), (0, 5), (1, 6), (2, 220)], [], [], [(1, 68)], [], [], [], [], [], [], []] = true := by decide +kernel
theorem ko_83 : ∀ r ∈ kc_83, rok 83 r := rchk_ok kr_83
set_option maxRecDepth 100000 in
theorem kr_84_0 : rchk 84 kc_84_0 [[], [(1, 130)], [(1, 98)], [], [], [], [], [(1, 131)], [(2, 217), (2, 219), (0, 5), (1, 6), (2, 220)], [], [], [], [(1, 131)], [], [], [(1, 131)], [], [], [(1, 130)], [(1, 95)], [(2, 239), (3, 1), (0, 9), (1, 6), (3, 2)], [], [], [], [], [], [], [], [(1, 130)], [(1, 95)], [(2, 239), (3, 1), (0, 9), (1, 6), (3, 2)], [], [], [], [], [], [], [], [(2, 239), (3, 1), (0, 9), (1, 6), (3, 2)], [], [], [], [], [], [], [(1, 130)], [], [], [], [(3, 4), (2, 95), (2, 96), (1, 2), (2, 97)], [], [], [(1, 130)], [], [(3, 5), (2, 106), (2, 107), (1, 2), (2, 108)], [], [], [(1, 130)], [], [(3, 6), (2, 110), (2, 111), (1, 2), (2, 112)]] = true := by decide +kernel
set_option maxRecDepth 100000 in
theorem kr_84_1 : rchk 84 kc_84_1 [[(1, 49)], [], [], [(2, 203), (2, 205), (0, 3), (1, 6), (2, 206)], [], [], [], [], [(1, 131)], [], [], [(1, 131)], [], [], [(1, 130)], [], [(3, 6), (2, 110), (2, 111), (1, 2), (2, 112)], [], [(1, 130)], [(1, 92)], [], [], [(3, 7), (3, 9), (0, 10), (1, 6), (3, 10)], [], [], [], [], [(2, 231), (2, 233), (0, 7), (1, 6), (2, 234)], []] = true := by decide +kernel
theorem ko_84 : ∀ r ∈ kc_84, rok 84 r := rok_app (rchk_ok kr_84_0) (rchk_ok kr_84_1)
set_option maxRecDepth 100000 in
theorem kr_85 : rchk 85 kc_85 [[], [], [(1, 130)], [], [(1, 130)], [(2, 202), (2, 39), (2, 40), (1, 2), (2, 41)], [], [], [(1, 131)], [], [], [], [], [], [], [(2, 203), (2, 205), (0, 3), (1, 6), (2, 206)], [], [], [], [], [], [], [], [], [], [], [], [(2, 211), (2, 213), (0, 4), (1, 6), (2, 214)], [], [], [], [], [], [(2, 235), (2, 237), (0, 8), (1, 6), (2, 238)], [], [], [], [(1, 131)], [(2, 217), (2, 219), (0, 5), (1, 6), (2, 220)], [], [], [], [], [], [], [], [], [(1, 132)], [], []] = true := by decide +kernel
theorem ko_85 : ∀ r ∈ kc_85, rok 85 r := rchk_ok kr_85
set_option maxRecDepth 100000 in
theorem kr_86 : rchk 86 kc_86 [[], [], [], [], [(2, 63), (1, 1), (2, 64)], []] = true := by decide +kernel
theorem ko_86 : ∀ r ∈ kc_86, rok 86 r := rchk_ok kr_86
set_option maxRecDepth 100000 in
theorem kr_87 : rchk 87 kc_87 [[], [(2, 116), (2, 117), (1, 12), (2, 118)], [], [], [], [(2, 120), (2, 121), (1, 12), (2, 122)], [], [], [], [], []] = true := by decide +kernel
theorem ko_87 : ∀ r ∈ kc_87, rok 87 r := rchk_ok kr_87
set_option maxRecDepth 100000 in
theorem kr_88 : rchk 88 kc_88 [[], [(1, 113), (1, 23), (1, 24)], [], [], [(1, 55)], [(1, 114)], []] = true := by decide +kernel
theorem ko_88 : ∀ r ∈ kc_88, rok 88 r := rchk_ok kr_88
set_option maxRecDepth 100000 in
theorem kr_89 : rchk 89 kc_89 [[], [(1, 115)], [], [], [], [(1, 114)], [], [(1, 115)], [], [], [], [], [(1, 115)], [], [], [(1, 115)], []] = true := by decide +kernel
theorem ko_89 : ∀ r ∈ kc_89, rok 89 r := rchk_ok kr_89
set_option maxRecDepth 100000 in
theorem kr_90 : rchk 90 kc_90 [[], [(1, 22), (1, 23), (1, 24)], [], [(1, 25), (1, 26), (1, 2)], [], [(1, 27), (1, 28), (1, 2), (1, 29)], [(1, 231)], [], [(1, 25), (1, 26), (1, 2)], [], [(1, 27), (1, 28), (1, 2), (1, 29)], [(1, 232)], [], [(1, 108), (1, 109), (1, 5)], [], [(1, 110), (1, 111), (1, 5), (1, 112)], [(1, 233)], [], [(1, 123), (1, 124), (1, 6)], [], [], [(1, 233)], [(1, 125), (1, 126), (1, 6), (1, 127)], [(1, 234)], [], [(1, 142), (1, 143), (1, 7)], [], [(1, 144), (1, 145), (1, 7), (1, 146)], [(1, 235)], [], [(1, 161), (1, 162), (1, 8)], [], [(1, 163), (1, 164), (1, 8), (1, 165)], [(1, 236)], [], [(1, 161), (1, 162), (1, 8)], [], [(1, 163), (1, 164), (1, 8), (1, 165)], [(1, 237)], [], [(1, 207), (1, 208), (1, 9)], [], [(1, 209), (1, 210), (1, 9), (1, 211)], [(1, 238)], [], [(1, 220), (1, 221), (1, 10)], [], [(1, 223), (1, 10), (1, 224)], [(1, 239)], [], [], [(1, 55)], [(2, 0)], []] = true := by decide +kernel
theorem ko_90 : ∀ r ∈ kc_90, rok 90 r := rchk_ok kr_90
set_option maxRecDepth 100000 in
theorem kr_91 : rchk 91 kc_91 [[], [(1, 231)], [(1, 96)], [], [], [(1, 231)], [(2, 38), (2, 39), (2, 40), (1, 2), (2, 41)], [], []] = true := by decide +kernel
theorem ko_91 : ∀ r ∈ kc_91, rok 91 r := rchk_ok kr_91
set_option maxRecDepth 100000 in
theorem kr_92 : rchk 92 kc_92 [[], [], [], [], [], [(2, 2)], [], [], [(2, 2)], [], [], [], [], [], [], [(2, 3)], [], [], [(2, 3)], [], [], [], [(2, 4)], [], [], [(2, 4)], [], []] = true := by decide +kernel
theorem ko_92 : ∀ r ∈ kc_92, rok 92 r := rchk_ok kr_92
set_option maxRecDepth 100000 in
theorem kr_93 : rchk 93 kc_93 [[], [(1, 231)], [(1, 94)], [], [], [], [], [(2, 46), (2, 48), (0, 0), (1, 1), (2, 49)], [], [], [(1, 231)], [(2, 50), (2, 51), (2, 52), (1, 2), (2, 53)], []] = true := by decide +kernel
theorem ko_93 : ∀ r ∈ kc_93, rok 93 r := rchk_ok kr_93
set_option maxRecDepth 100000 in
theorem kr_94 : rchk 94 kc_94 [[], [(1, 231)], [], [(2, 58), (2, 59), (2, 60), (1, 2), (2, 61)], [], [], [(2, 65), (2, 66), (1, 12), (2, 67)], [], [], [], [(2, 46), (2, 48), (0, 0), (1, 1), (2, 49)], [], [], [(1, 231)], [(1, 88)], [], [], [], [(2, 77), (2, 78), (2, 79), (1, 3), (2, 80)], [], [], [], [(2, 46), (2, 48), (0, 0), (1, 1), (2, 49)], [], [], [(1, 231)], [(1, 88)], [], [], [(1, 46)], [], [], [], [], [(2, 46), (2, 48), (0, 0), (1, 1), (2, 49)], [], [], [(1, 231)], [], [], [(2, 84), (2, 85), (2, 86), (1, 2), (2, 87)], []] = true := by decide +kernel
theorem ko_94 : ∀ r ∈ kc_94, rok 94 r := rchk_ok kr_94
set_option maxRecDepth 100000 in
theorem kr_95 : rchk 95 kc_95 [[], [(1, 231)], [], [(2, 58), (2, 59), (2, 60), (1, 2), (2, 61)], [], [], [(1, 231)], [], [(2, 58), (2, 59), (2, 60), (1, 2), (2, 61)], [], [], [], [(2, 93), (2, 63), (1, 1), (2, 64)], [], [], [], [(2, 46), (2, 48), (0, 0), (1, 1), (2, 49)], [], [], [(1, 231)], [(1, 96)], [], [], [], [], [(2, 46), (2, 48), (0, 0), (1, 1), (2, 49)], [], [], [(1, 231)], [], [], [], [(2, 94), (2, 95), (2, 96), (1, 2), (2, 97)], []] = true := by decide +kernel
theorem ko_95 : ∀ r ∈ kc_95, rok 95 r := rchk_ok kr_95
set_option maxRecDepth 100000 in
theorem kr_96 : rchk 96 kc_96 [[], [(1, 231)], [], [(2, 105), (2, 106), (2, 107), (1, 2), (2, 108)], [], [], [], [(1, 231)], [], [(2, 109), (2, 110), (2, 111), (1, 2), (2, 112)], [(1, 46)], [(2, 93), (2, 63), (1, 1), (2, 64)], [], [], [], [(2, 46), (2, 48), (0, 0), (1, 1), (2, 49)], [], [], [], [(1, 231)], [], [(2, 109), (2, 110), (2, 111), (1, 2), (2, 112)], [(1, 41)], [], [], [(2, 113), (2, 114), (1, 12), (2, 115)], [], [], [], [(2, 46), (2, 48), (0, 0), (1, 1), (2, 49)], [], [], [(1, 231)], [(1, 91)], [], [], [(1, 66)], [], [], [], [], [(1, 231)], [(1, 91)], [], [], [(1, 66)], [], [], [], [], []] = true := by decide +kernel
theorem ko_96 : ∀ r ∈ kc_96, rok 96 r := rchk_ok kr_96
set_option maxRecDepth 100000 in
theorem kr_97 : rchk 97 kc_97 [[], [(1, 231)], [], [(2, 105), (2, 106), (2, 107), (1, 2), (2, 108)], [], [], [], [(2, 93), (2, 63), (1, 1), (2, 64)], [], [], [], [(2, 46), (2, 48), (0, 0), (1, 1), (2, 49)], [], [], [(1, 231)], [(1, 91)], [], [], [(1, 76)], [], [], [(1, 231)], [(1, 91)], [], [], [], [(1, 76)], [], []] = true := by decide +kernel
theorem ko_97 : ∀ r ∈ kc_97, rok 97 r := rchk_ok kr_97
set_option maxRecDepth 100000 in
theorem kr_98 : rchk 98 kc_98 [[], [], [(2, 93), (2, 63), (1, 1), (2, 64)], [], [], [], [(2, 46), (2, 48), (0, 0), (1, 1), (2, 49)], [], [], [(2, 1)], [], [], [], [(2, 1)], [], []] = true := by decide +kernel
theorem ko_98 : ∀ r ∈ kc_98, rok 98 r := rchk_ok kr_98
set_option maxRecDepth 100000 in
theorem kr_99 : rchk 99 kc_99 [[], [(1, 235)], [], [(1, 231)], [], [(2, 109), (2, 110), (2, 111), (1, 2), (2, 112)], [], [(1, 231)], [(1, 91)], [], [], [(2, 140), (2, 141), (2, 142), (1, 7), (2, 143)], [], [(1, 235)], [(2, 144), (2, 145), (2, 146), (1, 7), (2, 147)], []] = true := by decide +kernel
theorem ko_99 : ∀ r ∈ kc_99, rok 99 r := rchk_ok kr_99
set_option maxRecDepth 100000 in
theorem kr_100 : rchk 100 kc_100 [[], [(1, 231)], [], [(2, 105), (2, 106), (2, 107), (1, 2), (2, 108)], [], [], [], [(2, 93), (2, 63), (1, 1), (2, 64)], [], [], [], [(2, 46), (2, 48), (0, 0), (1, 1), (2, 49)], [], [], [], [], [(1, 231)], [(1, 91)], [], [], [(1, 71)], [], [], [(1, 231)], [(1, 91)], [], [], [(1, 74)], [], [], [(1, 231)], [(1, 91)], [], [], [(1, 76)], [], [], [], [(2, 136), (2, 138), (0, 1), (1, 1), (2, 139)], [], [], [], [], [], [], [(1, 231)], [], [(2, 156), (2, 157), (2, 158), (1, 2), (2, 159)], []] = true := by decide +kernel
theorem ko_100 : ∀ r ∈ kc_100, rok 100 r := rchk_ok kr_100
set_option maxRecDepth 100000 in
theorem kr_101 : rchk 101 kc_101 [[], [(1, 231)], [], [(2, 58), (2, 59), (2, 60), (1, 2), (2, 61)], [], [], [], [(2, 93), (2, 63), (1, 1), (2, 64)], [], [], [], [(2, 46), (2, 48), (0, 0), (1, 1), (2, 49)], [], [], [], [], [(1, 231)], [(1, 88)], [], [], [(1, 46)], [], [], [(1, 231)], [], [(2, 172), (2, 161), (2, 162), (1, 2), (2, 163)], [], [], [(1, 231)], [], [(2, 173), (2, 165), (2, 166), (1, 2), (2, 167)], []] = true := by decide +kernel
theorem ko_101 : ∀ r ∈ kc_101, rok 101 r := rchk_ok kr_101
set_option maxRecDepth 100000 in
theorem kr_102 : rchk 102 kc_102 [[], [(1, 231)], [], [(2, 58), (2, 59), (2, 60), (1, 2), (2, 61)], [], [], [], [], [], [(2, 46), (2, 48), (0, 0), (1, 1), (2, 49)], [], [], [], [(1, 231)], [(1, 88)], [], [], [(1, 46)], [], [], [(1, 231)], [(1, 88)], [], [], [(1, 41)], [], [], [], [], []] = true := by decide +kernel
theorem ko_102 : ∀ r ∈ kc_102, rok 102 r := rchk_ok kr_102
set_option maxRecDepth 100000 in
theorem kr_103 : rchk 103 kc_103 [[], [(1, 231)], [], [(2, 105), (2, 106), (2, 107), (1, 2), (2, 108)], [], [], [], [], [], [(2, 46), (2, 48), (0, 0), (1, 1), (2, 49)], [], [], [], [(1, 231)], [], [(2, 109), (2, 110), (2, 111), (1, 2), (2, 112)], [(1, 46)], [], [], [(1, 231)], [(1, 91)], [], [], [(1, 66)], [], [], [], [], []] = true := by decide +kernel
theorem ko_103 : ∀ r ∈ kc_103, rok 103 r := rchk_ok kr_103
set_option maxRecDepth 100000 in
theorem kr_104 : rchk 104 kc_104 [[], [], [(2, 93), (2, 63), (1, 1), (2, 64)], [], [], [], [(2, 46), (2, 48), (0, 0), (1, 1), (2, 49)], [], [], [(1, 233)], [(1, 117)], [], [], [], [], [(2, 46), (2, 48), (0, 0), (1, 1), (2, 49)], [], [], [(1, 233)], [], [(2, 186), (2, 187), (2, 188), (1, 5), (2, 189)], [], [(1, 233)], [(1, 117)], []] = true := by decide +kernel
theorem ko_104 : ∀ r ∈ kc_104, rok 104 r := rchk_ok kr_104
set_option maxRecDepth 100000 in
theorem kr_105 : rchk 105 kc_105 [[], [(1, 233)], [(1, 117)], [], [], [(1, 233)], [], [(1, 117)], [], []] = true := by decide +kernel
theorem ko_105 : ∀ r ∈ kc_105, rok 105 r := rchk_ok kr_105
set_option maxRecDepth 100000 in
theorem kr_106 : rchk 106 kc_106 [[], [(1, 234)], [], [(1, 232)], [(2, 198), (2, 199), (2, 200), (1, 6), (2, 201)], [], [], [], [], [(1, 231)], [], [], [], [(1, 232)], [(1, 231)], [], [], [(1, 232)], [], []] = true := by decide +kernel
theorem ko_106 : ∀ r ∈ kc_106, rok 106 r := rchk_ok kr_106
set_option maxRecDepth 100000 in
theorem kr_107 : rchk 107 kc_107 [[], [(1, 231)], [], [(2, 105), (2, 106), (2, 107), (1, 2), (2, 108)], [], [], [], [], [], [], [], [(2, 136), (2, 138), (0, 1), (1, 1), (2, 139)], [], [], [], [], []] = true := by decide +kernel
theorem ko_107 : ∀ r ∈ kc_107, rok 107 r := rchk_ok kr_107
set_option maxRecDepth 100000 in
theorem kr_108 : rchk 108 kc_108 [[], [(1, 235)], [], [(1, 231)], [], [(2, 109), (2, 110), (2, 111), (1, 2), (2, 112)], [], [(1, 231)], [(1, 91)], [], [], [(2, 140), (2, 141), (2, 142), (1, 7), (2, 143)], [], [], [(1, 235)], [], [(2, 1)], [(3, 27), (3, 28), (3, 29), (1, 8), (3, 30)], []] = true := by decide +kernel
theorem ko_108 : ∀ r ∈ kc_108, rok 108 r := rchk_ok kr_108
set_option maxRecDepth 100000 in
theorem kr_109 : rchk 109 kc_109 [[], [], [], [], [(2, 93), (2, 63), (1, 1), (2, 64)], [(3, 19), (3, 21), (0, 11), (1, 1), (3, 22)], [], [], [], [], [], [(2, 46), (2, 48), (0, 0), (1, 1), (2, 49)], [], [], [], [(1, 236)], [], [(3, 23), (3, 25), (0, 12), (1, 1), (3, 26)], [], [], [], [(1, 236)], [(1, 178)], [], [], [(1, 236)], [], [(3, 104), (3, 105), (3, 106), (1, 8), (3, 107)], [], [], [(1, 236)], [], [(3, 104), (3, 105), (3, 106), (1, 8), (3, 107)], [], [], [(1, 236)], [], [(3, 104), (3, 105), (3, 106), (1, 8), (3, 107)], [], [], [(1, 236)], [(3, 108), (3, 109), (3, 110), (1, 8), (3, 111)], []] = true := by decide +kernel
theorem ko_109 : ∀ r ∈ kc_109, rok 109 r := rchk_ok kr_109
set_option maxRecDepth 100000 in
theorem kr_110 : rchk 110 kc_110 [[], [], [], [], [], [], [(2, 93), (2, 63), (1, 1), (2, 64)], [], [], [], [], [(3, 19), (3, 21), (0, 11), (1, 1), (3, 22)], [], [], [], [], [], [(2, 46), (2, 48), (0, 0), (1, 1), (2, 49)], [], [], [], [(1, 236)], [], [(3, 23), (3, 25), (0, 12), (1, 1), (3, 26)], [], [], [(1, 236)], [(1, 178)], [], [], [], [], [], [], [(1, 236)], [(1, 169)], [], [], [], [], [(1, 236)], [(1, 172)], [], [], [], [], [(1, 236)], [(1, 175)], [], [], []] = true := by decide +kernel
theorem ko_110 : ∀ r ∈ kc_110, rok 110 r := rchk_ok kr_110
set_option maxRecDepth 100000 in
theorem kr_111 : rchk 111 kc_111 [[], [], [], [(3, 19), (3, 21), (0, 11), (1, 1), (3, 22)], [], [], [], [], [], [(2, 46), (2, 48), (0, 0), (1, 1), (2, 49)], [], [], [], [(1, 236)], [], [(3, 23), (3, 25), (0, 12), (1, 1), (3, 26)], [], [(1, 236)], [(3, 121), (3, 122), (3, 123), (1, 8), (3, 124)], []] = true := by decide +kernel
theorem ko_111 : ∀ r ∈ kc_111, rok 111 r := rchk_ok kr_111
set_option maxRecDepth 100000 in
theorem kr_112 : rchk 112 kc_112 [[], [], [], [], [(2, 93), (2, 63), (1, 1), (2, 64)], [(3, 19), (3, 21), (0, 11), (1, 1), (3, 22)], [], [], [], [], [], [(2, 46), (2, 48), (0, 0), (1, 1), (2, 49)], [], [], [(1, 235)], [], [(1, 231)], [], [(2, 109), (2, 110), (2, 111), (1, 2), (2, 112)], [], [(1, 231)], [(1, 91)], [], [], [(2, 140), (2, 141), (2, 142), (1, 7), (2, 143)], [], [], [], [(1, 235)], [(3, 131), (3, 132), (3, 133), (1, 7), (3, 134)], [], [], [(1, 235)], [(3, 152), (3, 153), (3, 154), (1, 7), (3, 155)], [], [], [(1, 235)], [(3, 159), (3, 160), (3, 161), (1, 7), (3, 162)], []] = true := by decide +kernel
theorem ko_112 : ∀ r ∈ kc_112, rok 112 r := rchk_ok kr_112
set_option maxRecDepth 100000 in
theorem kr_113 : rchk 113 kc_113 [[], [(1, 235)], [], [(1, 231)], [], [(2, 109), (2, 110), (2, 111), (1, 2), (2, 112)], [], [(1, 231)], [(1, 91)], [], [], [(2, 140), (2, 141), (2, 142), (1, 7), (2, 143)], [], [(1, 236)], [], [(1, 235)], [], [(3, 27), (3, 28), (3, 29), (1, 8), (3, 30)], [], [(1, 236)], [(3, 121), (3, 122), (3, 123), (1, 8), (3, 124)], []] = true := by decide +kernel
theorem ko_113 : ∀ r ∈ kc_113, rok 113 r := rchk_ok kr_113
set_option maxRecDepth 100000 in
theorem kr_114 : rchk 114 kc_114 [[], [], [], [], [(2, 93), (2, 63), (1, 1), (2, 64)], [(3, 19), (3, 21), (0, 11), (1, 1), (3, 22)], [], [], [], [], [], [(2, 46), (2, 48), (0, 0), (1, 1), (2, 49)], [], [], [], [], [], [], [(3, 167), (3, 169), (0, 30), (1, 1), (3, 170)], [], [], [], [], [], [], [], [], [], [(3, 167), (3, 169), (0, 30), (1, 1), (3, 170)], [], [], [], [], [], [], [], [], [], [], [], [], [], [], [], []] = true := by decide +kernel
theorem ko_114 : ∀ r ∈ kc_114, rok 114 r := rchk_ok kr_114
set_option maxRecDepth 100000 in
theorem kr_115 : rchk 115 kc_115 [[], [(1, 231)], [], [(2, 105), (2, 106), (2, 107), (1, 2), (2, 108)], [], [], [(3, 175), (2, 72), (1, 12), (2, 73)], [], [], [], [(2, 46), (2, 48), (0, 0), (1, 1), (2, 49)], [], [], [(1, 235)], [], [(1, 231)], [], [(2, 109), (2, 110), (2, 111), (1, 2), (2, 112)], [], [(1, 231)], [(1, 91)], [], [], [(2, 140), (2, 141), (2, 142), (1, 7), (2, 143)], [], [], [], [], [], [], [], [], [], [(3, 176), (3, 90), (1, 12), (3, 91)], [], [], [(1, 235)], [], [(3, 177), (3, 178), (3, 179), (1, 7), (3, 180)], [], [], [], [], [], [], [], [], [], []] = true := by decide +kernel
theorem ko_115 : ∀ r ∈ kc_115, rok 115 r := rchk_ok kr_115
set_option maxRecDepth 100000 in
theorem kr_116 : rchk 116 kc_116 [[], [], [], [], [(1, 231)], [(1, 96)], [], [], [(1, 231)], [(1, 91)], [], [], [(1, 74)], [], [], [], [], [(2, 136), (2, 138), (0, 1), (1, 1), (2, 139)], [], [], [], [], [], [], []] = true := by decide +kernel
theorem ko_116 : ∀ r ∈ kc_116, rok 116 r := rchk_ok kr_116
set_option maxRecDepth 100000 in
theorem kr_117 : rchk 117 kc_117 [[], [(1, 231)], [], [(2, 58), (2, 59), (2, 60), (1, 2), (2, 61)], [], [], [], [(2, 46), (2, 48), (0, 0), (1, 1), (2, 49)], [], [], [], [(3, 186), (3, 188), (0, 31), (1, 1), (3, 189)], [], [], [], [(2, 46), (2, 48), (0, 0), (1, 1), (2, 49)], [], [], [], [], [], [], [], [], [], [(1, 231)], [(1, 96)], [], [], [(1, 231)], [(1, 91)], [], [], [(1, 74)], [], [], [], [], [], [], [(1, 236)], [], [(3, 23), (3, 25), (0, 12), (1, 1), (3, 26)], [], [(1, 236)], [(1, 178)], [], [], [], [], [], [(1, 231)], [(1, 91)], [], [], [(1, 74)], [], [], [], [], [(1, 237)], [], [(3, 23), (3, 25), (0, 12), (1, 1), (3, 26)], [], [], [(1, 236)], [], [(1, 237)], [(3, 190), (3, 191), (3, 192), (1, 8), (3, 193)], [(3, 198), (3, 199), (1, 15), (3, 200)], [], [], [], [], []] = true := by decide +kernel
theorem ko_117 : ∀ r ∈ kc_117, rok 117 r := rchk_ok kr_117
set_option maxRecDepth 100000 in
theorem kr_118 : rchk 118 kc_118 [[], [], [], [(3, 205)], [(2, 93), (2, 63), (1, 1), (2, 64)], [], [], [], [(2, 93), (2, 63), (1, 1), (2, 64)], [], [], [], [], [(3, 19), (3, 21), (0, 11), (1, 1), (3, 22)], [], [], [], [], [], [(2, 46), (2, 48), (0, 0), (1, 1), (2, 49)], [], [], [], [(1, 238)], [], [(1, 239)], [], [(3, 206), (3, 207), (3, 208), (1, 9), (3, 209)], [], [], [], [(1, 238)], [], [(1, 231)], [], [(2, 109), (2, 110), (2, 111), (1, 2), (2, 112)], [], [(1, 231)], [(1, 91)], [], [], [(3, 222), (3, 223), (3, 224), (1, 9), (3, 225)], [], [], [], [(1, 236)], [], [(3, 23), (3, 25), (0, 12), (1, 1), (3, 26)], [], [(1, 238)], [], [(1, 236)], [(3, 237), (3, 238), (3, 239), (1, 9), (4, 0)], [], [(1, 238)], [(4, 5), (4, 6), (4, 7), (1, 9), (4, 8)], []] = true := by decide +kernel
theorem ko_118 : ∀ r ∈ kc_118, rok 118 r := rchk_ok kr_118
set_option maxRecDepth 100000 in
theorem kr_119 : rchk 119 kc_119 [[], [], [(2, 136), (2, 138), (0, 1), (1, 1), (2, 139)], [], [], [], [], [], [], [], [], [], [], [(1, 236)], [], [(3, 23), (3, 25), (0, 12), (1, 1), (3, 26)], [], [], [], [(1, 231)], [(1, 91)], [], [], [(1, 76)], [], [(1, 236)], [(3, 121), (3, 122), (3, 123), (1, 8), (3, 124)], [], [], [], [(1, 231)], [], [(2, 156), (2, 157), (2, 158), (1, 2), (2, 159)], [], [], [], [(1, 236)], [(1, 178)], [], [], [], [], [], [], [], [], [(1, 236)], [(1, 178)], []] = true := by decide +kernel
theorem ko_119 : ∀ r ∈ kc_119, rok 119 r := rchk_ok kr_119
set_option maxRecDepth 100000 in
theorem kr_120 : rchk 120 kc_120 [[], [], [(2, 93), (2, 63), (1, 1), (2, 64)], [], [], [], [(2, 46), (2, 48), (0, 0), (1, 1), (2, 49)], [], [], [], [], [], [], [], [(1, 231)], [(1, 96)], [], [], [], [], [], [(4, 14), (4, 16), (0, 36), (1, 1), (4, 17)], [], [], [], [], [], []] = true := by decide +kernel
theorem ko_120 : ∀ r ∈ kc_120, rok 120 r := rchk_ok kr_120
set_option maxRecDepth 100000 in
theorem kr_121 : rchk 121 kc_121 [[], [(1, 231)], [(1, 91)], [], [], [(1, 76)], [], [], [], [(2, 1)], [(3, 167), (3, 169), (0, 30), (1, 1), (3, 170)], [], []] = true := by decide +kernel
theorem ko_121 : ∀ r ∈ kc_121, rok 121 r := rchk_ok kr_121
set_option maxRecDepth 100000 in
theorem kr_122 : rchk 122 kc_122 [[], [], [], [], [], [], [], [], [(1, 231)], [(1, 96)], [], [], [], [(2, 136), (2, 138), (0, 1), (1, 1), (2, 139)], [], [], [], [(4, 22), (4, 24), (0, 37), (1, 1), (4, 25)], [], [], [], [], [], [], [(4, 22), (4, 24), (0, 37), (1, 1), (4, 25)], [], [], [], [], []] = true := by decide +kernel
theorem ko_122 : ∀ r ∈ kc_122, rok 122 r := rchk_ok kr_122
set_option maxRecDepth 100000 in
theorem kr_123 : rchk 123 kc_123 [[], [], [], [], [], [], [], [], [], [], [], [], [], [], []] = true := by decide +kernel
theorem ko_123 : ∀ r ∈ kc_123, rok 123 r := rchk_ok kr_123
set_option maxRecDepth 100000 in
theorem kr_124 : rchk 124 kc_124 [[], [], [], [], [(1, 231)], [(1, 96)], [], [], [(1, 231)], [(1, 91)], [], [], [], [], [(2, 0)], [], [(1, 71)], [], [], [], [], [(2, 0)], [], [(1, 74)], [], [], [], [], [(2, 0)], [], [(1, 74)], [], [], [], [], [], [], []] = true := by decide +kernel
theorem ko_124 : ∀ r ∈ kc_124, rok 124 r := rchk_ok kr_124
set_option maxRecDepth 100000 in
theorem kr_125 : rchk 125 kc_125 [[], [(1, 231)], [], [(2, 58), (2, 59), (2, 60), (1, 2), (2, 61)], [], [], [(1, 231)], [], [(2, 58), (2, 59), (2, 60), (1, 2), (2, 61)], [], [], [], [(2, 46), (2, 48), (0, 0), (1, 1), (2, 49)], [], [], [(2, 0)], [], [(4, 30), (4, 31), (1, 16), (4, 32)], [], [(2, 0)], [], [], [], [], [], [], [], [(1, 231)], [(1, 94)], [], [], [], [(4, 33), (4, 35), (0, 38), (1, 1), (4, 36)], [], [], [], [(2, 0)], [], [], []] = true := by decide +kernel
theorem ko_125 : ∀ r ∈ kc_125, rok 125 r := rchk_ok kr_125
set_option maxRecDepth 100000 in
theorem kr_126 : rchk 126 kc_126 [[], [(1, 231)], [(2, 50), (2, 51), (2, 52), (1, 2), (2, 53)], [], [], [], [], [], [], [], [], [(1, 239)], [], [(4, 46), (3, 215), (3, 216), (1, 10), (3, 217)], [], [], [], [(1, 231)], [], [], [], [], [], [(3, 176), (3, 90), (1, 12), (3, 91)], [(2, 84), (2, 85), (2, 86), (1, 2), (2, 87)], [], [], [], []] = true := by decide +kernel
theorem ko_126 : ∀ r ∈ kc_126, rok 126 r := rchk_ok kr_126
set_option maxRecDepth 100000 in
theorem kr_127 : rchk 127 kc_127 [[], [(1, 239)], [], [(4, 46), (3, 215), (3, 216), (1, 10), (3, 217)], [], [], [(1, 239)], [], [(4, 46), (3, 215), (3, 216), (1, 10), (3, 217)], [], [], [(1, 231)], [], [], [], [(1, 239)], [], [(4, 46), (3, 215), (3, 216), (1, 10), (3, 217)], [(2, 94), (2, 95), (2, 96), (1, 2), (2, 97)], [], [], [(1, 231)], [], [(2, 105), (2, 106), (2, 107), (1, 2), (2, 108)], [], [], [], [(1, 231)], [], [(2, 109), (2, 110), (2, 111), (1, 2), (2, 112)], [], [], [], [], [], [(1, 46)], [], [], [(1, 239)], [], [(4, 46), (3, 215), (3, 216), (1, 10), (3, 217)], [], [], [(1, 231)], [(1, 91)], [], [], [(1, 66)], [], [], [], [], [], [(1, 239)], [(1, 227)], [(4, 51)], [], [(4, 52)], [], [], [(4, 53), (3, 12), (1, 12), (3, 13)], [], [], [], [], [], [(1, 41)], [], [], [(4, 54), (2, 69), (1, 12), (2, 70)], [(3, 176), (3, 90), (1, 12), (3, 91)], [], [], [], []] = true := by decide +kernel
theorem ko_127 : ∀ r ∈ kc_127, rok 127 r := rchk_ok kr_127
set_option maxRecDepth 100000 in
theorem kr_128 : rchk 128 kc_128 [[], [(3, 205)], [(2, 93), (2, 63), (1, 1), (2, 64)], [], [], [], [(2, 93), (2, 63), (1, 1), (2, 64)], [], [], [], [(2, 93), (2, 63), (1, 1), (2, 64)], [], [], [], [(2, 46), (2, 48), (0, 0), (1, 1), (2, 49)], [], [], [(1, 231)], [(2, 38), (2, 39), (2, 40), (1, 2), (2, 41)], [], [(1, 239)], [], [(4, 41), (3, 211), (3, 212), (1, 10), (3, 213)], [], [], [], [], [], [], [], [(4, 42), (4, 44), (0, 39), (1, 1), (4, 45)], [], [], [], [], [], [], [], [], [(4, 47), (4, 49), (0, 40), (1, 1), (4, 50)], [], [], [], []] = true := by decide +kernel
theorem ko_128 : ∀ r ∈ kc_128, rok 128 r := rchk_ok kr_128
set_option maxRecDepth 100000 in
theorem kr_129 : rchk 129 kc_129 [[], [], [], [(2, 2)], [], [], [(2, 3)], [], [], [(2, 4)], [], [], [(1, 233)], [(1, 117)], [], [], [(1, 231)], [(1, 94)], [], [], [(1, 231)], [(1, 96)], [], [], [(2, 1)], []] = true := by decide +kernel
theorem ko_129 : ∀ r ∈ kc_129, rok 129 r := rchk_ok kr_129
set_option maxRecDepth 100000 in
theorem kr_130 : rchk 130 kc_130 [[], [], [(2, 93), (2, 63), (1, 1), (2, 64)], [], [], [], [(2, 46), (2, 48), (0, 0), (1, 1), (2, 49)], [], [], [], [(4, 59), (4, 61), (0, 41), (1, 1), (4, 62)], []] = true := by decide +kernel
theorem ko_130 : ∀ r ∈ kc_130, rok 130 r := rchk_ok kr_130
set_option maxRecDepth 100000 in
theorem kr_131 : rchk 131 kc_131 [[(4, 67)], [], [], [], [], [], [], [(4, 68)], [], [], [], [], [(4, 59), (4, 61), (0, 41), (1, 1), (4, 62)], [], [], [], [], [], [], [], [], [], [(1, 231)], [(1, 94)], [], [], [(1, 231)], [(1, 88)], [], [], [], [(4, 69), (4, 70), (4, 71), (1, 3), (4, 72)], [], [], [], [], [], [], [], [(1, 231)], [(1, 96)], [], [], [(1, 231)], [(1, 91)], [], [], [], [], [(1, 231)], [], [(2, 109), (2, 110), (2, 111), (1, 2), (2, 112)], [(1, 46)], [(4, 74), (4, 75), (4, 76), (1, 4), (4, 77)], [], [], [], [], []] = true := by decide +kernel
theorem ko_131 : ∀ r ∈ kc_131, rok 131 r := rchk_ok kr_131
set_option maxRecDepth 100000 in
theorem kr_132_0 : rchk 132 kc_132_0 [[], [(4, 84), (1, 23), (1, 24)], [], [], [(1, 55)], [(4, 85)], [], [], [(1, 55)], [(4, 89)], [], [], [(1, 55)], [(4, 90)], [], [], [(1, 55)], [(4, 91)], [], [], [(1, 55)], [(4, 92)], [], [], [(1, 55)], [(4, 93)], [], [], [(1, 55)], [(4, 94)], [], [], [(1, 55)], [(4, 96)], [], [], [(1, 55)], [(4, 97)], [], [], [(1, 55)], [(4, 98)], [], [], [(1, 206)], [(4, 99)], [], [], [(1, 55)], [(4, 100)], [], [], [(1, 55)], [(4, 102)], [], [], [(1, 55)], [(4, 103)], [], []] = true := by decide +kernel
set_option maxRecDepth 100000 in
theorem kr_132_1 : rchk 132 kc_132_1 [[(1, 55)], [(4, 104)], [], [], [(1, 55)], [(4, 105)], [], [], [(1, 55)], [(4, 106)], [], [], [(1, 55)], [(4, 107)], [], [], [(1, 55)], [(4, 108)], [], [], [(1, 55)], [(4, 112)], []] = true := by decide +kernel
theorem ko_132 : ∀ r ∈ kc_132, rok 132 r := rok_app (rchk_ok kr_132_0) (rchk_ok kr_132_1)
set_option maxRecDepth 100000 in
theorem kr_133 : rchk 133 kc_133 [[], [(4, 85)], [], [], [], [], [], [], [], []] = true := by decide +kernel
theorem ko_133 : ∀ r ∈ kc_133, rok 133 r := rchk_ok kr_133
end
section
set_option maxRecDepth 100000 in
theorem kr_134 : rchk 134 kc_134 [[], [(4, 85)], [], [], [], [], [], [], [], []] = true := by decide +kernel
theorem ko_134 : ∀ r ∈ kc_134, rok 134 r := rchk_ok kr_134
set_option maxRecDepth 100000 in
theorem kr_135 : rchk 135 kc_135 [[], [(4, 85)], [], [], [], [], [], [], [], []] = true := by decide +kernel
theorem ko_135 : ∀ r ∈ kc_135, rok 135 r := rchk_ok kr_135
set_option maxRecDepth 100000 in
theorem kr_136 : rchk 136 kc_136 [[], [], [], [], [], [], [], [], [], []] = true := by decide +kernel
theorem ko_136 : ∀ r ∈ kc_136, rok 136 r := rchk_ok kr_136
set_option maxRecDepth 100000 in
theorem kr_137 : rchk 137 kc_137 [[], [], [], []] = true := by decide +kernel
theorem ko_137 : ∀ r ∈ kc_137, rok 137 r := rchk_ok kr_137
set_option maxRecDepth 100000 in
theorem kr_138 : rchk 138 kc_138 [[], [], [], []] = true := by decide +kernel
theorem ko_138 : ∀ r ∈ kc_138, rok 138 r := rchk_ok kr_138
set_option maxRecDepth 100000 in
theorem kr_139 : rchk 139 kc_139 [[], [], [], [], [], [], [], [], [], [], [], [], []] = true := by decide +kernel
theorem ko_139 : ∀ r ∈ kc_139, rok 139 r := rchk_ok kr_139
set_option maxRecDepth 100000 in
theorem kr_140 : rchk 140 kc_140 [[], [], [], [(4, 200), (4, 201), (1, 11), (4, 202)], [(4, 203), (4, 204), (1, 11), (4, 205)], [], [], [(4, 206), (4, 207), (1, 11), (4, 208)], [], [(4, 200), (4, 201), (1, 11), (4, 202)], [], [], [], [(4, 206), (4, 207), (1, 11), (4, 208)], [], [(4, 200), (4, 201), (1, 11), (4, 202)], [], [], [], [], [], [], []] = true := by decide +kernel
theorem ko_140 : ∀ r ∈ kc_140, rok 140 r := rchk_ok kr_140
set_option maxRecDepth 100000 in
theorem kr_141 : rchk 141 kc_141 [[], [(4, 206), (4, 207), (1, 11), (4, 208)], [], [(4, 206), (4, 207), (1, 11), (4, 208)], [], [(4, 200), (4, 201), (1, 11), (4, 202)], [], [], [], [(4, 206), (4, 207), (1, 11), (4, 208)], [], [(4, 206), (4, 207), (1, 11), (4, 208)], [], [(4, 200), (4, 201), (1, 11), (4, 202)], [], [], [], [], [], []] = true := by decide +kernel
theorem ko_141 : ∀ r ∈ kc_141, rok 141 r := rchk_ok kr_141
set_option maxRecDepth 100000 in
theorem kr_142 : rchk 142 kc_142 [[], [], [], [], [], [(4, 217), (4, 218), (1, 11), (4, 219)], [], [], [], [], []] = true := by decide +kernel
theorem ko_142 : ∀ r ∈ kc_142, rok 142 r := rchk_ok kr_142
set_option maxRecDepth 100000 in
theorem kr_143 : rchk 143 kc_143 [[], [], [], [(4, 86)], [], [], [(4, 194), (4, 195), (1, 11), (4, 196)], []] = true := by decide +kernel
theorem ko_143 : ∀ r ∈ kc_143, rok 143 r := rchk_ok kr_143
set_option maxRecDepth 100000 in
theorem kr_144 : rchk 144 kc_144 [[], [], [], [(4, 87)], [], [], [(4, 194), (4, 195), (1, 11), (4, 196)], []] = true := by decide +kernel
theorem ko_144 : ∀ r ∈ kc_144, rok 144 r := rchk_ok kr_144
set_option maxRecDepth 100000 in
theorem kr_145 : rchk 145 kc_145 [[], [(4, 90)], [], [], [(4, 92)], [], [], [], [], [], [], []] = true := by decide +kernel
theorem ko_145 : ∀ r ∈ kc_145, rok 145 r := rchk_ok kr_145
set_option maxRecDepth 100000 in
theorem kr_146 : rchk 146 kc_146 [[], [(4, 89)], [], [(4, 92)], [], [], [], []] = true := by decide +kernel
theorem ko_146 : ∀ r ∈ kc_146, rok 146 r := rchk_ok kr_146
set_option maxRecDepth 100000 in
theorem kr_147 : rchk 147 kc_147 [[], [(4, 94)], [], [], [], [], [], [], []] = true := by decide +kernel
theorem ko_147 : ∀ r ∈ kc_147, rok 147 r := rchk_ok kr_147
set_option maxRecDepth 100000 in
theorem kr_148 : rchk 148 kc_148 [[], [(4, 87)], [], [], [], [(4, 86)], [], [], [(4, 87)], [], []] = true := by decide +kernel
theorem ko_148 : ∀ r ∈ kc_148, rok 148 r := rchk_ok kr_148
set_option maxRecDepth 100000 in
theorem kr_149 : rchk 149 kc_149 [[], [(4, 89)], [], [(4, 86)], [], [], [], [], [(4, 86)], [], [], [(4, 86)], [], [(4, 86)], [], [], []] = true := by decide +kernel
theorem ko_149 : ∀ r ∈ kc_149, rok 149 r := rchk_ok kr_149
set_option maxRecDepth 100000 in
theorem kr_150 : rchk 150 kc_150 [[], [(4, 86)], [], [], [], [(4, 178), (4, 180), (0, 42), (1, 11), (4, 181)], [], [], [(4, 182), (4, 184), (0, 43), (1, 11), (4, 185)], []] = true := by decide +kernel
theorem ko_150 : ∀ r ∈ kc_150, rok 150 r := rchk_ok kr_150
set_option maxRecDepth 100000 in
theorem kr_151 : rchk 151 kc_151 [[], [], [], [], [], [], [(4, 89)], [], [], [], [], [], [], [(4, 90)], [], [], [], [], [], [], [], [(4, 217), (4, 218), (1, 11), (4, 219)], [], [], [], [], [], [], [], [], []] = true := by decide +kernel
theorem ko_151 : ∀ r ∈ kc_151, rok 151 r := rchk_ok kr_151
set_option maxRecDepth 100000 in
theorem kr_152 : rchk 152 kc_152 [[], [(4, 89)], [], [], [], [], [(4, 90)], [], [], [], [], [], [], [], [], [(4, 89)], [], [], [], [], [], [], [], [], [], [], [(4, 87)], [], [], [(4, 92)], [], [], [], [], [], [(4, 94)], [], [], [], [], [], [], [], [], [], [], []] = true := by decide +kernel
theorem ko_152 : ∀ r ∈ kc_152, rok 152 r := rchk_ok kr_152
set_option maxRecDepth 100000 in
theorem kr_153 : rchk 153 kc_153 [[], [], [(4, 190), (4, 192), (0, 44), (1, 11), (4, 193)], [], [], [(4, 197), (4, 198), (1, 11), (4, 199)], [], [], [(4, 209), (4, 211), (0, 45), (1, 11), (4, 212)], [], [], [], [], [(4, 213), (4, 215), (0, 46), (1, 11), (4, 216)], [], [], [(4, 220), (4, 222), (0, 47), (1, 11), (4, 223)], [], [], [(4, 89)], [], [], [], [], [], [(4, 178), (4, 180), (0, 42), (1, 11), (4, 181)], [], [], [], [], [(4, 224), (4, 226), (0, 48), (1, 11), (4, 227)], []] = true := by decide +kernel
theorem ko_153 : ∀ r ∈ kc_153, rok 153 r := rchk_ok kr_153
set_option maxRecDepth 100000 in
theorem kr_154 : rchk 154 kc_154 [[], [(4, 87)], [], [], [(4, 91)], [], [], [], [], [(4, 92)], [], [], [], [], [(4, 93)], [], [], [], [], [], [], [], [(4, 89)], [], [], [], [], [(4, 94)], [], [], [], [], [], [], [(4, 90)], [], [], [], [], [], [], [], [], [], [], [], [(4, 87)], [], [], [(4, 87)], [], []] = true := by decide +kernel
theorem ko_154 : ∀ r ∈ kc_154, rok 154 r := rchk_ok kr_154
set_option maxRecDepth 100000 in
theorem kr_155 : rchk 155 kc_155 [[], [], [(4, 190), (4, 192), (0, 44), (1, 11), (4, 193)], [], [], [], [(4, 190), (4, 192), (0, 44), (1, 11), (4, 193)], [], [], [], [], [(4, 194), (4, 195), (1, 11), (4, 196)], [], [], [(4, 209), (4, 211), (0, 45), (1, 11), (4, 212)], [], [], [(4, 87)], [], [], [], [(4, 178), (4, 180), (0, 42), (1, 11), (4, 181)], [], [], [], [], [], [(4, 232), (4, 234), (0, 49), (1, 11), (4, 235)], []] = true := by decide +kernel
theorem ko_155 : ∀ r ∈ kc_155, rok 155 r := rchk_ok kr_155
set_option maxRecDepth 100000 in
theorem kr_156 : rchk 156 kc_156 [[], [], [], [], [], [], [], [], [], [], [(4, 197), (4, 198), (1, 11), (4, 199)], [], [], [(4, 200), (4, 201), (1, 11), (4, 202)], [], [], [], [(5, 12), (5, 14), (0, 53), (1, 11), (5, 15)], [(4, 200), (4, 201), (1, 11), (4, 202)], [], [], [], [], []] = true := by decide +kernel
theorem ko_156 : ∀ r ∈ kc_156, rok 156 r := rchk_ok kr_156
set_option maxRecDepth 100000 in
theorem kr_157 : rchk 157 kc_157 [[], [], [(5, 0), (5, 2), (0, 50), (1, 11), (5, 3)], [], [], [], [], [], [(5, 4), (5, 6), (0, 51), (1, 11), (5, 7)], [], [], [(4, 194), (4, 195), (1, 11), (4, 196)], [], [], [], [], [], [(5, 8), (5, 10), (0, 52), (1, 11), (5, 11)], [], [], [(4, 209), (4, 211), (0, 45), (1, 11), (4, 212)], [], [], [], [], [(5, 16), (5, 18), (0, 54), (1, 11), (5, 19)], [], [], [(4, 94)], [], [], [], [], [], [], [], [], []] = true := by decide +kernel
theorem ko_157 : ∀ r ∈ kc_157, rok 157 r := rchk_ok kr_157
set_option maxRecDepth 100000 in
theorem kr_158 : rchk 158 kc_158 [[], [], [(5, 0), (5, 2), (0, 50), (1, 11), (5, 3)], [], [], [], [], [(4, 194), (4, 195), (1, 11), (4, 196)], [], [], [(4, 209), (4, 211), (0, 45), (1, 11), (4, 212)], [], [], [(4, 93)], [], [], [], [], [(4, 93)], [], [], [], [], []] = true := by decide +kernel
theorem ko_158 : ∀ r ∈ kc_158, rok 158 r := rchk_ok kr_158
set_option maxRecDepth 100000 in
theorem kr_159 : rchk 159 kc_159 [[], [], [], [(4, 194), (4, 195), (1, 11), (4, 196)], [], [], [(4, 209), (4, 211), (0, 45), (1, 11), (4, 212)], [], [], [(4, 88)], [], [], [], [(4, 88)], [], []] = true := by decide +kernel
theorem ko_159 : ∀ r ∈ kc_159, rok 159 r := rchk_ok kr_159
set_option maxRecDepth 100000 in
theorem kr_160 : rchk 160 kc_160 [[], [], [], [], [], [], [(4, 87)], [], [], [], [(4, 91)], [], [], [], [], [], [], [], [], [], [], [], [], []] = true := by decide +kernel
theorem ko_160 : ∀ r ∈ kc_160, rok 160 r := rchk_ok kr_160
set_option maxRecDepth 100000 in
theorem kr_161 : rchk 161 kc_161 [[], [], [], [], [], [], [(4, 87)], [], [], [], [(4, 92)], [], [], [], [], [], [], [], [], [], [], [], [], []] = true := by decide +kernel
theorem ko_161 : ∀ r ∈ kc_161, rok 161 r := rchk_ok kr_161
set_option maxRecDepth 100000 in
theorem kr_162 : rchk 162 kc_162 [[], [], [(4, 91)], [], [], [(5, 51), (5, 53), (0, 59), (1, 11), (5, 54)], [], [], [], [], [], [], [(4, 92)], [], [], [(5, 55), (5, 57), (0, 60), (1, 11), (5, 58)], [], [], [], [], [], []] = true := by decide +kernel
theorem ko_162 : ∀ r ∈ kc_162, rok 162 r := rchk_ok kr_162
set_option maxRecDepth 100000 in
theorem kr_163 : rchk 163 kc_163 [[], [], [], [(5, 16), (5, 18), (0, 54), (1, 11), (5, 19)], [], [], [], [(5, 12), (5, 14), (0, 53), (1, 11), (5, 15)], [], [], [], [], []] = true := by decide +kernel
theorem ko_163 : ∀ r ∈ kc_163, rok 163 r := rchk_ok kr_163
set_option maxRecDepth 100000 in
theorem kr_164 : rchk 164 kc_164 [[], [], [], [], [], [], [], [(5, 4), (5, 6), (0, 51), (1, 11), (5, 7)], [], [], [], [], [(5, 12), (5, 14), (0, 53), (1, 11), (5, 15)], [], [(5, 44), (5, 45), (1, 11), (5, 46)], [], [], [], [], [(5, 16), (5, 18), (0, 54), (1, 11), (5, 19)], [], [], [], [], [(5, 16), (5, 18), (0, 54), (1, 11), (5, 19)], [], [(5, 44), (5, 45), (1, 11), (5, 46)], [], [], [], [], [], [], [], [], [], [], [(5, 36), (5, 38), (0, 56), (1, 11), (5, 39)], [], [], [], [], [], [], [], [], [], [], []] = true := by decide +kernel
theorem ko_164 : ∀ r ∈ kc_164, rok 164 r := rchk_ok kr_164
set_option maxRecDepth 100000 in
theorem kr_165 : rchk 165 kc_165 [[], [], [], [], [], [], [], [(5, 4), (5, 6), (0, 51), (1, 11), (5, 7)], [], [], [], [], [(5, 36), (5, 38), (0, 56), (1, 11), (5, 39)], [], [], [], [], [], [], [], [], [(5, 12), (5, 14), (0, 53), (1, 11), (5, 15)], [(5, 40), (5, 42), (0, 57), (1, 11), (5, 43)], [], [], [], [], [(5, 16), (5, 18), (0, 54), (1, 11), (5, 19)], [], [], [], [], [], [], [(5, 16), (5, 18), (0, 54), (1, 11), (5, 19)], [(5, 40), (5, 42), (0, 57), (1, 11), (5, 43)], [], [], [], [], [], [], [], [], []] = true := by decide +kernel
theorem ko_165 : ∀ r ∈ kc_165, rok 165 r := rchk_ok kr_165
set_option maxRecDepth 100000 in
theorem kr_166 : rchk 166 kc_166 [[], [], [(5, 0), (5, 2), (0, 50), (1, 11), (5, 3)], [], [], [], [], [(4, 194), (4, 195), (1, 11), (4, 196)], [], [], [(4, 209), (4, 211), (0, 45), (1, 11), (4, 212)], [], [], [], [], [(4, 91)], [], [], [], [], [(4, 92)], [], [], [], [], [(4, 93)], [], [], [], [], [], [(5, 32), (5, 34), (0, 55), (1, 11), (5, 35)], [], [], [], [], [], [], [], [(5, 47), (5, 49), (0, 58), (1, 11), (5, 50)], []] = true := by decide +kernel
theorem ko_166 : ∀ r ∈ kc_166, rok 166 r := rchk_ok kr_166
set_option maxRecDepth 100000 in
theorem kr_167 : rchk 167 kc_167 [[], [], [(4, 190), (4, 192), (0, 44), (1, 11), (4, 193)], [], [], [], [], [(4, 194), (4, 195), (1, 11), (4, 196)], [], [], [(4, 209), (4, 211), (0, 45), (1, 11), (4, 212)], [], [], [], [], [(4, 89)], [], [], [], [], [], [], [], [], [(5, 51), (5, 53), (0, 59), (1, 11), (5, 54)], [], [], [], [(5, 55), (5, 57), (0, 60), (1, 11), (5, 58)], []] = true := by decide +kernel
theorem ko_167 : ∀ r ∈ kc_167, rok 167 r := rchk_ok kr_167
set_option maxRecDepth 100000 in
theorem kr_168 : rchk 168 kc_168 [[], [], [(4, 190), (4, 192), (0, 44), (1, 11), (4, 193)], [], [], [], [], [(4, 209), (4, 211), (0, 45), (1, 11), (4, 212)], [], [], [], [(4, 89)], [], [], [], [], [(4, 90)], [], [], [], [], [], [], [], [], []] = true := by decide +kernel
theorem ko_168 : ∀ r ∈ kc_168, rok 168 r := rchk_ok kr_168
set_option maxRecDepth 100000 in
theorem kr_169 : rchk 169 kc_169 [[], [], [(5, 0), (5, 2), (0, 50), (1, 11), (5, 3)], [], [], [], [], [(4, 209), (4, 211), (0, 45), (1, 11), (4, 212)], [], [], [], [], [(5, 4), (5, 6), (0, 51), (1, 11), (5, 7)], [], [], [], [], [(5, 16), (5, 18), (0, 54), (1, 11), (5, 19)], [], [], []] = true := by decide +kernel
theorem ko_169 : ∀ r ∈ kc_169, rok 169 r := rchk_ok kr_169
set_option maxRecDepth 100000 in
theorem kr_170 : rchk 170 kc_170 [[], [], [], [], [], [], [], [], [], [], [], [], [], [], [], []] = true := by decide +kernel
theorem ko_170 : ∀ r ∈ kc_170, rok 170 r := rchk_ok kr_170
set_option maxRecDepth 100000 in
theorem kr_171 : rchk 171 kc_171 [[], [], [], [], [], [], [], [], [], [], [], [], [], [], [], [], [], [], [], [], [], [], []] = true := by decide +kernel
theorem ko_171 : ∀ r ∈ kc_171, rok 171 r := rchk_ok kr_171
set_option maxRecDepth 100000 in
theorem kr_172 : rchk 172 kc_172 [[], [(4, 96)], [], [(4, 95)], [], [], [], [(4, 97)], [], [(4, 95)], [], [], [], [(4, 98)], [], [(4, 95)], [], [], [], [], [(4, 95)], [], [], [(4, 95)], []] = true := by decide +kernel
theorem ko_172 : ∀ r ∈ kc_172, rok 172 r := rchk_ok kr_172
set_option maxRecDepth 100000 in
theorem kr_173 : rchk 173 kc_173 [[], [], [], [], [], [], [], [], [], [], [(4, 99)], [], [], [], [], [(4, 100)], [], [], [], [], [], [], [], [], [], [], [], []] = true := by decide +kernel
theorem ko_173 : ∀ r ∈ kc_173, rok 173 r := rchk_ok kr_173
set_option maxRecDepth 100000 in
theorem kr_174 : rchk 174 kc_174 [[], [], [], [], [], [], [], [], [], [(4, 99)], [], [], [], [], [], [], [], [], [], [], [], []] = true := by decide +kernel
theorem ko_174 : ∀ r ∈ kc_174, rok 174 r := rchk_ok kr_174
set_option maxRecDepth 100000 in
theorem kr_175 : rchk 175 kc_175 [[], [], [(5, 4), (5, 6), (0, 51), (1, 11), (5, 7)], [], [], [], [], [], [], [], [], [], [(4, 99)], [], [], [], [], [], [], [], [], [], [(5, 12), (5, 14), (0, 53), (1, 11), (5, 15)], [], [(5, 91), (5, 93), (0, 65), (1, 11), (5, 94)], [], [], [], [], [], [], [], [], [], [], [], [], [], [(5, 12), (5, 14), (0, 53), (1, 11), (5, 15)], [(4, 206), (4, 207), (1, 11), (4, 208)], [], [], [], [(5, 12), (5, 14), (0, 53), (1, 11), (5, 15)], [(4, 206), (4, 207), (1, 11), (4, 208)], [], [], [], [], [], [], [], [], []] = true := by decide +kernel
theorem ko_175 : ∀ r ∈ kc_175, rok 175 r := rchk_ok kr_175
set_option maxRecDepth 100000 in
theorem kr_176 : rchk 176 kc_176 [[], [], [], [], [], [], [], [(5, 4), (5, 6), (0, 51), (1, 11), (5, 7)], [], [], [], [], [(5, 12), (5, 14), (0, 53), (1, 11), (5, 15)], [], [], [], [], [], [], [], [], [], []] = true := by decide +kernel
theorem ko_176 : ∀ r ∈ kc_176, rok 176 r := rchk_ok kr_176
set_option maxRecDepth 100000 in
theorem kr_177 : rchk 177 kc_177 [[], [], [], [], [], [(5, 4), (5, 6), (0, 51), (1, 11), (5, 7)], [], [], [(4, 100)], [], [], [(4, 100)], [], [], [], [], [], [], [], [(4, 100)], [], [], [], [], [], []] = true := by decide +kernel
theorem ko_177 : ∀ r ∈ kc_177, rok 177 r := rchk_ok kr_177
set_option maxRecDepth 100000 in
theorem kr_178 : rchk 178 kc_178 [[], [], [], [(5, 12), (5, 14), (0, 53), (1, 11), (5, 15)], [], [], [(4, 100)], [], [], [], [], [], [], [], [(5, 109), (5, 111), (0, 68), (1, 11), (5, 112)], [], [(4, 99)], [], [], [], [], [], [], [], [(5, 113), (5, 115), (0, 69), (1, 11), (5, 116)], []] = true := by decide +kernel
theorem ko_178 : ∀ r ∈ kc_178, rok 178 r := rchk_ok kr_178
set_option maxRecDepth 100000 in
theorem kr_179_0 : rchk 179 kc_179_0 [[], [], [], [(5, 12), (5, 14), (0, 53), (1, 11), (5, 15)], [], [], [(4, 200), (4, 201), (1, 11), (4, 202)], [], [], [], [], [], [], [(4, 100)], [], [], [(5, 99), (5, 101), (0, 67), (1, 11), (5, 102)], [], [], [], [], [], [], [], [], [(4, 100)], [], [], [(5, 99), (5, 101), (0, 67), (1, 11), (5, 102)], [], [], [], [], [(5, 103), (5, 104), (1, 11), (5, 105)], [], [], [], [], [], [], [], [], [], [], [], [], [], [(5, 106), (5, 107), (1, 11), (5, 108)], [], [], [], [], [], [], [], [], [(5, 109), (5, 111), (0, 68), (1, 11), (5, 112)], [], [], []] = true := by decide +kernel
set_option maxRecDepth 100000 in
theorem kr_179_1 : rchk 179 kc_179_1 [[], [], [], [(5, 113), (5, 115), (0, 69), (1, 11), (5, 116)], [], [], [], [], [], [], [], [], [], [], [], [], [], [(5, 12), (5, 14), (0, 53), (1, 11), (5, 15)], [], [(4, 100)], [], [], [(5, 109), (5, 111), (0, 68), (1, 11), (5, 112)], [], [(4, 99)], [], [], [], [], [], [], [(4, 100)], [], [], [(5, 99), (5, 101), (0, 67), (1, 11), (5, 102)], [], [], [], [], [(4, 99)], [], [], [], []] = true := by decide +kernel
theorem ko_179 : ∀ r ∈ kc_179, rok 179 r := rok_app (rchk_ok kr_179_0) (rchk_ok kr_179_1)
set_option maxRecDepth 100000 in
theorem kr_180 : rchk 180 kc_180 [[], [], [], [], [], [(5, 4), (5, 6), (0, 51), (1, 11), (5, 7)], [], [], [(4, 99)], [], [], [], [], [(5, 36), (5, 38), (0, 56), (1, 11), (5, 39)], [], [], [], [], [(5, 16), (5, 18), (0, 54), (1, 11), (5, 19)], [], [], [], [], [], [], [(4, 100)], [], [], [(4, 99)], [], [], [], [], [], [], [(5, 16), (5, 18), (0, 54), (1, 11), (5, 19)], [], [], [], [], [], []] = true := by decide +kernel
theorem ko_180 : ∀ r ∈ kc_180, rok 180 r := rchk_ok kr_180
set_option maxRecDepth 100000 in
theorem kr_181 : rchk 181 kc_181 [[], [], [(5, 4), (5, 6), (0, 51), (1, 11), (5, 7)], [], [], [], [(4, 95)], [], [], [(5, 79), (5, 81), (0, 62), (1, 11), (5, 82)], [], [], [(5, 83), (5, 85), (0, 63), (1, 11), (5, 86)], [], [], [], [], [(5, 87), (5, 89), (0, 64), (1, 11), (5, 90)], [], [], [], [], [], [], [], [], [], [(5, 87), (5, 89), (0, 64), (1, 11), (5, 90)], [], [(5, 95), (5, 97), (0, 66), (1, 11), (5, 98)], [], [], [], [], [(5, 117), (5, 119), (0, 70), (1, 11), (5, 120)], [], [], [], [], [], [], [], [], [], [], [], [], [], [], [(5, 16), (5, 18), (0, 54), (1, 11), (5, 19)], [], [], [], [], [(5, 12), (5, 14), (0, 53), (1, 11), (5, 15)], [(4, 206), (4, 207), (1, 11), (4, 208)], [], [], [], [], [], [], [], [(5, 12), (5, 14), (0, 53), (1, 11), (5, 15)], [], [], [], [(5, 16), (5, 18), (0, 54), (1, 11), (5, 19)], [(5, 109), (5, 111), (0, 68), (1, 11), (5, 112)], [], [], [], [], []] = true := by decide +kernel
theorem ko_181 : ∀ r ∈ kc_181, rok 181 r := rchk_ok kr_181
set_option maxRecDepth 100000 in
theorem kr_182 : rchk 182 kc_182 [[], [], [], [(5, 75), (5, 77), (0, 61), (1, 11), (5, 78)], [], [], [], [], [], [], [(4, 95)], [], [], [(4, 97)], [], [], [(4, 200), (4, 201), (1, 11), (4, 202)], [], [], [], [(4, 96)], [], [], [], [], [], [], [(5, 103), (5, 104), (1, 11), (5, 105)], [], [], [], [(5, 106), (5, 107), (1, 11), (5, 108)], [], [], [], [], [], []] = true := by decide +kernel
theorem ko_182 : ∀ r ∈ kc_182, rok 182 r := rchk_ok kr_182
set_option maxRecDepth 100000 in
theorem kr_183 : rchk 183 kc_183 [[], [], [], [], [], [], [(4, 95)], [], [], [], [], [], [], [], [(4, 97)], [], [], [], [], [], [], [], [], [], [], [], [(4, 96)], [], [], [], [], [], [], [], [], [], [], [], [], [], [], [], [], [], [], []] = true := by decide +kernel
theorem ko_183 : ∀ r ∈ kc_183, rok 183 r := rchk_ok kr_183
set_option maxRecDepth 100000 in
theorem kr_184 : rchk 184 kc_184 [[], [], [(5, 0), (5, 2), (0, 50), (1, 11), (5, 3)], [], [], [], [], [(4, 194), (4, 195), (1, 11), (4, 196)], [], [], [(4, 209), (4, 211), (0, 45), (1, 11), (4, 212)], [], [], [], [(5, 32), (5, 34), (0, 55), (1, 11), (5, 35)], [], [], [(4, 220), (4, 222), (0, 47), (1, 11), (4, 223)], [], [], [], [], [(4, 88)], [(5, 75), (5, 77), (0, 61), (1, 11), (5, 78)], [], [], [(5, 121), (5, 123), (0, 71), (1, 11), (5, 124)], []] = true := by decide +kernel
theorem ko_184 : ∀ r ∈ kc_184, rok 184 r := rchk_ok kr_184
set_option maxRecDepth 100000 in
theorem kr_185 : rchk 185 kc_185 [[], [], [(5, 0), (5, 2), (0, 50), (1, 11), (5, 3)], [], [], [], [], [], [], [(4, 194), (4, 195), (1, 11), (4, 196)], [], [], [(4, 209), (4, 211), (0, 45), (1, 11), (4, 212)], [], [], [], [(5, 32), (5, 34), (0, 55), (1, 11), (5, 35)], [], [], [(4, 220), (4, 222), (0, 47), (1, 11), (4, 223)], [], [], [], [], [(4, 88)], [(5, 75), (5, 77), (0, 61), (1, 11), (5, 78)], [], [], [(4, 95)], [], [], [], [], [], [], [(4, 96)], [], [], [], [], [], [], [], [(4, 97)], [], [], [], [], [(4, 98)], [], [], []] = true := by decide +kernel
theorem ko_185 : ∀ r ∈ kc_185, rok 185 r := rchk_ok kr_185
set_option maxRecDepth 100000 in
theorem kr_186 : rchk 186 kc_186 [[], [], [(5, 0), (5, 2), (0, 50), (1, 11), (5, 3)], [], [], [(4, 209), (4, 211), (0, 45), (1, 11), (4, 212)], [], [], [], [(5, 32), (5, 34), (0, 55), (1, 11), (5, 35)], [], [], [], [], [(4, 88)], [(5, 133), (5, 135), (0, 72), (1, 11), (5, 136)], [], [], [(4, 220), (4, 222), (0, 47), (1, 11), (4, 223)], []] = true := by decide +kernel
theorem ko_186 : ∀ r ∈ kc_186, rok 186 r := rchk_ok kr_186
set_option maxRecDepth 100000 in
theorem kr_187 : rchk 187 kc_187 [[], [], [], [], [], [], [], [(5, 4), (5, 6), (0, 51), (1, 11), (5, 7)], [], [], [], [(4, 99)], [], [], [], [], [(4, 100)], [], [], [], [], [], [], [], [], [], [], [], [], []] = true := by decide +kernel
theorem ko_187 : ∀ r ∈ kc_187, rok 187 r := rchk_ok kr_187
set_option maxRecDepth 100000 in
theorem kr_188 : rchk 188 kc_188 [[], [], [], [], [], [], [], [], [], [], [], [], [], [], [], [], [], [(4, 99)], [], [], [], [], [], [], [], [], [(5, 12), (5, 14), (0, 53), (1, 11), (5, 15)], [(5, 145), (5, 147), (0, 74), (1, 11), (5, 148)], [], [], [], [], [], [], [], [], [], [], [], [], [(4, 100)], [], [], [(5, 99), (5, 101), (0, 67), (1, 11), (5, 102)], [], [], [], [], [], [], [], [], [], [], [], [], [], [], [], [], [], [], [], [], [], [], [], [], [], []] = true := by decide +kernel
theorem ko_188 : ∀ r ∈ kc_188, rok 188 r := rchk_ok kr_188
set_option maxRecDepth 100000 in
theorem kr_189_0 : rchk 189 kc_189_0 [[], [], [(5, 0), (5, 2), (0, 50), (1, 11), (5, 3)], [], [], [], [], [(4, 194), (4, 195), (1, 11), (4, 196)], [], [], [(4, 209), (4, 211), (0, 45), (1, 11), (4, 212)], [], [], [], [(5, 32), (5, 34), (0, 55), (1, 11), (5, 35)], [], [], [(4, 220), (4, 222), (0, 47), (1, 11), (4, 223)], [], [], [], [(5, 79), (5, 81), (0, 62), (1, 11), (5, 82)], [], [], [], [], [], [], [], [], [], [], [], [(5, 4), (5, 6), (0, 51), (1, 11), (5, 7)], [], [], [(4, 99)], [], [], [], [], [], [], [(5, 141), (5, 143), (0, 73), (1, 11), (5, 144)], [], [], [], [], [], [(4, 99)], [], [], [], [], [], [], [], [], [], []] = true := by decide +kernel
set_option maxRecDepth 100000 in
theorem kr_189_1 : rchk 189 kc_189_1 [[], [], [], [], [], [], [], [], [], [], [], [], [], [], [], [], [], [], [], [], [], [], [], [], [], [], [], [], [], [], [], []] = true := by decide +kernel
theorem ko_189 : ∀ r ∈ kc_189, rok 189 r := rok_app (rchk_ok kr_189_0) (rchk_ok kr_189_1)
set_option maxRecDepth 100000 in
theorem kr_190 : rchk 190 kc_190 [[], [], [(5, 0), (5, 2), (0, 50), (1, 11), (5, 3)], [], [], [], [], [(4, 194), (4, 195), (1, 11), (4, 196)], [], [], [(4, 209), (4, 211), (0, 45), (1, 11), (4, 212)], [], [], [], [(5, 32), (5, 34), (0, 55), (1, 11), (5, 35)], [], [], [(4, 220), (4, 222), (0, 47), (1, 11), (4, 223)], [], [], [], [(5, 153)], [], [], [], [], [], [], [], [], [], [(5, 133), (5, 135), (0, 72), (1, 11), (5, 136)], [], [], [], [], [], [], [], [], [], [], [], [], [], [], [], [], [], [], [], [], [], [], []] = true := by decide +kernel
theorem ko_190 : ∀ r ∈ kc_190, rok 190 r := rchk_ok kr_190
set_option maxRecDepth 100000 in
theorem kr_191 : rchk 191 kc_191 [[], [], [(5, 0), (5, 2), (0, 50), (1, 11), (5, 3)], [], [], [(4, 203), (4, 204), (1, 11), (4, 205)], [], [], [(4, 209), (4, 211), (0, 45), (1, 11), (4, 212)], [], [], [], [], [], [], [], [], [], [], [], [], [], [(5, 4), (5, 6), (0, 51), (1, 11), (5, 7)], [], [], [], [], [], [], [(5, 12), (5, 14), (0, 53), (1, 11), (5, 15)], [], [], [], [], [], [(4, 217), (4, 218), (1, 11), (4, 219)], [], [], [], [], [(5, 16), (5, 18), (0, 54), (1, 11), (5, 19)], [], [], [], [], [(5, 16), (5, 18), (0, 54), (1, 11), (5, 19)], [], [], [], [], [], [(4, 217), (4, 218), (1, 11), (4, 219)], [], [], [], [], [], [], [], [], [], [], [], [], [], [], [], [], [], [], [], [], [], []] = true := by decide +kernel
theorem ko_191 : ∀ r ∈ kc_191, rok 191 r := rchk_ok kr_191
set_option maxRecDepth 100000 in
theorem kr_192 : rchk 192 kc_192 [[], [], [(4, 95)], [(4, 101)], [], [], [], [], [(4, 95)], [], [], [(4, 102)], [], [], [(4, 96)], [], [], [], [], [(4, 103)], [], [], [(4, 97)], [], [], [], [], [(4, 104)], [], [], [(4, 98)], [], [], [], [], [], []] = true := by decide +kernel
theorem ko_192 : ∀ r ∈ kc_192, rok 192 r := rchk_ok kr_192
set_option maxRecDepth 100000 in
theorem kr_193 : rchk 193 kc_193 [[], [], [], [], [], [], [], [], [(4, 95)], [], [], [], [(4, 101)], [], [], [(4, 95)], [], [], [], [], [], [], [(4, 101)], [], [], [], [], [], [], [(4, 96)], [], [], [], [(4, 102)], [], [], [], [], [(4, 97)], [], [], [], [(4, 103)], [], [], [], [], [(4, 98)], [], [], [], [(4, 104)], [], [], [], [], [], [], [], [], [], [], [], [], [], [], [], [], [], []] = true := by decide +kernel
theorem ko_193 : ∀ r ∈ kc_193, rok 193 r := rchk_ok kr_193
set_option maxRecDepth 100000 in
theorem kr_194_0 : rchk 194 kc_194_0 [[], [], [(4, 190), (4, 192), (0, 44), (1, 11), (4, 193)], [], [], [(4, 209), (4, 211), (0, 45), (1, 11), (4, 212)], [], [], [], [], [], [], [], [(4, 87)], [], [], [], [], [(4, 92)], [], [], [], [], [], [], [(5, 32), (5, 34), (0, 55), (1, 11), (5, 35)], [], [], [], [], [], [], [], [], [], [], [(4, 220), (4, 222), (0, 47), (1, 11), (4, 223)], [], [], [], [], [], [], [], [], [], [(4, 87)], [], [], [(4, 92)], [], [], [], [], [], [], [], [(4, 88)], [(5, 75), (5, 77), (0, 61), (1, 11), (5, 78)], []] = true := by decide +kernel
set_option maxRecDepth 100000 in
theorem kr_194_1 : rchk 194 kc_194_1 [[], [], [(5, 162), (5, 164), (0, 75), (1, 11), (5, 165)], [], [(4, 95)], [], [], [], [], [], [(5, 166), (5, 168), (0, 76), (1, 11), (5, 169)], [], [], [], [], [], [], [], [], [], [], [], []] = true := by decide +kernel
theorem ko_194 : ∀ r ∈ kc_194, rok 194 r := rok_app (rchk_ok kr_194_0) (rchk_ok kr_194_1)
set_option maxRecDepth 100000 in
theorem kr_195 : rchk 195 kc_195 [[], [(5, 178)], [], [(5, 179)], [], [(5, 180)], [], []] = true := by decide +kernel
theorem ko_195 : ∀ r ∈ kc_195, rok 195 r := rchk_ok kr_195
set_option maxRecDepth 100000 in
theorem kr_196 : rchk 196 kc_196 [[], [], [], [], [], [], [(4, 206), (4, 207), (1, 11), (4, 208)], []] = true := by decide +kernel
theorem ko_196 : ∀ r ∈ kc_196, rok 196 r := rchk_ok kr_196
set_option maxRecDepth 100000 in
theorem kr_197 : rchk 197 kc_197 [[], [], [], [], [(4, 200), (4, 201), (1, 11), (4, 202)], [], [], [(4, 105)], [], [(4, 206), (4, 207), (1, 11), (4, 208)], [], [], [], [], [], [], [], [], [], [], []] = true := by decide +kernel
theorem ko_197 : ∀ r ∈ kc_197, rok 197 r := rchk_ok kr_197
set_option maxRecDepth 100000 in
theorem kr_198_0 : rchk 198 kc_198_0 [[], [(4, 97)], [], [], [(5, 195), (5, 196), (1, 11), (5, 197)], [], [], [(4, 96)], [], [], [], [], [], [], [(4, 97)], [], [], [], [], [(4, 98)], [], [], [], [(5, 187), (5, 189), (0, 78), (1, 11), (5, 190)], [], [], [(4, 98)], [], [], [(5, 195), (5, 196), (1, 11), (5, 197)], [], [], [], [], [], [(4, 97)], [], [], [(4, 200), (4, 201), (1, 11), (4, 202)], [], [], [(4, 105)], [], [], [], [], [], [], [(4, 105)], [], [], [], [], [(4, 105)], [], [], [], [], [], []] = true := by decide +kernel
set_option maxRecDepth 100000 in
theorem kr_198_1 : rchk 198 kc_198_1 [[(4, 105)], [], [], [], [], [(4, 96)], [], [], [], [], [], [], [], [(4, 105)], [], [], [], [], [], [], [], []] = true := by decide +kernel
theorem ko_198 : ∀ r ∈ kc_198, rok 198 r := rok_app (rchk_ok kr_198_0) (rchk_ok kr_198_1)
set_option maxRecDepth 100000 in
theorem kr_199 : rchk 199 kc_199 [[], [], [], [], [], [], [(4, 106)], [], [], [(4, 105)], [], [], [], [], [], [], [], [], [], [], [(5, 4), (5, 6), (0, 51), (1, 11), (5, 7)], [], [], [], [], [(5, 12), (5, 14), (0, 53), (1, 11), (5, 15)], [], [], [], [], [(5, 16), (5, 18), (0, 54), (1, 11), (5, 19)], [], [], [], [], [], [], [], [], [(5, 187), (5, 189), (0, 78), (1, 11), (5, 190)], [], [], [], [], [], [(4, 200), (4, 201), (1, 11), (4, 202)], [], [], [(4, 105)], [], [(4, 206), (4, 207), (1, 11), (4, 208)], [], [], [], [(4, 106)], [], [(4, 206), (4, 207), (1, 11), (4, 208)], [], [], [], [], [], [], [], [], []] = true := by decide +kernel
theorem ko_199 : ∀ r ∈ kc_199, rok 199 r := rchk_ok kr_199
set_option maxRecDepth 100000 in
theorem kr_200_0 : rchk 200 kc_200_0 [[], [], [(5, 0), (5, 2), (0, 50), (1, 11), (5, 3)], [], [], [], [(5, 174)], [(4, 194), (4, 195), (1, 11), (4, 196)], [], [], [], [], [(4, 194), (4, 195), (1, 11), (4, 196)], [], [], [(4, 209), (4, 211), (0, 45), (1, 11), (4, 212)], [], [], [], [], [(5, 32), (5, 34), (0, 55), (1, 11), (5, 35)], [], [], [(4, 220), (4, 222), (0, 47), (1, 11), (4, 223)], [], [], [], [], [], [], [], [], [], [], [], [(5, 175), (5, 176), (1, 11), (5, 177)], [], [], [(4, 105)], [], [], [(5, 181)], [], [(5, 182)], [], [], [], [], [], [], [], [], [], [(5, 183), (5, 185), (0, 77), (1, 11), (5, 186)], [], [], [], [], [(4, 88)], [(5, 75), (5, 77), (0, 61), (1, 11), (5, 78)]] = true := by decide +kernel
set_option maxRecDepth 100000 in
theorem kr_200_1 : rchk 200 kc_200_1 [[], [], [], [], [(4, 95)], [], [], [], [(5, 191), (5, 193), (0, 79), (1, 11), (5, 194)], [], [], [], [], [], [], [], [], [], [(5, 198)], [], [], [], [(4, 105)], [], [], [], [], [], [], [], [], []] = true := by decide +kernel
theorem ko_200 : ∀ r ∈ kc_200, rok 200 r := rok_app (rchk_ok kr_200_0) (rchk_ok kr_200_1)
set_option maxRecDepth 100000 in
theorem kr_201_0 : rchk 201 kc_201_0 [[], [], [], [(4, 194), (4, 195), (1, 11), (4, 196)], [], [], [(4, 209), (4, 211), (0, 45), (1, 11), (4, 212)], [], [], [], [], [], [], [], [(4, 87)], [], [], [], [(5, 32), (5, 34), (0, 55), (1, 11), (5, 35)], [], [], [], [], [], [], [(4, 88)], [(5, 133), (5, 135), (0, 72), (1, 11), (5, 136)], [], [], [], [], [], [], [(4, 95)], [], [], [], [(5, 47), (5, 49), (0, 58), (1, 11), (5, 50)], [], [], [], [], [], [], [], [], [], [], [], [(4, 93)], [], [], [], [], [], [], [], [], [], []] = true := by decide +kernel
set_option maxRecDepth 100000 in
theorem kr_201_1 : rchk 201 kc_201_1 [[], [], [], [], [], [], [], [], [], [], [], [], [], [], [], [(4, 95)], [], [], [], [], [], [], [], []] = true := by decide +kernel
theorem ko_201 : ∀ r ∈ kc_201, rok 201 r := rok_app (rchk_ok kr_201_0) (rchk_ok kr_201_1)
set_option maxRecDepth 100000 in
theorem kr_202 : rchk 202 kc_202 [[], [], [], [], [], [], [], [], [(4, 87)], [], [], [], [(5, 32), (5, 34), (0, 55), (1, 11), (5, 35)], [], [], [], [], [(4, 88)], [(5, 133), (5, 135), (0, 72), (1, 11), (5, 136)], [], [(4, 93)], [], [], [], [], [], [], [], [], [], [], [], [], [], [], [], [], [], [], [], [], [], [], [], []] = true := by decide +kernel
theorem ko_202 : ∀ r ∈ kc_202, rok 202 r := rchk_ok kr_202
set_option maxRecDepth 100000 in
theorem kr_203_0 : rchk 203 kc_203_0 [[], [], [(4, 190), (4, 192), (0, 44), (1, 11), (4, 193)], [], [], [], [(4, 190), (4, 192), (0, 44), (1, 11), (4, 193)], [], [], [(4, 209), (4, 211), (0, 45), (1, 11), (4, 212)], [], [], [], [], [], [(4, 86)], [], [], [(4, 107)], [], [], [], [], [], [], [(5, 153)], [], [], [], [], [], [], [], [(4, 86)], [], [], [], [], [], [(4, 87)], [], [], [(4, 107)], [], [(4, 91)], [], [], [], [], [], [], [], [(4, 107)], [], [(4, 92)], [], [], [], [], [(4, 107)]] = true := by decide +kernel
set_option maxRecDepth 100000 in
theorem kr_203_1 : rchk 203 kc_203_1 [[], [(4, 92)], [], [], [], [], [], [], [], [(4, 107)], [], [(4, 92)], [], [], [], [], [], [], [], [], [], [(4, 107)], [], [], [(5, 153)], [], [], [], [], [(4, 107)], [], [], []] = true := by decide +kernel
theorem ko_203 : ∀ r ∈ kc_203, rok 203 r := rok_app (rchk_ok kr_203_0) (rchk_ok kr_203_1)
set_option maxRecDepth 100000 in
theorem kr_204_0 : rchk 204 kc_204_0 [[], [], [(5, 174)], [(4, 194), (4, 195), (1, 11), (4, 196)], [], [], [], [], [(4, 194), (4, 195), (1, 11), (4, 196)], [], [], [], [], [(4, 194), (4, 195), (1, 11), (4, 196)], [], [], [(4, 209), (4, 211), (0, 45), (1, 11), (4, 212)], [], [], [], [(4, 86)], [], [], [(4, 87)], [], [], [], [], [], [], [], [], [], [(4, 182), (4, 184), (0, 43), (1, 11), (4, 185)], [], [], [], [], [], [], [], [(5, 175), (5, 176), (1, 11), (5, 177)], [], [], [(5, 181)], [], [(5, 215)], [], [], [], [], [], [], [], [], [], [], [], [], []] = true := by decide +kernel
set_option maxRecDepth 100000 in
theorem kr_204_1 : rchk 204 kc_204_1 [[], [], [], [], [], [], [(4, 224), (4, 226), (0, 48), (1, 11), (4, 227)], [], [], [], [], [], [], [], [], [], [], [], [(5, 175), (5, 176), (1, 11), (5, 177)], [], [], [(5, 181)], [], [(5, 216)], [], [], [], [], [(5, 175), (5, 176), (1, 11), (5, 177)], [], [], [(5, 181)], [], [(5, 216)], [], [], [], [], [(5, 175), (5, 176), (1, 11), (5, 177)], [], [], [], [], [], [(5, 181)], [], [(5, 217)], [], [], [(4, 232), (4, 234), (0, 49), (1, 11), (4, 235)], [], [], [], [], [], [], [], [(5, 175), (5, 176), (1, 11), (5, 177)], [], []] = true := by decide +kernel
set_option maxRecDepth 100000 in
theorem kr_204_2 : rchk 204 kc_204_2 [[(5, 181)], [], [(5, 216)], [], [], [], [], [(5, 218)], [], [(5, 217)], [], [], [], [], [(4, 94)], [], [], [], [], [], [], [], [], [], [], [], [], [], [], [], [], [], [], [(5, 12), (5, 14), (0, 53), (1, 11), (5, 15)], [(4, 200), (4, 201), (1, 11), (4, 202)], [], [], [], [], [], [], [], []] = true := by decide +kernel
theorem ko_204 : ∀ r ∈ kc_204, rok 204 r := rok_app (rchk_ok kr_204_0) (rok_app (rchk_ok kr_204_1) (rchk_ok kr_204_2))
set_option maxRecDepth 100000 in
theorem kr_205 : rchk 205 kc_205 [[], [], [], [], [(4, 85)], [], [], [], [], [], [], [], [(4, 109)], [], [], [], [], [], [(4, 86)], [], [], [], [], [], [(4, 87)], [], [], [(4, 88)], []] = true := by decide +kernel
theorem ko_205 : ∀ r ∈ kc_205, rok 205 r := rchk_ok kr_205
set_option maxRecDepth 100000 in
theorem kr_206 : rchk 206 kc_206 [[], [], [], [(4, 194), (4, 195), (1, 11), (4, 196)], [], [], [], [(5, 223), (5, 225), (0, 80), (1, 11), (5, 226)], [], [], [(4, 209), (4, 211), (0, 45), (1, 11), (4, 212)], []] = true := by decide +kernel
theorem ko_206 : ∀ r ∈ kc_206, rok 206 r := rchk_ok kr_206
set_option maxRecDepth 100000 in
theorem kr_207_0 : rchk 207 kc_207_0 [[(5, 231)], [], [], [], [], [], [], [(5, 198)], [], [], [], [], [(5, 223), (5, 225), (0, 80), (1, 11), (5, 226)], [], [], [], [], [], [], [], [], [], [(4, 86)], [], [(5, 198)], [], [], [], [(4, 89)], [], [], [], [], [], [], [], [], [], [(4, 89)], [], [], [], [(5, 198)], [], [], [], [(4, 90)], [], [], [], [], [], [], [], [], [], [], [], [], []] = true := by decide +kernel
set_option maxRecDepth 100000 in
theorem kr_207_1 : rchk 207 kc_207_1 [[], [], [], [], [(4, 87)], [], [(5, 198)], [], [], [], [(4, 91)], [], [], [], [], [], [(5, 198)], [], [], [], [(4, 92)], [], [], [], [], [], [(5, 198)], [], [], [], [(4, 93)], [], [], [], [], [], [], [], [], [], [], [(5, 4), (5, 6), (0, 51), (1, 11), (5, 7)], [], [(5, 198)], [], [], [], [], [], [(5, 16), (5, 18), (0, 54), (1, 11), (5, 19)], [], [], [], [], [], [], [], [], []] = true := by decide +kernel
theorem ko_207 : ∀ r ∈ kc_207, rok 207 r := rok_app (rchk_ok kr_207_0) (rchk_ok kr_207_1)
set_option maxRecDepth 100000 in
theorem kr_208 : rchk 208 kc_208 [[], [], [], [(4, 194), (4, 195), (1, 11), (4, 196)], [], [], [(4, 209), (4, 211), (0, 45), (1, 11), (4, 212)], [], [], [(4, 109)], [], [], [], [(4, 178), (4, 180), (0, 42), (1, 11), (4, 181)], [], [], [(4, 108)], [], [(4, 109)], [], [], [], [], [(4, 109)], [], [], [(4, 109)], [], [(4, 109)], []] = true := by decide +kernel
theorem ko_208 : ∀ r ∈ kc_208, rok 208 r := rchk_ok kr_208
set_option maxRecDepth 100000 in
theorem kr_209 : rchk 209 kc_209 [[], [(4, 109)], [], [], [], [(4, 109)], [], []] = true := by decide +kernel
theorem ko_209 : ∀ r ∈ kc_209, rok 209 r := rchk_ok kr_209
set_option maxRecDepth 100000 in
theorem kr_210 : rchk 210 kc_210 [[], [(4, 110)], [], [(4, 109)], [], [], [(4, 108)], [], [(4, 110)], [], [], [], []] = true := by decide +kernel
theorem ko_210 : ∀ r ∈ kc_210, rok 210 r := rchk_ok kr_210
set_option maxRecDepth 100000 in
theorem kr_211 : rchk 211 kc_211 [[], [(6, 16), (6, 18), (0, 84), (1, 11), (6, 19)], [], [], [], [], [(4, 110)], [], [], [(4, 110)], [], []] = true := by decide +kernel
theorem ko_211 : ∀ r ∈ kc_211, rok 211 r := rchk_ok kr_211
set_option maxRecDepth 100000 in
theorem kr_212 : rchk 212 kc_212 [[], [], [], [(4, 194), (4, 195), (1, 11), (4, 196)], []] = true := by decide +kernel
theorem ko_212 : ∀ r ∈ kc_212, rok 212 r := rchk_ok kr_212
set_option maxRecDepth 100000 in
theorem kr_213 : rchk 213 kc_213 [[], [], [], [], [], [], [(4, 109)], [], [], [(4, 108)], [], [], [], [], [(6, 24), (6, 25), (1, 11), (6, 26)], [], [], [], [], []] = true := by decide +kernel
theorem ko_213 : ∀ r ∈ kc_213, rok 213 r := rchk_ok kr_213
set_option maxRecDepth 100000 in
theorem kr_214 : rchk 214 kc_214 [[], [(6, 12), (6, 14), (0, 83), (1, 11), (6, 15)], [], [], [(4, 110)], [(6, 31), (6, 33), (0, 87), (1, 11), (6, 34)], [], [], [], [], [], [], [], [], [], [], [], [], [], [], [], [(4, 108)], [], [(4, 110)], [], [], [], [], [], [], [], [], [], [], [], [], [(4, 194), (4, 195), (1, 11), (4, 196)], [], [], [], [], [(4, 194), (4, 195), (1, 11), (4, 196)], [], [], [], [], [], [(4, 111)], [], [], [(4, 110)], [], [], [(4, 110)], [], []] = true := by decide +kernel
theorem ko_214 : ∀ r ∈ kc_214, rok 214 r := rchk_ok kr_214
set_option maxRecDepth 100000 in
theorem kr_215 : rchk 215 kc_215 [[], [(6, 12), (6, 14), (0, 83), (1, 11), (6, 15)], [], [(6, 16), (6, 18), (0, 84), (1, 11), (6, 19)], [], [], [], [], [], [], [(4, 110)], [], [], [(4, 110)], [], []] = true := by decide +kernel
theorem ko_215 : ∀ r ∈ kc_215, rok 215 r := rchk_ok kr_215
set_option maxRecDepth 100000 in
theorem kr_216 : rchk 216 kc_216 [[], [(4, 86)], [], [], [], [], [], [], [(4, 110)], [], [], [(4, 110)], [], [(4, 182), (4, 184), (0, 43), (1, 11), (4, 185)], [], [], [(6, 12), (6, 14), (0, 83), (1, 11), (6, 15)], [], [(6, 16), (6, 18), (0, 84), (1, 11), (6, 19)], [(6, 24), (6, 25), (1, 11), (6, 26)], [], [], [(4, 110)], [], [], [(4, 89)], [], [], [], [], [], [], [], [(6, 27), (6, 29), (0, 86), (1, 11), (6, 30)], [], [], [], [], [(4, 111)], [(4, 197), (4, 198), (1, 11), (4, 199)], [], [], [], [], [(4, 111)], [(4, 213), (4, 215), (0, 46), (1, 11), (4, 216)], [], [], [], [(4, 110)], [], [], [], [], [], [(4, 111)], [(4, 224), (4, 226), (0, 48), (1, 11), (4, 227)], [], [], [(6, 12), (6, 14), (0, 83), (1, 11), (6, 15)], [], [], [(6, 35), (6, 37), (0, 88), (1, 11), (6, 38)], []] = true := by decide +kernel
theorem ko_216 : ∀ r ∈ kc_216, rok 216 r := rchk_ok kr_216
set_option maxRecDepth 100000 in
theorem kr_217 : rchk 217 kc_217 [[], [], [(4, 110)], [], [], [(6, 31), (6, 33), (0, 87), (1, 11), (6, 34)], [], [], [], [], [], [], [], [], [], [], [], [], [], [], [], [(4, 108)], [], [(4, 110)], [], [], [], [], [], [], [], [], [], [], [], [], [], [], [(4, 194), (4, 195), (1, 11), (4, 196)], [], [], [], [], [], [], [], [], [(4, 110)], [], [], [], [], [(4, 110)], [], [], [], []] = true := by decide +kernel
theorem ko_217 : ∀ r ∈ kc_217, rok 217 r := rchk_ok kr_217
set_option maxRecDepth 100000 in
theorem kr_218 : rchk 218 kc_218 [[], [(6, 12), (6, 14), (0, 83), (1, 11), (6, 15)], [], [(4, 110)], [], [], [], [], [(6, 16), (6, 18), (0, 84), (1, 11), (6, 19)], [], [], [], [(6, 47), (6, 49), (0, 91), (1, 11), (6, 50)], [], [], [], [], [], [(6, 27), (6, 29), (0, 86), (1, 11), (6, 30)], [], [], [(4, 111)], [], [], [], [], [], [], [], [(5, 8), (5, 10), (0, 52), (1, 11), (5, 11)], [], [], [], [(4, 110)], [], [], [], [(4, 94)], [], [], [], [], [], [], [], [], []] = true := by decide +kernel
theorem ko_218 : ∀ r ∈ kc_218, rok 218 r := rchk_ok kr_218
set_option maxRecDepth 100000 in
theorem kr_219_0 : rchk 219 kc_219_0 [[], [(4, 87)], [], [], [], [], [], [], [(4, 110)], [], [], [(4, 110)], [], [], [], [(4, 86)], [], [], [(6, 27), (6, 29), (0, 86), (1, 11), (6, 30)], [], [], [], [], [(4, 111)], [], [], [], [], [(4, 86)], [], [], [(6, 27), (6, 29), (0, 86), (1, 11), (6, 30)], [], [], [], [], [(4, 111)], [], [], [], [], [(6, 27), (6, 29), (0, 86), (1, 11), (6, 30)], [], [], [], [], [], [], [], [(4, 111)], [(4, 232), (4, 234), (0, 49), (1, 11), (4, 235)], [], [], [(6, 12), (6, 14), (0, 83), (1, 11), (6, 15)], [], [(6, 16), (6, 18), (0, 84), (1, 11), (6, 19)], [], [], [], [(6, 35), (6, 37), (0, 88), (1, 11), (6, 38)]] = true := by decide +kernel
set_option maxRecDepth 100000 in
theorem kr_219_1 : rchk 219 kc_219_1 [[], [], [], [(5, 4), (5, 6), (0, 51), (1, 11), (5, 7)], [], [], [], [], [], [(4, 110)], [], [], [(4, 110)], [], [], [], [], [], [(5, 4), (5, 6), (0, 51), (1, 11), (5, 7)], [], [], [], [], [(6, 43), (6, 45), (0, 90), (1, 11), (6, 46)], [], [], [], [], [], [], [(6, 35), (6, 37), (0, 88), (1, 11), (6, 38)], []] = true := by decide +kernel
theorem ko_219 : ∀ r ∈ kc_219, rok 219 r := rok_app (rchk_ok kr_219_0) (rchk_ok kr_219_1)
set_option maxRecDepth 100000 in
theorem kr_220 : rchk 220 kc_220 [[], [], [(4, 110)], [], [], [(4, 86)], [], [], [(4, 87)], [], [], [], [(6, 12), (6, 14), (0, 83), (1, 11), (6, 15)], [], [(4, 110)], [], [(4, 109)], [], [], [(6, 16), (6, 18), (0, 84), (1, 11), (6, 19)], [], [], [], [(6, 20), (6, 22), (0, 85), (1, 11), (6, 23)], [], [], [], [(6, 16), (6, 18), (0, 84), (1, 11), (6, 19)], [], [], [], [(6, 39), (6, 41), (0, 89), (1, 11), (6, 42)], [], [], [], [], [], [(6, 12), (6, 14), (0, 83), (1, 11), (6, 15)], [], [], [], [], [], [], []] = true := by decide +kernel
theorem ko_220 : ∀ r ∈ kc_220, rok 220 r := rchk_ok kr_220
set_option maxRecDepth 100000 in
theorem kr_221_0 : rchk 221 kc_221_0 [[], [(4, 112)], [], [], [(4, 86)], [], [], [(4, 112)], [], [], [(4, 87)], [], [], [], [], [], [], [], [(4, 112)], [], [], [], [], [(4, 89)], [], [], [], [], [], [], [], [], [], [], [], [(4, 112)], [], [], [], [], [(4, 90)], [], [], [], [], [], [], [], [], [], [], [], [(4, 112)], [], [], [], [], [(4, 91)], [], []] = true := by decide +kernel
set_option maxRecDepth 100000 in
theorem kr_221_1 : rchk 221 kc_221_1 [[], [], [(4, 112)], [], [], [], [], [(4, 92)], [], [], [], [], [(4, 112)], [], [], [], [], [(4, 93)], [], [], [], [], [], [], [], [], [], [], [], [(4, 112)], [], [], [], [], [(4, 94)], [], [], [], [], [], []] = true := by decide +kernel
theorem ko_221 : ∀ r ∈ kc_221, rok 221 r := rok_app (rchk_ok kr_221_0) (rchk_ok kr_221_1)
set_option maxRecDepth 100000 in
theorem kr_222_0 : rchk 222 kc_222_0 [[], [], [(4, 112)], [], [], [(4, 86)], [], [], [(4, 112)], [], [], [(4, 87)], [], [], [], [], [], [], [(4, 89)], [], [], [(4, 112)], [], [], [], [], [], [], [], [], [], [], [], [], [], [(4, 90)], [], [], [(4, 112)], [], [], [], [], [], [], [], [], [], [], [], [], [], [(4, 91)], [], [], [(4, 112)], [], [], [], []] = true := by decide +kernel
set_option maxRecDepth 100000 in
theorem kr_222_1 : rchk 222 kc_222_1 [[], [], [(4, 92)], [], [], [(4, 112)], [], [], [], [], [], [], [(4, 93)], [], [], [(4, 112)], [], [], [], [], [], [], [], [], [], [], [], [], [], [(4, 94)], [], [], [(4, 112)], [], [], [], [], [], [], [], []] = true := by decide +kernel
theorem ko_222 : ∀ r ∈ kc_222, rok 222 r := rok_app (rchk_ok kr_222_0) (rchk_ok kr_222_1)
set_option maxRecDepth 100000 in
theorem kr_223 : rchk 223 kc_223 [[], [(6, 4), (6, 6), (0, 81), (1, 11), (6, 7)], [], [(6, 8), (6, 10), (0, 82), (1, 11), (6, 11)], [], [], [], [], [(6, 51), (6, 53), (0, 92), (1, 11), (6, 54)], [], [], [(4, 110)], [], [], [], []] = true := by decide +kernel
theorem ko_223 : ∀ r ∈ kc_223, rok 223 r := rchk_ok kr_223
end
section
set_option maxRecDepth 100000 in
theorem kr_224_0 : rchk 224 kc_224_0 [[(1, 17), (1, 18), (1, 1)], [], [(1, 19), (1, 20), (1, 1), (1, 21)], [], [(4, 79), (4, 80), (1, 11)], [], [(4, 81), (4, 82), (1, 11), (4, 83)], [], [], [], [], [], [], [], [], [], [], [], [], [], [], [], [], [(2, 34), (2, 35), (2, 36), (1, 1), (2, 37)], [], [(4, 170), (4, 171), (4, 172), (1, 11), (4, 173)], [], [], [], [], [(2, 42), (2, 43), (2, 44), (1, 1), (2, 45)], [], [(4, 174), (4, 175), (4, 176), (1, 11), (4, 177)], [], [], [], [], [], [], [], [], [], [], [], [], [], [], [(2, 54), (2, 55), (2, 56), (1, 1), (2, 57)], [], [], [], [], [], [], [], [], [], [], [], [(4, 186), (4, 187), (4, 188), (1, 11), (4, 189)]] = true := by decide +kernel
set_option maxRecDepth 100000 in
theorem kr_224_1 : rchk 224 kc_224_1 [[], [], [], [], [], [], [], [], [], [], [], [], [], [], [], [], [], [], [], [(2, 89), (2, 90), (2, 91), (1, 1), (2, 92)], [], [], [], [], [], [], [], [], [], [], [], [], [], [], [], [], [(4, 228), (4, 229), (4, 230), (1, 11), (4, 231)], [], [], [], [], [], [], [], [], [], [], [], [], [], [], [], [], [], [], [], [(2, 101), (2, 102), (2, 103), (1, 1), (2, 104)], [], [], []] = true := by decide +kernel
set_option maxRecDepth 100000 in
theorem kr_224_2 : rchk 224 kc_224_2 [[], [], [], [], [], [], [], [], [], [], [], [], [], [(4, 236), (4, 237), (4, 238), (1, 11), (4, 239)], [], [], [], [], [], [], [], [], [], [], [], [], [], [], [(2, 124), (2, 125), (2, 126), (1, 1), (2, 127)], [], [], [], [], [], [], [], [], [], [], [], [(5, 20), (5, 21), (5, 22), (1, 11), (5, 23)], [], [], [], [], [], [], [], [], [], [(2, 128), (2, 129), (2, 130), (1, 1), (2, 131)], [], [], [], [], [], [], [(5, 24), (5, 25), (5, 26), (1, 11), (5, 27)], [], []] = true := by decide +kernel
set_option maxRecDepth 100000 in
theorem kr_224_3 : rchk 224 kc_224_3 [[], [], [], [], [], [], [], [], [], [], [], [], [(2, 132), (2, 133), (2, 134), (1, 1), (2, 135)], [], [], [], [], [], [], [], [], [], [], [], [(5, 28), (5, 29), (5, 30), (1, 11), (5, 31)], [], [], [], [], [], [], [], [], [], [], [], [], [], [], [(2, 168), (2, 169), (2, 170), (1, 1), (2, 171)], [], [], [], [], [], [], [], [], [], [], [], [(5, 59), (5, 60), (5, 61), (1, 11), (5, 62)], [], [], [], [], [], [], [], []] = true := by decide +kernel
set_option maxRecDepth 100000 in
theorem kr_224_4 : rchk 224 kc_224_4 [[], [], [], [], [], [], [(2, 174), (2, 175), (2, 176), (1, 1), (2, 177)], [], [], [], [], [], [], [], [], [], [], [], [(5, 63), (5, 64), (5, 65), (1, 11), (5, 66)], [], [], [], [], [], [], [], [], [], [], [], [], [], [], [(2, 178), (2, 179), (2, 180), (1, 1), (2, 181)], [], [], [], [], [], [], [], [], [], [], [], [(5, 67), (5, 68), (5, 69), (1, 11), (5, 70)], [], [], [], [], [], [], [], [], [], [(2, 182), (2, 183), (2, 184), (1, 1), (2, 185)], [], [], [], []] = true := by decide +kernel
set_option maxRecDepth 100000 in
theorem kr_224_5 : rchk 224 kc_224_5 [[], [], [(5, 232), (5, 233), (5, 234), (1, 11), (5, 235)], [], [], [], [], [(2, 190), (2, 191), (2, 192), (1, 1), (2, 193)], [], [(5, 236), (5, 237), (5, 238), (1, 11), (5, 239)], [], [], [], [], [(2, 194), (2, 195), (2, 196), (1, 1), (2, 197)], [], [(6, 0), (6, 1), (6, 2), (1, 11), (6, 3)], [], [], [], [], [], [], [], [], [], [], [], [], [], [], [(3, 15), (3, 16), (3, 17), (1, 1), (3, 18)], [], [], [], [], [], [], [], [], [], [], [], [(5, 71), (5, 72), (5, 73), (1, 11), (5, 74)], [], [], [], [], [], [], [], [], [], [], [], [], [], [], [], []] = true := by decide +kernel
set_option maxRecDepth 100000 in
theorem kr_224_6 : rchk 224 kc_224_6 [[], [], [], [(3, 113), (3, 114), (3, 115), (1, 1), (3, 116)], [], [], [], [], [], [], [], [], [], [], [], [], [], [], [], [], [(5, 125), (5, 126), (5, 127), (1, 11), (5, 128)], [], [], [], [], [], [], [], [], [], [(3, 117), (3, 118), (3, 119), (1, 1), (3, 120)], [], [], [], [], [], [], [(5, 129), (5, 130), (5, 131), (1, 11), (5, 132)], [], [], [], [], [], [], [], [], [], [], [], [], [], [], [(3, 127), (3, 128), (3, 129), (1, 1), (3, 130)], [], [], [], [], [], [], []] = true := by decide +kernel
set_option maxRecDepth 100000 in
theorem kr_224_7 : rchk 224 kc_224_7 [[], [], [], [], [(5, 137), (5, 138), (5, 139), (1, 11), (5, 140)], [], [], [], [], [], [], [], [], [], [], [], [], [], [], [(3, 163), (3, 164), (3, 165), (1, 1), (3, 166)], [], [], [], [], [], [], [], [], [], [], [], [(5, 149), (5, 150), (5, 151), (1, 11), (5, 152)], [], [], [], [], [], [], [], [], [], [], [], [], [], [], [(3, 171), (3, 172), (3, 173), (1, 1), (3, 174)], [], [], [], [], [], [], [], [], [], [], [], [(5, 154), (5, 155), (5, 156), (1, 11), (5, 157)], []] = true := by decide +kernel
set_option maxRecDepth 100000 in
theorem kr_224_8 : rchk 224 kc_224_8 [[], [], [], [], [], [], [], [], [(3, 182), (3, 183), (3, 184), (1, 1), (3, 185)], [], [], [], [], [], [], [(5, 158), (5, 159), (5, 160), (1, 11), (5, 161)], [], [], [], [], [], [], [], [], [], [], [], [], [], [], [], [], [], [], [], [(3, 201), (3, 202), (3, 203), (1, 1), (3, 204)], [], [], [], [], [], [], [], [], [], [], [], [], [], [], [], [], [(5, 170), (5, 171), (5, 172), (1, 11), (5, 173)], [], [], [], [], [], [], []] = true := by decide +kernel
set_option maxRecDepth 100000 in
theorem kr_224_9 : rchk 224 kc_224_9 [[], [], [], [(4, 10), (4, 11), (4, 12), (1, 1), (4, 13)], [], [], [], [], [], [], [(5, 199), (5, 200), (5, 201), (1, 11), (5, 202)], [], [], [], [], [(4, 18), (4, 19), (4, 20), (1, 1), (4, 21)], [], [(5, 203), (5, 204), (5, 205), (1, 11), (5, 206)], [], [], [], [], [], [], [], [], [], [], [], [], [], [], [(4, 26), (4, 27), (4, 28), (1, 1), (4, 29)], [], [], [], [], [], [], [], [], [], [], [], [(5, 207), (5, 208), (5, 209), (1, 11), (5, 210)], [], [], [], [], [], [], [], [], [], [], [], [], [], [], []] = true := by decide +kernel
set_option maxRecDepth 100000 in
theorem kr_224_10 : rchk 224 kc_224_10 [[], [], [], [], [(4, 37), (4, 38), (4, 39), (1, 1), (4, 40)], [], [], [], [], [], [], [], [], [], [], [], [], [], [], [], [], [(5, 211), (5, 212), (5, 213), (1, 11), (5, 214)], [], [], [], [], [], [], [], [], [], [(4, 55), (4, 56), (4, 57), (1, 1), (4, 58)], [], [], [], [], [], [], [(5, 219), (5, 220), (5, 221), (1, 11), (5, 222)], [], [], [], [], [(4, 63), (4, 64), (4, 65), (1, 1), (4, 66)], [], [(5, 227), (5, 228), (5, 229), (1, 11), (5, 230)], [], [], [], [], [], [], [], []] = true := by decide +kernel
theorem ko_224 : ∀ r ∈ kc_224, rok 224 r := rok_app (rchk_ok kr_224_0) (rok_app (rchk_ok kr_224_1) (rok_app (rchk_ok kr_224_2) (rok_app (rchk_ok kr_224_3) (rok_app (rchk_ok kr_224_4) (rok_app (rchk_ok kr_224_5) (rok_app (rchk_ok kr_224_6) (rok_app (rchk_ok kr_224_7) (rok_app (rchk_ok kr_224_8) (rok_app (rchk_ok kr_224_9) (rchk_ok kr_224_10))))))))))
theorem rok_all : ∀ j, j < 225 → ∀ r ∈ codL j, rok j r := by
  intro j hj
  match j, hj with
  | 0, _ => exact ko_0
  | 1, _ => exact ko_1
  | 2, _ => exact ko_2
  | 3, _ => exact ko_3
  | 4, _ => exact ko_4
  | 5, _ => exact ko_5
  | 6, _ => exact ko_6
  | 7, _ => exact ko_7
  | 8, _ => exact ko_8
  | 9, _ => exact ko_9
  | 10, _ => exact ko_10
  | 11, _ => exact ko_11
  | 12, _ => exact ko_12
  | 13, _ => exact ko_13
  | 14, _ => exact ko_14
  | 15, _ => exact ko_15
  | 16, _ => exact ko_16
  | 17, _ => exact ko_17
  | 18, _ => exact ko_18
  | 19, _ => exact ko_19
  | 20, _ => exact ko_20
  | 21, _ => exact ko_21
  | 22, _ => exact ko_22
  | 23, _ => exact ko_23
  | 24, _ => exact ko_24
  | 25, _ => exact ko_25
  | 26, _ => exact ko_26
  | 27, _ => exact ko_27
  | 28, _ => exact ko_28
  | 29, _ => exact ko_29
  | 30, _ => exact ko_30
  | 31, _ => exact ko_31
  | 32, _ => exact ko_32
  | 33, _ => exact ko_33
  | 34, _ => exact ko_34
  | 35, _ => exact ko_35
  | 36, _ => exact ko_36
  | 37, _ => exact ko_37
  | 38, _ => exact ko_38
  | 39, _ => exact ko_39
  | 40, _ => exact ko_40
  | 41, _ => exact ko_41
  | 42, _ => exact ko_42
  | 43, _ => exact ko_43
  | 44, _ => exact ko_44
  | 45, _ => exact ko_45
  | 46, _ => exact ko_46
  | 47, _ => exact ko_47
  | 48, _ => exact ko_48
  | 49, _ => exact ko_49
  | 50, _ => exact ko_50
  | 51, _ => exact ko_51
  | 52, _ => exact ko_52
  | 53, _ => exact ko_53
  | 54, _ => exact ko_54
  | 55, _ => exact ko_55
  | 56, _ => exact ko_56
  | 57, _ => exact ko_57
  | 58, _ => exact ko_58
  | 59, _ => exact ko_59
  | 60, _ => exact ko_60
  | 61, _ => exact ko_61
  | 62, _ => exact ko_62
  | 63, _ => exact ko_63
  | 64, _ => exact ko_64
  | 65, _ => exact ko_65
  | 66, _ => exact ko_66
  | 67, _ => exact ko_67
  | 68, _ => exact ko_68
  | 69, _ => exact ko_69
  | 70, _ => exact ko_70
  | 71, _ => exact ko_71
  | 72, _ => exact ko_72
  | 73, _ => exact ko_73
  | 74, _ => exact ko_74
  | 75, _ => exact ko_75
  | 76, _ => exact ko_76
  | 77, _ => exact ko_77
  | 78, _ => exact ko_78
  | 79, _ => exact ko_79
  | 80, _ => exact ko_80
  | 81, _ => exact ko_81
  | 82, _ => exact ko_82
  | 83, _ => exact ko_83
  | 84, _ => exact ko_84
  | 85, _ => exact ko_85
  | 86, _ => exact ko_86
  | 87, _ => exact ko_87
  | 88, _ => exact ko_88
  | 89, _ => exact ko_89
  | 90, _ => exact ko_90
  | 91, _ => exact ko_91
  | 92, _ => exact ko_92
  | 93, _ => exact ko_93
  | 94, _ => exact ko_94
  | 95, _ => exact ko_95
  | 96, _ => exact ko_96
  | 97, _ => exact ko_97
  | 98, _ => exact ko_98
  | 99, _ => exact ko_99
  | 100, _ => exact ko_100
  | 101, _ => exact ko_101
  | 102, _ => exact ko_102
  | 103, _ => exact ko_103
  | 104, _ => exact ko_104
  | 105, _ => exact ko_105
  | 106, _ => exact ko_106
  | 107, _ => exact ko_107
  | 108, _ => exact ko_108
  | 109, _ => exact ko_109
  | 110, _ => exact ko_110
  | 111, _ => exact ko_111
  | 112, _ => exact ko_112
  | 113, _ => exact ko_113
  | 114, _ => exact ko_114
  | 115, _ => exact ko_115
  | 116, _ => exact ko_116
  | 117, _ => exact ko_117
  | 118, _ => exact ko_118
  | 119, _ => exact ko_119
  | 120, _ => exact ko_120
  | 121, _ => exact ko_121
  | 122, _ => exact ko_122
  | 123, _ => exact ko_123
  | 124, _ => exact ko_124
  | 125, _ => exact ko_125
  | 126, _ => exact ko_126
  | 127, _ => exact ko_127
  | 128, _ => exact ko_128
  | 129, _ => exact ko_129
  | 130, _ => exact ko_130
  | 131, _ => exact ko_131
  | 132, _ => exact ko_132
  | 133, _ => exact ko_133
  | 134, _ => exact ko_134
  | 135, _ => exact ko_135
  | 136, _ => exact ko_136
  | 137, _ => exact ko_137
  | 138, _ => exact ko_138
  | 139, _ => exact ko_139
  | 140, _ => exact ko_140
  | 141, _ => exact ko_141
  | 142, _ => exact ko_142
  | 143, _ => exact ko_143
  | 144, _ => exact ko_144
  | 145, _ => exact ko_145
  | 146, _ => exact ko_146
  | 147, _ => exact ko_147
  | 148, _ => exact ko_148
  | 149, _ => exact ko_149
  | 150, _ => exact ko_150
  | 151, _ => exact ko_151
  | 152, _ => exact ko_152
  | 153, _ => exact ko_153
  | 154, _ => exact ko_154
  | 155, _ => exact ko_155
  | 156, _ => exact ko_156
  | 157, _ => exact ko_157
  | 158, _ => exact ko_158
  | 159, _ => exact ko_159
  | 160, _ => exact ko_160
  | 161, _ => exact ko_161
  | 162, _ => exact ko_162
  | 163, _ => exact ko_163
  | 164, _ => exact ko_164
  | 165, _ => exact ko_165
  | 166, _ => exact ko_166
  | 167, _ => exact ko_167
  | 168, _ => exact ko_168
  | 169, _ => exact ko_169
  | 170, _ => exact ko_170
  | 171, _ => exact ko_171
  | 172, _ => exact ko_172
  | 173, _ => exact ko_173
  | 174, _ => exact ko_174
  | 175, _ => exact ko_175
  | 176, _ => exact ko_176
  | 177, _ => exact ko_177
  | 178, _ => exact ko_178
  | 179, _ => exact ko_179
  | 180, _ => exact ko_180
  | 181, _ => exact ko_181
  | 182, _ => exact ko_182
  | 183, _ => exact ko_183
  | 184, _ => exact ko_184
  | 185, _ => exact ko_185
  | 186, _ => exact ko_186
  | 187, _ => exact ko_187
  | 188, _ => exact ko_188
  | 189, _ => exact ko_189
  | 190, _ => exact ko_190
  | 191, _ => exact ko_191
  | 192, _ => exact ko_192
  | 193, _ => exact ko_193
  | 194, _ => exact ko_194
  | 195, _ => exact ko_195
  | 196, _ => exact ko_196
  | 197, _ => exact ko_197
  | 198, _ => exact ko_198
  | 199, _ => exact ko_199
  | 200, _ => exact ko_200
  | 201, _ => exact ko_201
  | 202, _ => exact ko_202
  | 203, _ => exact ko_203
  | 204, _ => exact ko_204
  | 205, _ => exact ko_205
  | 206, _ => exact ko_206
  | 207, _ => exact ko_207
  | 208, _ => exact ko_208
  | 209, _ => exact ko_209
  | 210, _ => exact ko_210
  | 211, _ => exact ko_211
  | 212, _ => exact ko_212
  | 213, _ => exact ko_213
  | 214, _ => exact ko_214
  | 215, _ => exact ko_215
  | 216, _ => exact ko_216
  | 217, _ => exact ko_217
  | 218, _ => exact ko_218
  | 219, _ => exact ko_219
  | 220, _ => exact ko_220
  | 221, _ => exact ko_221
  | 222, _ => exact ko_222
  | 223, _ => exact ko_223
  | 224, _ => exact ko_224
  | j + 225, h => exact absurd h (by omega)
end
section
/-! the run of a method as a partial function, and its rows as equations -/
theorem ex_mono : ∀ (n j pc : Nat) (ls st : List AVal) (sh : List AShp) (g : AMem) (r : ARes), ex n j pc ls st sh g = some r → ∀ m, n ≤ m → ex m j pc ls st sh g = some r
  | 0, _, _, _, _, _, _, _, h, _, _ => by simp [ex] at h
  | n + 1, j, pc, ls, st, sh, g, r, h, 0, hm => by omega
  | n + 1, j, pc, ls, st, sh, g, r, h, m + 1, hm => by
    have hm' : n ≤ m := by omega
    rw [ex] at h ⊢
    split at h
    · cases h
    · rename_i ins len x y z hlk
      (try rw [hlk])
      (try dsimp only)
      split at h
      · rename_i hk
        (try rw [hk])
        (try dsimp only)
        split at h
        · rename_i pc' ls' st' sh1 g1 hst
          (try rw [hst])
          exact ex_mono n _ _ _ _ _ _ _ h m hm'
        · cases h
      · rename_i hk
        (try rw [hk])
        (try dsimp only)
        split at h
        · rename_i hc
          (try rw [if_pos hc])
          split at h
          · rename_i q hq
            rw [ex_mono n _ _ _ _ _ _ _ hq m hm']
            exact ex_mono n _ _ _ _ _ _ _ h m hm'
          · cases h
        · cases h
      · exact h
noncomputable def RF (j pc : Nat) (ls st : List AVal) (sh : List AShp) (g : AMem) : Option ARes :=
  @dite _ (∃ r n, ex n j pc ls st sh g = some r) (Classical.propDecidable _) (fun h => some h.choose) (fun _ => none)
theorem RF_of {n j pc : Nat} {ls st : List AVal} {sh : List AShp} {g : AMem} {r : ARes} (h : ex n j pc ls st sh g = some r) : RF j pc ls st sh g = some r := by
  have hx : ∃ r n, ex n j pc ls st sh g = some r := ⟨r, n, h⟩
  unfold RF
  rw [dif_pos hx]
  obtain ⟨m, hm⟩ := hx.choose_spec
  have h1 := ex_mono _ _ _ _ _ _ _ _ h (max n m) (Nat.le_max_left _ _)
  have h2 := ex_mono _ _ _ _ _ _ _ _ hm (max n m) (Nat.le_max_right _ _)
  rw [h1] at h2
  exact h2.symm
theorem RF_ex {j pc : Nat} {ls st : List AVal} {sh : List AShp} {g : AMem} {r : ARes} (h : RF j pc ls st sh g = some r) : ∃ n, ex n j pc ls st sh g = some r := by
  unfold RF at h
  by_cases hx : ∃ r n, ex n j pc ls st sh g = some r
  · rw [dif_pos hx] at h
    cases h
    exact hx.choose_spec
  · rw [dif_neg hx] at h
    cases h
theorem opt_ext {α : Type} {a b : Option α} (h : ∀ r, a = some r ↔ b = some r) : a = b := by
  cases a with
  | none => cases b with
    | none => rfl
    | some r => exact absurd ((h r).mpr rfl) (by simp)
  | some r => exact ((h r).mp rfl).symm
section RFS
variable {j pc pc' len x y : Nat} {ins : Instr} {z : Int} {ls ls' st st' : List AVal} {sh sh' : List AShp} {g g' : AMem}
theorem RF_row (hc : look (codL j) pc = some (ins, len, x, y, z)) (hk : akd ins x = 0) (hs : stp ins x y z pc ls st sh g = some (pc', ls', st', sh', g')) : RF j pc ls st sh g = RF j pc' ls' st' sh' g' := by
  apply opt_ext
  intro r
  constructor
  · intro h
    obtain ⟨n, h⟩ := RF_ex h
    match n, h with
    | 0, h => simp [ex] at h
    | n + 1, h =>
      rw [ex, hc] at h
      (try dsimp only at h)
      rw [hk] at h
      (try dsimp only at h)
      rw [hs] at h
      exact RF_of h
  · intro h
    obtain ⟨n, h⟩ := RF_ex h
    refine RF_of (n := n + 1) ?_
    rw [ex, hc]
    (try dsimp only)
    rw [hk]
    (try dsimp only)
    rw [hs]
    exact h
theorem RF_stk (hc : look (codL j) pc = some (ins, len, x, y, z)) (hk : akd ins x = 0) (hs : stp ins x y z pc ls st sh g = none) : RF j pc ls st sh g = none := by
  apply opt_ext
  intro r
  constructor
  · intro h
    obtain ⟨n, h⟩ := RF_ex h
    match n, h with
    | 0, h => simp [ex] at h
    | n + 1, h =>
      rw [ex, hc] at h
      (try dsimp only at h)
      rw [hk] at h
      (try dsimp only at h)
      rw [hs] at h
      cases h
  · intro h
    cases h
theorem RF_end {v : List AVal} (hc : look (codL j) pc = some (ins, len, x, y, z)) (hk : akd ins x = 2) (he : a_end ins (mtd j).2.2.1 st = some v) : RF j pc ls st sh g = some (v, sh, g) := by
  refine RF_of (n := 1) ?_
  rw [ex, hc]
  (try dsimp only)
  rw [hk]
  (try dsimp only)
  rw [he]
  rfl
theorem RF_endN (hc : look (codL j) pc = some (ins, len, x, y, z)) (hk : akd ins x = 2) (he : a_end ins (mtd j).2.2.1 st = none) : RF j pc ls st sh g = none := by
  apply opt_ext
  intro r
  constructor
  · intro h
    obtain ⟨n, h⟩ := RF_ex h
    match n, h with
    | 0, h => simp [ex] at h
    | n + 1, h =>
      rw [ex, hc] at h
      (try dsimp only at h)
      rw [hk] at h
      (try dsimp only at h)
      rw [he] at h
      cases h
  · intro h
    cases h
theorem RF_call (hc : look (codL j) pc = some (ins, len, x, y, z)) (hk : akd ins x = 1) (hy : y ≤ st.length ∧ awg (st.drop y) ≤ 8 ∧ a_rcv (mtd x) sh (st.take y).reverse = true ∧ (aent (st.take y).reverse).length ≤ (mtd x).2.1) :
    RF j pc ls st sh g = (RF x 0 (apad (aent (st.take y).reverse) (mtd x).2.1) [] sh g).bind (fun r => RF j (pc + 3) ls (r.1 ++ st.drop y) r.2.1 r.2.2) := by
  apply opt_ext
  intro r
  rw [Option.bind_eq_some_iff]
  constructor
  · intro h
    obtain ⟨n, h⟩ := RF_ex h
    match n, h with
    | 0, h => simp [ex] at h
    | n + 1, h =>
      rw [ex, hc] at h
      (try dsimp only at h)
      rw [hk] at h
      (try dsimp only at h)
      rw [if_pos hy] at h
      cases hq : ex n x 0 (apad (aent (st.take y).reverse) (mtd x).2.1) [] sh g with
      | none => rw [hq] at h; cases h
      | some q => rw [hq] at h; exact ⟨q, RF_of hq, RF_of h⟩
  · rintro ⟨q, h1, h2⟩
    obtain ⟨n1, h1⟩ := RF_ex h1
    obtain ⟨n2, h2⟩ := RF_ex h2
    refine RF_of (n := max n1 n2 + 1) ?_
    rw [ex, hc]
    (try dsimp only)
    rw [hk]
    (try dsimp only)
    rw [if_pos hy, ex_mono _ _ _ _ _ _ _ _ h1 _ (Nat.le_max_left _ _)]
    exact ex_mono _ _ _ _ _ _ _ _ h2 _ (Nat.le_max_right _ _)
end RFS
/-- makes no cell, and writes no reference that stays -/
def qI (ins : Instr) (x y : Nat) : Bool := match ins with
  | .new _ => false
  | .newarray _ => false
  | .anewarray _ => false
  | .aastore => false
  | .putfield _ => !((jfld x)[y]? == some 3)
  | _ => true
def qMk : List Nat := [0, 6, 9, 11, 23, 38, 46, 70, 88, 90, 132, 224]
def qM (j : Nat) : Bool := !(qMk.contains j)
def qRow (r : ACe) : Bool := qI r.2.1 r.2.2.2.1 r.2.2.2.2.1 && (if akd r.2.1 r.2.2.2.1 = 1 then qM r.2.2.2.1 && decide (r.2.2.2.1 < nmeth) else true)
theorem qM_dec : (List.range nmeth).all (fun j => !qM j || (codL j).all qRow) = true := by decide +kernel
theorem qM_all : ∀ j, j < nmeth → qM j = true → ∀ r ∈ codL j, qI r.2.1 r.2.2.2.1 r.2.2.2.2.1 = true ∧ (akd r.2.1 r.2.2.2.1 = 1 → qM r.2.2.2.1 = true ∧ r.2.2.2.1 < nmeth) := by
  intro j hj hq r hr
  have h1 := List.all_eq_true.mp qM_dec j (List.mem_range.mpr hj)
  rw [hq, Bool.not_true, Bool.false_or] at h1
  have h2 := List.all_eq_true.mp h1 r hr
  unfold qRow at h2
  rw [Bool.and_eq_true] at h2
  refine ⟨h2.1, fun hk => ?_⟩
  have h3 := h2.2
  rw [if_pos hk, Bool.and_eq_true, decide_eq_true_eq] at h3
  exact h3
theorem stp_q {ins : Instr} {x y pc pc1 : Nat} {z : Int} {ls ls' st st' : List AVal} {sh sh' : List AShp} {g g' : AMem} (h : stp ins x y z pc ls st sh g = some (pc1, ls', st', sh', g')) (hq : qI ins x y = true) : sh' = sh := by
  unfold stp at h
  split at h
  all_goals (try unfold a_ldI at h)
  all_goals (try unfold a_ldL at h)
  all_goals (try unfold a_ldR at h)
  all_goals (try unfold a_stI at h)
  all_goals (try unfold a_stL at h)
  all_goals (try unfold a_stR at h)
  all_goals (try unfold a_inc at h)
  all_goals (try unfold a_bi at h)
  all_goals (try unfold a_bl at h)
  all_goals (try unfold a_lcmp at h)
  all_goals (try unfold a_i2l at h)
  all_goals (try unfold a_l2i at h)
  all_goals (try unfold a_dup at h)
  all_goals (try unfold a_dup2 at h)
  all_goals (try unfold a_pop at h)
  all_goals (try unfold a_if at h)
  all_goals (try unfold a_ic at h)
  all_goals (try unfold a_tsw at h)
  all_goals (try unfold a_lsw at h)
  all_goals (try unfold a_getf at h)
  all_goals (try unfold a_putf at h)
  all_goals (try unfold a_iald at h)
  all_goals (try unfold a_iast at h)
  all_goals (try unfold a_bald at h)
  all_goals (try unfold a_bast at h)
  all_goals (try unfold a_aald at h)
  all_goals (try unfold a_alen at h)
  all_goals (try unfold a_obj at h)
  all_goals (repeat' split at h)
  all_goals (try unfold a_acpy at h)
  all_goals (try unfold a_mm at h)
  all_goals (repeat' split at h)
  all_goals first
    | (cases h; done)
    | (cases h; rfl)
    | (simp [qI] at hq; done)
    | (simp [qI] at hq; contradiction)
/-- what a method answers, by its sort -/
def okR (rk : Nat) (l : List AVal) : Prop := match rk with
  | 0 => l = []
  | 1 => ∃ v, l = [vI v]
  | 2 => ∃ v, l = [vI v] ∧ (v = 0 ∨ v = 1)
  | 3 => ∃ v, l = [vL v]
  | _ => ∃ v, l = [vR v]
theorem end_R {ins : Instr} {rk : Nat} {st rv : List AVal} (h : a_end ins rk st = some rv) : okR rk rv := by
  unfold a_end at h
  split at h
  · cases h; exact ⟨_, rfl⟩
  · split at h
    · rename_i h1
      cases h
      exact ⟨_, rfl, h1⟩
    · cases h
  · cases h; exact ⟨_, rfl⟩
  · split at h
    · cases h; exact ⟨_, rfl⟩
    · cases h
  · cases h; exact rfl
  · cases h
theorem ex_q : ∀ (n j pc : Nat) (ls st : List AVal) (sh : List AShp) (g : AMem) (r : ARes), ex n j pc ls st sh g = some r → j < nmeth → okR (mtd j).2.2.1 r.1 ∧ (qM j = true → r.2.1 = sh)
  | 0, _, _, _, _, _, _, _, h, _ => by simp [ex] at h
  | n + 1, j, pc, ls, st, sh, g, r, h, hj => by
    rw [ex] at h
    split at h
    · cases h
    · rename_i ins len x y z hlk
      have hm := look_mem _ _ _ hlk
      split at h
      · split at h
        · rename_i hs
          have h2 := ex_q n _ _ _ _ _ _ _ h hj
          exact ⟨h2.1, fun hq => (h2.2 hq).trans (stp_q hs (qM_all j hj hq _ hm).1)⟩
        · cases h
      · rename_i hk
        split at h
        · split at h
          · rename_i hq
            have h2 := ex_q n _ _ _ _ _ _ _ h hj
            refine ⟨h2.1, fun hqq => (h2.2 hqq).trans ?_⟩
            have h3 := (qM_all j hj hqq _ hm).2 hk
            exact (ex_q n _ _ _ _ _ _ _ hq h3.2).2 h3.1
          · cases h
        · cases h
      · split at h
        · rename_i v hv
          cases h
          exact ⟨end_R hv, fun _ => rfl⟩
        · cases h
/-- the answers, with the memory left behind -/
def tI : Option ARes → Option (Int × AMem)
  | some ([.inl v], r) => some (v, r.2)
  | _ => none
def tL : Option ARes → Option (Int × AMem)
  | some ([.inr (.inl v)], r) => some (v, r.2)
  | _ => none
def tR : Option ARes → Option (Int × AMem)
  | some ([.inr (.inr (.inl v))], r) => some (v, r.2)
  | _ => none
def tV : Option ARes → Option AMem
  | some ([], r) => some r.2
  | _ => none
theorem RF_q {j pc : Nat} {ls st : List AVal} {sh : List AShp} {g : AMem} {r : ARes} (hj : j < nmeth) (h : RF j pc ls st sh g = some r) : okR (mtd j).2.2.1 r.1 ∧ (qM j = true → r.2.1 = sh) := by
  obtain ⟨n, h⟩ := RF_ex h
  exact ex_q n _ _ _ _ _ _ _ h hj
end
section
def SHT : List AShp := [(9, 14, [0, 0, 113, 115, 116, 118, 125, 132, 135, 136, 0, 0, 0, 0]), (3, 4, [4, 25, 0, 0]), (22, 10, [5, 7, 9, 11, 13, 15, 17, 19, 21, 23]), (0, 2, [6, 0]), (20, 6, []), (0, 2, [8, 0]), (20, 6, []), (0, 2, [10, 0]), (20, 6, []), (0, 2, [12, 0]), (20, 6, []), (0, 2, [14, 0]), (20, 6, []), (0, 2, [16, 0]), (20, 6, []), (0, 2, [18, 0]), (20, 6, []), (0, 2, [20, 0]), (20, 6, []), (0, 2, [22, 0]), (20, 6, []), (0, 2, [24, 0]), (20, 6, []), (23, 16, [26, 28, 30, 32, 34, 36, 38, 40, 42, 44, 46, 48, 50, 52, 54, 56]), (2, 4, [27, 0, 0, 0]), (20, 6, []), (2, 4, [29, 0, 0, 0]), (20, 6, []), (2, 4, [31, 0, 0, 0]), (20, 6, []), (2, 4, [33, 0, 0, 0]), (20, 6, []), (2, 4, [35, 0, 0, 0]), (20, 6, []), (2, 4, [37, 0, 0, 0]), (20, 6, []), (2, 4, [39, 0, 0, 0]), (20, 6, []), (2, 4, [41, 0, 0, 0]), (20, 6, []), (2, 4, [43, 0, 0, 0]), (20, 6, []), (2, 4, [45, 0, 0, 0]), (20, 6, []), (2, 4, [47, 0, 0, 0]), (20, 6, []), (2, 4, [49, 0, 0, 0]), (20, 6, []), (2, 4, [51, 0, 0, 0]), (20, 6, []), (2, 4, [53, 0, 0, 0]), (20, 6, []), (2, 4, [55, 0, 0, 0]), (20, 6, []), (2, 4, [57, 0, 0, 0]), (20, 6, []), (3, 4, [59, 80, 0, 0]), (22, 10, [60, 62, 64, 66, 68, 70, 72, 74, 76, 78]), (0, 2, [61, 0]), (20, 6, []), (0, 2, [63, 0]), (20, 6, []), (0, 2, [65, 0]), (20, 6, []), (0, 2, [67, 0]), (20, 6, []), (0, 2, [69, 0]), (20, 6, []), (0, 2, [71, 0]), (20, 6, []), (0, 2, [73, 0]), (20, 6, []), (0, 2, [75, 0]), (20, 6, []), (0, 2, [77, 0]), (20, 6, []), (0, 2, [79, 0]), (20, 6, []), (23, 16, [81, 83, 85, 87, 89, 91, 93, 95, 97, 99, 101, 103, 105, 107, 109, 111]), (2, 4, [82, 0, 0, 0]), (20, 6, []), (2, 4, [84, 0, 0, 0]), (20, 6, []), (2, 4, [86, 0, 0, 0]), (20, 6, []), (2, 4, [88, 0, 0, 0]), (20, 6, []), (2, 4, [90, 0, 0, 0]), (20, 6, []), (2, 4, [92, 0, 0, 0]), (20, 6, []), (2, 4, [94, 0, 0, 0]), (20, 6, []), (2, 4, [96, 0, 0, 0]), (20, 6, []), (2, 4, [98, 0, 0, 0]), (20, 6, []), (2, 4, [100, 0, 0, 0]), (20, 6, []), (2, 4, [102, 0, 0, 0]), (20, 6, []), (2, 4, [104, 0, 0, 0]), (20, 6, []), (2, 4, [106, 0, 0, 0]), (20, 6, []), (2, 4, [108, 0, 0, 0]), (20, 6, []), (2, 4, [110, 0, 0, 0]), (20, 6, []), (2, 4, [112, 0, 0, 0]), (20, 6, []), (8, 2, [114, 0]), (20, 120, []), (7, 4, [113, 0, 0, 0]), (4, 3, [0, 0, 0]), (20, 6, []), (6, 10, [119, 120, 121, 0, 0, 0, 0, 123, 124, 0]), (20, 9, []), (20, 9, []), (20, 9, []), (20, 6, []), (20, 6, []), (21, 6, []), (6, 10, [126, 127, 128, 0, 0, 0, 0, 130, 131, 0]), (20, 9, []), (20, 9, []), (20, 9, []), (20, 6, []), (20, 6, []), (21, 6, []), (5, 2, [133, 134]), (20, 36, []), (20, 36, []), (1, 1, [0]), (20, 10, []), (10, 28, [138, 0, 0, 0, 139, 140, 141, 142, 143, 144, 0, 145, 146, 147, 148, 149, 0, 150, 151, 152, 153, 154, 155, 156, 0, 0, 0, 157]), (20, 3, []), (20, 10, []), (20, 60, []), (20, 16, []), (20, 16, []), (20, 16, []), (20, 96, []), (20, 24, []), (20, 24, []), (20, 24, []), (21, 6, []), (20, 6, []), (20, 24, []), (20, 24, []), (20, 24, []), (20, 36, []), (20, 32, []), (20, 10, []), (20, 120, []), (20, 216, [])]
def SH (L : Nat) : List AShp := (99, 0, []) :: (30, L, []) :: SHT
def sD (k : Nat) : AShp := SHT.getD k (97, 0, [])
def sFact (k : Nat) : Bool :=
  (!((sD k).1 == 0) || (decide ((sD k).2.2.getD 0 0 = (k : Int) + 3) && decide (sD (k + 1) = (20, 6, [])))) &&
  (!((sD k).1 == 2) || (decide ((sD k).2.2.getD 0 0 = (k : Int) + 3) && decide (sD (k + 1) = (20, 6, [])))) &&
  (!((sD k).1 == 3) || (decide (k = 1 ∨ k = 56) && decide ((sD k).2.2 = [(k : Int) + 3, (k : Int) + 24, 0, 0]) && decide ((sD (k + 1)).1 = 22 ∧ (sD (k + 1)).2.1 = 10 ∧ (sD (k + 22)).1 = 23 ∧ (sD (k + 22)).2.1 = 16)
    && (List.range 10).all (fun i => decide ((sD (k + 1)).2.2.getD i 0 = (k : Int) + 4 + 2 * i ∧ (sD (k + 2 + 2 * i)).1 = 0)) && (List.range 16).all (fun i => decide ((sD (k + 22)).2.2.getD i 0 = (k : Int) + 25 + 2 * i ∧ (sD (k + 23 + 2 * i)).1 = 2)))) &&
  (!((sD k).1 == 6) || (decide (k = 116 ∨ k = 123) && decide ((sD k).2.2 = [(k : Int) + 3, (k : Int) + 4, (k : Int) + 5, 0, 0, 0, 0, (k : Int) + 7, (k : Int) + 8, 0]) && decide (sD (k + 1) = (20, 9, []) ∧ sD (k + 2) = (20, 9, []) ∧ sD (k + 3) = (20, 9, []) ∧ sD (k + 5) = (20, 6, []) ∧ sD (k + 6) = (21, 6, []))))
theorem sFact_all : ∀ k, k < 156 → sFact k = true := by
  have h : (List.range 156).all sFact = true := by decide +kernel
  exact fun k hk => List.all_eq_true.mp h k (List.mem_range.mpr hk)
theorem sh_at {L : Nat} {t : Int} {k : Nat} (h : t = (k : Int) + 2) (hk : k < 156) : (SH L)[t.toNat]? = some (sD k) := by
  have e : t.toNat = k + 2 := by omega
  rw [e]
  show SHT[k]? = some (sD k)
  have hl : SHT.length = 156 := by decide +kernel
  unfold sD
  rw [List.getD_eq_getElem?_getD, List.getElem?_eq_getElem (by omega)]
  rfl
theorem kin_k {L c : Nat} {t : Int} (h : kin (SH L) t = c) (hc : c < 90) (hc2 : c ≠ 30) : ∃ k : Nat, k < 156 ∧ t = (k : Int) + 2 ∧ (sD k).1 = c := by
  obtain ⟨s, hs, h1, h2⟩ := kin_of h hc
  have hl := (List.getElem?_eq_some_iff.mp hs).1
  have hl2 : (SH L).length = 158 := rfl
  refine ⟨t.toNat - 2, by omega, by omega, ?_⟩
  have := sh_at (L := L) (t := t) (k := t.toNat - 2) (by omega) (by omega)
  rw [hs] at this
  cases this
  exact h1
section SHF
variable {L k : Nat} {t i : Int}
theorem kin_at (h : t = (k : Int) + 2) (hk : k < 156) : kin (SH L) t = (sD k).1 := by
  unfold kin
  rw [sh_at h hk]
  exact if_pos (by omega)
theorem fin_at (h : t = (k : Int) + 2) (hk : k < 156) (y : Nat) : fin_ (SH L) t y = (sD k).2.2.getD y 0 := by
  unfold fin_
  rw [sh_at h hk]
theorem aln_at (h : t = (k : Int) + 2) (hk : k < 156) (h20 : (sD k).1 = 20) : aln (SH L) t = (sD k).2.1 := by
  unfold aln
  rw [sh_at h hk]
  exact if_pos (Or.inl h20)
theorem bln_at (h : t = (k : Int) + 2) (hk : k < 156) (h20 : (sD k).1 = 21) : bln (SH L) t = (sD k).2.1 := by
  unfold bln
  rw [sh_at h hk]
  exact if_pos h20
theorem rln_at (h : t = (k : Int) + 2) (hk : k < 156) (h20 : (sD k).1 = 22 ∨ (sD k).1 = 23) : rln (SH L) t = (sD k).2.1 := by
  unfold rln
  rw [sh_at h hk]
  exact if_pos h20
theorem nxt (hk : k < 156) (h : (sD (k + 1)).1 < 90) : k + 1 < 156 := by
  rcases Nat.lt_or_ge (k + 1) 156 with h1 | h1
  · exact h1
  · have e : k = 155 := by omega
    subst e
    exact absurd h (by decide +kernel)
theorem kB (h : kin (SH L) t = 0) : fin_ (SH L) t 0 = t + 1 ∧ aln (SH L) (t + 1) = 6 := by
  obtain ⟨k, hk, e, h1⟩ := kin_k h (by decide) (by decide)
  have hf := sFact_all k hk
  unfold sFact at hf
  rw [h1] at hf
  simp at hf
  have hn := nxt hk (by rw [hf.2]; decide)
  refine ⟨?_, ?_⟩
  · rw [fin_at e hk, List.getD_eq_getElem?_getD, hf.1]; omega
  · rw [aln_at (k := k + 1) (by omega) hn (by rw [hf.2]), hf.2]; rfl
theorem kE (h : kin (SH L) t = 2) : fin_ (SH L) t 0 = t + 1 ∧ aln (SH L) (t + 1) = 6 := by
  obtain ⟨k, hk, e, h1⟩ := kin_k h (by decide) (by decide)
  have hf := sFact_all k hk
  unfold sFact at hf
  rw [h1] at hf
  simp at hf
  have hn := nxt hk (by rw [hf.2]; decide)
  refine ⟨?_, ?_⟩
  · rw [fin_at e hk, List.getD_eq_getElem?_getD, hf.1]; omega
  · rw [aln_at (k := k + 1) (by omega) hn (by rw [hf.2]), hf.2]; rfl
theorem kG (h : kin (SH L) t = 3) : t = 3 ∨ t = 58 := by
  obtain ⟨k, hk, e, h1⟩ := kin_k h (by decide) (by decide)
  have hf := sFact_all k hk
  unfold sFact at hf
  rw [h1] at hf
  simp only [Bool.and_eq_true, decide_eq_true_eq] at hf
  have h3 : k = 1 ∨ k = 56 := by
    have := hf.1.2
    simp at this
    exact this.1.1.1.1
  omega
theorem kG' (h : t = 3 ∨ t = 58) : kin (SH L) t = 3 := by rcases h with rfl | rfl <;> rfl
theorem kG_f (h : kin (SH L) t = 3) : fin_ (SH L) t 0 = t + 1 ∧ fin_ (SH L) t 1 = t + 22 ∧ rln (SH L) (t + 1) = 10 ∧ rln (SH L) (t + 22) = 16 := by
  rcases kG h with rfl | rfl <;> exact ⟨rfl, rfl, rfl, rfl⟩
theorem kG_b (h : kin (SH L) t = 3) (h0 : 0 ≤ i) (h1 : i < 10) : fin_ (SH L) (t + 1) i.toNat = t + 2 + 2 * i ∧ kin (SH L) (t + 2 + 2 * i) = 0 := by
  have hh : ∀ q : Nat, q < 10 → (fin_ (SH L) (3 + 1) q = 3 + 2 + 2 * (q : Int) ∧ kin (SH L) (3 + 2 + 2 * (q : Int)) = 0) ∧ (fin_ (SH L) (58 + 1) q = 58 + 2 + 2 * (q : Int) ∧ kin (SH L) (58 + 2 + 2 * (q : Int)) = 0) := by
    intro q hq
    match q, hq with
    | 0, _ => exact ⟨⟨rfl, rfl⟩, rfl, rfl⟩
    | 1, _ => exact ⟨⟨rfl, rfl⟩, rfl, rfl⟩
    | 2, _ => exact ⟨⟨rfl, rfl⟩, rfl, rfl⟩
    | 3, _ => exact ⟨⟨rfl, rfl⟩, rfl, rfl⟩
    | 4, _ => exact ⟨⟨rfl, rfl⟩, rfl, rfl⟩
    | 5, _ => exact ⟨⟨rfl, rfl⟩, rfl, rfl⟩
    | 6, _ => exact ⟨⟨rfl, rfl⟩, rfl, rfl⟩
    | 7, _ => exact ⟨⟨rfl, rfl⟩, rfl, rfl⟩
    | 8, _ => exact ⟨⟨rfl, rfl⟩, rfl, rfl⟩
    | 9, _ => exact ⟨⟨rfl, rfl⟩, rfl, rfl⟩
    | q + 10, h => exact absurd h (by omega)
  have h2 := hh i.toNat (by omega)
  have e : ((i.toNat : Nat) : Int) = i := by omega
  rw [e] at h2
  rcases kG h with rfl | rfl
  · exact h2.1
  · exact h2.2
theorem kG_e (h : kin (SH L) t = 3) (h0 : 0 ≤ i) (h1 : i < 16) : fin_ (SH L) (t + 22) i.toNat = t + 23 + 2 * i ∧ kin (SH L) (t + 23 + 2 * i) = 2 := by
  have hh : ∀ q : Nat, q < 16 → (fin_ (SH L) (3 + 22) q = 3 + 23 + 2 * (q : Int) ∧ kin (SH L) (3 + 23 + 2 * (q : Int)) = 2) ∧ (fin_ (SH L) (58 + 22) q = 58 + 23 + 2 * (q : Int) ∧ kin (SH L) (58 + 23 + 2 * (q : Int)) = 2) := by
    intro q hq
    match q, hq with
    | 0, _ => exact ⟨⟨rfl, rfl⟩, rfl, rfl⟩
    | 1, _ => exact ⟨⟨rfl, rfl⟩, rfl, rfl⟩
    | 2, _ => exact ⟨⟨rfl, rfl⟩, rfl, rfl⟩
    | 3, _ => exact ⟨⟨rfl, rfl⟩, rfl, rfl⟩
    | 4, _ => exact ⟨⟨rfl, rfl⟩, rfl, rfl⟩
    | 5, _ => exact ⟨⟨rfl, rfl⟩, rfl, rfl⟩
    | 6, _ => exact ⟨⟨rfl, rfl⟩, rfl, rfl⟩
    | 7, _ => exact ⟨⟨rfl, rfl⟩, rfl, rfl⟩
    | 8, _ => exact ⟨⟨rfl, rfl⟩, rfl, rfl⟩
    | 9, _ => exact ⟨⟨rfl, rfl⟩, rfl, rfl⟩
    | 10, _ => exact ⟨⟨rfl, rfl⟩, rfl, rfl⟩
    | 11, _ => exact ⟨⟨rfl, rfl⟩, rfl, rfl⟩
    | 12, _ => exact ⟨⟨rfl, rfl⟩, rfl, rfl⟩
    | 13, _ => exact ⟨⟨rfl, rfl⟩, rfl, rfl⟩
    | 14, _ => exact ⟨⟨rfl, rfl⟩, rfl, rfl⟩
    | 15, _ => exact ⟨⟨rfl, rfl⟩, rfl, rfl⟩
    | q + 16, h => exact absurd h (by omega)
  have h2 := hh i.toNat (by omega)
  have e : ((i.toNat : Nat) : Int) = i := by omega
  rw [e] at h2
  rcases kG h with rfl | rfl
  · exact h2.1
  · exact h2.2
theorem kP (h : kin (SH L) t = 6) : t = 118 ∨ t = 125 := by
  obtain ⟨k, hk, e, h1⟩ := kin_k h (by decide) (by decide)
  have hf := sFact_all k hk
  unfold sFact at hf
  rw [h1] at hf
  simp only [Bool.and_eq_true, decide_eq_true_eq] at hf
  have h3 : k = 116 ∨ k = 123 := by
    have := hf.2
    simp at this
    exact this.1.1
  omega
theorem kP' (h : t = 118 ∨ t = 125) : kin (SH L) t = 6 := by rcases h with rfl | rfl <;> rfl
theorem kP_f (h : kin (SH L) t = 6) : fin_ (SH L) t 0 = t + 1 ∧ fin_ (SH L) t 1 = t + 2 ∧ fin_ (SH L) t 2 = t + 3 ∧ fin_ (SH L) t 7 = t + 5 ∧ fin_ (SH L) t 8 = t + 6 ∧ aln (SH L) (t + 1) = 9 ∧ aln (SH L) (t + 2) = 9 ∧ aln (SH L) (t + 3) = 9 ∧ aln (SH L) (t + 5) = 6 ∧ bln (SH L) (t + 6) = 6 := by
  rcases kP h with rfl | rfl <;> exact ⟨rfl, rfl, rfl, rfl, rfl, rfl, rfl, rfl, rfl, rfl⟩
end SHF
section QRS
variable {β : Type} {T : Option ARes → Option β} {j pc pc' len x y : Nat} {ins : Instr} {z : Int} {ls ls' st st' : List AVal} {sh : List AShp} {g g' : AMem} {X Y : Option β}
theorem q_s (hc : look (codL j) pc = some (ins, len, x, y, z)) (hk : akd ins x = 0) (hs : stp ins x y z pc ls st sh g = some (pc', ls', st', sh, g')) (k : T (RF j pc' ls' st' sh g') = X) : T (RF j pc ls st sh g) = X := by
  rw [RF_row hc hk hs]
  exact k
theorem q_n (hT : T none = none) (hc : look (codL j) pc = some (ins, len, x, y, z)) (hk : akd ins x = 0) (hs : stp ins x y z pc ls st sh g = none) : T (RF j pc ls st sh g) = none := by
  rw [RF_stk hc hk hs]
  exact hT
theorem q_getI {i : Nat} {t : Int} (hc : look (codL j) pc = some (.getfield i, len, x, y, z)) (hkn : kin sh t = x) (hj : (jfld x)[y]? = some 0) (hp : pc + 3 = pc') (k : T (RF j pc' ls (vI (g t y) :: st) sh g) = X) : T (RF j pc ls (vR t :: st) sh g) = X := by
  subst hp
  refine q_s hc rfl ?_ k
  show a_getf x y (pc + 3) ls (vR t :: st) sh g = _
  simp [a_getf, hkn, hj]
theorem q_getL {i : Nat} {t : Int} (hc : look (codL j) pc = some (.getfield i, len, x, y, z)) (hkn : kin sh t = x) (hj : (jfld x)[y]? = some 1) (hp : pc + 3 = pc') (k : T (RF j pc' ls (vL (g t y) :: st) sh g) = X) : T (RF j pc ls (vR t :: st) sh g) = X := by
  subst hp
  refine q_s hc rfl ?_ k
  show a_getf x y (pc + 3) ls (vR t :: st) sh g = _
  simp [a_getf, hkn, hj]
theorem q_getF {i : Nat} {t r : Int} (hc : look (codL j) pc = some (.getfield i, len, x, y, z)) (hkn : kin sh t = x) (hj : (jfld x)[y]? = some 3) (hf : fin_ sh t y = r) (hp : pc + 3 = pc') (k : T (RF j pc' ls (vR r :: st) sh g) = X) : T (RF j pc ls (vR t :: st) sh g) = X := by
  subst hp
  subst hf
  refine q_s hc rfl ?_ k
  show a_getf x y (pc + 3) ls (vR t :: st) sh g = _
  simp [a_getf, hkn, hj]
theorem q_getM {i c : Nat} {t : Int} (hT : T none = none) (hc : look (codL j) pc = some (.getfield i, len, x, y, z)) (hkn : kin sh t = x) (hj : (jfld x)[y]? = some 2) (hr : jrk x y = c) (hp : pc + 3 = pc') (k : kin sh (g t y) = c → T (RF j pc' ls (vR (g t y) :: st) sh g) = X) : T (RF j pc ls (vR t :: st) sh g) = if kin sh (g t y) = c then X else none := by
  subst hp
  subst hr
  by_cases h : kin sh (g t y) = jrk x y
  · rw [if_pos h]
    refine q_s hc rfl ?_ (k h)
    show a_getf x y (pc + 3) ls (vR t :: st) sh g = _
    simp [a_getf, hkn, hj, h]
  · rw [if_neg h]
    refine q_n hT hc rfl ?_
    show a_getf x y (pc + 3) ls (vR t :: st) sh g = _
    simp [a_getf, hkn, hj, h]
theorem q_putI {i : Nat} {t u : Int} (hc : look (codL j) pc = some (.putfield i, len, x, y, z)) (hkn : kin sh t = x) (hj : (jfld x)[y]? = some 0) (hp : pc + 3 = pc') (k : T (RF j pc' ls st sh (up g t y u)) = X) : T (RF j pc ls (vI u :: vR t :: st) sh g) = X := by
  subst hp
  refine q_s hc rfl ?_ k
  show a_putf x y (pc + 3) ls (vI u :: vR t :: st) sh g = _
  simp [a_putf, hkn, hj]
theorem q_putL {i : Nat} {t u : Int} (hc : look (codL j) pc = some (.putfield i, len, x, y, z)) (hkn : kin sh t = x) (hj : (jfld x)[y]? = some 1) (hp : pc + 3 = pc') (k : T (RF j pc' ls st sh (up g t y u)) = X) : T (RF j pc ls (vL u :: vR t :: st) sh g) = X := by
  subst hp
  refine q_s hc rfl ?_ k
  show a_putf x y (pc + 3) ls (vL u :: vR t :: st) sh g = _
  simp [a_putf, hkn, hj]
theorem q_putM {i : Nat} {t u : Int} (hc : look (codL j) pc = some (.putfield i, len, x, y, z)) (hkn : kin sh t = x) (hj : (jfld x)[y]? = some 2) (hp : pc + 3 = pc') (k : T (RF j pc' ls st sh (up g t y u)) = X) : T (RF j pc ls (vR u :: vR t :: st) sh g) = X := by
  subst hp
  refine q_s hc rfl ?_ k
  show a_putf x y (pc + 3) ls (vR u :: vR t :: st) sh g = _
  simp [a_putf, hkn, hj]
theorem q_iald {a i n : Int} (hT : T none = none) (hc : look (codL j) pc = some (.iaload, len, x, y, z)) (ha : aln sh a = n) (hp : pc + 1 = pc') (k : 0 ≤ i ∧ i < n → T (RF j pc' ls (vI (g a i) :: st) sh g) = X) : T (RF j pc ls (vI i :: vR a :: st) sh g) = if 0 ≤ i ∧ i < n then X else none := by
  subst hp
  subst ha
  by_cases h : 0 ≤ i ∧ i < aln sh a
  · rw [if_pos h]
    refine q_s hc rfl ?_ (k h)
    show a_iald (pc + 1) ls (vI i :: vR a :: st) sh g = _
    simp [a_iald, h]
  · rw [if_neg h]
    refine q_n hT hc rfl ?_
    show a_iald (pc + 1) ls (vI i :: vR a :: st) sh g = _
    simp [a_iald, h]
theorem q_bald {a i n : Int} (hT : T none = none) (hc : look (codL j) pc = some (.baload, len, x, y, z)) (ha : bln sh a = n) (hp : pc + 1 = pc') (k : 0 ≤ i ∧ i < n → T (RF j pc' ls (vI (g a i) :: st) sh g) = X) : T (RF j pc ls (vI i :: vR a :: st) sh g) = if 0 ≤ i ∧ i < n then X else none := by
  subst hp
  subst ha
  by_cases h : 0 ≤ i ∧ i < bln sh a
  · rw [if_pos h]
    refine q_s hc rfl ?_ (k h)
    show a_bald (pc + 1) ls (vI i :: vR a :: st) sh g = _
    simp [a_bald, h]
  · rw [if_neg h]
    refine q_n hT hc rfl ?_
    show a_bald (pc + 1) ls (vI i :: vR a :: st) sh g = _
    simp [a_bald, h]
theorem q_iast {a i n u : Int} (hT : T none = none) (hc : look (codL j) pc = some (.iastore, len, x, y, z)) (ha : aln sh a = n) (h2 : 2 ≤ a) (hp : pc + 1 = pc') (k : 0 ≤ i ∧ i < n → T (RF j pc' ls st sh (up g a i u)) = X) : T (RF j pc ls (vI u :: vI i :: vR a :: st) sh g) = if 0 ≤ i ∧ i < n then X else none := by
  subst hp
  subst ha
  by_cases h : 0 ≤ i ∧ i < aln sh a
  · rw [if_pos h]
    refine q_s hc rfl ?_ (k h)
    show a_iast (pc + 1) ls (vI u :: vI i :: vR a :: st) sh g = _
    simp [a_iast, h, h2]
  · rw [if_neg h]
    refine q_n hT hc rfl ?_
    show a_iast (pc + 1) ls (vI u :: vI i :: vR a :: st) sh g = _
    unfold a_iast
    dsimp only
    rw [if_neg (fun q => h ⟨q.1, q.2.1⟩)]
theorem q_bast {a i n u : Int} (hT : T none = none) (hc : look (codL j) pc = some (.bastore, len, x, y, z)) (ha : bln sh a = n) (hp : pc + 1 = pc') (k : (0 ≤ i ∧ i < n) ∧ (u = 0 ∨ u = 1) → T (RF j pc' ls st sh (up g a i u)) = X) : T (RF j pc ls (vI u :: vI i :: vR a :: st) sh g) = if (0 ≤ i ∧ i < n) ∧ (u = 0 ∨ u = 1) then X else none := by
  subst hp
  subst ha
  by_cases h : (0 ≤ i ∧ i < bln sh a) ∧ (u = 0 ∨ u = 1)
  · rw [if_pos h]
    refine q_s hc rfl ?_ (k h)
    show a_bast (pc + 1) ls (vI u :: vI i :: vR a :: st) sh g = _
    unfold a_bast
    dsimp only
    rw [if_pos ⟨h.1.1, h.1.2, h.2⟩]
  · rw [if_neg h]
    refine q_n hT hc rfl ?_
    show a_bast (pc + 1) ls (vI u :: vI i :: vR a :: st) sh g = _
    unfold a_bast
    dsimp only
    rw [if_neg (fun q => h ⟨⟨q.1, q.2.1⟩, q.2.2⟩)]
theorem q_aald {a i n : Int} (hT : T none = none) (hc : look (codL j) pc = some (.aaload, len, x, y, z)) (ha : rln sh a = n) (hp : pc + 1 = pc') (r : Int) (hr : 0 ≤ i ∧ i < n → fin_ sh a i.toNat = r) (k : 0 ≤ i ∧ i < n → T (RF j pc' ls (vR r :: st) sh g) = X) : T (RF j pc ls (vI i :: vR a :: st) sh g) = if 0 ≤ i ∧ i < n then X else none := by
  subst hp
  subst ha
  by_cases h : 0 ≤ i ∧ i < rln sh a
  · rw [if_pos h]
    refine q_s hc rfl ?_ (k h)
    show a_aald (pc + 1) ls (vI i :: vR a :: st) sh g = _
    simp [a_aald, h, hr h]
  · rw [if_neg h]
    refine q_n hT hc rfl ?_
    show a_aald (pc + 1) ls (vI i :: vR a :: st) sh g = _
    simp [a_aald, h]
theorem q_if {cn : ClassFile.Cond} {o u : Int} {t : Nat} {P : Prop} [Decidable P] (hc : look (codL j) pc = some (.ifCond cn o, len, x, y, z)) (hP : acnd cn u 0 ↔ P) (ht : ((pc : Int) + o).toNat = t) (hp : pc + 3 = pc') (k1 : P → T (RF j t ls st sh g) = X) (k2 : ¬ P → T (RF j pc' ls st sh g) = Y) : T (RF j pc ls (vI u :: st) sh g) = if P then X else Y := by
  subst hp
  subst ht
  by_cases h : P
  · rw [if_pos h]
    refine q_s hc rfl ?_ (k1 h)
    show a_if cn _ (pc + 3) ls (vI u :: st) sh g = _
    unfold a_if
    dsimp only
    cases acndD cn u 0 with
    | isTrue _ => rfl
    | isFalse hn => exact absurd (hP.mpr h) hn
  · rw [if_neg h]
    refine q_s hc rfl ?_ (k2 h)
    show a_if cn _ (pc + 3) ls (vI u :: st) sh g = _
    unfold a_if
    dsimp only
    cases acndD cn u 0 with
    | isTrue hn => exact absurd (hP.mp hn) h
    | isFalse _ => rfl
theorem q_ic {cn : ClassFile.Cond} {o u v : Int} {t : Nat} {P : Prop} [Decidable P] (hc : look (codL j) pc = some (.if_icmp cn o, len, x, y, z)) (hP : acnd cn u v ↔ P) (ht : ((pc : Int) + o).toNat = t) (hp : pc + 3 = pc') (k1 : P → T (RF j t ls st sh g) = X) (k2 : ¬ P → T (RF j pc' ls st sh g) = Y) : T (RF j pc ls (vI v :: vI u :: st) sh g) = if P then X else Y := by
  subst hp
  subst ht
  by_cases h : P
  · rw [if_pos h]
    refine q_s hc rfl ?_ (k1 h)
    show a_ic cn _ (pc + 3) ls (vI v :: vI u :: st) sh g = _
    unfold a_ic
    dsimp only
    cases acndD cn u v with
    | isTrue _ => rfl
    | isFalse hn => exact absurd (hP.mpr h) hn
  · rw [if_neg h]
    refine q_s hc rfl ?_ (k2 h)
    show a_ic cn _ (pc + 3) ls (vI v :: vI u :: st) sh g = _
    unfold a_ic
    dsimp only
    cases acndD cn u v with
    | isTrue hn => exact absurd (hP.mp hn) h
    | isFalse _ => rfl
theorem q_by {P : Prop} [Decidable P] {A : Option β} (k1 : P → A = X) (k2 : ¬ P → A = Y) : A = if P then X else Y := by
  by_cases h : P
  · rw [if_pos h]; exact k1 h
  · rw [if_neg h]; exact k2 h
theorem q_e {v : List AVal} (hc : look (codL j) pc = some (ins, len, x, y, z)) (hk : akd ins x = 2) (he : a_end ins (mtd j).2.2.1 st = some v) (k : T (some (v, sh, g)) = X) : T (RF j pc ls st sh g) = X := by
  rw [RF_end hc hk he]
  exact k
theorem q_eb {u : Int} (hT : T none = none) (hc : look (codL j) pc = some (.ireturn, len, x, y, z)) (h2 : (mtd j).2.2.1 = 2) (k : T (some ([vI u], sh, g)) = X) : T (RF j pc ls [vI u] sh g) = if u = 0 ∨ u = 1 then X else none := by
  by_cases h : u = 0 ∨ u = 1
  · rw [if_pos h]
    refine q_e hc rfl ?_ k
    rw [h2]
    simp [a_end, h]
  · rw [if_neg h, RF_endN hc rfl]
    · exact hT
    · rw [h2]
      simp [a_end, h]
theorem q_call0 (hc : look (codL j) pc = some (ins, len, x, y, z)) (hk : akd ins x = 1) (hy : y ≤ st.length ∧ awg (st.drop y) ≤ 8 ∧ a_rcv (mtd x) sh (st.take y).reverse = true ∧ (aent (st.take y).reverse).length ≤ (mtd x).2.1) :
    RF j pc ls st sh g = (RF x 0 (apad (aent (st.take y).reverse) (mtd x).2.1) [] sh g).bind (fun r => RF j (pc + 3) ls (r.1 ++ st.drop y) r.2.1 r.2.2) := RF_call hc hk hy
theorem q_callI {ls0 rest : List AVal} (hT : T none = none) (hc : look (codL j) pc = some (ins, len, x, y, z)) (hk : akd ins x = 1) (hy : y ≤ st.length ∧ awg (st.drop y) ≤ 8 ∧ a_rcv (mtd x) sh (st.take y).reverse = true ∧ (aent (st.take y).reverse).length ≤ (mtd x).2.1) (h0 : apad (aent (st.take y).reverse) (mtd x).2.1 = ls0) (hr : st.drop y = rest) (hq : qM x = true ∧ x < nmeth ∧ ((mtd x).2.2.1 = 1 ∨ (mtd x).2.2.1 = 2)) (hp : pc + 3 = pc')
    {Z : Int × AMem → Option β} (k : ∀ q : Int × AMem, T (RF j pc' ls (vI q.1 :: rest) sh q.2) = Z q) : T (RF j pc ls st sh g) = (tI (RF x 0 ls0 [] sh g)).bind Z := by
  subst hp h0 hr
  rw [RF_call hc hk hy]
  cases hx : RF x 0 (apad (aent (st.take y).reverse) (mtd x).2.1) [] sh g with
  | none => exact hT
  | some r =>
    obtain ⟨h1, h2⟩ := RF_q hq.2.1 hx
    have h2 := h2 hq.1
    obtain ⟨rv, sh1, g1⟩ := r
    dsimp only at h1 h2
    subst h2
    have h3 : ∃ v, rv = [vI v] := by
      rcases hq.2.2 with e | e
      · rw [e] at h1; exact h1
      · rw [e] at h1
        obtain ⟨v, hv, -⟩ := h1
        exact ⟨v, hv⟩
    obtain ⟨v, rfl⟩ := h3
    exact k (v, g1)
theorem q_callL {ls0 rest : List AVal} (hT : T none = none) (hc : look (codL j) pc = some (ins, len, x, y, z)) (hk : akd ins x = 1) (hy : y ≤ st.length ∧ awg (st.drop y) ≤ 8 ∧ a_rcv (mtd x) sh (st.take y).reverse = true ∧ (aent (st.take y).reverse).length ≤ (mtd x).2.1) (h0 : apad (aent (st.take y).reverse) (mtd x).2.1 = ls0) (hr : st.drop y = rest) (hq : qM x = true ∧ x < nmeth ∧ (mtd x).2.2.1 = 3) (hp : pc + 3 = pc')
    {Z : Int × AMem → Option β} (k : ∀ q : Int × AMem, T (RF j pc' ls (vL q.1 :: rest) sh q.2) = Z q) : T (RF j pc ls st sh g) = (tL (RF x 0 ls0 [] sh g)).bind Z := by
  subst hp h0 hr
  rw [RF_call hc hk hy]
  cases hx : RF x 0 (apad (aent (st.take y).reverse) (mtd x).2.1) [] sh g with
  | none => exact hT
  | some r =>
    obtain ⟨h1, h2⟩ := RF_q hq.2.1 hx
    have h2 := h2 hq.1
    obtain ⟨rv, sh1, g1⟩ := r
    dsimp only at h1 h2
    subst h2
    rw [hq.2.2] at h1
    obtain ⟨v, rfl⟩ := h1
    exact k (v, g1)
theorem q_callR {ls0 rest : List AVal} (hT : T none = none) (hc : look (codL j) pc = some (ins, len, x, y, z)) (hk : akd ins x = 1) (hy : y ≤ st.length ∧ awg (st.drop y) ≤ 8 ∧ a_rcv (mtd x) sh (st.take y).reverse = true ∧ (aent (st.take y).reverse).length ≤ (mtd x).2.1) (h0 : apad (aent (st.take y).reverse) (mtd x).2.1 = ls0) (hr : st.drop y = rest) (hq : qM x = true ∧ x < nmeth ∧ (mtd x).2.2.1 = 4) (hp : pc + 3 = pc')
    {Z : Int × AMem → Option β} (k : ∀ q : Int × AMem, T (RF j pc' ls (vR q.1 :: rest) sh q.2) = Z q) : T (RF j pc ls st sh g) = (tR (RF x 0 ls0 [] sh g)).bind Z := by
  subst hp h0 hr
  rw [RF_call hc hk hy]
  cases hx : RF x 0 (apad (aent (st.take y).reverse) (mtd x).2.1) [] sh g with
  | none => exact hT
  | some r =>
    obtain ⟨h1, h2⟩ := RF_q hq.2.1 hx
    have h2 := h2 hq.1
    obtain ⟨rv, sh1, g1⟩ := r
    dsimp only at h1 h2
    subst h2
    rw [hq.2.2] at h1
    obtain ⟨v, rfl⟩ := h1
    exact k (v, g1)
theorem q_callV {ls0 rest : List AVal} (hT : T none = none) (hc : look (codL j) pc = some (ins, len, x, y, z)) (hk : akd ins x = 1) (hy : y ≤ st.length ∧ awg (st.drop y) ≤ 8 ∧ a_rcv (mtd x) sh (st.take y).reverse = true ∧ (aent (st.take y).reverse).length ≤ (mtd x).2.1) (h0 : apad (aent (st.take y).reverse) (mtd x).2.1 = ls0) (hr : st.drop y = rest) (hq : qM x = true ∧ x < nmeth ∧ (mtd x).2.2.1 = 0) (hp : pc + 3 = pc')
    {Z : AMem → Option β} (k : ∀ q : AMem, T (RF j pc' ls rest sh q) = Z q) : T (RF j pc ls st sh g) = (tV (RF x 0 ls0 [] sh g)).bind Z := by
  subst hp h0 hr
  rw [RF_call hc hk hy]
  cases hx : RF x 0 (apad (aent (st.take y).reverse) (mtd x).2.1) [] sh g with
  | none => exact hT
  | some r =>
    obtain ⟨h1, h2⟩ := RF_q hq.2.1 hx
    have h2 := h2 hq.1
    obtain ⟨rv, sh1, g1⟩ := r
    dsimp only at h1 h2
    subst h2
    rw [hq.2.2] at h1
    have h1 : rv = [] := h1
    subst h1
    exact k g1
end QRS
end
