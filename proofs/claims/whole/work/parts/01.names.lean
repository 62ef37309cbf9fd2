-- ===== PART A: goes FIRST, ahead of the names: the tables' words, and 'selects' of the private methods out of them =====
/-- a private method of a class that the tables say can be made, by its rows of tables_1 -/
def lw_okq (q : MethodName × Nat) : Prop := (q.1.cls ≠ "java/lang/invoke/MethodHandle" ∧ q.1.cls ≠ "java/lang/invoke/VarHandle") ∧ Cond.instantiable q.1.cls q.2 ∈ tables_1 ∧ Cond.privateMethod q.1 ∈ tables_1 ∧ Cond.instanceMethod q.1 ∈ tables_1
theorem lw_p0 : lw_okq (⟨"LoopSpaces$Space", "leastLeadingOut", "()I"⟩, 11) := ⟨⟨by decide +kernel, by decide +kernel⟩, List.mem_of_getElem? (i := 32) (by decide +kernel), List.mem_of_getElem? (i := 49) (by decide +kernel), List.mem_of_getElem? (i := 50) (by decide +kernel)⟩
theorem lw_p1 : lw_okq (⟨"LoopSpaces$Space", "numberTurns", "()V"⟩, 11) := ⟨⟨by decide +kernel, by decide +kernel⟩, List.mem_of_getElem? (i := 32) (by decide +kernel), List.mem_of_getElem? (i := 53) (by decide +kernel), List.mem_of_getElem? (i := 54) (by decide +kernel)⟩
theorem lw_p2 : lw_okq (⟨"LoopSpaces$Shuffles", "multiplyAll", "()V"⟩, 5) := ⟨⟨by decide +kernel, by decide +kernel⟩, List.mem_of_getElem? (i := 343) (by decide +kernel), List.mem_of_getElem? (i := 358) (by decide +kernel), List.mem_of_getElem? (i := 359) (by decide +kernel)⟩
theorem lw_p3 : lw_okq (⟨"LoopSpaces$Shuffles", "numberOf", "(II)I"⟩, 5) := ⟨⟨by decide +kernel, by decide +kernel⟩, List.mem_of_getElem? (i := 343) (by decide +kernel), List.mem_of_getElem? (i := 362) (by decide +kernel), List.mem_of_getElem? (i := 363) (by decide +kernel)⟩
theorem lw_p4 : lw_okq (⟨"LoopSpaces", "emptySlots", "(I)V"⟩, 11) := ⟨⟨by decide +kernel, by decide +kernel⟩, List.mem_of_getElem? (i := 16) (by decide +kernel), List.mem_of_getElem? (i := 433) (by decide +kernel), List.mem_of_getElem? (i := 434) (by decide +kernel)⟩
theorem lw_p5 : lw_okq (⟨"LoopSpaces$Tape", "look", "()I"⟩, 3) := ⟨⟨by decide +kernel, by decide +kernel⟩, List.mem_of_getElem? (i := 165) (by decide +kernel), List.mem_of_getElem? (i := 483) (by decide +kernel), List.mem_of_getElem? (i := 484) (by decide +kernel)⟩
theorem lw_p6 : lw_okq (⟨"LoopSpaces$Tape", "readNumber", "(II)I"⟩, 3) := ⟨⟨by decide +kernel, by decide +kernel⟩, List.mem_of_getElem? (i := 165) (by decide +kernel), List.mem_of_getElem? (i := 533) (by decide +kernel), List.mem_of_getElem? (i := 534) (by decide +kernel)⟩
theorem lw_p7 : lw_okq (⟨"LoopSpaces$Tape", "pass", "(C)Z"⟩, 3) := ⟨⟨by decide +kernel, by decide +kernel⟩, List.mem_of_getElem? (i := 165) (by decide +kernel), List.mem_of_getElem? (i := 539) (by decide +kernel), List.mem_of_getElem? (i := 540) (by decide +kernel)⟩
theorem lw_p8 : lw_okq (⟨"LoopSpaces$Tape", "readClause", "(LLoopSpaces$Space;LLoopSpaces$Trail;)Z"⟩, 3) := ⟨⟨by decide +kernel, by decide +kernel⟩, List.mem_of_getElem? (i := 165) (by decide +kernel), List.mem_of_getElem? (i := 543) (by decide +kernel), List.mem_of_getElem? (i := 544) (by decide +kernel)⟩
theorem lw_p9 : lw_okq (⟨"LoopSpaces$Tape", "readEdge", "(LLoopSpaces$Space;)Z"⟩, 3) := ⟨⟨by decide +kernel, by decide +kernel⟩, List.mem_of_getElem? (i := 165) (by decide +kernel), List.mem_of_getElem? (i := 549) (by decide +kernel), List.mem_of_getElem? (i := 550) (by decide +kernel)⟩
theorem lw_p10 : lw_okq (⟨"LoopSpaces", "seenSpace", "(I)LLoopSpaces$Space;"⟩, 11) := ⟨⟨by decide +kernel, by decide +kernel⟩, List.mem_of_getElem? (i := 16) (by decide +kernel), List.mem_of_getElem? (i := 559) (by decide +kernel), List.mem_of_getElem? (i := 560) (by decide +kernel)⟩
theorem lw_p11 : lw_okq (⟨"LoopSpaces$Rows", "shape", "(II)V"⟩, 7) := ⟨⟨by decide +kernel, by decide +kernel⟩, List.mem_of_getElem? (i := 218) (by decide +kernel), List.mem_of_getElem? (i := 593) (by decide +kernel), List.mem_of_getElem? (i := 594) (by decide +kernel)⟩
theorem lw_p12 : lw_okq (⟨"LoopSpaces$Rows", "rankOfFractions", "()I"⟩, 7) := ⟨⟨by decide +kernel, by decide +kernel⟩, List.mem_of_getElem? (i := 218) (by decide +kernel), List.mem_of_getElem? (i := 600) (by decide +kernel), List.mem_of_getElem? (i := 601) (by decide +kernel)⟩
theorem lw_p13 : lw_okq (⟨"LoopSpaces$Rows", "rowWith", "(II)I"⟩, 7) := ⟨⟨by decide +kernel, by decide +kernel⟩, List.mem_of_getElem? (i := 218) (by decide +kernel), List.mem_of_getElem? (i := 604) (by decide +kernel), List.mem_of_getElem? (i := 605) (by decide +kernel)⟩
theorem lw_p14 : lw_okq (⟨"LoopSpaces$Rows", "swapRows", "(II)V"⟩, 7) := ⟨⟨by decide +kernel, by decide +kernel⟩, List.mem_of_getElem? (i := 218) (by decide +kernel), List.mem_of_getElem? (i := 608) (by decide +kernel), List.mem_of_getElem? (i := 609) (by decide +kernel)⟩
theorem lw_p15 : lw_okq (⟨"LoopSpaces$Rows", "clearBelowWhole", "(II)V"⟩, 7) := ⟨⟨by decide +kernel, by decide +kernel⟩, List.mem_of_getElem? (i := 218) (by decide +kernel), List.mem_of_getElem? (i := 612) (by decide +kernel), List.mem_of_getElem? (i := 613) (by decide +kernel)⟩
def lw_privs_1 : List (MethodName × Nat) := [(⟨"LoopSpaces$Space", "leastLeadingOut", "()I"⟩, 11), (⟨"LoopSpaces$Space", "numberTurns", "()V"⟩, 11), (⟨"LoopSpaces$Shuffles", "multiplyAll", "()V"⟩, 5), (⟨"LoopSpaces$Shuffles", "numberOf", "(II)I"⟩, 5), (⟨"LoopSpaces", "emptySlots", "(I)V"⟩, 11), (⟨"LoopSpaces$Tape", "look", "()I"⟩, 3), (⟨"LoopSpaces$Tape", "readNumber", "(II)I"⟩, 3), (⟨"LoopSpaces$Tape", "pass", "(C)Z"⟩, 3), (⟨"LoopSpaces$Tape", "readClause", "(LLoopSpaces$Space;LLoopSpaces$Trail;)Z"⟩, 3), (⟨"LoopSpaces$Tape", "readEdge", "(LLoopSpaces$Space;)Z"⟩, 3), (⟨"LoopSpaces", "seenSpace", "(I)LLoopSpaces$Space;"⟩, 11), (⟨"LoopSpaces$Rows", "shape", "(II)V"⟩, 7), (⟨"LoopSpaces$Rows", "rankOfFractions", "()I"⟩, 7), (⟨"LoopSpaces$Rows", "rowWith", "(II)I"⟩, 7), (⟨"LoopSpaces$Rows", "swapRows", "(II)V"⟩, 7), (⟨"LoopSpaces$Rows", "clearBelowWhole", "(II)V"⟩, 7)]
theorem lw_r1 : ∀ q ∈ lw_privs_1, lw_okq q := List.forall_mem_cons.mpr ⟨lw_p0, List.forall_mem_cons.mpr ⟨lw_p1, List.forall_mem_cons.mpr ⟨lw_p2, List.forall_mem_cons.mpr ⟨lw_p3, List.forall_mem_cons.mpr ⟨lw_p4, List.forall_mem_cons.mpr ⟨lw_p5, List.forall_mem_cons.mpr ⟨lw_p6, List.forall_mem_cons.mpr ⟨lw_p7, List.forall_mem_cons.mpr ⟨lw_p8, List.forall_mem_cons.mpr ⟨lw_p9, List.forall_mem_cons.mpr ⟨lw_p10, List.forall_mem_cons.mpr ⟨lw_p11, List.forall_mem_cons.mpr ⟨lw_p12, List.forall_mem_cons.mpr ⟨lw_p13, List.forall_mem_cons.mpr ⟨lw_p14, List.forall_mem_cons.mpr ⟨lw_p15, fun _ h => absurd h List.not_mem_nil⟩⟩⟩⟩⟩⟩⟩⟩⟩⟩⟩⟩⟩⟩⟩⟩
theorem lw_p16 : lw_okq (⟨"LoopSpaces$Rows", "rankModulo", "(I)I"⟩, 7) := ⟨⟨by decide +kernel, by decide +kernel⟩, List.mem_of_getElem? (i := 218) (by decide +kernel), List.mem_of_getElem? (i := 616) (by decide +kernel), List.mem_of_getElem? (i := 617) (by decide +kernel)⟩
theorem lw_p17 : lw_okq (⟨"LoopSpaces$Rows", "keepBelow", "(J)V"⟩, 7) := ⟨⟨by decide +kernel, by decide +kernel⟩, List.mem_of_getElem? (i := 218) (by decide +kernel), List.mem_of_getElem? (i := 620) (by decide +kernel), List.mem_of_getElem? (i := 621) (by decide +kernel)⟩
theorem lw_p18 : lw_okq (⟨"LoopSpaces$Rows", "clearBelow", "(III)V"⟩, 7) := ⟨⟨by decide +kernel, by decide +kernel⟩, List.mem_of_getElem? (i := 218) (by decide +kernel), List.mem_of_getElem? (i := 627) (by decide +kernel), List.mem_of_getElem? (i := 628) (by decide +kernel)⟩
theorem lw_p19 : lw_okq (⟨"LoopSpaces$Rows", "fillPanes", "(LLoopSpaces$Space;)V"⟩, 7) := ⟨⟨by decide +kernel, by decide +kernel⟩, List.mem_of_getElem? (i := 218) (by decide +kernel), List.mem_of_getElem? (i := 635) (by decide +kernel), List.mem_of_getElem? (i := 636) (by decide +kernel)⟩
theorem lw_p20 : lw_okq (⟨"LoopSpaces$Rows", "nextFactor", "(I)J"⟩, 7) := ⟨⟨by decide +kernel, by decide +kernel⟩, List.mem_of_getElem? (i := 218) (by decide +kernel), List.mem_of_getElem? (i := 658) (by decide +kernel), List.mem_of_getElem? (i := 659) (by decide +kernel)⟩
theorem lw_p21 : lw_okq (⟨"LoopSpaces$Rows", "bringLeast", "(I)Z"⟩, 7) := ⟨⟨by decide +kernel, by decide +kernel⟩, List.mem_of_getElem? (i := 218) (by decide +kernel), List.mem_of_getElem? (i := 663) (by decide +kernel), List.mem_of_getElem? (i := 664) (by decide +kernel)⟩
theorem lw_p22 : lw_okq (⟨"LoopSpaces$Rows", "swapColumns", "(II)V"⟩, 7) := ⟨⟨by decide +kernel, by decide +kernel⟩, List.mem_of_getElem? (i := 218) (by decide +kernel), List.mem_of_getElem? (i := 667) (by decide +kernel), List.mem_of_getElem? (i := 668) (by decide +kernel)⟩
theorem lw_p23 : lw_okq (⟨"LoopSpaces$Rows", "clearLines", "(I)Z"⟩, 7) := ⟨⟨by decide +kernel, by decide +kernel⟩, List.mem_of_getElem? (i := 218) (by decide +kernel), List.mem_of_getElem? (i := 671) (by decide +kernel), List.mem_of_getElem? (i := 672) (by decide +kernel)⟩
theorem lw_p24 : lw_okq (⟨"LoopSpaces$Rows", "takeOut", "(IJI)V"⟩, 7) := ⟨⟨by decide +kernel, by decide +kernel⟩, List.mem_of_getElem? (i := 218) (by decide +kernel), List.mem_of_getElem? (i := 675) (by decide +kernel), List.mem_of_getElem? (i := 676) (by decide +kernel)⟩
theorem lw_p25 : lw_okq (⟨"LoopSpaces$Rows", "rowNotDivided", "(IJ)I"⟩, 7) := ⟨⟨by decide +kernel, by decide +kernel⟩, List.mem_of_getElem? (i := 218) (by decide +kernel), List.mem_of_getElem? (i := 682) (by decide +kernel), List.mem_of_getElem? (i := 683) (by decide +kernel)⟩
theorem lw_p26 : lw_okq (⟨"LoopSpaces$Rows", "addRow", "(II)V"⟩, 7) := ⟨⟨by decide +kernel, by decide +kernel⟩, List.mem_of_getElem? (i := 218) (by decide +kernel), List.mem_of_getElem? (i := 686) (by decide +kernel), List.mem_of_getElem? (i := 687) (by decide +kernel)⟩
theorem lw_p27 : lw_okq (⟨"LoopSpaces$Tables", "takeRim", "(LLoopSpaces$Space;I)V"⟩, 10) := ⟨⟨by decide +kernel, by decide +kernel⟩, List.mem_of_getElem? (i := 248) (by decide +kernel), List.mem_of_getElem? (i := 712) (by decide +kernel), List.mem_of_getElem? (i := 713) (by decide +kernel)⟩
theorem lw_p28 : lw_okq (⟨"LoopSpaces$Tables", "doRimsHold", "()Z"⟩, 10) := ⟨⟨by decide +kernel, by decide +kernel⟩, List.mem_of_getElem? (i := 248) (by decide +kernel), List.mem_of_getElem? (i := 725) (by decide +kernel), List.mem_of_getElem? (i := 726) (by decide +kernel)⟩
theorem lw_p29 : lw_okq (⟨"LoopSpaces$Tables", "moveAlong", "([III)I"⟩, 10) := ⟨⟨by decide +kernel, by decide +kernel⟩, List.mem_of_getElem? (i := 248) (by decide +kernel), List.mem_of_getElem? (i := 729) (by decide +kernel), List.mem_of_getElem? (i := 730) (by decide +kernel)⟩
theorem lw_p30 : lw_okq (⟨"LoopSpaces$Tables", "isFirstOfLike", "()Z"⟩, 10) := ⟨⟨by decide +kernel, by decide +kernel⟩, List.mem_of_getElem? (i := 248) (by decide +kernel), List.mem_of_getElem? (i := 741) (by decide +kernel), List.mem_of_getElem? (i := 742) (by decide +kernel)⟩
theorem lw_p31 : lw_okq (⟨"LoopSpaces$Tables", "isOne", "()Z"⟩, 10) := ⟨⟨by decide +kernel, by decide +kernel⟩, List.mem_of_getElem? (i := 248) (by decide +kernel), List.mem_of_getElem? (i := 760) (by decide +kernel), List.mem_of_getElem? (i := 761) (by decide +kernel)⟩
def lw_privs_2 : List (MethodName × Nat) := [(⟨"LoopSpaces$Rows", "rankModulo", "(I)I"⟩, 7), (⟨"LoopSpaces$Rows", "keepBelow", "(J)V"⟩, 7), (⟨"LoopSpaces$Rows", "clearBelow", "(III)V"⟩, 7), (⟨"LoopSpaces$Rows", "fillPanes", "(LLoopSpaces$Space;)V"⟩, 7), (⟨"LoopSpaces$Rows", "nextFactor", "(I)J"⟩, 7), (⟨"LoopSpaces$Rows", "bringLeast", "(I)Z"⟩, 7), (⟨"LoopSpaces$Rows", "swapColumns", "(II)V"⟩, 7), (⟨"LoopSpaces$Rows", "clearLines", "(I)Z"⟩, 7), (⟨"LoopSpaces$Rows", "takeOut", "(IJI)V"⟩, 7), (⟨"LoopSpaces$Rows", "rowNotDivided", "(IJ)I"⟩, 7), (⟨"LoopSpaces$Rows", "addRow", "(II)V"⟩, 7), (⟨"LoopSpaces$Tables", "takeRim", "(LLoopSpaces$Space;I)V"⟩, 10), (⟨"LoopSpaces$Tables", "doRimsHold", "()Z"⟩, 10), (⟨"LoopSpaces$Tables", "moveAlong", "([III)I"⟩, 10), (⟨"LoopSpaces$Tables", "isFirstOfLike", "()Z"⟩, 10), (⟨"LoopSpaces$Tables", "isOne", "()Z"⟩, 10)]
theorem lw_r2 : ∀ q ∈ lw_privs_2, lw_okq q := List.forall_mem_cons.mpr ⟨lw_p16, List.forall_mem_cons.mpr ⟨lw_p17, List.forall_mem_cons.mpr ⟨lw_p18, List.forall_mem_cons.mpr ⟨lw_p19, List.forall_mem_cons.mpr ⟨lw_p20, List.forall_mem_cons.mpr ⟨lw_p21, List.forall_mem_cons.mpr ⟨lw_p22, List.forall_mem_cons.mpr ⟨lw_p23, List.forall_mem_cons.mpr ⟨lw_p24, List.forall_mem_cons.mpr ⟨lw_p25, List.forall_mem_cons.mpr ⟨lw_p26, List.forall_mem_cons.mpr ⟨lw_p27, List.forall_mem_cons.mpr ⟨lw_p28, List.forall_mem_cons.mpr ⟨lw_p29, List.forall_mem_cons.mpr ⟨lw_p30, List.forall_mem_cons.mpr ⟨lw_p31, fun _ h => absurd h List.not_mem_nil⟩⟩⟩⟩⟩⟩⟩⟩⟩⟩⟩⟩⟩⟩⟩⟩
theorem lw_p32 : lw_okq (⟨"LoopSpaces$Layer", "placeCorners", "(LLoopSpaces$Space;)V"⟩, 9) := ⟨⟨by decide +kernel, by decide +kernel⟩, List.mem_of_getElem? (i := 26) (by decide +kernel), List.mem_of_getElem? (i := 782) (by decide +kernel), List.mem_of_getElem? (i := 783) (by decide +kernel)⟩
theorem lw_p33 : lw_okq (⟨"LoopSpaces$Layer", "addEdges", "(LLoopSpaces$Space;)V"⟩, 9) := ⟨⟨by decide +kernel, by decide +kernel⟩, List.mem_of_getElem? (i := 26) (by decide +kernel), List.mem_of_getElem? (i := 787) (by decide +kernel), List.mem_of_getElem? (i := 788) (by decide +kernel)⟩
theorem lw_p34 : lw_okq (⟨"LoopSpaces$Layer", "addPanes", "(LLoopSpaces$Space;)V"⟩, 9) := ⟨⟨by decide +kernel, by decide +kernel⟩, List.mem_of_getElem? (i := 26) (by decide +kernel), List.mem_of_getElem? (i := 798) (by decide +kernel), List.mem_of_getElem? (i := 799) (by decide +kernel)⟩
theorem lw_p35 : lw_okq (⟨"LoopSpaces$Layer", "addPane", "(LLoopSpaces$Space;II)V"⟩, 9) := ⟨⟨by decide +kernel, by decide +kernel⟩, List.mem_of_getElem? (i := 26) (by decide +kernel), List.mem_of_getElem? (i := 803) (by decide +kernel), List.mem_of_getElem? (i := 804) (by decide +kernel)⟩
theorem lw_p36 : lw_okq (⟨"LoopSpaces", "keepReduced", "(II)I"⟩, 11) := ⟨⟨by decide +kernel, by decide +kernel⟩, List.mem_of_getElem? (i := 16) (by decide +kernel), List.mem_of_getElem? (i := 849) (by decide +kernel), List.mem_of_getElem? (i := 850) (by decide +kernel)⟩
theorem lw_p37 : lw_okq (⟨"LoopSpaces", "refuseRow", "(II)I"⟩, 11) := ⟨⟨by decide +kernel, by decide +kernel⟩, List.mem_of_getElem? (i := 16) (by decide +kernel), List.mem_of_getElem? (i := 861) (by decide +kernel), List.mem_of_getElem? (i := 862) (by decide +kernel)⟩
theorem lw_p38 : lw_okq (⟨"LoopSpaces$Drawer", "seek", "(LLoopSpaces$Trail;)V"⟩, 10) := ⟨⟨by decide +kernel, by decide +kernel⟩, List.mem_of_getElem? (i := 288) (by decide +kernel), List.mem_of_getElem? (i := 893) (by decide +kernel), List.mem_of_getElem? (i := 894) (by decide +kernel)⟩
theorem lw_p39 : lw_okq (⟨"LoopSpaces$Drawer", "pushAll", "(LLoopSpaces$Trail;II)V"⟩, 10) := ⟨⟨by decide +kernel, by decide +kernel⟩, List.mem_of_getElem? (i := 288) (by decide +kernel), List.mem_of_getElem? (i := 897) (by decide +kernel), List.mem_of_getElem? (i := 898) (by decide +kernel)⟩
theorem lw_p40 : lw_okq (⟨"LoopSpaces$Drawer", "push", "(I)V"⟩, 10) := ⟨⟨by decide +kernel, by decide +kernel⟩, List.mem_of_getElem? (i := 288) (by decide +kernel), List.mem_of_getElem? (i := 901) (by decide +kernel), List.mem_of_getElem? (i := 902) (by decide +kernel)⟩
theorem lw_p41 : lw_okq (⟨"LoopSpaces$Drawer", "pack", "()V"⟩, 10) := ⟨⟨by decide +kernel, by decide +kernel⟩, List.mem_of_getElem? (i := 288) (by decide +kernel), List.mem_of_getElem? (i := 905) (by decide +kernel), List.mem_of_getElem? (i := 906) (by decide +kernel)⟩
theorem lw_p42 : lw_okq (⟨"LoopSpaces$Drawer", "drawAll", "(LLoopSpaces$Space;LLoopSpaces$Trail;Z)V"⟩, 10) := ⟨⟨by decide +kernel, by decide +kernel⟩, List.mem_of_getElem? (i := 288) (by decide +kernel), List.mem_of_getElem? (i := 910) (by decide +kernel), List.mem_of_getElem? (i := 911) (by decide +kernel)⟩
theorem lw_p43 : lw_okq (⟨"LoopSpaces$Drawer", "draw", "(LLoopSpaces$Space;LLoopSpaces$Trail;IIIZ)V"⟩, 10) := ⟨⟨by decide +kernel, by decide +kernel⟩, List.mem_of_getElem? (i := 288) (by decide +kernel), List.mem_of_getElem? (i := 916) (by decide +kernel), List.mem_of_getElem? (i := 917) (by decide +kernel)⟩
theorem lw_p44 : lw_okq (⟨"LoopSpaces$Drawer", "meet", "(Z)V"⟩, 10) := ⟨⟨by decide +kernel, by decide +kernel⟩, List.mem_of_getElem? (i := 288) (by decide +kernel), List.mem_of_getElem? (i := 920) (by decide +kernel), List.mem_of_getElem? (i := 921) (by decide +kernel)⟩
theorem lw_p45 : lw_okq (⟨"LoopSpaces$Drawer", "placeOf", "()I"⟩, 10) := ⟨⟨by decide +kernel, by decide +kernel⟩, List.mem_of_getElem? (i := 288) (by decide +kernel), List.mem_of_getElem? (i := 924) (by decide +kernel), List.mem_of_getElem? (i := 925) (by decide +kernel)⟩
theorem lw_p46 : lw_okq (⟨"LoopSpaces$Space", "stepsBy", "(II)I"⟩, 11) := ⟨⟨by decide +kernel, by decide +kernel⟩, List.mem_of_getElem? (i := 32) (by decide +kernel), List.mem_of_getElem? (i := 958) (by decide +kernel), List.mem_of_getElem? (i := 959) (by decide +kernel)⟩
theorem lw_p47 : lw_okq (⟨"LoopSpaces$Rows", "clearByBasis", "(I)I"⟩, 7) := ⟨⟨by decide +kernel, by decide +kernel⟩, List.mem_of_getElem? (i := 218) (by decide +kernel), List.mem_of_getElem? (i := 962) (by decide +kernel), List.mem_of_getElem? (i := 963) (by decide +kernel)⟩
def lw_privs_3 : List (MethodName × Nat) := [(⟨"LoopSpaces$Layer", "placeCorners", "(LLoopSpaces$Space;)V"⟩, 9), (⟨"LoopSpaces$Layer", "addEdges", "(LLoopSpaces$Space;)V"⟩, 9), (⟨"LoopSpaces$Layer", "addPanes", "(LLoopSpaces$Space;)V"⟩, 9), (⟨"LoopSpaces$Layer", "addPane", "(LLoopSpaces$Space;II)V"⟩, 9), (⟨"LoopSpaces", "keepReduced", "(II)I"⟩, 11), (⟨"LoopSpaces", "refuseRow", "(II)I"⟩, 11), (⟨"LoopSpaces$Drawer", "seek", "(LLoopSpaces$Trail;)V"⟩, 10), (⟨"LoopSpaces$Drawer", "pushAll", "(LLoopSpaces$Trail;II)V"⟩, 10), (⟨"LoopSpaces$Drawer", "push", "(I)V"⟩, 10), (⟨"LoopSpaces$Drawer", "pack", "()V"⟩, 10), (⟨"LoopSpaces$Drawer", "drawAll", "(LLoopSpaces$Space;LLoopSpaces$Trail;Z)V"⟩, 10), (⟨"LoopSpaces$Drawer", "draw", "(LLoopSpaces$Space;LLoopSpaces$Trail;IIIZ)V"⟩, 10), (⟨"LoopSpaces$Drawer", "meet", "(Z)V"⟩, 10), (⟨"LoopSpaces$Drawer", "placeOf", "()I"⟩, 10), (⟨"LoopSpaces$Space", "stepsBy", "(II)I"⟩, 11), (⟨"LoopSpaces$Rows", "clearByBasis", "(I)I"⟩, 7)]
theorem lw_r3 : ∀ q ∈ lw_privs_3, lw_okq q := List.forall_mem_cons.mpr ⟨lw_p32, List.forall_mem_cons.mpr ⟨lw_p33, List.forall_mem_cons.mpr ⟨lw_p34, List.forall_mem_cons.mpr ⟨lw_p35, List.forall_mem_cons.mpr ⟨lw_p36, List.forall_mem_cons.mpr ⟨lw_p37, List.forall_mem_cons.mpr ⟨lw_p38, List.forall_mem_cons.mpr ⟨lw_p39, List.forall_mem_cons.mpr ⟨lw_p40, List.forall_mem_cons.mpr ⟨lw_p41, List.forall_mem_cons.mpr ⟨lw_p42, List.forall_mem_cons.mpr ⟨lw_p43, List.forall_mem_cons.mpr ⟨lw_p44, List.forall_mem_cons.mpr ⟨lw_p45, List.forall_mem_cons.mpr ⟨lw_p46, List.forall_mem_cons.mpr ⟨lw_p47, fun _ h => absurd h List.not_mem_nil⟩⟩⟩⟩⟩⟩⟩⟩⟩⟩⟩⟩⟩⟩⟩⟩
theorem lw_p48 : lw_okq (⟨"LoopSpaces$Space", "leastFreeEdge", "()I"⟩, 11) := ⟨⟨by decide +kernel, by decide +kernel⟩, List.mem_of_getElem? (i := 32) (by decide +kernel), List.mem_of_getElem? (i := 977) (by decide +kernel), List.mem_of_getElem? (i := 978) (by decide +kernel)⟩
theorem lw_p49 : lw_okq (⟨"LoopSpaces$Space", "paneBy", "(I)I"⟩, 11) := ⟨⟨by decide +kernel, by decide +kernel⟩, List.mem_of_getElem? (i := 32) (by decide +kernel), List.mem_of_getElem? (i := 981) (by decide +kernel), List.mem_of_getElem? (i := 982) (by decide +kernel)⟩
theorem lw_p50 : lw_okq (⟨"LoopSpaces$Space", "removePane", "(I)V"⟩, 11) := ⟨⟨by decide +kernel, by decide +kernel⟩, List.mem_of_getElem? (i := 32) (by decide +kernel), List.mem_of_getElem? (i := 985) (by decide +kernel), List.mem_of_getElem? (i := 986) (by decide +kernel)⟩
theorem lw_p51 : lw_okq (⟨"LoopSpaces$Space", "removeEdge", "(I)V"⟩, 11) := ⟨⟨by decide +kernel, by decide +kernel⟩, List.mem_of_getElem? (i := 32) (by decide +kernel), List.mem_of_getElem? (i := 989) (by decide +kernel), List.mem_of_getElem? (i := 990) (by decide +kernel)⟩
theorem lw_p52 : lw_okq (⟨"LoopSpacesModel", "clear", "(II)V"⟩, 59) := ⟨⟨by decide +kernel, by decide +kernel⟩, List.mem_of_getElem? (i := 1026) (by decide +kernel), List.mem_of_getElem? (i := 1221) (by decide +kernel), List.mem_of_getElem? (i := 1222) (by decide +kernel)⟩
theorem lw_p53 : lw_okq (⟨"LoopSpacesModel", "emptySlots", "(I)V"⟩, 59) := ⟨⟨by decide +kernel, by decide +kernel⟩, List.mem_of_getElem? (i := 1026) (by decide +kernel), List.mem_of_getElem? (i := 1225) (by decide +kernel), List.mem_of_getElem? (i := 1226) (by decide +kernel)⟩
theorem lw_p54 : lw_okq (⟨"LoopSpacesModel", "addEdge", "(III)I"⟩, 59) := ⟨⟨by decide +kernel, by decide +kernel⟩, List.mem_of_getElem? (i := 1026) (by decide +kernel), List.mem_of_getElem? (i := 1233) (by decide +kernel), List.mem_of_getElem? (i := 1234) (by decide +kernel)⟩
theorem lw_p55 : lw_okq (⟨"LoopSpacesModel", "readRim", "(I)Z"⟩, 59) := ⟨⟨by decide +kernel, by decide +kernel⟩, List.mem_of_getElem? (i := 1026) (by decide +kernel), List.mem_of_getElem? (i := 1246) (by decide +kernel), List.mem_of_getElem? (i := 1247) (by decide +kernel)⟩
theorem lw_p56 : lw_okq (⟨"LoopSpacesModel", "readWord", "(II)Z"⟩, 59) := ⟨⟨by decide +kernel, by decide +kernel⟩, List.mem_of_getElem? (i := 1026) (by decide +kernel), List.mem_of_getElem? (i := 1250) (by decide +kernel), List.mem_of_getElem? (i := 1251) (by decide +kernel)⟩
theorem lw_p57 : lw_okq (⟨"LoopSpacesModel", "pass", "()V"⟩, 59) := ⟨⟨by decide +kernel, by decide +kernel⟩, List.mem_of_getElem? (i := 1026) (by decide +kernel), List.mem_of_getElem? (i := 1254) (by decide +kernel), List.mem_of_getElem? (i := 1255) (by decide +kernel)⟩
theorem lw_p58 : lw_okq (⟨"LoopSpacesModel", "now", "()I"⟩, 59) := ⟨⟨by decide +kernel, by decide +kernel⟩, List.mem_of_getElem? (i := 1026) (by decide +kernel), List.mem_of_getElem? (i := 1258) (by decide +kernel), List.mem_of_getElem? (i := 1259) (by decide +kernel)⟩
theorem lw_p59 : lw_okq (⟨"LoopSpacesModel", "toOf", "(II)I"⟩, 59) := ⟨⟨by decide +kernel, by decide +kernel⟩, List.mem_of_getElem? (i := 1026) (by decide +kernel), List.mem_of_getElem? (i := 1262) (by decide +kernel), List.mem_of_getElem? (i := 1263) (by decide +kernel)⟩
theorem lw_p60 : lw_okq (⟨"LoopSpacesModel", "fromOf", "(II)I"⟩, 59) := ⟨⟨by decide +kernel, by decide +kernel⟩, List.mem_of_getElem? (i := 1026) (by decide +kernel), List.mem_of_getElem? (i := 1266) (by decide +kernel), List.mem_of_getElem? (i := 1267) (by decide +kernel)⟩
theorem lw_p61 : lw_okq (⟨"LoopSpacesModel", "fails", "(I)Z"⟩, 59) := ⟨⟨by decide +kernel, by decide +kernel⟩, List.mem_of_getElem? (i := 1026) (by decide +kernel), List.mem_of_getElem? (i := 1270) (by decide +kernel), List.mem_of_getElem? (i := 1271) (by decide +kernel)⟩
theorem lw_p62 : lw_okq (⟨"LoopSpacesModel", "addFace", "(I)I"⟩, 59) := ⟨⟨by decide +kernel, by decide +kernel⟩, List.mem_of_getElem? (i := 1026) (by decide +kernel), List.mem_of_getElem? (i := 1274) (by decide +kernel), List.mem_of_getElem? (i := 1275) (by decide +kernel)⟩
theorem lw_p63 : lw_okq (⟨"LoopSpacesModel", "keep", "(I)V"⟩, 59) := ⟨⟨by decide +kernel, by decide +kernel⟩, List.mem_of_getElem? (i := 1026) (by decide +kernel), List.mem_of_getElem? (i := 1282) (by decide +kernel), List.mem_of_getElem? (i := 1283) (by decide +kernel)⟩
def lw_privs_4 : List (MethodName × Nat) := [(⟨"LoopSpaces$Space", "leastFreeEdge", "()I"⟩, 11), (⟨"LoopSpaces$Space", "paneBy", "(I)I"⟩, 11), (⟨"LoopSpaces$Space", "removePane", "(I)V"⟩, 11), (⟨"LoopSpaces$Space", "removeEdge", "(I)V"⟩, 11), (⟨"LoopSpacesModel", "clear", "(II)V"⟩, 59), (⟨"LoopSpacesModel", "emptySlots", "(I)V"⟩, 59), (⟨"LoopSpacesModel", "addEdge", "(III)I"⟩, 59), (⟨"LoopSpacesModel", "readRim", "(I)Z"⟩, 59), (⟨"LoopSpacesModel", "readWord", "(II)Z"⟩, 59), (⟨"LoopSpacesModel", "pass", "()V"⟩, 59), (⟨"LoopSpacesModel", "now", "()I"⟩, 59), (⟨"LoopSpacesModel", "toOf", "(II)I"⟩, 59), (⟨"LoopSpacesModel", "fromOf", "(II)I"⟩, 59), (⟨"LoopSpacesModel", "fails", "(I)Z"⟩, 59), (⟨"LoopSpacesModel", "addFace", "(I)I"⟩, 59), (⟨"LoopSpacesModel", "keep", "(I)V"⟩, 59)]
theorem lw_r4 : ∀ q ∈ lw_privs_4, lw_okq q := List.forall_mem_cons.mpr ⟨lw_p48, List.forall_mem_cons.mpr ⟨lw_p49, List.forall_mem_cons.mpr ⟨lw_p50, List.forall_mem_cons.mpr ⟨lw_p51, List.forall_mem_cons.mpr ⟨lw_p52, List.forall_mem_cons.mpr ⟨lw_p53, List.forall_mem_cons.mpr ⟨lw_p54, List.forall_mem_cons.mpr ⟨lw_p55, List.forall_mem_cons.mpr ⟨lw_p56, List.forall_mem_cons.mpr ⟨lw_p57, List.forall_mem_cons.mpr ⟨lw_p58, List.forall_mem_cons.mpr ⟨lw_p59, List.forall_mem_cons.mpr ⟨lw_p60, List.forall_mem_cons.mpr ⟨lw_p61, List.forall_mem_cons.mpr ⟨lw_p62, List.forall_mem_cons.mpr ⟨lw_p63, fun _ h => absurd h List.not_mem_nil⟩⟩⟩⟩⟩⟩⟩⟩⟩⟩⟩⟩⟩⟩⟩⟩
theorem lw_p64 : lw_okq (⟨"LoopSpacesModel", "readSpace", "(I)Z"⟩, 59) := ⟨⟨by decide +kernel, by decide +kernel⟩, List.mem_of_getElem? (i := 1026) (by decide +kernel), List.mem_of_getElem? (i := 1286) (by decide +kernel), List.mem_of_getElem? (i := 1287) (by decide +kernel)⟩
theorem lw_p65 : lw_okq (⟨"LoopSpacesModel", "readNumber", "(II)Z"⟩, 59) := ⟨⟨by decide +kernel, by decide +kernel⟩, List.mem_of_getElem? (i := 1026) (by decide +kernel), List.mem_of_getElem? (i := 1290) (by decide +kernel), List.mem_of_getElem? (i := 1291) (by decide +kernel)⟩
theorem lw_p66 : lw_okq (⟨"LoopSpacesModel", "readClause", "(I)Z"⟩, 59) := ⟨⟨by decide +kernel, by decide +kernel⟩, List.mem_of_getElem? (i := 1026) (by decide +kernel), List.mem_of_getElem? (i := 1294) (by decide +kernel), List.mem_of_getElem? (i := 1295) (by decide +kernel)⟩
theorem lw_p67 : lw_okq (⟨"LoopSpacesModel", "putBack", "(I)V"⟩, 59) := ⟨⟨by decide +kernel, by decide +kernel⟩, List.mem_of_getElem? (i := 1026) (by decide +kernel), List.mem_of_getElem? (i := 1298) (by decide +kernel), List.mem_of_getElem? (i := 1299) (by decide +kernel)⟩
theorem lw_p68 : lw_okq (⟨"LoopSpacesModel", "isAny", "(I)Z"⟩, 59) := ⟨⟨by decide +kernel, by decide +kernel⟩, List.mem_of_getElem? (i := 1026) (by decide +kernel), List.mem_of_getElem? (i := 1306) (by decide +kernel), List.mem_of_getElem? (i := 1307) (by decide +kernel)⟩
theorem lw_p69 : lw_okq (⟨"LoopSpacesModel", "layTree", "(I)V"⟩, 59) := ⟨⟨by decide +kernel, by decide +kernel⟩, List.mem_of_getElem? (i := 1026) (by decide +kernel), List.mem_of_getElem? (i := 1310) (by decide +kernel), List.mem_of_getElem? (i := 1311) (by decide +kernel)⟩
theorem lw_p70 : lw_okq (⟨"LoopSpacesModel", "rimAt", "(III)I"⟩, 59) := ⟨⟨by decide +kernel, by decide +kernel⟩, List.mem_of_getElem? (i := 1026) (by decide +kernel), List.mem_of_getElem? (i := 1322) (by decide +kernel), List.mem_of_getElem? (i := 1323) (by decide +kernel)⟩
theorem lw_p71 : lw_okq (⟨"LoopSpacesModel", "edgeRank", "(I)I"⟩, 59) := ⟨⟨by decide +kernel, by decide +kernel⟩, List.mem_of_getElem? (i := 1026) (by decide +kernel), List.mem_of_getElem? (i := 1336) (by decide +kernel), List.mem_of_getElem? (i := 1337) (by decide +kernel)⟩
theorem lw_p72 : lw_okq (⟨"LoopSpacesModel", "layCommon", "(I)V"⟩, 59) := ⟨⟨by decide +kernel, by decide +kernel⟩, List.mem_of_getElem? (i := 1026) (by decide +kernel), List.mem_of_getElem? (i := 1340) (by decide +kernel), List.mem_of_getElem? (i := 1341) (by decide +kernel)⟩
theorem lw_p73 : lw_okq (⟨"LoopSpacesModel", "goes", "(III)I"⟩, 59) := ⟨⟨by decide +kernel, by decide +kernel⟩, List.mem_of_getElem? (i := 1026) (by decide +kernel), List.mem_of_getElem? (i := 1344) (by decide +kernel), List.mem_of_getElem? (i := 1345) (by decide +kernel)⟩
theorem lw_p74 : lw_okq (⟨"LoopSpacesModel", "goRows", "(III)V"⟩, 59) := ⟨⟨by decide +kernel, by decide +kernel⟩, List.mem_of_getElem? (i := 1026) (by decide +kernel), List.mem_of_getElem? (i := 1348) (by decide +kernel), List.mem_of_getElem? (i := 1349) (by decide +kernel)⟩
theorem lw_p75 : lw_okq (⟨"LoopSpacesModel", "worthOf", "(IIII)J"⟩, 59) := ⟨⟨by decide +kernel, by decide +kernel⟩, List.mem_of_getElem? (i := 1026) (by decide +kernel), List.mem_of_getElem? (i := 1352) (by decide +kernel), List.mem_of_getElem? (i := 1353) (by decide +kernel)⟩
theorem lw_p76 : lw_okq (⟨"LoopSpacesModel", "wholeRank", "()I"⟩, 59) := ⟨⟨by decide +kernel, by decide +kernel⟩, List.mem_of_getElem? (i := 1026) (by decide +kernel), List.mem_of_getElem? (i := 1359) (by decide +kernel), List.mem_of_getElem? (i := 1360) (by decide +kernel)⟩
theorem lw_p77 : lw_okq (⟨"LoopSpacesModel", "faceRank", "(II)I"⟩, 59) := ⟨⟨by decide +kernel, by decide +kernel⟩, List.mem_of_getElem? (i := 1026) (by decide +kernel), List.mem_of_getElem? (i := 1363) (by decide +kernel), List.mem_of_getElem? (i := 1364) (by decide +kernel)⟩
theorem lw_p78 : lw_okq (⟨"LoopSpacesModel", "rankOf", "(III)I"⟩, 59) := ⟨⟨by decide +kernel, by decide +kernel⟩, List.mem_of_getElem? (i := 1026) (by decide +kernel), List.mem_of_getElem? (i := 1367) (by decide +kernel), List.mem_of_getElem? (i := 1368) (by decide +kernel)⟩
theorem lw_p79 : lw_okq (⟨"LoopSpacesModel", "isMany", "(II)Z"⟩, 59) := ⟨⟨by decide +kernel, by decide +kernel⟩, List.mem_of_getElem? (i := 1026) (by decide +kernel), List.mem_of_getElem? (i := 1384) (by decide +kernel), List.mem_of_getElem? (i := 1385) (by decide +kernel)⟩
def lw_privs_5 : List (MethodName × Nat) := [(⟨"LoopSpacesModel", "readSpace", "(I)Z"⟩, 59), (⟨"LoopSpacesModel", "readNumber", "(II)Z"⟩, 59), (⟨"LoopSpacesModel", "readClause", "(I)Z"⟩, 59), (⟨"LoopSpacesModel", "putBack", "(I)V"⟩, 59), (⟨"LoopSpacesModel", "isAny", "(I)Z"⟩, 59), (⟨"LoopSpacesModel", "layTree", "(I)V"⟩, 59), (⟨"LoopSpacesModel", "rimAt", "(III)I"⟩, 59), (⟨"LoopSpacesModel", "edgeRank", "(I)I"⟩, 59), (⟨"LoopSpacesModel", "layCommon", "(I)V"⟩, 59), (⟨"LoopSpacesModel", "goes", "(III)I"⟩, 59), (⟨"LoopSpacesModel", "goRows", "(III)V"⟩, 59), (⟨"LoopSpacesModel", "worthOf", "(IIII)J"⟩, 59), (⟨"LoopSpacesModel", "wholeRank", "()I"⟩, 59), (⟨"LoopSpacesModel", "faceRank", "(II)I"⟩, 59), (⟨"LoopSpacesModel", "rankOf", "(III)I"⟩, 59), (⟨"LoopSpacesModel", "isMany", "(II)Z"⟩, 59)]
theorem lw_r5 : ∀ q ∈ lw_privs_5, lw_okq q := List.forall_mem_cons.mpr ⟨lw_p64, List.forall_mem_cons.mpr ⟨lw_p65, List.forall_mem_cons.mpr ⟨lw_p66, List.forall_mem_cons.mpr ⟨lw_p67, List.forall_mem_cons.mpr ⟨lw_p68, List.forall_mem_cons.mpr ⟨lw_p69, List.forall_mem_cons.mpr ⟨lw_p70, List.forall_mem_cons.mpr ⟨lw_p71, List.forall_mem_cons.mpr ⟨lw_p72, List.forall_mem_cons.mpr ⟨lw_p73, List.forall_mem_cons.mpr ⟨lw_p74, List.forall_mem_cons.mpr ⟨lw_p75, List.forall_mem_cons.mpr ⟨lw_p76, List.forall_mem_cons.mpr ⟨lw_p77, List.forall_mem_cons.mpr ⟨lw_p78, List.forall_mem_cons.mpr ⟨lw_p79, fun _ h => absurd h List.not_mem_nil⟩⟩⟩⟩⟩⟩⟩⟩⟩⟩⟩⟩⟩⟩⟩⟩
theorem lw_p80 : lw_okq (⟨"LoopSpacesModel", "goOrders", "(II)V"⟩, 59) := ⟨⟨by decide +kernel, by decide +kernel⟩, List.mem_of_getElem? (i := 1026) (by decide +kernel), List.mem_of_getElem? (i := 1388) (by decide +kernel), List.mem_of_getElem? (i := 1389) (by decide +kernel)⟩
theorem lw_p81 : lw_okq (⟨"LoopSpacesModel", "seek", "(III)Z"⟩, 59) := ⟨⟨by decide +kernel, by decide +kernel⟩, List.mem_of_getElem? (i := 1026) (by decide +kernel), List.mem_of_getElem? (i := 1392) (by decide +kernel), List.mem_of_getElem? (i := 1393) (by decide +kernel)⟩
theorem lw_p82 : lw_okq (⟨"LoopSpacesModel", "goTables", "(II)Z"⟩, 59) := ⟨⟨by decide +kernel, by decide +kernel⟩, List.mem_of_getElem? (i := 1026) (by decide +kernel), List.mem_of_getElem? (i := 1396) (by decide +kernel), List.mem_of_getElem? (i := 1397) (by decide +kernel)⟩
theorem lw_p83 : lw_okq (⟨"LoopSpacesModel", "putTurn", "(II)V"⟩, 59) := ⟨⟨by decide +kernel, by decide +kernel⟩, List.mem_of_getElem? (i := 1026) (by decide +kernel), List.mem_of_getElem? (i := 1400) (by decide +kernel), List.mem_of_getElem? (i := 1401) (by decide +kernel)⟩
theorem lw_p84 : lw_okq (⟨"LoopSpacesModel", "holds", "(I)Z"⟩, 59) := ⟨⟨by decide +kernel, by decide +kernel⟩, List.mem_of_getElem? (i := 1026) (by decide +kernel), List.mem_of_getElem? (i := 1404) (by decide +kernel), List.mem_of_getElem? (i := 1405) (by decide +kernel)⟩
theorem lw_p85 : lw_okq (⟨"LoopSpacesModel", "isFaceInPart", "(II)Z"⟩, 59) := ⟨⟨by decide +kernel, by decide +kernel⟩, List.mem_of_getElem? (i := 1026) (by decide +kernel), List.mem_of_getElem? (i := 1408) (by decide +kernel), List.mem_of_getElem? (i := 1409) (by decide +kernel)⟩
theorem lw_p86 : lw_okq (⟨"LoopSpacesModel", "stepMoves", "(II)I"⟩, 59) := ⟨⟨by decide +kernel, by decide +kernel⟩, List.mem_of_getElem? (i := 1026) (by decide +kernel), List.mem_of_getElem? (i := 1412) (by decide +kernel), List.mem_of_getElem? (i := 1413) (by decide +kernel)⟩
theorem lw_p87 : lw_okq (⟨"LoopSpacesModel", "movesSome", "(I)Z"⟩, 59) := ⟨⟨by decide +kernel, by decide +kernel⟩, List.mem_of_getElem? (i := 1026) (by decide +kernel), List.mem_of_getElem? (i := 1416) (by decide +kernel), List.mem_of_getElem? (i := 1417) (by decide +kernel)⟩
theorem lw_p88 : lw_okq (⟨"LoopSpacesModel", "isOne", "()Z"⟩, 59) := ⟨⟨by decide +kernel, by decide +kernel⟩, List.mem_of_getElem? (i := 1026) (by decide +kernel), List.mem_of_getElem? (i := 1420) (by decide +kernel), List.mem_of_getElem? (i := 1421) (by decide +kernel)⟩
theorem lw_p89 : lw_okq (⟨"LoopSpacesModel", "isFirst", "()Z"⟩, 59) := ⟨⟨by decide +kernel, by decide +kernel⟩, List.mem_of_getElem? (i := 1026) (by decide +kernel), List.mem_of_getElem? (i := 1424) (by decide +kernel), List.mem_of_getElem? (i := 1425) (by decide +kernel)⟩
theorem lw_p90 : lw_okq (⟨"LoopSpacesModel", "layLayer", "(I)V"⟩, 59) := ⟨⟨by decide +kernel, by decide +kernel⟩, List.mem_of_getElem? (i := 1026) (by decide +kernel), List.mem_of_getElem? (i := 1436) (by decide +kernel), List.mem_of_getElem? (i := 1437) (by decide +kernel)⟩
theorem lw_p91 : lw_okq (⟨"LoopSpacesModel", "lifted", "(II)I"⟩, 59) := ⟨⟨by decide +kernel, by decide +kernel⟩, List.mem_of_getElem? (i := 1026) (by decide +kernel), List.mem_of_getElem? (i := 1440) (by decide +kernel), List.mem_of_getElem? (i := 1441) (by decide +kernel)⟩
theorem lw_p92 : lw_okq (⟨"LoopSpacesModel", "keepWord", "(II)I"⟩, 59) := ⟨⟨by decide +kernel, by decide +kernel⟩, List.mem_of_getElem? (i := 1026) (by decide +kernel), List.mem_of_getElem? (i := 1467) (by decide +kernel), List.mem_of_getElem? (i := 1468) (by decide +kernel)⟩
theorem lw_p93 : lw_okq (⟨"LoopSpacesModel", "put", "(I)V"⟩, 59) := ⟨⟨by decide +kernel, by decide +kernel⟩, List.mem_of_getElem? (i := 1026) (by decide +kernel), List.mem_of_getElem? (i := 1471) (by decide +kernel), List.mem_of_getElem? (i := 1472) (by decide +kernel)⟩
theorem lw_p94 : lw_okq (⟨"LoopSpacesModel", "makeSlot", "(I)V"⟩, 59) := ⟨⟨by decide +kernel, by decide +kernel⟩, List.mem_of_getElem? (i := 1026) (by decide +kernel), List.mem_of_getElem? (i := 1494) (by decide +kernel), List.mem_of_getElem? (i := 1495) (by decide +kernel)⟩
theorem lw_p95 : lw_okq (⟨"LoopSpacesModel", "list", "(I)V"⟩, 59) := ⟨⟨by decide +kernel, by decide +kernel⟩, List.mem_of_getElem? (i := 1026) (by decide +kernel), List.mem_of_getElem? (i := 1498) (by decide +kernel), List.mem_of_getElem? (i := 1499) (by decide +kernel)⟩
def lw_privs_6 : List (MethodName × Nat) := [(⟨"LoopSpacesModel", "goOrders", "(II)V"⟩, 59), (⟨"LoopSpacesModel", "seek", "(III)Z"⟩, 59), (⟨"LoopSpacesModel", "goTables", "(II)Z"⟩, 59), (⟨"LoopSpacesModel", "putTurn", "(II)V"⟩, 59), (⟨"LoopSpacesModel", "holds", "(I)Z"⟩, 59), (⟨"LoopSpacesModel", "isFaceInPart", "(II)Z"⟩, 59), (⟨"LoopSpacesModel", "stepMoves", "(II)I"⟩, 59), (⟨"LoopSpacesModel", "movesSome", "(I)Z"⟩, 59), (⟨"LoopSpacesModel", "isOne", "()Z"⟩, 59), (⟨"LoopSpacesModel", "isFirst", "()Z"⟩, 59), (⟨"LoopSpacesModel", "layLayer", "(I)V"⟩, 59), (⟨"LoopSpacesModel", "lifted", "(II)I"⟩, 59), (⟨"LoopSpacesModel", "keepWord", "(II)I"⟩, 59), (⟨"LoopSpacesModel", "put", "(I)V"⟩, 59), (⟨"LoopSpacesModel", "makeSlot", "(I)V"⟩, 59), (⟨"LoopSpacesModel", "list", "(I)V"⟩, 59)]
theorem lw_r6 : ∀ q ∈ lw_privs_6, lw_okq q := List.forall_mem_cons.mpr ⟨lw_p80, List.forall_mem_cons.mpr ⟨lw_p81, List.forall_mem_cons.mpr ⟨lw_p82, List.forall_mem_cons.mpr ⟨lw_p83, List.forall_mem_cons.mpr ⟨lw_p84, List.forall_mem_cons.mpr ⟨lw_p85, List.forall_mem_cons.mpr ⟨lw_p86, List.forall_mem_cons.mpr ⟨lw_p87, List.forall_mem_cons.mpr ⟨lw_p88, List.forall_mem_cons.mpr ⟨lw_p89, List.forall_mem_cons.mpr ⟨lw_p90, List.forall_mem_cons.mpr ⟨lw_p91, List.forall_mem_cons.mpr ⟨lw_p92, List.forall_mem_cons.mpr ⟨lw_p93, List.forall_mem_cons.mpr ⟨lw_p94, List.forall_mem_cons.mpr ⟨lw_p95, fun _ h => absurd h List.not_mem_nil⟩⟩⟩⟩⟩⟩⟩⟩⟩⟩⟩⟩⟩⟩⟩⟩
theorem lw_p96 : lw_okq (⟨"LoopSpacesModel", "layNext", "(II)V"⟩, 59) := ⟨⟨by decide +kernel, by decide +kernel⟩, List.mem_of_getElem? (i := 1026) (by decide +kernel), List.mem_of_getElem? (i := 1504) (by decide +kernel), List.mem_of_getElem? (i := 1505) (by decide +kernel)⟩
theorem lw_p97 : lw_okq (⟨"LoopSpacesModel", "cornerAt", "(II)I"⟩, 59) := ⟨⟨by decide +kernel, by decide +kernel⟩, List.mem_of_getElem? (i := 1026) (by decide +kernel), List.mem_of_getElem? (i := 1508) (by decide +kernel), List.mem_of_getElem? (i := 1509) (by decide +kernel)⟩
theorem lw_p98 : lw_okq (⟨"LoopSpacesModel", "putIn", "(IIIIZ)V"⟩, 59) := ⟨⟨by decide +kernel, by decide +kernel⟩, List.mem_of_getElem? (i := 1026) (by decide +kernel), List.mem_of_getElem? (i := 1512) (by decide +kernel), List.mem_of_getElem? (i := 1513) (by decide +kernel)⟩
theorem lw_p99 : lw_okq (⟨"LoopSpacesModel", "isListed", "(JJII)Z"⟩, 59) := ⟨⟨by decide +kernel, by decide +kernel⟩, List.mem_of_getElem? (i := 1026) (by decide +kernel), List.mem_of_getElem? (i := 1516) (by decide +kernel), List.mem_of_getElem? (i := 1517) (by decide +kernel)⟩
theorem lw_p100 : lw_okq (⟨"LoopSpacesModel", "oddFaces", "(II)I"⟩, 59) := ⟨⟨by decide +kernel, by decide +kernel⟩, List.mem_of_getElem? (i := 1026) (by decide +kernel), List.mem_of_getElem? (i := 1527) (by decide +kernel), List.mem_of_getElem? (i := 1528) (by decide +kernel)⟩
theorem lw_p101 : lw_okq (⟨"LoopSpacesModel", "lonely", "(I)I"⟩, 59) := ⟨⟨by decide +kernel, by decide +kernel⟩, List.mem_of_getElem? (i := 1026) (by decide +kernel), List.mem_of_getElem? (i := 1542) (by decide +kernel), List.mem_of_getElem? (i := 1543) (by decide +kernel)⟩
theorem lw_p102 : lw_okq (⟨"LoopSpacesModel", "foldOne", "(II)V"⟩, 59) := ⟨⟨by decide +kernel, by decide +kernel⟩, List.mem_of_getElem? (i := 1026) (by decide +kernel), List.mem_of_getElem? (i := 1546) (by decide +kernel), List.mem_of_getElem? (i := 1547) (by decide +kernel)⟩
theorem lw_p103 : lw_okq (⟨"LoopSpacesModel", "joinedCorner", "(I)I"⟩, 59) := ⟨⟨by decide +kernel, by decide +kernel⟩, List.mem_of_getElem? (i := 1026) (by decide +kernel), List.mem_of_getElem? (i := 1554) (by decide +kernel), List.mem_of_getElem? (i := 1555) (by decide +kernel)⟩
def lw_privs_7 : List (MethodName × Nat) := [(⟨"LoopSpacesModel", "layNext", "(II)V"⟩, 59), (⟨"LoopSpacesModel", "cornerAt", "(II)I"⟩, 59), (⟨"LoopSpacesModel", "putIn", "(IIIIZ)V"⟩, 59), (⟨"LoopSpacesModel", "isListed", "(JJII)Z"⟩, 59), (⟨"LoopSpacesModel", "oddFaces", "(II)I"⟩, 59), (⟨"LoopSpacesModel", "lonely", "(I)I"⟩, 59), (⟨"LoopSpacesModel", "foldOne", "(II)V"⟩, 59), (⟨"LoopSpacesModel", "joinedCorner", "(I)I"⟩, 59)]
theorem lw_r7 : ∀ q ∈ lw_privs_7, lw_okq q := List.forall_mem_cons.mpr ⟨lw_p96, List.forall_mem_cons.mpr ⟨lw_p97, List.forall_mem_cons.mpr ⟨lw_p98, List.forall_mem_cons.mpr ⟨lw_p99, List.forall_mem_cons.mpr ⟨lw_p100, List.forall_mem_cons.mpr ⟨lw_p101, List.forall_mem_cons.mpr ⟨lw_p102, List.forall_mem_cons.mpr ⟨lw_p103, fun _ h => absurd h List.not_mem_nil⟩⟩⟩⟩⟩⟩⟩⟩
def lw_privs : List (MethodName × Nat) := lw_privs_1 ++ (lw_privs_2 ++ (lw_privs_3 ++ (lw_privs_4 ++ (lw_privs_5 ++ (lw_privs_6 ++ (lw_privs_7))))))
def lw_tbl : List Cond := k2_sels lw_privs ++ tables_1
theorem lw_privs_ok : ∀ q ∈ lw_privs, lw_okq q := by
  show ∀ q ∈ lw_privs_1 ++ (lw_privs_2 ++ (lw_privs_3 ++ (lw_privs_4 ++ (lw_privs_5 ++ (lw_privs_6 ++ (lw_privs_7)))))), lw_okq q
  exact List.forall_mem_append.mpr ⟨lw_r1, List.forall_mem_append.mpr ⟨lw_r2, List.forall_mem_append.mpr ⟨lw_r3, List.forall_mem_append.mpr ⟨lw_r4, List.forall_mem_append.mpr ⟨lw_r5, List.forall_mem_append.mpr ⟨lw_r6, lw_r7⟩⟩⟩⟩⟩⟩

def RX0 : String := "LoopSpaces$Drawer"
def TX0 : u_T := fun k => match k with
  | 0 => ("LoopSpaces$Drawer", "heads", "[J", true)
  | 1 => ("LoopSpaces$Drawer", "tails", "[J", true)
  | 2 => ("LoopSpaces$Drawer", "steps", "[I", true)
  | 3 => ("LoopSpaces$Drawer", "count", "I", false)
  | 4 => ("LoopSpaces$Drawer", "head", "J", false)
  | 5 => ("LoopSpaces$Drawer", "tail", "J", false)
  | 6 => ("LoopSpaces$Drawer", "soughtHead", "J", false)
  | 7 => ("LoopSpaces$Drawer", "soughtTail", "J", false)
  | 8 => ("LoopSpaces$Drawer", "isFound", "Z", false)
  | _ => ("LoopSpaces$Drawer", "isMet", "Z", false)
def tyX0 : Nat → FieldType := fun k => match k with
  | 0 => .array .long
  | 1 => .array .long
  | 2 => .array .int
  | 3 => .int
  | 4 => .long
  | 5 => .long
  | 6 => .long
  | 7 => .long
  | 8 => .boolean
  | _ => .boolean
abbrev wsX00 : List Cond := u_ws RX0 TX0 10
theorem nmX0 : ∀ a, a < 10 → ∀ b, b < 10 → a ≠ b → (TX0 a).2.1 ≠ (TX0 b).2.1 := by decide +kernel
theorem tyX0_ok : ∀ k, k < 10 → parseFieldDescriptor (TX0 k).2.2.1 = some (tyX0 k) := by decide +kernel
abbrev cX0_init : ByteArray := prog_2_method_1_code
def yX0_init : MethodName := ⟨RX0, "<init>", "()V"⟩
abbrev cX0_findApart : ByteArray := prog_2_method_2_code
def yX0_findApart : MethodName := ⟨RX0, "findApart", "(LLoopSpaces$Space;LLoopSpaces$Trail;LLoopSpaces$Trail;)I"⟩
abbrev cX0_seek : ByteArray := prog_2_method_3_code
def yX0_seek : MethodName := ⟨RX0, "seek", "(LLoopSpaces$Trail;)V"⟩
abbrev cX0_drawAll : ByteArray := prog_2_method_4_code
def yX0_drawAll : MethodName := ⟨RX0, "drawAll", "(LLoopSpaces$Space;LLoopSpaces$Trail;Z)V"⟩
abbrev cX0_draw : ByteArray := prog_2_method_5_code
def yX0_draw : MethodName := ⟨RX0, "draw", "(LLoopSpaces$Space;LLoopSpaces$Trail;IIIZ)V"⟩
abbrev cX0_pushAll : ByteArray := prog_2_method_6_code
def yX0_pushAll : MethodName := ⟨RX0, "pushAll", "(LLoopSpaces$Trail;II)V"⟩
abbrev cX0_push : ByteArray := prog_2_method_7_code
def yX0_push : MethodName := ⟨RX0, "push", "(I)V"⟩
abbrev cX0_meet : ByteArray := prog_2_method_8_code
def yX0_meet : MethodName := ⟨RX0, "meet", "(Z)V"⟩
abbrev cX0_pack : ByteArray := prog_2_method_9_code
def yX0_pack : MethodName := ⟨RX0, "pack", "()V"⟩
abbrev cX0_placeOf : ByteArray := prog_2_method_10_code
def yX0_placeOf : MethodName := ⟨RX0, "placeOf", "()I"⟩
def RX1 : String := "LoopSpaces$Layer"
def TX1 : u_T := fun k => match k with
  | 0 => ("LoopSpaces$Layer", "space", "LLoopSpaces$Space;", true)
  | 1 => ("LoopSpaces$Layer", "table", "[I", true)
  | 2 => ("LoopSpaces$Layer", "ways", "[I", true)
  | 3 => ("LoopSpaces$Layer", "cornerPlaces", "[I", true)
  | 4 => ("LoopSpaces$Layer", "edgePlaces", "[I", true)
  | 5 => ("LoopSpaces$Layer", "steps", "[I", true)
  | 6 => ("LoopSpaces$Layer", "over", "I", false)
  | 7 => ("LoopSpaces$Layer", "turns", "I", false)
  | _ => ("LoopSpaces$Layer", "shuffles", "LLoopSpaces$Shuffles;", false)
def tyX1 : Nat → FieldType := fun k => match k with
  | 0 => .object "LoopSpaces$Space"
  | 1 => .array .int
  | 2 => .array .int
  | 3 => .array .int
  | 4 => .array .int
  | 5 => .array .int
  | 6 => .int
  | 7 => .int
  | _ => .object "LoopSpaces$Shuffles"
abbrev wsX10 : List Cond := u_ws RX1 TX1 9
theorem nmX1 : ∀ a, a < 9 → ∀ b, b < 9 → a ≠ b → (TX1 a).2.1 ≠ (TX1 b).2.1 := by decide +kernel
theorem tyX1_ok : ∀ k, k < 9 → parseFieldDescriptor (TX1 k).2.2.1 = some (tyX1 k) := by decide +kernel
abbrev cX1_init : ByteArray := prog_3_method_1_code
def yX1_init : MethodName := ⟨RX1, "<init>", "()V"⟩
abbrev cX1_isLaid : ByteArray := prog_3_method_2_code
def yX1_isLaid : MethodName := ⟨RX1, "isLaid", "()Z"⟩
abbrev cX1_hasStorey : ByteArray := prog_3_method_3_code
def yX1_hasStorey : MethodName := ⟨RX1, "hasStorey", "(I)Z"⟩
abbrev cX1_knows : ByteArray := prog_3_method_4_code
def yX1_knows : MethodName := ⟨RX1, "knows", "(LLoopSpaces$Trail;)Z"⟩
abbrev cX1_moveByStep : ByteArray := prog_3_method_5_code
def yX1_moveByStep : MethodName := ⟨RX1, "moveByStep", "(II)I"⟩
abbrev cX1_lay : ByteArray := prog_3_method_6_code
def yX1_lay : MethodName := ⟨RX1, "lay", "(LLoopSpaces$Space;ILLoopSpaces$Tables;)V"⟩
abbrev cX1_placeCorners : ByteArray := prog_3_method_7_code
def yX1_placeCorners : MethodName := ⟨RX1, "placeCorners", "(LLoopSpaces$Space;)V"⟩
abbrev cX1_addEdges : ByteArray := prog_3_method_8_code
def yX1_addEdges : MethodName := ⟨RX1, "addEdges", "(LLoopSpaces$Space;)V"⟩
abbrev cX1_addPanes : ByteArray := prog_3_method_9_code
def yX1_addPanes : MethodName := ⟨RX1, "addPanes", "(LLoopSpaces$Space;)V"⟩
abbrev cX1_addPane : ByteArray := prog_3_method_10_code
def yX1_addPane : MethodName := ⟨RX1, "addPane", "(LLoopSpaces$Space;II)V"⟩
def RX2 : String := "LoopSpaces$Rows"
def TX2 : u_T := fun k => match k with
  | 0 => ("LoopSpaces$Rows", "cells", "[J", true)
  | 1 => ("LoopSpaces$Rows", "factors", "[J", true)
  | 2 => ("LoopSpaces$Rows", "basis", "[I", true)
  | 3 => ("LoopSpaces$Rows", "height", "I", false)
  | 4 => ("LoopSpaces$Rows", "width", "I", false)
  | 5 => ("LoopSpaces$Rows", "minor", "J", false)
  | _ => ("LoopSpaces$Rows", "modulus", "J", false)
def tyX2 : Nat → FieldType := fun k => match k with
  | 0 => .array .long
  | 1 => .array .long
  | 2 => .array .int
  | 3 => .int
  | 4 => .int
  | 5 => .long
  | _ => .long
abbrev wsX20 : List Cond := u_ws RX2 TX2 7
theorem nmX2 : ∀ a, a < 7 → ∀ b, b < 7 → a ≠ b → (TX2 a).2.1 ≠ (TX2 b).2.1 := by decide +kernel
theorem tyX2_ok : ∀ k, k < 7 → parseFieldDescriptor (TX2 k).2.2.1 = some (tyX2 k) := by decide +kernel
abbrev cX2_init : ByteArray := prog_4_method_1_code
def yX2_init : MethodName := ⟨RX2, "<init>", "()V"⟩
abbrev cX2_rankOfEdges : ByteArray := prog_4_method_2_code
def yX2_rankOfEdges : MethodName := ⟨RX2, "rankOfEdges", "(LLoopSpaces$Space;I)I"⟩
abbrev cX2_rankOfPanes : ByteArray := prog_4_method_3_code
def yX2_rankOfPanes : MethodName := ⟨RX2, "rankOfPanes", "(LLoopSpaces$Space;I)I"⟩
abbrev cX2_shape : ByteArray := prog_4_method_4_code
def yX2_shape : MethodName := ⟨RX2, "shape", "(II)V"⟩
abbrev cX2_fillPanes : ByteArray := prog_4_method_5_code
def yX2_fillPanes : MethodName := ⟨RX2, "fillPanes", "(LLoopSpaces$Space;)V"⟩
abbrev cX2_keepBelow : ByteArray := prog_4_method_6_code
def yX2_keepBelow : MethodName := ⟨RX2, "keepBelow", "(J)V"⟩
abbrev cX2_rankModulo : ByteArray := prog_4_method_7_code
def yX2_rankModulo : MethodName := ⟨RX2, "rankModulo", "(I)I"⟩
abbrev cX2_rowWith : ByteArray := prog_4_method_8_code
def yX2_rowWith : MethodName := ⟨RX2, "rowWith", "(II)I"⟩
abbrev cX2_swapRows : ByteArray := prog_4_method_9_code
def yX2_swapRows : MethodName := ⟨RX2, "swapRows", "(II)V"⟩
abbrev cX2_clearBelow : ByteArray := prog_4_method_10_code
def yX2_clearBelow : MethodName := ⟨RX2, "clearBelow", "(III)V"⟩
abbrev cX2_rankOfFractions : ByteArray := prog_4_method_11_code
def yX2_rankOfFractions : MethodName := ⟨RX2, "rankOfFractions", "()I"⟩
abbrev cX2_clearBelowWhole : ByteArray := prog_4_method_12_code
def yX2_clearBelowWhole : MethodName := ⟨RX2, "clearBelowWhole", "(II)V"⟩
abbrev cX2_findFactors : ByteArray := prog_4_method_13_code
def yX2_findFactors : MethodName := ⟨RX2, "findFactors", "(LLoopSpaces$Space;)I"⟩
abbrev cX2_nextFactor : ByteArray := prog_4_method_14_code
def yX2_nextFactor : MethodName := ⟨RX2, "nextFactor", "(I)J"⟩
abbrev cX2_bringLeast : ByteArray := prog_4_method_15_code
def yX2_bringLeast : MethodName := ⟨RX2, "bringLeast", "(I)Z"⟩
abbrev cX2_swapColumns : ByteArray := prog_4_method_16_code
def yX2_swapColumns : MethodName := ⟨RX2, "swapColumns", "(II)V"⟩
abbrev cX2_clearLines : ByteArray := prog_4_method_17_code
def yX2_clearLines : MethodName := ⟨RX2, "clearLines", "(I)Z"⟩
abbrev cX2_takeOut : ByteArray := prog_4_method_18_code
def yX2_takeOut : MethodName := ⟨RX2, "takeOut", "(IJI)V"⟩
abbrev cX2_rowNotDivided : ByteArray := prog_4_method_19_code
def yX2_rowNotDivided : MethodName := ⟨RX2, "rowNotDivided", "(IJ)I"⟩
abbrev cX2_addRow : ByteArray := prog_4_method_20_code
def yX2_addRow : MethodName := ⟨RX2, "addRow", "(II)V"⟩
abbrev cX2_divisorOf : ByteArray := prog_4_method_21_code
def yX2_divisorOf : MethodName := ⟨RX2, "divisorOf", "(JJ)J"⟩
abbrev cX2_isSumOfEdges : ByteArray := prog_4_method_22_code
def yX2_isSumOfEdges : MethodName := ⟨RX2, "isSumOfEdges", "(LLoopSpaces$Space;I)Z"⟩
abbrev cX2_clearByBasis : ByteArray := prog_4_method_23_code
def yX2_clearByBasis : MethodName := ⟨RX2, "clearByBasis", "(I)I"⟩
abbrev cX2_highestBit : ByteArray := prog_4_method_24_code
def yX2_highestBit : MethodName := ⟨RX2, "highestBit", "(I)I"⟩
def RX3 : String := "LoopSpaces$Sheet"
def TX3 : u_T := fun k => match k with
  | 0 => ("LoopSpaces$Sheet", "items", "[I", true)
  | 1 => ("LoopSpaces$Sheet", "lane", "I", false)
  | _ => ("LoopSpaces$Sheet", "size", "I", false)
def tyX3 : Nat → FieldType := fun k => match k with
  | 0 => .array .int
  | 1 => .int
  | _ => .int
abbrev wsX30 : List Cond := u_ws RX3 TX3 3
theorem nmX3 : ∀ a, a < 3 → ∀ b, b < 3 → a ≠ b → (TX3 a).2.1 ≠ (TX3 b).2.1 := by decide +kernel
theorem tyX3_ok : ∀ k, k < 3 → parseFieldDescriptor (TX3 k).2.2.1 = some (tyX3 k) := by decide +kernel
abbrev cX3_init : ByteArray := prog_5_method_1_code
def yX3_init : MethodName := ⟨RX3, "<init>", "()V"⟩
abbrev cX3_renew : ByteArray := prog_5_method_2_code
def yX3_renew : MethodName := ⟨RX3, "renew", "(II)V"⟩
abbrev cX3_put : ByteArray := prog_5_method_3_code
def yX3_put : MethodName := ⟨RX3, "put", "(II)V"⟩
def RX4 : String := "LoopSpaces$Shuffles"
def TX4 : u_T := fun k => match k with
  | 0 => ("LoopSpaces$Shuffles", "storeys", "I", true)
  | 1 => ("LoopSpaces$Shuffles", "order", "I", true)
  | 2 => ("LoopSpaces$Shuffles", "goes", "[I", true)
  | 3 => ("LoopSpaces$Shuffles", "followed", "[I", true)
  | _ => ("LoopSpaces$Shuffles", "backs", "[I", true)
def tyX4 : Nat → FieldType := fun k => match k with
  | 0 => .int
  | 1 => .int
  | 2 => .array .int
  | 3 => .array .int
  | _ => .array .int
abbrev wsX40 : List Cond := u_ws RX4 TX4 5
theorem nmX4 : ∀ a, a < 5 → ∀ b, b < 5 → a ≠ b → (TX4 a).2.1 ≠ (TX4 b).2.1 := by decide +kernel
theorem tyX4_ok : ∀ k, k < 5 → parseFieldDescriptor (TX4 k).2.2.1 = some (tyX4 k) := by decide +kernel
abbrev cX4_init : ByteArray := prog_6_method_1_code
def yX4_init : MethodName := ⟨RX4, "<init>", "(I)V"⟩
abbrev cX4_factorial : ByteArray := prog_6_method_2_code
def yX4_factorial : MethodName := ⟨RX4, "factorial", "(I)I"⟩
abbrev cX4_goal : ByteArray := prog_6_method_3_code
def yX4_goal : MethodName := ⟨RX4, "goal", "(III)I"⟩
abbrev cX4_isShuffle : ByteArray := prog_6_method_4_code
def yX4_isShuffle : MethodName := ⟨RX4, "isShuffle", "(II)Z"⟩
abbrev cX4_multiplyAll : ByteArray := prog_6_method_5_code
def yX4_multiplyAll : MethodName := ⟨RX4, "multiplyAll", "()V"⟩
abbrev cX4_numberOf : ByteArray := prog_6_method_6_code
def yX4_numberOf : MethodName := ⟨RX4, "numberOf", "(II)I"⟩
abbrev cX4_move : ByteArray := prog_6_method_7_code
def yX4_move : MethodName := ⟨RX4, "move", "(II)I"⟩
abbrev cX4_back : ByteArray := prog_6_method_8_code
def yX4_back : MethodName := ⟨RX4, "back", "(I)I"⟩
abbrev cX4_follow : ByteArray := prog_6_method_9_code
def yX4_follow : MethodName := ⟨RX4, "follow", "(II)I"⟩
abbrev cX4_renumber : ByteArray := prog_6_method_10_code
def yX4_renumber : MethodName := ⟨RX4, "renumber", "(II)I"⟩
def RX5 : String := "LoopSpaces$Space"
def TX5 : u_T := fun k => match k with
  | 0 => ("LoopSpaces$Space", "from", "[I", true)
  | 1 => ("LoopSpaces$Space", "to", "[I", true)
  | 2 => ("LoopSpaces$Space", "ways", "[I", true)
  | 3 => ("LoopSpaces$Space", "isReached", "[Z", true)
  | 4 => ("LoopSpaces$Space", "rims", "[I", true)
  | 5 => ("LoopSpaces$Space", "lengths", "[I", true)
  | 6 => ("LoopSpaces$Space", "corners", "I", false)
  | 7 => ("LoopSpaces$Space", "edges", "I", false)
  | 8 => ("LoopSpaces$Space", "panes", "I", false)
  | 9 => ("LoopSpaces$Space", "partCorners", "I", false)
  | _ => ("LoopSpaces$Space", "turns", "I", false)
def tyX5 : Nat → FieldType := fun k => match k with
  | 0 => .array .int
  | 1 => .array .int
  | 2 => .array .int
  | 3 => .array .boolean
  | 4 => .array .int
  | 5 => .array .int
  | 6 => .int
  | 7 => .int
  | 8 => .int
  | 9 => .int
  | _ => .int
abbrev wsX50 : List Cond := u_ws RX5 TX5 11
theorem nmX5 : ∀ a, a < 11 → ∀ b, b < 11 → a ≠ b → (TX5 a).2.1 ≠ (TX5 b).2.1 := by decide +kernel
theorem tyX5_ok : ∀ k, k < 11 → parseFieldDescriptor (TX5 k).2.2.1 = some (tyX5 k) := by decide +kernel
abbrev cX5_init : ByteArray := prog_7_method_1_code
def yX5_init : MethodName := ⟨RX5, "<init>", "(III)V"⟩
abbrev cX5_clear : ByteArray := prog_7_method_2_code
def yX5_clear : MethodName := ⟨RX5, "clear", "(I)V"⟩
abbrev cX5_hasCorner : ByteArray := prog_7_method_3_code
def yX5_hasCorner : MethodName := ⟨RX5, "hasCorner", "(I)Z"⟩
abbrev cX5_addEdge : ByteArray := prog_7_method_4_code
def yX5_addEdge : MethodName := ⟨RX5, "addEdge", "(II)V"⟩
abbrev cX5_addPane : ByteArray := prog_7_method_5_code
def yX5_addPane : MethodName := ⟨RX5, "addPane", "([II)V"⟩
abbrev cX5_rimStep : ByteArray := prog_7_method_6_code
def yX5_rimStep : MethodName := ⟨RX5, "rimStep", "(II)I"⟩
abbrev cX5_startOf : ByteArray := prog_7_method_7_code
def yX5_startOf : MethodName := ⟨RX5, "startOf", "(I)I"⟩
abbrev cX5_endOf : ByteArray := prog_7_method_8_code
def yX5_endOf : MethodName := ⟨RX5, "endOf", "(I)I"⟩
abbrev cX5_isPaneOfPart : ByteArray := prog_7_method_9_code
def yX5_isPaneOfPart : MethodName := ⟨RX5, "isPaneOfPart", "(I)Z"⟩
abbrev cX5_findPart : ByteArray := prog_7_method_10_code
def yX5_findPart : MethodName := ⟨RX5, "findPart", "()V"⟩
abbrev cX5_leastLeadingOut : ByteArray := prog_7_method_11_code
def yX5_leastLeadingOut : MethodName := ⟨RX5, "leastLeadingOut", "()I"⟩
abbrev cX5_numberTurns : ByteArray := prog_7_method_12_code
def yX5_numberTurns : MethodName := ⟨RX5, "numberTurns", "()V"⟩
abbrev cX5_isClass : ByteArray := prog_7_method_13_code
def yX5_isClass : MethodName := ⟨RX5, "isClass", "(I)Z"⟩
abbrev cX5_oddPanes : ByteArray := prog_7_method_14_code
def yX5_oddPanes : MethodName := ⟨RX5, "oddPanes", "(I)I"⟩
abbrev cX5_multiply : ByteArray := prog_7_method_15_code
def yX5_multiply : MethodName := ⟨RX5, "multiply", "(III)I"⟩
abbrev cX5_collapse : ByteArray := prog_7_method_16_code
def yX5_collapse : MethodName := ⟨RX5, "collapse", "()I"⟩
abbrev cX5_leastFreeEdge : ByteArray := prog_7_method_17_code
def yX5_leastFreeEdge : MethodName := ⟨RX5, "leastFreeEdge", "()I"⟩
abbrev cX5_stepsBy : ByteArray := prog_7_method_18_code
def yX5_stepsBy : MethodName := ⟨RX5, "stepsBy", "(II)I"⟩
abbrev cX5_paneBy : ByteArray := prog_7_method_19_code
def yX5_paneBy : MethodName := ⟨RX5, "paneBy", "(I)I"⟩
abbrev cX5_removePane : ByteArray := prog_7_method_20_code
def yX5_removePane : MethodName := ⟨RX5, "removePane", "(I)V"⟩
abbrev cX5_removeEdge : ByteArray := prog_7_method_21_code
def yX5_removeEdge : MethodName := ⟨RX5, "removeEdge", "(I)V"⟩
abbrev cX5_takeIn : ByteArray := prog_7_method_22_code
def yX5_takeIn : MethodName := ⟨RX5, "takeIn", "(LLoopSpaces$Space;)V"⟩
abbrev cX5_joined : ByteArray := prog_7_method_23_code
def yX5_joined : MethodName := ⟨RX5, "joined", "(II)I"⟩
def RX6 : String := "LoopSpaces$Tables"
def TX6 : u_T := fun k => match k with
  | 0 => ("LoopSpaces$Tables", "chosen", "[I", true)
  | 1 => ("LoopSpaces$Tables", "rims", "[I", true)
  | 2 => ("LoopSpaces$Tables", "lengths", "[I", true)
  | 3 => ("LoopSpaces$Tables", "lasts", "[I", true)
  | 4 => ("LoopSpaces$Tables", "wordTurns", "[I", true)
  | 5 => ("LoopSpaces$Tables", "panes", "I", false)
  | 6 => ("LoopSpaces$Tables", "level", "I", false)
  | 7 => ("LoopSpaces$Tables", "isBegun", "Z", false)
  | 8 => ("LoopSpaces$Tables", "turns", "I", false)
  | _ => ("LoopSpaces$Tables", "shuffles", "LLoopSpaces$Shuffles;", false)
def tyX6 : Nat → FieldType := fun k => match k with
  | 0 => .array .int
  | 1 => .array .int
  | 2 => .array .int
  | 3 => .array .int
  | 4 => .array .int
  | 5 => .int
  | 6 => .int
  | 7 => .boolean
  | 8 => .int
  | _ => .object "LoopSpaces$Shuffles"
abbrev wsX60 : List Cond := u_ws RX6 TX6 10
theorem nmX6 : ∀ a, a < 10 → ∀ b, b < 10 → a ≠ b → (TX6 a).2.1 ≠ (TX6 b).2.1 := by decide +kernel
theorem tyX6_ok : ∀ k, k < 10 → parseFieldDescriptor (TX6 k).2.2.1 = some (tyX6 k) := by decide +kernel
abbrev cX6_init : ByteArray := prog_8_method_1_code
def yX6_init : MethodName := ⟨RX6, "<init>", "()V"⟩
abbrev cX6_isMany : ByteArray := prog_8_method_2_code
def yX6_isMany : MethodName := ⟨RX6, "isMany", "(LLoopSpaces$Space;LLoopSpaces$Shuffles;)Z"⟩
abbrev cX6_begin : ByteArray := prog_8_method_3_code
def yX6_begin : MethodName := ⟨RX6, "begin", "(LLoopSpaces$Space;LLoopSpaces$Shuffles;)V"⟩
abbrev cX6_takeRim : ByteArray := prog_8_method_4_code
def yX6_takeRim : MethodName := ⟨RX6, "takeRim", "(LLoopSpaces$Space;I)V"⟩
abbrev cX6_findNext : ByteArray := prog_8_method_5_code
def yX6_findNext : MethodName := ⟨RX6, "findNext", "(Z)Z"⟩
abbrev cX6_findNextLayer : ByteArray := prog_8_method_6_code
def yX6_findNextLayer : MethodName := ⟨RX6, "findNextLayer", "()Z"⟩
abbrev cX6_findLayer : ByteArray := prog_8_method_7_code
def yX6_findLayer : MethodName := ⟨RX6, "findLayer", "(I)Z"⟩
abbrev cX6_doRimsHold : ByteArray := prog_8_method_8_code
def yX6_doRimsHold : MethodName := ⟨RX6, "doRimsHold", "()Z"⟩
abbrev cX6_moveAlong : ByteArray := prog_8_method_9_code
def yX6_moveAlong : MethodName := ⟨RX6, "moveAlong", "([III)I"⟩
abbrev cX6_isOne : ByteArray := prog_8_method_10_code
def yX6_isOne : MethodName := ⟨RX6, "isOne", "()Z"⟩
abbrev cX6_isFirstOfLike : ByteArray := prog_8_method_11_code
def yX6_isFirstOfLike : MethodName := ⟨RX6, "isFirstOfLike", "()Z"⟩
abbrev cX6_isMovedBySome : ByteArray := prog_8_method_12_code
def yX6_isMovedBySome : MethodName := ⟨RX6, "isMovedBySome", "(LLoopSpaces$Space;LLoopSpaces$Shuffles;LLoopSpaces$Trail;)Z"⟩
def RX7 : String := "LoopSpaces$Tape"
def TX7 : u_T := fun k => match k with
  | 0 => ("LoopSpaces$Tape", "signs", "[C", true)
  | 1 => ("LoopSpaces$Tape", "length", "I", false)
  | _ => ("LoopSpaces$Tape", "place", "I", false)
def tyX7 : Nat → FieldType := fun k => match k with
  | 0 => .array .char
  | 1 => .int
  | _ => .int
abbrev wsX70 : List Cond := u_ws RX7 TX7 3
theorem nmX7 : ∀ a, a < 3 → ∀ b, b < 3 → a ≠ b → (TX7 a).2.1 ≠ (TX7 b).2.1 := by decide +kernel
theorem tyX7_ok : ∀ k, k < 3 → parseFieldDescriptor (TX7 k).2.2.1 = some (tyX7 k) := by decide +kernel
abbrev cX7_init : ByteArray := prog_9_method_1_code
def yX7_init : MethodName := ⟨RX7, "<init>", "()V"⟩
abbrev cX7_put : ByteArray := prog_9_method_2_code
def yX7_put : MethodName := ⟨RX7, "put", "(I)V"⟩
abbrev cX7_rewind : ByteArray := prog_9_method_3_code
def yX7_rewind : MethodName := ⟨RX7, "rewind", "()V"⟩
abbrev cX7_wipe : ByteArray := prog_9_method_4_code
def yX7_wipe : MethodName := ⟨RX7, "wipe", "()V"⟩
abbrev cX7_look : ByteArray := prog_9_method_5_code
def yX7_look : MethodName := ⟨RX7, "look", "()I"⟩
abbrev cX7_pass : ByteArray := prog_9_method_6_code
def yX7_pass : MethodName := ⟨RX7, "pass", "(C)Z"⟩
abbrev cX7_isRead : ByteArray := prog_9_method_7_code
def yX7_isRead : MethodName := ⟨RX7, "isRead", "()Z"⟩
abbrev cX7_faultHere : ByteArray := prog_9_method_8_code
def yX7_faultHere : MethodName := ⟨RX7, "faultHere", "()I"⟩
abbrev cX7_readSpace : ByteArray := prog_9_method_9_code
def yX7_readSpace : MethodName := ⟨RX7, "readSpace", "(LLoopSpaces$Space;LLoopSpaces$Trail;)Z"⟩
abbrev cX7_readClause : ByteArray := prog_9_method_10_code
def yX7_readClause : MethodName := ⟨RX7, "readClause", "(LLoopSpaces$Space;LLoopSpaces$Trail;)Z"⟩
abbrev cX7_readEdge : ByteArray := prog_9_method_11_code
def yX7_readEdge : MethodName := ⟨RX7, "readEdge", "(LLoopSpaces$Space;)Z"⟩
abbrev cX7_readRim : ByteArray := prog_9_method_12_code
def yX7_readRim : MethodName := ⟨RX7, "readRim", "(LLoopSpaces$Space;LLoopSpaces$Trail;)Z"⟩
abbrev cX7_readSteps : ByteArray := prog_9_method_13_code
def yX7_readSteps : MethodName := ⟨RX7, "readSteps", "(LLoopSpaces$Space;LLoopSpaces$Trail;I)V"⟩
abbrev cX7_stepOfSign : ByteArray := prog_9_method_14_code
def yX7_stepOfSign : MethodName := ⟨RX7, "stepOfSign", "(I)I"⟩
abbrev cX7_readNumber : ByteArray := prog_9_method_15_code
def yX7_readNumber : MethodName := ⟨RX7, "readNumber", "(II)I"⟩
def RX8 : String := "LoopSpaces$Trail"
def TX8 : u_T := fun k => match k with
  | 0 => ("LoopSpaces$Trail", "steps", "[I", true)
  | 1 => ("LoopSpaces$Trail", "space", "I", false)
  | 2 => ("LoopSpaces$Trail", "count", "I", false)
  | 3 => ("LoopSpaces$Trail", "begin", "I", false)
  | _ => ("LoopSpaces$Trail", "end", "I", false)
def tyX8 : Nat → FieldType := fun k => match k with
  | 0 => .array .int
  | 1 => .int
  | 2 => .int
  | 3 => .int
  | _ => .int
abbrev wsX80 : List Cond := u_ws RX8 TX8 5
theorem nmX8 : ∀ a, a < 5 → ∀ b, b < 5 → a ≠ b → (TX8 a).2.1 ≠ (TX8 b).2.1 := by decide +kernel
theorem tyX8_ok : ∀ k, k < 5 → parseFieldDescriptor (TX8 k).2.2.1 = some (tyX8 k) := by decide +kernel
abbrev cX8_init : ByteArray := prog_10_method_1_code
def yX8_init : MethodName := ⟨RX8, "<init>", "()V"⟩
abbrev cX8_clear : ByteArray := prog_10_method_2_code
def yX8_clear : MethodName := ⟨RX8, "clear", "()V"⟩
abbrev cX8_goOn : ByteArray := prog_10_method_3_code
def yX8_goOn : MethodName := ⟨RX8, "goOn", "(LLoopSpaces$Space;I)Z"⟩
abbrev cX8_isRim : ByteArray := prog_10_method_4_code
def yX8_isRim : MethodName := ⟨RX8, "isRim", "()Z"⟩
abbrev cX8_takeReduced : ByteArray := prog_10_method_5_code
def yX8_takeReduced : MethodName := ⟨RX8, "takeReduced", "(LLoopSpaces$Trail;)V"⟩
def RX9 : String := "LoopSpaces"
def TX9 : u_T := fun k => match k with
  | 0 => ("LoopSpaces", "spaces", "[LLoopSpaces$Space;", true)
  | 1 => ("LoopSpaces", "layer", "LLoopSpaces$Layer;", true)
  | 2 => ("LoopSpaces", "slots", "[LLoopSpaces$Trail;", true)
  | 3 => ("LoopSpaces", "sheets", "[LLoopSpaces$Sheet;", true)
  | 4 => ("LoopSpaces", "shuffles", "[LLoopSpaces$Shuffles;", true)
  | 5 => ("LoopSpaces", "tape", "LLoopSpaces$Tape;", true)
  | 6 => ("LoopSpaces", "pen", "LLoopSpaces$Trail;", true)
  | 7 => ("LoopSpaces", "rows", "LLoopSpaces$Rows;", true)
  | 8 => ("LoopSpaces", "search", "LLoopSpaces$Tables;", true)
  | 9 => ("LoopSpaces", "drawer", "LLoopSpaces$Drawer;", true)
  | _ => ("LoopSpaces", "draft", "LLoopSpaces$Space;", false)
def tyX9 : Nat → FieldType := fun k => match k with
  | 0 => .array (.object "LoopSpaces$Space")
  | 1 => .object "LoopSpaces$Layer"
  | 2 => .array (.object "LoopSpaces$Trail")
  | 3 => .array (.object "LoopSpaces$Sheet")
  | 4 => .array (.object "LoopSpaces$Shuffles")
  | 5 => .object "LoopSpaces$Tape"
  | 6 => .object "LoopSpaces$Trail"
  | 7 => .object "LoopSpaces$Rows"
  | 8 => .object "LoopSpaces$Tables"
  | 9 => .object "LoopSpaces$Drawer"
  | _ => .object "LoopSpaces$Space"
abbrev wsX90 : List Cond := u_ws RX9 TX9 11
theorem nmX9 : ∀ a, a < 11 → ∀ b, b < 11 → a ≠ b → (TX9 a).2.1 ≠ (TX9 b).2.1 := by decide +kernel
theorem tyX9_ok : ∀ k, k < 11 → parseFieldDescriptor (TX9 k).2.2.1 = some (tyX9 k) := by decide +kernel
abbrev cX9_init : ByteArray := prog_1_method_1_code
def yX9_init : MethodName := ⟨RX9, "<init>", "()V"⟩
abbrev cX9_corners : ByteArray := prog_1_method_2_code
def yX9_corners : MethodName := ⟨RX9, "corners", "(II)I"⟩
abbrev cX9_edge : ByteArray := prog_1_method_3_code
def yX9_edge : MethodName := ⟨RX9, "edge", "(III)I"⟩
abbrev cX9_type : ByteArray := prog_1_method_4_code
def yX9_type : MethodName := ⟨RX9, "type", "(JI)I"⟩
abbrev cX9_face : ByteArray := prog_1_method_5_code
def yX9_face : MethodName := ⟨RX9, "face", "(I)I"⟩
abbrev cX9_text : ByteArray := prog_1_method_6_code
def yX9_text : MethodName := ⟨RX9, "text", "(I)I"⟩
abbrev cX9_count : ByteArray := prog_1_method_7_code
def yX9_count : MethodName := ⟨RX9, "count", "(II)I"⟩
abbrev cX9_told : ByteArray := prog_1_method_8_code
def yX9_told : MethodName := ⟨RX9, "told", "(III)I"⟩
abbrev cX9_rim : ByteArray := prog_1_method_9_code
def yX9_rim : MethodName := ⟨RX9, "rim", "(III)I"⟩
abbrev cX9_holes : ByteArray := prog_1_method_10_code
def yX9_holes : MethodName := ⟨RX9, "holes", "(III)I"⟩
abbrev cX9_bend : ByteArray := prog_1_method_11_code
def yX9_bend : MethodName := ⟨RX9, "bend", "(II)J"⟩
abbrev cX9_tables : ByteArray := prog_1_method_12_code
def yX9_tables : MethodName := ⟨RX9, "tables", "(II)I"⟩
abbrev cX9_layers : ByteArray := prog_1_method_13_code
def yX9_layers : MethodName := ⟨RX9, "layers", "(II)I"⟩
abbrev cX9_layer : ByteArray := prog_1_method_14_code
def yX9_layer : MethodName := ⟨RX9, "layer", "(III)I"⟩
abbrev cX9_storeys : ByteArray := prog_1_method_15_code
def yX9_storeys : MethodName := ⟨RX9, "storeys", "(I)I"⟩
abbrev cX9_moves : ByteArray := prog_1_method_16_code
def yX9_moves : MethodName := ⟨RX9, "moves", "(II)I"⟩
abbrev cX9_lift : ByteArray := prog_1_method_17_code
def yX9_lift : MethodName := ⟨RX9, "lift", "(II)I"⟩
abbrev cX9_moved : ByteArray := prog_1_method_18_code
def yX9_moved : MethodName := ⟨RX9, "moved", "(I)I"⟩
abbrev cX9_word : ByteArray := prog_1_method_19_code
def yX9_word : MethodName := ⟨RX9, "word", "(II)I"⟩
abbrev cX9_walk : ByteArray := prog_1_method_20_code
def yX9_walk : MethodName := ⟨RX9, "walk", "(IIIIII)I"⟩
abbrev cX9_about : ByteArray := prog_1_method_21_code
def yX9_about : MethodName := ⟨RX9, "about", "(II)I"⟩
abbrev cX9_step : ByteArray := prog_1_method_22_code
def yX9_step : MethodName := ⟨RX9, "step", "(II)I"⟩
abbrev cX9_drawn : ByteArray := prog_1_method_23_code
def yX9_drawn : MethodName := ⟨RX9, "drawn", "(II)I"⟩
abbrev cX9_product : ByteArray := prog_1_method_24_code
def yX9_product : MethodName := ⟨RX9, "product", "(III)I"⟩
abbrev cX9_nought : ByteArray := prog_1_method_25_code
def yX9_nought : MethodName := ⟨RX9, "nought", "(II)I"⟩
abbrev cX9_fold : ByteArray := prog_1_method_26_code
def yX9_fold : MethodName := ⟨RX9, "fold", "(I)I"⟩
abbrev cX9_join : ByteArray := prog_1_method_27_code
def yX9_join : MethodName := ⟨RX9, "join", "()I"⟩
abbrev cX9_sheet : ByteArray := prog_1_method_28_code
def yX9_sheet : MethodName := ⟨RX9, "sheet", "(III)I"⟩
abbrev cX9_drop : ByteArray := prog_1_method_29_code
def yX9_drop : MethodName := ⟨RX9, "drop", "(I)I"⟩
abbrev cX9_item : ByteArray := prog_1_method_30_code
def yX9_item : MethodName := ⟨RX9, "item", "(IIII)I"⟩
abbrev cX9_isOwn : ByteArray := prog_1_method_31_code
def yX9_isOwn : MethodName := ⟨RX9, "isOwn", "(I)Z"⟩
abbrev cX9_isSlot : ByteArray := prog_1_method_32_code
def yX9_isSlot : MethodName := ⟨RX9, "isSlot", "(I)Z"⟩
abbrev cX9_isSheet : ByteArray := prog_1_method_33_code
def yX9_isSheet : MethodName := ⟨RX9, "isSheet", "(I)Z"⟩
abbrev cX9_isLane : ByteArray := prog_1_method_34_code
def yX9_isLane : MethodName := ⟨RX9, "isLane", "(I)Z"⟩
abbrev cX9_isStoreys : ByteArray := prog_1_method_35_code
def yX9_isStoreys : MethodName := ⟨RX9, "isStoreys", "(I)Z"⟩
abbrev cX9_isModulus : ByteArray := prog_1_method_36_code
def yX9_isModulus : MethodName := ⟨RX9, "isModulus", "(I)Z"⟩
abbrev cX9_areBits : ByteArray := prog_1_method_37_code
def yX9_areBits : MethodName := ⟨RX9, "areBits", "(II)Z"⟩
abbrev cX9_byteOf : ByteArray := prog_1_method_38_code
def yX9_byteOf : MethodName := ⟨RX9, "byteOf", "(JI)I"⟩
abbrev cX9_isPrintable : ByteArray := prog_1_method_39_code
def yX9_isPrintable : MethodName := ⟨RX9, "isPrintable", "(JI)Z"⟩
abbrev cX9_toldStep : ByteArray := prog_1_method_40_code
def yX9_toldStep : MethodName := ⟨RX9, "toldStep", "(I)I"⟩
abbrev cX9_stepOfItem : ByteArray := prog_1_method_41_code
def yX9_stepOfItem : MethodName := ⟨RX9, "stepOfItem", "(II)I"⟩
abbrev cX9_seenSpace : ByteArray := prog_1_method_42_code
def yX9_seenSpace : MethodName := ⟨RX9, "seenSpace", "(I)LLoopSpaces$Space;"⟩
abbrev cX9_refuseRow : ByteArray := prog_1_method_43_code
def yX9_refuseRow : MethodName := ⟨RX9, "refuseRow", "(II)I"⟩
abbrev cX9_keepReduced : ByteArray := prog_1_method_44_code
def yX9_keepReduced : MethodName := ⟨RX9, "keepReduced", "(II)I"⟩
abbrev cX9_emptySlots : ByteArray := prog_1_method_45_code
def yX9_emptySlots : MethodName := ⟨RX9, "emptySlots", "(I)V"⟩
def RX10 : String := "LoopSpacesModel"
def TX10 : u_T := fun k => match k with
  | 0 => ("LoopSpacesModel", "cornerMany", "[I", true)
  | 1 => ("LoopSpacesModel", "edgeMany", "[I", true)
  | 2 => ("LoopSpacesModel", "faceMany", "[I", true)
  | 3 => ("LoopSpacesModel", "edgeFrom", "[I", true)
  | 4 => ("LoopSpacesModel", "edgeTo", "[I", true)
  | 5 => ("LoopSpacesModel", "rimSize", "[I", true)
  | 6 => ("LoopSpacesModel", "rims", "[I", true)
  | 7 => ("LoopSpacesModel", "isLayer", "Z", false)
  | 8 => ("LoopSpacesModel", "tape", "[I", true)
  | 9 => ("LoopSpacesModel", "tapeMany", "I", false)
  | 10 => ("LoopSpacesModel", "place", "I", false)
  | 11 => ("LoopSpacesModel", "fault", "I", false)
  | 12 => ("LoopSpacesModel", "number", "I", false)
  | 13 => ("LoopSpacesModel", "readMany", "I", false)
  | 14 => ("LoopSpacesModel", "read", "[I", true)
  | 15 => ("LoopSpacesModel", "keptEdges", "[I", true)
  | 16 => ("LoopSpacesModel", "keptRims", "[I", true)
  | 17 => ("LoopSpacesModel", "keptSizes", "[I", true)
  | 18 => ("LoopSpacesModel", "isInPart", "[Z", true)
  | 19 => ("LoopSpacesModel", "isTree", "[Z", true)
  | 20 => ("LoopSpacesModel", "turnMany", "I", false)
  | 21 => ("LoopSpacesModel", "turnOf", "[I", true)
  | 22 => ("LoopSpacesModel", "rows", "[I", true)
  | 23 => ("LoopSpacesModel", "common", "[J", true)
  | 24 => ("LoopSpacesModel", "worths", "[J", true)
  | 25 => ("LoopSpacesModel", "bits", "[I", true)
  | 26 => ("LoopSpacesModel", "table", "[I", true)
  | 27 => ("LoopSpacesModel", "otherWay", "[I", true)
  | 28 => ("LoopSpacesModel", "storeys", "I", false)
  | 29 => ("LoopSpacesModel", "turns", "I", false)
  | 30 => ("LoopSpacesModel", "orderMany", "I", false)
  | 31 => ("LoopSpacesModel", "orders", "[I", true)
  | 32 => ("LoopSpacesModel", "order", "[I", true)
  | 33 => ("LoopSpacesModel", "sought", "I", false)
  | 34 => ("LoopSpacesModel", "soughtAt", "I", false)
  | 35 => ("LoopSpacesModel", "foundMany", "I", false)
  | 36 => ("LoopSpacesModel", "soughtSlot", "I", false)
  | 37 => ("LoopSpacesModel", "layerOver", "I", false)
  | 38 => ("LoopSpacesModel", "layerStoreys", "I", false)
  | 39 => ("LoopSpacesModel", "layerTurns", "I", false)
  | 40 => ("LoopSpacesModel", "layerTable", "[I", true)
  | 41 => ("LoopSpacesModel", "layerOther", "[I", true)
  | 42 => ("LoopSpacesModel", "layerTurnOf", "[I", true)
  | 43 => ("LoopSpacesModel", "layerHas", "[Z", true)
  | 44 => ("LoopSpacesModel", "newCorner", "[I", true)
  | 45 => ("LoopSpacesModel", "newEdge", "[I", true)
  | 46 => ("LoopSpacesModel", "slotSpace", "[I", true)
  | 47 => ("LoopSpacesModel", "slotSize", "[I", true)
  | 48 => ("LoopSpacesModel", "slotFrom", "[I", true)
  | 49 => ("LoopSpacesModel", "slotTo", "[I", true)
  | 50 => ("LoopSpacesModel", "slots", "[I", true)
  | 51 => ("LoopSpacesModel", "madeMany", "I", false)
  | 52 => ("LoopSpacesModel", "made", "[I", true)
  | 53 => ("LoopSpacesModel", "nextMany", "I", false)
  | 54 => ("LoopSpacesModel", "nextOne", "[J", true)
  | 55 => ("LoopSpacesModel", "nextTwo", "[J", true)
  | 56 => ("LoopSpacesModel", "laneOf", "[I", true)
  | 57 => ("LoopSpacesModel", "sheetSize", "[I", true)
  | _ => ("LoopSpacesModel", "items", "[I", true)
def tyX10 : Nat → FieldType := fun k => match k with
  | 0 => .array .int
  | 1 => .array .int
  | 2 => .array .int
  | 3 => .array .int
  | 4 => .array .int
  | 5 => .array .int
  | 6 => .array .int
  | 7 => .boolean
  | 8 => .array .int
  | 9 => .int
  | 10 => .int
  | 11 => .int
  | 12 => .int
  | 13 => .int
  | 14 => .array .int
  | 15 => .array .int
  | 16 => .array .int
  | 17 => .array .int
  | 18 => .array .boolean
  | 19 => .array .boolean
  | 20 => .int
  | 21 => .array .int
  | 22 => .array .int
  | 23 => .array .long
  | 24 => .array .long
  | 25 => .array .int
  | 26 => .array .int
  | 27 => .array .int
  | 28 => .int
  | 29 => .int
  | 30 => .int
  | 31 => .array .int
  | 32 => .array .int
  | 33 => .int
  | 34 => .int
  | 35 => .int
  | 36 => .int
  | 37 => .int
  | 38 => .int
  | 39 => .int
  | 40 => .array .int
  | 41 => .array .int
  | 42 => .array .int
  | 43 => .array .boolean
  | 44 => .array .int
  | 45 => .array .int
  | 46 => .array .int
  | 47 => .array .int
  | 48 => .array .int
  | 49 => .array .int
  | 50 => .array .int
  | 51 => .int
  | 52 => .array .int
  | 53 => .int
  | 54 => .array .long
  | 55 => .array .long
  | 56 => .array .int
  | 57 => .array .int
  | _ => .array .int
abbrev wsX100 : List Cond := u_ws RX10 TX10 59
theorem nmX10 : ∀ a, a < 59 → ∀ b, b < 59 → a ≠ b → (TX10 a).2.1 ≠ (TX10 b).2.1 := by decide +kernel
theorem tyX10_ok : ∀ k, k < 59 → parseFieldDescriptor (TX10 k).2.2.1 = some (tyX10 k) := by decide +kernel
abbrev cX10_init : ByteArray := prog_12_method_1_code
def yX10_init : MethodName := ⟨RX10, "<init>", "()V"⟩
abbrev cX10_in : ByteArray := prog_12_method_2_code
def yX10_in : MethodName := ⟨RX10, "in", "(III)Z"⟩
abbrev cX10_isSpace : ByteArray := prog_12_method_3_code
def yX10_isSpace : MethodName := ⟨RX10, "isSpace", "(I)Z"⟩
abbrev cX10_isAny : ByteArray := prog_12_method_4_code
def yX10_isAny : MethodName := ⟨RX10, "isAny", "(I)Z"⟩
abbrev cX10_fromOf : ByteArray := prog_12_method_5_code
def yX10_fromOf : MethodName := ⟨RX10, "fromOf", "(II)I"⟩
abbrev cX10_toOf : ByteArray := prog_12_method_6_code
def yX10_toOf : MethodName := ⟨RX10, "toOf", "(II)I"⟩
abbrev cX10_rimAt : ByteArray := prog_12_method_7_code
def yX10_rimAt : MethodName := ⟨RX10, "rimAt", "(III)I"⟩
abbrev cX10_emptySlots : ByteArray := prog_12_method_8_code
def yX10_emptySlots : MethodName := ⟨RX10, "emptySlots", "(I)V"⟩
abbrev cX10_clear : ByteArray := prog_12_method_9_code
def yX10_clear : MethodName := ⟨RX10, "clear", "(II)V"⟩
abbrev cX10_corners : ByteArray := prog_12_method_10_code
def yX10_corners : MethodName := ⟨RX10, "corners", "(II)I"⟩
abbrev cX10_addEdge : ByteArray := prog_12_method_11_code
def yX10_addEdge : MethodName := ⟨RX10, "addEdge", "(III)I"⟩
abbrev cX10_edge : ByteArray := prog_12_method_12_code
def yX10_edge : MethodName := ⟨RX10, "edge", "(III)I"⟩
abbrev cX10_type : ByteArray := prog_12_method_13_code
def yX10_type : MethodName := ⟨RX10, "type", "(JI)I"⟩
abbrev cX10_pass : ByteArray := prog_12_method_14_code
def yX10_pass : MethodName := ⟨RX10, "pass", "()V"⟩
abbrev cX10_now : ByteArray := prog_12_method_15_code
def yX10_now : MethodName := ⟨RX10, "now", "()I"⟩
abbrev cX10_fails : ByteArray := prog_12_method_16_code
def yX10_fails : MethodName := ⟨RX10, "fails", "(I)Z"⟩
abbrev cX10_readNumber : ByteArray := prog_12_method_17_code
def yX10_readNumber : MethodName := ⟨RX10, "readNumber", "(II)Z"⟩
abbrev cX10_readWord : ByteArray := prog_12_method_18_code
def yX10_readWord : MethodName := ⟨RX10, "readWord", "(II)Z"⟩
abbrev cX10_readRim : ByteArray := prog_12_method_19_code
def yX10_readRim : MethodName := ⟨RX10, "readRim", "(I)Z"⟩
abbrev cX10_addFace : ByteArray := prog_12_method_20_code
def yX10_addFace : MethodName := ⟨RX10, "addFace", "(I)I"⟩
abbrev cX10_face : ByteArray := prog_12_method_21_code
def yX10_face : MethodName := ⟨RX10, "face", "(I)I"⟩
abbrev cX10_readClause : ByteArray := prog_12_method_22_code
def yX10_readClause : MethodName := ⟨RX10, "readClause", "(I)Z"⟩
abbrev cX10_readSpace : ByteArray := prog_12_method_23_code
def yX10_readSpace : MethodName := ⟨RX10, "readSpace", "(I)Z"⟩
abbrev cX10_keep : ByteArray := prog_12_method_24_code
def yX10_keep : MethodName := ⟨RX10, "keep", "(I)V"⟩
abbrev cX10_putBack : ByteArray := prog_12_method_25_code
def yX10_putBack : MethodName := ⟨RX10, "putBack", "(I)V"⟩
abbrev cX10_text : ByteArray := prog_12_method_26_code
def yX10_text : MethodName := ⟨RX10, "text", "(I)I"⟩
abbrev cX10_layTree : ByteArray := prog_12_method_27_code
def yX10_layTree : MethodName := ⟨RX10, "layTree", "(I)V"⟩
abbrev cX10_isFaceInPart : ByteArray := prog_12_method_28_code
def yX10_isFaceInPart : MethodName := ⟨RX10, "isFaceInPart", "(II)Z"⟩
abbrev cX10_count : ByteArray := prog_12_method_29_code
def yX10_count : MethodName := ⟨RX10, "count", "(II)I"⟩
abbrev cX10_told : ByteArray := prog_12_method_30_code
def yX10_told : MethodName := ⟨RX10, "told", "(III)I"⟩
abbrev cX10_tellsStep : ByteArray := prog_12_method_31_code
def yX10_tellsStep : MethodName := ⟨RX10, "tellsStep", "(I)I"⟩
abbrev cX10_rim : ByteArray := prog_12_method_32_code
def yX10_rim : MethodName := ⟨RX10, "rim", "(III)I"⟩
abbrev cX10_rankOf : ByteArray := prog_12_method_33_code
def yX10_rankOf : MethodName := ⟨RX10, "rankOf", "(III)I"⟩
abbrev cX10_goes : ByteArray := prog_12_method_34_code
def yX10_goes : MethodName := ⟨RX10, "goes", "(III)I"⟩
abbrev cX10_faceRank : ByteArray := prog_12_method_35_code
def yX10_faceRank : MethodName := ⟨RX10, "faceRank", "(II)I"⟩
abbrev cX10_edgeRank : ByteArray := prog_12_method_36_code
def yX10_edgeRank : MethodName := ⟨RX10, "edgeRank", "(I)I"⟩
abbrev cX10_gcd : ByteArray := prog_12_method_37_code
def yX10_gcd : MethodName := ⟨RX10, "gcd", "(JJ)J"⟩
abbrev cX10_goRows : ByteArray := prog_12_method_38_code
def yX10_goRows : MethodName := ⟨RX10, "goRows", "(III)V"⟩
abbrev cX10_worthOf : ByteArray := prog_12_method_39_code
def yX10_worthOf : MethodName := ⟨RX10, "worthOf", "(IIII)J"⟩
abbrev cX10_layCommon : ByteArray := prog_12_method_40_code
def yX10_layCommon : MethodName := ⟨RX10, "layCommon", "(I)V"⟩
abbrev cX10_wholeRank : ByteArray := prog_12_method_41_code
def yX10_wholeRank : MethodName := ⟨RX10, "wholeRank", "()I"⟩
abbrev cX10_isPrime : ByteArray := prog_12_method_42_code
def yX10_isPrime : MethodName := ⟨RX10, "isPrime", "(I)Z"⟩
abbrev cX10_holes : ByteArray := prog_12_method_43_code
def yX10_holes : MethodName := ⟨RX10, "holes", "(III)I"⟩
abbrev cX10_bend : ByteArray := prog_12_method_44_code
def yX10_bend : MethodName := ⟨RX10, "bend", "(II)J"⟩
abbrev cX10_goOrders : ByteArray := prog_12_method_45_code
def yX10_goOrders : MethodName := ⟨RX10, "goOrders", "(II)V"⟩
abbrev cX10_isMany : ByteArray := prog_12_method_46_code
def yX10_isMany : MethodName := ⟨RX10, "isMany", "(II)Z"⟩
abbrev cX10_putTurn : ByteArray := prog_12_method_47_code
def yX10_putTurn : MethodName := ⟨RX10, "putTurn", "(II)V"⟩
abbrev cX10_stepMoves : ByteArray := prog_12_method_48_code
def yX10_stepMoves : MethodName := ⟨RX10, "stepMoves", "(II)I"⟩
abbrev cX10_holds : ByteArray := prog_12_method_49_code
def yX10_holds : MethodName := ⟨RX10, "holds", "(I)Z"⟩
abbrev cX10_isOne : ByteArray := prog_12_method_50_code
def yX10_isOne : MethodName := ⟨RX10, "isOne", "()Z"⟩
abbrev cX10_isFirst : ByteArray := prog_12_method_51_code
def yX10_isFirst : MethodName := ⟨RX10, "isFirst", "()Z"⟩
abbrev cX10_goTables : ByteArray := prog_12_method_52_code
def yX10_goTables : MethodName := ⟨RX10, "goTables", "(II)Z"⟩
abbrev cX10_movesSome : ByteArray := prog_12_method_53_code
def yX10_movesSome : MethodName := ⟨RX10, "movesSome", "(I)Z"⟩
abbrev cX10_seek : ByteArray := prog_12_method_54_code
def yX10_seek : MethodName := ⟨RX10, "seek", "(III)Z"⟩
abbrev cX10_areStoreys : ByteArray := prog_12_method_55_code
def yX10_areStoreys : MethodName := ⟨RX10, "areStoreys", "(I)Z"⟩
abbrev cX10_tables : ByteArray := prog_12_method_56_code
def yX10_tables : MethodName := ⟨RX10, "tables", "(II)I"⟩
abbrev cX10_layers : ByteArray := prog_12_method_57_code
def yX10_layers : MethodName := ⟨RX10, "layers", "(II)I"⟩
abbrev cX10_lifted : ByteArray := prog_12_method_58_code
def yX10_lifted : MethodName := ⟨RX10, "lifted", "(II)I"⟩
abbrev cX10_layLayer : ByteArray := prog_12_method_59_code
def yX10_layLayer : MethodName := ⟨RX10, "layLayer", "(I)V"⟩
abbrev cX10_layer : ByteArray := prog_12_method_60_code
def yX10_layer : MethodName := ⟨RX10, "layer", "(III)I"⟩
abbrev cX10_storeys : ByteArray := prog_12_method_61_code
def yX10_storeys : MethodName := ⟨RX10, "storeys", "(I)I"⟩
abbrev cX10_moves : ByteArray := prog_12_method_62_code
def yX10_moves : MethodName := ⟨RX10, "moves", "(II)I"⟩
abbrev cX10_lift : ByteArray := prog_12_method_63_code
def yX10_lift : MethodName := ⟨RX10, "lift", "(II)I"⟩
abbrev cX10_moved : ByteArray := prog_12_method_64_code
def yX10_moved : MethodName := ⟨RX10, "moved", "(I)I"⟩
abbrev cX10_isSlot : ByteArray := prog_12_method_65_code
def yX10_isSlot : MethodName := ⟨RX10, "isSlot", "(I)Z"⟩
abbrev cX10_put : ByteArray := prog_12_method_66_code
def yX10_put : MethodName := ⟨RX10, "put", "(I)V"⟩
abbrev cX10_keepWord : ByteArray := prog_12_method_67_code
def yX10_keepWord : MethodName := ⟨RX10, "keepWord", "(II)I"⟩
abbrev cX10_word : ByteArray := prog_12_method_68_code
def yX10_word : MethodName := ⟨RX10, "word", "(II)I"⟩
abbrev cX10_walk : ByteArray := prog_12_method_69_code
def yX10_walk : MethodName := ⟨RX10, "walk", "(IIIIII)I"⟩
abbrev cX10_about : ByteArray := prog_12_method_70_code
def yX10_about : MethodName := ⟨RX10, "about", "(II)I"⟩
abbrev cX10_step : ByteArray := prog_12_method_71_code
def yX10_step : MethodName := ⟨RX10, "step", "(II)I"⟩
abbrev cX10_list : ByteArray := prog_12_method_72_code
def yX10_list : MethodName := ⟨RX10, "list", "(I)V"⟩
abbrev cX10_putIn : ByteArray := prog_12_method_73_code
def yX10_putIn : MethodName := ⟨RX10, "putIn", "(IIIIZ)V"⟩
abbrev cX10_cornerAt : ByteArray := prog_12_method_74_code
def yX10_cornerAt : MethodName := ⟨RX10, "cornerAt", "(II)I"⟩
abbrev cX10_layNext : ByteArray := prog_12_method_75_code
def yX10_layNext : MethodName := ⟨RX10, "layNext", "(II)V"⟩
abbrev cX10_isListed : ByteArray := prog_12_method_76_code
def yX10_isListed : MethodName := ⟨RX10, "isListed", "(JJII)Z"⟩
abbrev cX10_makeSlot : ByteArray := prog_12_method_77_code
def yX10_makeSlot : MethodName := ⟨RX10, "makeSlot", "(I)V"⟩
abbrev cX10_drawn : ByteArray := prog_12_method_78_code
def yX10_drawn : MethodName := ⟨RX10, "drawn", "(II)I"⟩
abbrev cX10_areBits : ByteArray := prog_12_method_79_code
def yX10_areBits : MethodName := ⟨RX10, "areBits", "(II)Z"⟩
abbrev cX10_oddFaces : ByteArray := prog_12_method_80_code
def yX10_oddFaces : MethodName := ⟨RX10, "oddFaces", "(II)I"⟩
abbrev cX10_edgeOf : ByteArray := prog_12_method_81_code
def yX10_edgeOf : MethodName := ⟨RX10, "edgeOf", "(I)I"⟩
abbrev cX10_product : ByteArray := prog_12_method_82_code
def yX10_product : MethodName := ⟨RX10, "product", "(III)I"⟩
abbrev cX10_nought : ByteArray := prog_12_method_83_code
def yX10_nought : MethodName := ⟨RX10, "nought", "(II)I"⟩
abbrev cX10_lonely : ByteArray := prog_12_method_84_code
def yX10_lonely : MethodName := ⟨RX10, "lonely", "(I)I"⟩
abbrev cX10_foldOne : ByteArray := prog_12_method_85_code
def yX10_foldOne : MethodName := ⟨RX10, "foldOne", "(II)V"⟩
abbrev cX10_fold : ByteArray := prog_12_method_86_code
def yX10_fold : MethodName := ⟨RX10, "fold", "(I)I"⟩
abbrev cX10_joinedCorner : ByteArray := prog_12_method_87_code
def yX10_joinedCorner : MethodName := ⟨RX10, "joinedCorner", "(I)I"⟩
abbrev cX10_join : ByteArray := prog_12_method_88_code
def yX10_join : MethodName := ⟨RX10, "join", "()I"⟩
abbrev cX10_isSheet : ByteArray := prog_12_method_89_code
def yX10_isSheet : MethodName := ⟨RX10, "isSheet", "(I)Z"⟩
abbrev cX10_sheet : ByteArray := prog_12_method_90_code
def yX10_sheet : MethodName := ⟨RX10, "sheet", "(III)I"⟩
abbrev cX10_drop : ByteArray := prog_12_method_91_code
def yX10_drop : MethodName := ⟨RX10, "drop", "(I)I"⟩
abbrev cX10_item : ByteArray := prog_12_method_92_code
def yX10_item : MethodName := ⟨RX10, "item", "(IIII)I"⟩
def RJ9 : String := "java/lang/Math"
def TJ9 : u_T := fun k => match k with
  | _ => ("", "", "", false)
def tyJ9 : Nat → FieldType := fun k => match k with
  | _ => .int
abbrev wsJ90 : List Cond := u_ws RJ9 TJ9 0
theorem nmJ9 : ∀ a, a < 0 → ∀ b, b < 0 → a ≠ b → (TJ9 a).2.1 ≠ (TJ9 b).2.1 := by decide +kernel
theorem tyJ9_ok : ∀ k, k < 0 → parseFieldDescriptor (TJ9 k).2.2.1 = some (tyJ9 k) := by decide +kernel
abbrev cJ9_floorMod_f86c9 : ByteArray := prog_13_method_52_code
def yJ9_floorMod_f86c9 : MethodName := ⟨RJ9, "floorMod", "(JJ)J"⟩
abbrev cJ9_abs_067f4 : ByteArray := prog_13_method_61_code
def yJ9_abs_067f4 : MethodName := ⟨RJ9, "abs", "(J)J"⟩
abbrev cJ9_max_7cf53 : ByteArray := prog_13_method_65_code
def yJ9_max_7cf53 : MethodName := ⟨RJ9, "max", "(II)I"⟩
abbrev cJ9_max_f86c9 : ByteArray := prog_13_method_66_code
def yJ9_max_f86c9 : MethodName := ⟨RJ9, "max", "(JJ)J"⟩
abbrev cJ9_min_7cf53 : ByteArray := prog_13_method_69_code
def yJ9_min_7cf53 : MethodName := ⟨RJ9, "min", "(II)I"⟩
def RJ10 : String := "java/lang/System"
def TJ10 : u_T := fun k => match k with
  | _ => ("", "", "", false)
def tyJ10 : Nat → FieldType := fun k => match k with
  | _ => .int
abbrev wsJ100 : List Cond := u_ws RJ10 TJ10 0
theorem nmJ10 : ∀ a, a < 0 → ∀ b, b < 0 → a ≠ b → (TJ10 a).2.1 ≠ (TJ10 b).2.1 := by decide +kernel
theorem tyJ10_ok : ∀ k, k < 0 → parseFieldDescriptor (TJ10 k).2.2.1 = some (tyJ10 k) := by decide +kernel
def RJ7 : String := "java/util/Arrays"
def TJ7 : u_T := fun k => match k with
  | _ => ("", "", "", false)
def tyJ7 : Nat → FieldType := fun k => match k with
  | _ => .int
abbrev wsJ70 : List Cond := u_ws RJ7 TJ7 0
theorem nmJ7 : ∀ a, a < 0 → ∀ b, b < 0 → a ≠ b → (TJ7 a).2.1 ≠ (TJ7 b).2.1 := by decide +kernel
theorem tyJ7_ok : ∀ k, k < 0 → parseFieldDescriptor (TJ7 k).2.2.1 = some (tyJ7 k) := by decide +kernel
abbrev cJ7_fill_d0a16 : ByteArray := prog_15_method_101_code
def yJ7_fill_d0a16 : MethodName := ⟨RJ7, "fill", "([JJ)V"⟩
abbrev cJ7_fill_53178 : ByteArray := prog_15_method_103_code
def yJ7_fill_53178 : MethodName := ⟨RJ7, "fill", "([II)V"⟩
def RL : String := "LoopSpacesLaw"
abbrev cL_law : ByteArray := code
def yL_law : MethodName := ⟨RL, "law", "([I)Z"⟩
abbrev vwCl : List vw_C := [(RX0, TX0, 10), (RX1, TX1, 9), (RX2, TX2, 7), (RX3, TX3, 3), (RX4, TX4, 5), (RX5, TX5, 11), (RX6, TX6, 10), (RX7, TX7, 3), (RX8, TX8, 5), (RX9, TX9, 11), (RX10, TX10, 59)]
