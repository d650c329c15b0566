section
-- ===== PART A: goes FIRST, ahead of the names: the tables' words, and 'selects' of the private methods out of them =====
/-- a private method of a class that the tables say can be made, by its rows of tables_1 -/
def lw_okq (q : MethodName × Nat) : Prop := (q.1.cls ≠ "java/lang/invoke/MethodHandle" ∧ q.1.cls ≠ "java/lang/invoke/VarHandle") ∧ Cond.instantiable q.1.cls q.2 ∈ tables_1 ∧ Cond.privateMethod q.1 ∈ tables_1 ∧ Cond.instanceMethod q.1 ∈ tables_1
theorem lw_p0 : lw_okq (⟨"DrawnGates", "settle", "(I)I"⟩, 9) := ⟨⟨by decide +kernel, by decide +kernel⟩, List.mem_of_getElem? (i := 14) (by decide +kernel), List.mem_of_getElem? (i := 245) (by decide +kernel), List.mem_of_getElem? (i := 246) (by decide +kernel)⟩
theorem lw_p1 : lw_okq (⟨"DrawnGates", "refuse", "(I)I"⟩, 9) := ⟨⟨by decide +kernel, by decide +kernel⟩, List.mem_of_getElem? (i := 14) (by decide +kernel), List.mem_of_getElem? (i := 249) (by decide +kernel), List.mem_of_getElem? (i := 250) (by decide +kernel)⟩
theorem lw_p2 : lw_okq (⟨"DrawnGates", "keepBefore", "()V"⟩, 9) := ⟨⟨by decide +kernel, by decide +kernel⟩, List.mem_of_getElem? (i := 14) (by decide +kernel), List.mem_of_getElem? (i := 253) (by decide +kernel), List.mem_of_getElem? (i := 254) (by decide +kernel)⟩
theorem lw_p3 : lw_okq (⟨"DrawnGates", "dropOldestState", "()V"⟩, 9) := ⟨⟨by decide +kernel, by decide +kernel⟩, List.mem_of_getElem? (i := 14) (by decide +kernel), List.mem_of_getElem? (i := 257) (by decide +kernel), List.mem_of_getElem? (i := 258) (by decide +kernel)⟩
theorem lw_p4 : lw_okq (⟨"DrawnGates", "readLayout", "()LDrawnGates$Layout;"⟩, 9) := ⟨⟨by decide +kernel, by decide +kernel⟩, List.mem_of_getElem? (i := 14) (by decide +kernel), List.mem_of_getElem? (i := 320) (by decide +kernel), List.mem_of_getElem? (i := 321) (by decide +kernel)⟩
theorem lw_p5 : lw_okq (⟨"DrawnGates$Layout", "isAsRead", "([J)Z"⟩, 16) := ⟨⟨by decide +kernel, by decide +kernel⟩, List.mem_of_getElem? (i := 55) (by decide +kernel), List.mem_of_getElem? (i := 328) (by decide +kernel), List.mem_of_getElem? (i := 329) (by decide +kernel)⟩
theorem lw_p6 : lw_okq (⟨"DrawnGates$Layout", "findPieces", "()V"⟩, 16) := ⟨⟨by decide +kernel, by decide +kernel⟩, List.mem_of_getElem? (i := 55) (by decide +kernel), List.mem_of_getElem? (i := 333) (by decide +kernel), List.mem_of_getElem? (i := 334) (by decide +kernel)⟩
theorem lw_p7 : lw_okq (⟨"DrawnGates$Layout", "cellsOf", "(I)J"⟩, 16) := ⟨⟨by decide +kernel, by decide +kernel⟩, List.mem_of_getElem? (i := 55) (by decide +kernel), List.mem_of_getElem? (i := 337) (by decide +kernel), List.mem_of_getElem? (i := 338) (by decide +kernel)⟩
theorem lw_p8 : lw_okq (⟨"DrawnGates$Layout", "joinPieces", "()V"⟩, 16) := ⟨⟨by decide +kernel, by decide +kernel⟩, List.mem_of_getElem? (i := 55) (by decide +kernel), List.mem_of_getElem? (i := 350) (by decide +kernel), List.mem_of_getElem? (i := 351) (by decide +kernel)⟩
theorem lw_p9 : lw_okq (⟨"DrawnGates$Layout", "joinBelow", "(I)V"⟩, 16) := ⟨⟨by decide +kernel, by decide +kernel⟩, List.mem_of_getElem? (i := 55) (by decide +kernel), List.mem_of_getElem? (i := 354) (by decide +kernel), List.mem_of_getElem? (i := 355) (by decide +kernel)⟩
theorem lw_p10 : lw_okq (⟨"DrawnGates$Layout", "join", "(II)V"⟩, 16) := ⟨⟨by decide +kernel, by decide +kernel⟩, List.mem_of_getElem? (i := 55) (by decide +kernel), List.mem_of_getElem? (i := 358) (by decide +kernel), List.mem_of_getElem? (i := 359) (by decide +kernel)⟩
theorem lw_p11 : lw_okq (⟨"DrawnGates$Layout", "numberNodes", "()V"⟩, 16) := ⟨⟨by decide +kernel, by decide +kernel⟩, List.mem_of_getElem? (i := 55) (by decide +kernel), List.mem_of_getElem? (i := 368) (by decide +kernel), List.mem_of_getElem? (i := 369) (by decide +kernel)⟩
theorem lw_p12 : lw_okq (⟨"DrawnGates$Layout", "openNode", "()V"⟩, 16) := ⟨⟨by decide +kernel, by decide +kernel⟩, List.mem_of_getElem? (i := 55) (by decide +kernel), List.mem_of_getElem? (i := 372) (by decide +kernel), List.mem_of_getElem? (i := 373) (by decide +kernel)⟩
theorem lw_p13 : lw_okq (⟨"DrawnGates$Layout", "findGates", "()V"⟩, 16) := ⟨⟨by decide +kernel, by decide +kernel⟩, List.mem_of_getElem? (i := 55) (by decide +kernel), List.mem_of_getElem? (i := 376) (by decide +kernel), List.mem_of_getElem? (i := 377) (by decide +kernel)⟩
theorem lw_p14 : lw_okq (⟨"DrawnGates$Layout", "findSides", "(I)V"⟩, 16) := ⟨⟨by decide +kernel, by decide +kernel⟩, List.mem_of_getElem? (i := 55) (by decide +kernel), List.mem_of_getElem? (i := 384) (by decide +kernel), List.mem_of_getElem? (i := 385) (by decide +kernel)⟩
theorem lw_p15 : lw_okq (⟨"DrawnGates$Layout", "weighNodes", "()V"⟩, 16) := ⟨⟨by decide +kernel, by decide +kernel⟩, List.mem_of_getElem? (i := 55) (by decide +kernel), List.mem_of_getElem? (i := 392) (by decide +kernel), List.mem_of_getElem? (i := 393) (by decide +kernel)⟩
def lw_privs_1 : List (MethodName × Nat) := [(⟨"DrawnGates", "settle", "(I)I"⟩, 9), (⟨"DrawnGates", "refuse", "(I)I"⟩, 9), (⟨"DrawnGates", "keepBefore", "()V"⟩, 9), (⟨"DrawnGates", "dropOldestState", "()V"⟩, 9), (⟨"DrawnGates", "readLayout", "()LDrawnGates$Layout;"⟩, 9), (⟨"DrawnGates$Layout", "isAsRead", "([J)Z"⟩, 16), (⟨"DrawnGates$Layout", "findPieces", "()V"⟩, 16), (⟨"DrawnGates$Layout", "cellsOf", "(I)J"⟩, 16), (⟨"DrawnGates$Layout", "joinPieces", "()V"⟩, 16), (⟨"DrawnGates$Layout", "joinBelow", "(I)V"⟩, 16), (⟨"DrawnGates$Layout", "join", "(II)V"⟩, 16), (⟨"DrawnGates$Layout", "numberNodes", "()V"⟩, 16), (⟨"DrawnGates$Layout", "openNode", "()V"⟩, 16), (⟨"DrawnGates$Layout", "findGates", "()V"⟩, 16), (⟨"DrawnGates$Layout", "findSides", "(I)V"⟩, 16), (⟨"DrawnGates$Layout", "weighNodes", "()V"⟩, 16)]
theorem lw_r1 : ∀ q ∈ lw_privs_1, lw_okq q := List.forall_mem_cons.mpr ⟨lw_p0, List.forall_mem_cons.mpr ⟨lw_p1, List.forall_mem_cons.mpr ⟨lw_p2, List.forall_mem_cons.mpr ⟨lw_p3, List.forall_mem_cons.mpr ⟨lw_p4, List.forall_mem_cons.mpr ⟨lw_p5, List.forall_mem_cons.mpr ⟨lw_p6, List.forall_mem_cons.mpr ⟨lw_p7, List.forall_mem_cons.mpr ⟨lw_p8, List.forall_mem_cons.mpr ⟨lw_p9, List.forall_mem_cons.mpr ⟨lw_p10, List.forall_mem_cons.mpr ⟨lw_p11, List.forall_mem_cons.mpr ⟨lw_p12, List.forall_mem_cons.mpr ⟨lw_p13, List.forall_mem_cons.mpr ⟨lw_p14, List.forall_mem_cons.mpr ⟨lw_p15, fun _ h => absurd h List.not_mem_nil⟩⟩⟩⟩⟩⟩⟩⟩⟩⟩⟩⟩⟩⟩⟩⟩
theorem lw_p16 : lw_okq (⟨"DrawnGates$Layout", "addHang", "(II)V"⟩, 16) := ⟨⟨by decide +kernel, by decide +kernel⟩, List.mem_of_getElem? (i := 55) (by decide +kernel), List.mem_of_getElem? (i := 399) (by decide +kernel), List.mem_of_getElem? (i := 400) (by decide +kernel)⟩
theorem lw_p17 : lw_okq (⟨"DrawnGates", "search", "()LDrawnGates$Matching;"⟩, 9) := ⟨⟨by decide +kernel, by decide +kernel⟩, List.mem_of_getElem? (i := 14) (by decide +kernel), List.mem_of_getElem? (i := 429) (by decide +kernel), List.mem_of_getElem? (i := 430) (by decide +kernel)⟩
theorem lw_p18 : lw_okq (⟨"DrawnGates$Matching", "findLikes", "()V"⟩, 10) := ⟨⟨by decide +kernel, by decide +kernel⟩, List.mem_of_getElem? (i := 121) (by decide +kernel), List.mem_of_getElem? (i := 437) (by decide +kernel), List.mem_of_getElem? (i := 438) (by decide +kernel)⟩
theorem lw_p19 : lw_okq (⟨"DrawnGates$Matching", "isLike", "(II)Z"⟩, 10) := ⟨⟨by decide +kernel, by decide +kernel⟩, List.mem_of_getElem? (i := 121) (by decide +kernel), List.mem_of_getElem? (i := 442) (by decide +kernel), List.mem_of_getElem? (i := 443) (by decide +kernel)⟩
theorem lw_p20 : lw_okq (⟨"DrawnGates$Matching", "countLeftOver", "()I"⟩, 10) := ⟨⟨by decide +kernel, by decide +kernel⟩, List.mem_of_getElem? (i := 121) (by decide +kernel), List.mem_of_getElem? (i := 469) (by decide +kernel), List.mem_of_getElem? (i := 470) (by decide +kernel)⟩
theorem lw_p21 : lw_okq (⟨"DrawnGates$Matching", "tiePins", "([I)Z"⟩, 10) := ⟨⟨by decide +kernel, by decide +kernel⟩, List.mem_of_getElem? (i := 121) (by decide +kernel), List.mem_of_getElem? (i := 474) (by decide +kernel), List.mem_of_getElem? (i := 475) (by decide +kernel)⟩
theorem lw_p22 : lw_okq (⟨"DrawnGates$Matching", "record", "([I)V"⟩, 10) := ⟨⟨by decide +kernel, by decide +kernel⟩, List.mem_of_getElem? (i := 121) (by decide +kernel), List.mem_of_getElem? (i := 489) (by decide +kernel), List.mem_of_getElem? (i := 490) (by decide +kernel)⟩
theorem lw_p23 : lw_okq (⟨"DrawnGates$Matching", "isBeforeFirst", "([I)Z"⟩, 10) := ⟨⟨by decide +kernel, by decide +kernel⟩, List.mem_of_getElem? (i := 121) (by decide +kernel), List.mem_of_getElem? (i := 493) (by decide +kernel), List.mem_of_getElem? (i := 494) (by decide +kernel)⟩
theorem lw_p24 : lw_okq (⟨"DrawnGates$Matching", "tieSides", "(III)Z"⟩, 10) := ⟨⟨by decide +kernel, by decide +kernel⟩, List.mem_of_getElem? (i := 121) (by decide +kernel), List.mem_of_getElem? (i := 499) (by decide +kernel), List.mem_of_getElem? (i := 500) (by decide +kernel)⟩
theorem lw_p25 : lw_okq (⟨"DrawnGates$Text", "performOne", "(LDrawnGates$Plan;I)I"⟩, 3) := ⟨⟨by decide +kernel, by decide +kernel⟩, List.mem_of_getElem? (i := 164) (by decide +kernel), List.mem_of_getElem? (i := 592) (by decide +kernel), List.mem_of_getElem? (i := 593) (by decide +kernel)⟩
theorem lw_p26 : lw_okq (⟨"DrawnGatesModel", "refuses", "(I)I"⟩, 26) := ⟨⟨by decide +kernel, by decide +kernel⟩, List.mem_of_getElem? (i := 630) (by decide +kernel), List.mem_of_getElem? (i := 719) (by decide +kernel), List.mem_of_getElem? (i := 720) (by decide +kernel)⟩
theorem lw_p27 : lw_okq (⟨"DrawnGatesModel", "hold", "()V"⟩, 26) := ⟨⟨by decide +kernel, by decide +kernel⟩, List.mem_of_getElem? (i := 630) (by decide +kernel), List.mem_of_getElem? (i := 727) (by decide +kernel), List.mem_of_getElem? (i := 728) (by decide +kernel)⟩
theorem lw_p28 : lw_okq (⟨"DrawnGatesModel", "paint", "(IIIIIZ)I"⟩, 26) := ⟨⟨by decide +kernel, by decide +kernel⟩, List.mem_of_getElem? (i := 630) (by decide +kernel), List.mem_of_getElem? (i := 731) (by decide +kernel), List.mem_of_getElem? (i := 732) (by decide +kernel)⟩
theorem lw_p29 : lw_okq (⟨"DrawnGatesModel", "isDrawn", "(II)Z"⟩, 26) := ⟨⟨by decide +kernel, by decide +kernel⟩, List.mem_of_getElem? (i := 630) (by decide +kernel), List.mem_of_getElem? (i := 741) (by decide +kernel), List.mem_of_getElem? (i := 742) (by decide +kernel)⟩
theorem lw_p30 : lw_okq (⟨"DrawnGatesModel", "flip", "(II)V"⟩, 26) := ⟨⟨by decide +kernel, by decide +kernel⟩, List.mem_of_getElem? (i := 630) (by decide +kernel), List.mem_of_getElem? (i := 745) (by decide +kernel), List.mem_of_getElem? (i := 746) (by decide +kernel)⟩
theorem lw_p31 : lw_okq (⟨"DrawnGatesModel", "ends", "(I)I"⟩, 26) := ⟨⟨by decide +kernel, by decide +kernel⟩, List.mem_of_getElem? (i := 630) (by decide +kernel), List.mem_of_getElem? (i := 749) (by decide +kernel), List.mem_of_getElem? (i := 750) (by decide +kernel)⟩
def lw_privs_2 : List (MethodName × Nat) := [(⟨"DrawnGates$Layout", "addHang", "(II)V"⟩, 16), (⟨"DrawnGates", "search", "()LDrawnGates$Matching;"⟩, 9), (⟨"DrawnGates$Matching", "findLikes", "()V"⟩, 10), (⟨"DrawnGates$Matching", "isLike", "(II)Z"⟩, 10), (⟨"DrawnGates$Matching", "countLeftOver", "()I"⟩, 10), (⟨"DrawnGates$Matching", "tiePins", "([I)Z"⟩, 10), (⟨"DrawnGates$Matching", "record", "([I)V"⟩, 10), (⟨"DrawnGates$Matching", "isBeforeFirst", "([I)Z"⟩, 10), (⟨"DrawnGates$Matching", "tieSides", "(III)Z"⟩, 10), (⟨"DrawnGates$Text", "performOne", "(LDrawnGates$Plan;I)I"⟩, 3), (⟨"DrawnGatesModel", "refuses", "(I)I"⟩, 26), (⟨"DrawnGatesModel", "hold", "()V"⟩, 26), (⟨"DrawnGatesModel", "paint", "(IIIIIZ)I"⟩, 26), (⟨"DrawnGatesModel", "isDrawn", "(II)Z"⟩, 26), (⟨"DrawnGatesModel", "flip", "(II)V"⟩, 26), (⟨"DrawnGatesModel", "ends", "(I)I"⟩, 26)]
theorem lw_r2 : ∀ q ∈ lw_privs_2, lw_okq q := List.forall_mem_cons.mpr ⟨lw_p16, List.forall_mem_cons.mpr ⟨lw_p17, List.forall_mem_cons.mpr ⟨lw_p18, List.forall_mem_cons.mpr ⟨lw_p19, List.forall_mem_cons.mpr ⟨lw_p20, List.forall_mem_cons.mpr ⟨lw_p21, List.forall_mem_cons.mpr ⟨lw_p22, List.forall_mem_cons.mpr ⟨lw_p23, List.forall_mem_cons.mpr ⟨lw_p24, List.forall_mem_cons.mpr ⟨lw_p25, List.forall_mem_cons.mpr ⟨lw_p26, List.forall_mem_cons.mpr ⟨lw_p27, List.forall_mem_cons.mpr ⟨lw_p28, List.forall_mem_cons.mpr ⟨lw_p29, List.forall_mem_cons.mpr ⟨lw_p30, List.forall_mem_cons.mpr ⟨lw_p31, fun _ h => absurd h List.not_mem_nil⟩⟩⟩⟩⟩⟩⟩⟩⟩⟩⟩⟩⟩⟩⟩⟩
theorem lw_p32 : lw_okq (⟨"DrawnGatesModel", "push", "()V"⟩, 26) := ⟨⟨by decide +kernel, by decide +kernel⟩, List.mem_of_getElem? (i := 630) (by decide +kernel), List.mem_of_getElem? (i := 753) (by decide +kernel), List.mem_of_getElem? (i := 754) (by decide +kernel)⟩
theorem lw_p33 : lw_okq (⟨"DrawnGatesModel", "doMoves", "(III)I"⟩, 26) := ⟨⟨by decide +kernel, by decide +kernel⟩, List.mem_of_getElem? (i := 630) (by decide +kernel), List.mem_of_getElem? (i := 765) (by decide +kernel), List.mem_of_getElem? (i := 766) (by decide +kernel)⟩
theorem lw_p34 : lw_okq (⟨"DrawnGatesModel", "doMeans", "(III)I"⟩, 26) := ⟨⟨by decide +kernel, by decide +kernel⟩, List.mem_of_getElem? (i := 630) (by decide +kernel), List.mem_of_getElem? (i := 773) (by decide +kernel), List.mem_of_getElem? (i := 774) (by decide +kernel)⟩
theorem lw_p35 : lw_okq (⟨"DrawnGatesModel", "add", "(IIII)I"⟩, 26) := ⟨⟨by decide +kernel, by decide +kernel⟩, List.mem_of_getElem? (i := 630) (by decide +kernel), List.mem_of_getElem? (i := 780) (by decide +kernel), List.mem_of_getElem? (i := 781) (by decide +kernel)⟩
theorem lw_p36 : lw_okq (⟨"DrawnGatesModel", "doPins", "(III)I"⟩, 26) := ⟨⟨by decide +kernel, by decide +kernel⟩, List.mem_of_getElem? (i := 630) (by decide +kernel), List.mem_of_getElem? (i := 788) (by decide +kernel), List.mem_of_getElem? (i := 789) (by decide +kernel)⟩
theorem lw_p37 : lw_okq (⟨"DrawnGatesModel", "doForgets", "()I"⟩, 26) := ⟨⟨by decide +kernel, by decide +kernel⟩, List.mem_of_getElem? (i := 630) (by decide +kernel), List.mem_of_getElem? (i := 796) (by decide +kernel), List.mem_of_getElem? (i := 797) (by decide +kernel)⟩
theorem lw_p38 : lw_okq (⟨"DrawnGatesModel", "lay", "()V"⟩, 26) := ⟨⟨by decide +kernel, by decide +kernel⟩, List.mem_of_getElem? (i := 630) (by decide +kernel), List.mem_of_getElem? (i := 808) (by decide +kernel), List.mem_of_getElem? (i := 809) (by decide +kernel)⟩
theorem lw_p39 : lw_okq (⟨"DrawnGatesModel", "hang", "(Z)I"⟩, 26) := ⟨⟨by decide +kernel, by decide +kernel⟩, List.mem_of_getElem? (i := 630) (by decide +kernel), List.mem_of_getElem? (i := 812) (by decide +kernel), List.mem_of_getElem? (i := 813) (by decide +kernel)⟩
theorem lw_p40 : lw_okq (⟨"DrawnGatesModel", "isWire", "(I)Z"⟩, 26) := ⟨⟨by decide +kernel, by decide +kernel⟩, List.mem_of_getElem? (i := 630) (by decide +kernel), List.mem_of_getElem? (i := 816) (by decide +kernel), List.mem_of_getElem? (i := 817) (by decide +kernel)⟩
theorem lw_p41 : lw_okq (⟨"DrawnGatesModel", "take", "(II)V"⟩, 26) := ⟨⟨by decide +kernel, by decide +kernel⟩, List.mem_of_getElem? (i := 630) (by decide +kernel), List.mem_of_getElem? (i := 820) (by decide +kernel), List.mem_of_getElem? (i := 821) (by decide +kernel)⟩
theorem lw_p42 : lw_okq (⟨"DrawnGatesModel", "goFrom", "(IIZ)V"⟩, 26) := ⟨⟨by decide +kernel, by decide +kernel⟩, List.mem_of_getElem? (i := 630) (by decide +kernel), List.mem_of_getElem? (i := 824) (by decide +kernel), List.mem_of_getElem? (i := 825) (by decide +kernel)⟩
theorem lw_p43 : lw_okq (⟨"DrawnGatesModel", "findGates", "()V"⟩, 26) := ⟨⟨by decide +kernel, by decide +kernel⟩, List.mem_of_getElem? (i := 630) (by decide +kernel), List.mem_of_getElem? (i := 831) (by decide +kernel), List.mem_of_getElem? (i := 832) (by decide +kernel)⟩
theorem lw_p44 : lw_okq (⟨"DrawnGatesModel", "isGateCell", "(I)Z"⟩, 26) := ⟨⟨by decide +kernel, by decide +kernel⟩, List.mem_of_getElem? (i := 630) (by decide +kernel), List.mem_of_getElem? (i := 835) (by decide +kernel), List.mem_of_getElem? (i := 836) (by decide +kernel)⟩
theorem lw_p45 : lw_okq (⟨"DrawnGatesModel", "goGate", "(I)V"⟩, 26) := ⟨⟨by decide +kernel, by decide +kernel⟩, List.mem_of_getElem? (i := 630) (by decide +kernel), List.mem_of_getElem? (i := 839) (by decide +kernel), List.mem_of_getElem? (i := 840) (by decide +kernel)⟩
theorem lw_p46 : lw_okq (⟨"DrawnGatesModel", "findSides", "()V"⟩, 26) := ⟨⟨by decide +kernel, by decide +kernel⟩, List.mem_of_getElem? (i := 630) (by decide +kernel), List.mem_of_getElem? (i := 843) (by decide +kernel), List.mem_of_getElem? (i := 844) (by decide +kernel)⟩
theorem lw_p47 : lw_okq (⟨"DrawnGatesModel", "countSides", "(I)V"⟩, 26) := ⟨⟨by decide +kernel, by decide +kernel⟩, List.mem_of_getElem? (i := 630) (by decide +kernel), List.mem_of_getElem? (i := 847) (by decide +kernel), List.mem_of_getElem? (i := 848) (by decide +kernel)⟩
def lw_privs_3 : List (MethodName × Nat) := [(⟨"DrawnGatesModel", "push", "()V"⟩, 26), (⟨"DrawnGatesModel", "doMoves", "(III)I"⟩, 26), (⟨"DrawnGatesModel", "doMeans", "(III)I"⟩, 26), (⟨"DrawnGatesModel", "add", "(IIII)I"⟩, 26), (⟨"DrawnGatesModel", "doPins", "(III)I"⟩, 26), (⟨"DrawnGatesModel", "doForgets", "()I"⟩, 26), (⟨"DrawnGatesModel", "lay", "()V"⟩, 26), (⟨"DrawnGatesModel", "hang", "(Z)I"⟩, 26), (⟨"DrawnGatesModel", "isWire", "(I)Z"⟩, 26), (⟨"DrawnGatesModel", "take", "(II)V"⟩, 26), (⟨"DrawnGatesModel", "goFrom", "(IIZ)V"⟩, 26), (⟨"DrawnGatesModel", "findGates", "()V"⟩, 26), (⟨"DrawnGatesModel", "isGateCell", "(I)Z"⟩, 26), (⟨"DrawnGatesModel", "goGate", "(I)V"⟩, 26), (⟨"DrawnGatesModel", "findSides", "()V"⟩, 26), (⟨"DrawnGatesModel", "countSides", "(I)V"⟩, 26)]
theorem lw_r3 : ∀ q ∈ lw_privs_3, lw_okq q := List.forall_mem_cons.mpr ⟨lw_p32, List.forall_mem_cons.mpr ⟨lw_p33, List.forall_mem_cons.mpr ⟨lw_p34, List.forall_mem_cons.mpr ⟨lw_p35, List.forall_mem_cons.mpr ⟨lw_p36, List.forall_mem_cons.mpr ⟨lw_p37, List.forall_mem_cons.mpr ⟨lw_p38, List.forall_mem_cons.mpr ⟨lw_p39, List.forall_mem_cons.mpr ⟨lw_p40, List.forall_mem_cons.mpr ⟨lw_p41, List.forall_mem_cons.mpr ⟨lw_p42, List.forall_mem_cons.mpr ⟨lw_p43, List.forall_mem_cons.mpr ⟨lw_p44, List.forall_mem_cons.mpr ⟨lw_p45, List.forall_mem_cons.mpr ⟨lw_p46, List.forall_mem_cons.mpr ⟨lw_p47, fun _ h => absurd h List.not_mem_nil⟩⟩⟩⟩⟩⟩⟩⟩⟩⟩⟩⟩⟩⟩⟩⟩
theorem lw_p48 : lw_okq (⟨"DrawnGatesModel", "isSide", "(II)Z"⟩, 26) := ⟨⟨by decide +kernel, by decide +kernel⟩, List.mem_of_getElem? (i := 630) (by decide +kernel), List.mem_of_getElem? (i := 851) (by decide +kernel), List.mem_of_getElem? (i := 852) (by decide +kernel)⟩
theorem lw_p49 : lw_okq (⟨"DrawnGatesModel", "findMatches", "()V"⟩, 26) := ⟨⟨by decide +kernel, by decide +kernel⟩, List.mem_of_getElem? (i := 630) (by decide +kernel), List.mem_of_getElem? (i := 855) (by decide +kernel), List.mem_of_getElem? (i := 856) (by decide +kernel)⟩
theorem lw_p50 : lw_okq (⟨"DrawnGatesModel", "wells", "()I"⟩, 26) := ⟨⟨by decide +kernel, by decide +kernel⟩, List.mem_of_getElem? (i := 630) (by decide +kernel), List.mem_of_getElem? (i := 859) (by decide +kernel), List.mem_of_getElem? (i := 860) (by decide +kernel)⟩
theorem lw_p51 : lw_okq (⟨"DrawnGatesModel", "isWell", "(I)Z"⟩, 26) := ⟨⟨by decide +kernel, by decide +kernel⟩, List.mem_of_getElem? (i := 630) (by decide +kernel), List.mem_of_getElem? (i := 863) (by decide +kernel), List.mem_of_getElem? (i := 864) (by decide +kernel)⟩
theorem lw_p52 : lw_okq (⟨"DrawnGatesModel", "ofGate", "(II)I"⟩, 26) := ⟨⟨by decide +kernel, by decide +kernel⟩, List.mem_of_getElem? (i := 630) (by decide +kernel), List.mem_of_getElem? (i := 867) (by decide +kernel), List.mem_of_getElem? (i := 868) (by decide +kernel)⟩
theorem lw_p53 : lw_okq (⟨"DrawnGatesModel", "isBegun", "()Z"⟩, 26) := ⟨⟨by decide +kernel, by decide +kernel⟩, List.mem_of_getElem? (i := 630) (by decide +kernel), List.mem_of_getElem? (i := 871) (by decide +kernel), List.mem_of_getElem? (i := 872) (by decide +kernel)⟩
theorem lw_p54 : lw_okq (⟨"DrawnGatesModel", "pinNode", "(I)I"⟩, 26) := ⟨⟨by decide +kernel, by decide +kernel⟩, List.mem_of_getElem? (i := 630) (by decide +kernel), List.mem_of_getElem? (i := 875) (by decide +kernel), List.mem_of_getElem? (i := 876) (by decide +kernel)⟩
theorem lw_p55 : lw_okq (⟨"DrawnGatesModel", "ofPin", "(II)I"⟩, 26) := ⟨⟨by decide +kernel, by decide +kernel⟩, List.mem_of_getElem? (i := 630) (by decide +kernel), List.mem_of_getElem? (i := 879) (by decide +kernel), List.mem_of_getElem? (i := 880) (by decide +kernel)⟩
theorem lw_p56 : lw_okq (⟨"DrawnGatesModel", "isPut", "(III)Z"⟩, 26) := ⟨⟨by decide +kernel, by decide +kernel⟩, List.mem_of_getElem? (i := 630) (by decide +kernel), List.mem_of_getElem? (i := 883) (by decide +kernel), List.mem_of_getElem? (i := 884) (by decide +kernel)⟩
theorem lw_p57 : lw_okq (⟨"DrawnGatesModel", "found", "()V"⟩, 26) := ⟨⟨by decide +kernel, by decide +kernel⟩, List.mem_of_getElem? (i := 630) (by decide +kernel), List.mem_of_getElem? (i := 887) (by decide +kernel), List.mem_of_getElem? (i := 888) (by decide +kernel)⟩
theorem lw_p58 : lw_okq (⟨"DrawnGatesModel", "isChosen", "(II)Z"⟩, 26) := ⟨⟨by decide +kernel, by decide +kernel⟩, List.mem_of_getElem? (i := 630) (by decide +kernel), List.mem_of_getElem? (i := 891) (by decide +kernel), List.mem_of_getElem? (i := 892) (by decide +kernel)⟩
theorem lw_p59 : lw_okq (⟨"DrawnGatesModel", "ofDevice", "(II)I"⟩, 26) := ⟨⟨by decide +kernel, by decide +kernel⟩, List.mem_of_getElem? (i := 630) (by decide +kernel), List.mem_of_getElem? (i := 895) (by decide +kernel), List.mem_of_getElem? (i := 896) (by decide +kernel)⟩
theorem lw_p60 : lw_okq (⟨"DrawnGatesModel", "counted", "(I)I"⟩, 26) := ⟨⟨by decide +kernel, by decide +kernel⟩, List.mem_of_getElem? (i := 630) (by decide +kernel), List.mem_of_getElem? (i := 903) (by decide +kernel), List.mem_of_getElem? (i := 904) (by decide +kernel)⟩
theorem lw_p61 : lw_okq (⟨"DrawnGatesModel", "pairs", "(Z)I"⟩, 26) := ⟨⟨by decide +kernel, by decide +kernel⟩, List.mem_of_getElem? (i := 630) (by decide +kernel), List.mem_of_getElem? (i := 907) (by decide +kernel), List.mem_of_getElem? (i := 908) (by decide +kernel)⟩
theorem lw_p62 : lw_okq (⟨"DrawnGatesModel", "unlike", "()I"⟩, 26) := ⟨⟨by decide +kernel, by decide +kernel⟩, List.mem_of_getElem? (i := 630) (by decide +kernel), List.mem_of_getElem? (i := 911) (by decide +kernel), List.mem_of_getElem? (i := 912) (by decide +kernel)⟩
theorem lw_p63 : lw_okq (⟨"DrawnGatesModel", "kindOfDevice", "(I)I"⟩, 26) := ⟨⟨by decide +kernel, by decide +kernel⟩, List.mem_of_getElem? (i := 630) (by decide +kernel), List.mem_of_getElem? (i := 915) (by decide +kernel), List.mem_of_getElem? (i := 916) (by decide +kernel)⟩
def lw_privs_4 : List (MethodName × Nat) := [(⟨"DrawnGatesModel", "isSide", "(II)Z"⟩, 26), (⟨"DrawnGatesModel", "findMatches", "()V"⟩, 26), (⟨"DrawnGatesModel", "wells", "()I"⟩, 26), (⟨"DrawnGatesModel", "isWell", "(I)Z"⟩, 26), (⟨"DrawnGatesModel", "ofGate", "(II)I"⟩, 26), (⟨"DrawnGatesModel", "isBegun", "()Z"⟩, 26), (⟨"DrawnGatesModel", "pinNode", "(I)I"⟩, 26), (⟨"DrawnGatesModel", "ofPin", "(II)I"⟩, 26), (⟨"DrawnGatesModel", "isPut", "(III)Z"⟩, 26), (⟨"DrawnGatesModel", "found", "()V"⟩, 26), (⟨"DrawnGatesModel", "isChosen", "(II)Z"⟩, 26), (⟨"DrawnGatesModel", "ofDevice", "(II)I"⟩, 26), (⟨"DrawnGatesModel", "counted", "(I)I"⟩, 26), (⟨"DrawnGatesModel", "pairs", "(Z)I"⟩, 26), (⟨"DrawnGatesModel", "unlike", "()I"⟩, 26), (⟨"DrawnGatesModel", "kindOfDevice", "(I)I"⟩, 26)]
theorem lw_r4 : ∀ q ∈ lw_privs_4, lw_okq q := List.forall_mem_cons.mpr ⟨lw_p48, List.forall_mem_cons.mpr ⟨lw_p49, List.forall_mem_cons.mpr ⟨lw_p50, List.forall_mem_cons.mpr ⟨lw_p51, List.forall_mem_cons.mpr ⟨lw_p52, List.forall_mem_cons.mpr ⟨lw_p53, List.forall_mem_cons.mpr ⟨lw_p54, List.forall_mem_cons.mpr ⟨lw_p55, List.forall_mem_cons.mpr ⟨lw_p56, List.forall_mem_cons.mpr ⟨lw_p57, List.forall_mem_cons.mpr ⟨lw_p58, List.forall_mem_cons.mpr ⟨lw_p59, List.forall_mem_cons.mpr ⟨lw_p60, List.forall_mem_cons.mpr ⟨lw_p61, List.forall_mem_cons.mpr ⟨lw_p62, List.forall_mem_cons.mpr ⟨lw_p63, fun _ h => absurd h List.not_mem_nil⟩⟩⟩⟩⟩⟩⟩⟩⟩⟩⟩⟩⟩⟩⟩⟩
theorem lw_p64 : lw_okq (⟨"DrawnGatesModel", "netHangs", "(I)I"⟩, 26) := ⟨⟨by decide +kernel, by decide +kernel⟩, List.mem_of_getElem? (i := 630) (by decide +kernel), List.mem_of_getElem? (i := 919) (by decide +kernel), List.mem_of_getElem? (i := 920) (by decide +kernel)⟩
theorem lw_p65 : lw_okq (⟨"DrawnGatesModel", "kindOfGate", "(I)I"⟩, 26) := ⟨⟨by decide +kernel, by decide +kernel⟩, List.mem_of_getElem? (i := 630) (by decide +kernel), List.mem_of_getElem? (i := 927) (by decide +kernel), List.mem_of_getElem? (i := 928) (by decide +kernel)⟩
theorem lw_p66 : lw_okq (⟨"DrawnGatesModel", "nodeHangs", "(I)I"⟩, 26) := ⟨⟨by decide +kernel, by decide +kernel⟩, List.mem_of_getElem? (i := 630) (by decide +kernel), List.mem_of_getElem? (i := 931) (by decide +kernel), List.mem_of_getElem? (i := 932) (by decide +kernel)⟩
theorem lw_p67 : lw_okq (⟨"DrawnGatesModel", "wireOf", "(II)I"⟩, 26) := ⟨⟨by decide +kernel, by decide +kernel⟩, List.mem_of_getElem? (i := 630) (by decide +kernel), List.mem_of_getElem? (i := 947) (by decide +kernel), List.mem_of_getElem? (i := 948) (by decide +kernel)⟩
theorem lw_p68 : lw_okq (⟨"DrawnGatesModel", "waysOf", "()I"⟩, 26) := ⟨⟨by decide +kernel, by decide +kernel⟩, List.mem_of_getElem? (i := 630) (by decide +kernel), List.mem_of_getElem? (i := 955) (by decide +kernel), List.mem_of_getElem? (i := 956) (by decide +kernel)⟩
theorem lw_p69 : lw_okq (⟨"DrawnGatesModel", "isDevice", "(I)Z"⟩, 26) := ⟨⟨by decide +kernel, by decide +kernel⟩, List.mem_of_getElem? (i := 630) (by decide +kernel), List.mem_of_getElem? (i := 963) (by decide +kernel), List.mem_of_getElem? (i := 964) (by decide +kernel)⟩
theorem lw_p70 : lw_okq (⟨"DrawnGatesModel", "here", "()I"⟩, 26) := ⟨⟨by decide +kernel, by decide +kernel⟩, List.mem_of_getElem? (i := 630) (by decide +kernel), List.mem_of_getElem? (i := 995) (by decide +kernel), List.mem_of_getElem? (i := 996) (by decide +kernel)⟩
theorem lw_p71 : lw_okq (⟨"DrawnGatesModel", "readOrder", "()V"⟩, 26) := ⟨⟨by decide +kernel, by decide +kernel⟩, List.mem_of_getElem? (i := 630) (by decide +kernel), List.mem_of_getElem? (i := 999) (by decide +kernel), List.mem_of_getElem? (i := 1000) (by decide +kernel)⟩
theorem lw_p72 : lw_okq (⟨"DrawnGatesModel", "must", "(Z)V"⟩, 26) := ⟨⟨by decide +kernel, by decide +kernel⟩, List.mem_of_getElem? (i := 630) (by decide +kernel), List.mem_of_getElem? (i := 1006) (by decide +kernel), List.mem_of_getElem? (i := 1007) (by decide +kernel)⟩
theorem lw_p73 : lw_okq (⟨"DrawnGatesModel", "doOrder", "(I)I"⟩, 26) := ⟨⟨by decide +kernel, by decide +kernel⟩, List.mem_of_getElem? (i := 630) (by decide +kernel), List.mem_of_getElem? (i := 1010) (by decide +kernel), List.mem_of_getElem? (i := 1011) (by decide +kernel)⟩
theorem lw_p74 : lw_okq (⟨"DrawnGatesModel", "toldOf", "(I)I"⟩, 26) := ⟨⟨by decide +kernel, by decide +kernel⟩, List.mem_of_getElem? (i := 630) (by decide +kernel), List.mem_of_getElem? (i := 1018) (by decide +kernel), List.mem_of_getElem? (i := 1019) (by decide +kernel)⟩
theorem lw_p75 : lw_okq (⟨"DrawnGatesModel", "mix", "(J)V"⟩, 26) := ⟨⟨by decide +kernel, by decide +kernel⟩, List.mem_of_getElem? (i := 630) (by decide +kernel), List.mem_of_getElem? (i := 1027) (by decide +kernel), List.mem_of_getElem? (i := 1028) (by decide +kernel)⟩
def lw_privs_5 : List (MethodName × Nat) := [(⟨"DrawnGatesModel", "netHangs", "(I)I"⟩, 26), (⟨"DrawnGatesModel", "kindOfGate", "(I)I"⟩, 26), (⟨"DrawnGatesModel", "nodeHangs", "(I)I"⟩, 26), (⟨"DrawnGatesModel", "wireOf", "(II)I"⟩, 26), (⟨"DrawnGatesModel", "waysOf", "()I"⟩, 26), (⟨"DrawnGatesModel", "isDevice", "(I)Z"⟩, 26), (⟨"DrawnGatesModel", "here", "()I"⟩, 26), (⟨"DrawnGatesModel", "readOrder", "()V"⟩, 26), (⟨"DrawnGatesModel", "must", "(Z)V"⟩, 26), (⟨"DrawnGatesModel", "doOrder", "(I)I"⟩, 26), (⟨"DrawnGatesModel", "toldOf", "(I)I"⟩, 26), (⟨"DrawnGatesModel", "mix", "(J)V"⟩, 26)]
theorem lw_r5 : ∀ q ∈ lw_privs_5, lw_okq q := List.forall_mem_cons.mpr ⟨lw_p64, List.forall_mem_cons.mpr ⟨lw_p65, List.forall_mem_cons.mpr ⟨lw_p66, List.forall_mem_cons.mpr ⟨lw_p67, List.forall_mem_cons.mpr ⟨lw_p68, List.forall_mem_cons.mpr ⟨lw_p69, List.forall_mem_cons.mpr ⟨lw_p70, List.forall_mem_cons.mpr ⟨lw_p71, List.forall_mem_cons.mpr ⟨lw_p72, List.forall_mem_cons.mpr ⟨lw_p73, List.forall_mem_cons.mpr ⟨lw_p74, List.forall_mem_cons.mpr ⟨lw_p75, fun _ h => absurd h List.not_mem_nil⟩⟩⟩⟩⟩⟩⟩⟩⟩⟩⟩⟩
def lw_privs : List (MethodName × Nat) := lw_privs_1 ++ (lw_privs_2 ++ (lw_privs_3 ++ (lw_privs_4 ++ (lw_privs_5))))
def lw_tbl : List Cond := k2_sels lw_privs ++ tables_1
theorem lw_privs_ok : ∀ q ∈ lw_privs, lw_okq q := by
  show ∀ q ∈ lw_privs_1 ++ (lw_privs_2 ++ (lw_privs_3 ++ (lw_privs_4 ++ (lw_privs_5)))), lw_okq q
  exact List.forall_mem_append.mpr ⟨lw_r1, List.forall_mem_append.mpr ⟨lw_r2, List.forall_mem_append.mpr ⟨lw_r3, List.forall_mem_append.mpr ⟨lw_r4, lw_r5⟩⟩⟩⟩
end
section
def RX0 : String := "DrawnGates$Layout"
def TX0 : u_T := fun k => match k with
  | 0 => ("DrawnGates$Layout", "layers", "[J", true)
  | 1 => ("DrawnGates$Layout", "pieces", "[J", true)
  | 2 => ("DrawnGates$Layout", "pieceLayer", "[I", true)
  | 3 => ("DrawnGates$Layout", "leastJoined", "[I", true)
  | 4 => ("DrawnGates$Layout", "pieceNode", "[I", true)
  | 5 => ("DrawnGates$Layout", "wires", "[[J", true)
  | 6 => ("DrawnGates$Layout", "nodeHang", "[I", true)
  | 7 => ("DrawnGates$Layout", "gateCells", "[J", true)
  | 8 => ("DrawnGates$Layout", "gateNode", "[I", true)
  | 9 => ("DrawnGates$Layout", "gateA", "[I", true)
  | 10 => ("DrawnGates$Layout", "gateB", "[I", true)
  | 11 => ("DrawnGates$Layout", "gateSides", "[I", true)
  | 12 => ("DrawnGates$Layout", "pieceCount", "I", false)
  | 13 => ("DrawnGates$Layout", "nodeCount", "I", false)
  | 14 => ("DrawnGates$Layout", "gateCount", "I", false)
  | _ => ("DrawnGates$Layout", "brokenCount", "I", false)
def tyX0 : Nat → FieldType := fun k => match k with
  | 0 => .array .long
  | 1 => .array .long
  | 2 => .array .int
  | 3 => .array .int
  | 4 => .array .int
  | 5 => .array (.array .long)
  | 6 => .array .int
  | 7 => .array .long
  | 8 => .array .int
  | 9 => .array .int
  | 10 => .array .int
  | 11 => .array .int
  | 12 => .int
  | 13 => .int
  | 14 => .int
  | _ => .int
theorem nmX0 : ∀ a, a < 16 → ∀ b, b < 16 → a ≠ b → (TX0 a).2.1 ≠ (TX0 b).2.1 := by decide +kernel
theorem tyX0_ok : ∀ k, k < 16 → parseFieldDescriptor (TX0 k).2.2.1 = some (tyX0 k) := by decide +kernel
abbrev cX0_init : ByteArray := prog_2_method_1_code
def yX0_init : MethodName := ⟨RX0, "<init>", "()V"⟩
abbrev cX0_refresh : ByteArray := prog_2_method_2_code
def yX0_refresh : MethodName := ⟨RX0, "refresh", "([J)V"⟩
abbrev cX0_nodeWith : ByteArray := prog_2_method_3_code
def yX0_nodeWith : MethodName := ⟨RX0, "nodeWith", "(IJ)I"⟩
abbrev cX0_gateWith : ByteArray := prog_2_method_4_code
def yX0_gateWith : MethodName := ⟨RX0, "gateWith", "(J)I"⟩
abbrev cX0_pinNode : ByteArray := prog_2_method_5_code
def yX0_pinNode : MethodName := ⟨RX0, "pinNode", "(LDrawnGates$Plan;I)I"⟩
abbrev cX0_countShorts : ByteArray := prog_2_method_6_code
def yX0_countShorts : MethodName := ⟨RX0, "countShorts", "(LDrawnGates$Plan;)I"⟩
abbrev cX0_countOpens : ByteArray := prog_2_method_7_code
def yX0_countOpens : MethodName := ⟨RX0, "countOpens", "(LDrawnGates$Plan;)I"⟩
abbrev cX0_tellGate : ByteArray := prog_2_method_8_code
def yX0_tellGate : MethodName := ⟨RX0, "tellGate", "(II)I"⟩
abbrev cX0_mixInto : ByteArray := prog_2_method_9_code
def yX0_mixInto : MethodName := ⟨RX0, "mixInto", "(J)J"⟩
abbrev cX0_sizeOf : ByteArray := prog_2_method_10_code
def yX0_sizeOf : MethodName := ⟨RX0, "sizeOf", "(I)I"⟩
abbrev cX0_hangOf : ByteArray := prog_2_method_11_code
def yX0_hangOf : MethodName := ⟨RX0, "hangOf", "(I)I"⟩
abbrev cX0_isWell : ByteArray := prog_2_method_12_code
def yX0_isWell : MethodName := ⟨RX0, "isWell", "(I)Z"⟩
abbrev cX0_isAsRead : ByteArray := prog_2_method_13_code
def yX0_isAsRead : MethodName := ⟨RX0, "isAsRead", "([J)Z"⟩
abbrev cX0_cellsOf : ByteArray := prog_2_method_14_code
def yX0_cellsOf : MethodName := ⟨RX0, "cellsOf", "(I)J"⟩
abbrev cX0_findPieces : ByteArray := prog_2_method_15_code
def yX0_findPieces : MethodName := ⟨RX0, "findPieces", "()V"⟩
abbrev cX0_joinPieces : ByteArray := prog_2_method_16_code
def yX0_joinPieces : MethodName := ⟨RX0, "joinPieces", "()V"⟩
abbrev cX0_joinBelow : ByteArray := prog_2_method_17_code
def yX0_joinBelow : MethodName := ⟨RX0, "joinBelow", "(I)V"⟩
abbrev cX0_join : ByteArray := prog_2_method_18_code
def yX0_join : MethodName := ⟨RX0, "join", "(II)V"⟩
abbrev cX0_numberNodes : ByteArray := prog_2_method_19_code
def yX0_numberNodes : MethodName := ⟨RX0, "numberNodes", "()V"⟩
abbrev cX0_openNode : ByteArray := prog_2_method_20_code
def yX0_openNode : MethodName := ⟨RX0, "openNode", "()V"⟩
abbrev cX0_findGates : ByteArray := prog_2_method_21_code
def yX0_findGates : MethodName := ⟨RX0, "findGates", "()V"⟩
abbrev cX0_findSides : ByteArray := prog_2_method_22_code
def yX0_findSides : MethodName := ⟨RX0, "findSides", "(I)V"⟩
abbrev cX0_weighNodes : ByteArray := prog_2_method_23_code
def yX0_weighNodes : MethodName := ⟨RX0, "weighNodes", "()V"⟩
abbrev cX0_addHang : ByteArray := prog_2_method_24_code
def yX0_addHang : MethodName := ⟨RX0, "addHang", "(II)V"⟩
abbrev cX0_hangingTogether : ByteArray := prog_2_method_25_code
def yX0_hangingTogether : MethodName := ⟨RX0, "hangingTogether", "(J)J"⟩
abbrev cX0_besideOf : ByteArray := prog_2_method_26_code
def yX0_besideOf : MethodName := ⟨RX0, "besideOf", "(J)J"⟩
def RX1 : String := "DrawnGates$Matching"
def TX1 : u_T := fun k => match k with
  | 0 => ("DrawnGates$Matching", "plan", "LDrawnGates$Plan;", true)
  | 1 => ("DrawnGates$Matching", "drawn", "LDrawnGates$Layout;", true)
  | 2 => ("DrawnGates$Matching", "likes", "[I", true)
  | 3 => ("DrawnGates$Matching", "gateOf", "[I", true)
  | 4 => ("DrawnGates$Matching", "nodesOf", "[[I", true)
  | 5 => ("DrawnGates$Matching", "taken", "I", false)
  | 6 => ("DrawnGates$Matching", "firstGates", "[I", true)
  | 7 => ("DrawnGates$Matching", "firstNodes", "[I", true)
  | 8 => ("DrawnGates$Matching", "found", "I", false)
  | _ => ("DrawnGates$Matching", "unlike", "I", false)
def tyX1 : Nat → FieldType := fun k => match k with
  | 0 => .object "DrawnGates$Plan"
  | 1 => .object "DrawnGates$Layout"
  | 2 => .array .int
  | 3 => .array .int
  | 4 => .array (.array .int)
  | 5 => .int
  | 6 => .array .int
  | 7 => .array .int
  | 8 => .int
  | _ => .int
theorem nmX1 : ∀ a, a < 10 → ∀ b, b < 10 → a ≠ b → (TX1 a).2.1 ≠ (TX1 b).2.1 := by decide +kernel
theorem tyX1_ok : ∀ k, k < 10 → parseFieldDescriptor (TX1 k).2.2.1 = some (tyX1 k) := by decide +kernel
abbrev cX1_init : ByteArray := prog_3_method_1_code
def yX1_init : MethodName := ⟨RX1, "<init>", "(LDrawnGates$Plan;LDrawnGates$Layout;)V"⟩
abbrev cX1_run : ByteArray := prog_3_method_2_code
def yX1_run : MethodName := ⟨RX1, "run", "()V"⟩
abbrev cX1_mixInto : ByteArray := prog_3_method_3_code
def yX1_mixInto : MethodName := ⟨RX1, "mixInto", "(J)J"⟩
abbrev cX1_findLikes : ByteArray := prog_3_method_4_code
def yX1_findLikes : MethodName := ⟨RX1, "findLikes", "()V"⟩
abbrev cX1_isLike : ByteArray := prog_3_method_5_code
def yX1_isLike : MethodName := ⟨RX1, "isLike", "(II)Z"⟩
abbrev cX1_countLeftOver : ByteArray := prog_3_method_6_code
def yX1_countLeftOver : MethodName := ⟨RX1, "countLeftOver", "()I"⟩
abbrev cX1_tiePins : ByteArray := prog_3_method_7_code
def yX1_tiePins : MethodName := ⟨RX1, "tiePins", "([I)Z"⟩
abbrev cX1_place : ByteArray := prog_3_method_8_code
def yX1_place : MethodName := ⟨RX1, "place", "(LDrawnGates$Matching;I)V"⟩
abbrev cX1_turn : ByteArray := prog_3_method_9_code
def yX1_turn : MethodName := ⟨RX1, "turn", "(LDrawnGates$Matching;I)V"⟩
abbrev cX1_tieSides : ByteArray := prog_3_method_10_code
def yX1_tieSides : MethodName := ⟨RX1, "tieSides", "(III)Z"⟩
abbrev cX1_tie : ByteArray := prog_3_method_11_code
def yX1_tie : MethodName := ⟨RX1, "tie", "([III)Z"⟩
abbrev cX1_record : ByteArray := prog_3_method_12_code
def yX1_record : MethodName := ⟨RX1, "record", "([I)V"⟩
abbrev cX1_isBeforeFirst : ByteArray := prog_3_method_13_code
def yX1_isBeforeFirst : MethodName := ⟨RX1, "isBeforeFirst", "([I)Z"⟩
def RX2 : String := "DrawnGates$Plan"
def TX2 : u_T := fun k => match k with
  | 0 => ("DrawnGates$Plan", "layers", "[J", true)
  | 1 => ("DrawnGates$Plan", "devices", "[I", true)
  | 2 => ("DrawnGates$Plan", "ties", "[I", true)
  | 3 => ("DrawnGates$Plan", "deviceCount", "I", false)
  | _ => ("DrawnGates$Plan", "pinCount", "I", false)
def tyX2 : Nat → FieldType := fun k => match k with
  | 0 => .array .long
  | 1 => .array .int
  | 2 => .array .int
  | 3 => .int
  | _ => .int
theorem nmX2 : ∀ a, a < 5 → ∀ b, b < 5 → a ≠ b → (TX2 a).2.1 ≠ (TX2 b).2.1 := by decide +kernel
theorem tyX2_ok : ∀ k, k < 5 → parseFieldDescriptor (TX2 k).2.2.1 = some (tyX2 k) := by decide +kernel
abbrev cX2_init : ByteArray := prog_4_method_1_code
def yX2_init : MethodName := ⟨RX2, "<init>", "()V"⟩
abbrev cX2_take : ByteArray := prog_4_method_2_code
def yX2_take : MethodName := ⟨RX2, "take", "(LDrawnGates$Plan;)V"⟩
abbrev cX2_paint : ByteArray := prog_4_method_3_code
def yX2_paint : MethodName := ⟨RX2, "paint", "(IIIII)I"⟩
abbrev cX2_erase : ByteArray := prog_4_method_4_code
def yX2_erase : MethodName := ⟨RX2, "erase", "(IIIII)I"⟩
abbrev cX2_shift : ByteArray := prog_4_method_5_code
def yX2_shift : MethodName := ⟨RX2, "shift", "(III)I"⟩
abbrev cX2_addDevice : ByteArray := prog_4_method_6_code
def yX2_addDevice : MethodName := ⟨RX2, "addDevice", "(III)I"⟩
abbrev cX2_addPin : ByteArray := prog_4_method_7_code
def yX2_addPin : MethodName := ⟨RX2, "addPin", "(III)I"⟩
abbrev cX2_dropMeant : ByteArray := prog_4_method_8_code
def yX2_dropMeant : MethodName := ⟨RX2, "dropMeant", "()I"⟩
abbrev cX2_gateNet : ByteArray := prog_4_method_9_code
def yX2_gateNet : MethodName := ⟨RX2, "gateNet", "(I)I"⟩
abbrev cX2_sideA : ByteArray := prog_4_method_10_code
def yX2_sideA : MethodName := ⟨RX2, "sideA", "(I)I"⟩
abbrev cX2_sideB : ByteArray := prog_4_method_11_code
def yX2_sideB : MethodName := ⟨RX2, "sideB", "(I)I"⟩
abbrev cX2_pinBit : ByteArray := prog_4_method_12_code
def yX2_pinBit : MethodName := ⟨RX2, "pinBit", "(I)J"⟩
abbrev cX2_pinNet : ByteArray := prog_4_method_13_code
def yX2_pinNet : MethodName := ⟨RX2, "pinNet", "(I)I"⟩
abbrev cX2_hangOf : ByteArray := prog_4_method_14_code
def yX2_hangOf : MethodName := ⟨RX2, "hangOf", "(I)I"⟩
abbrev cX2_putThree : ByteArray := prog_4_method_15_code
def yX2_putThree : MethodName := ⟨RX2, "putThree", "([IIIII)V"⟩
abbrev cX2_isStep : ByteArray := prog_4_method_16_code
def yX2_isStep : MethodName := ⟨RX2, "isStep", "(I)Z"⟩
abbrev cX2_isBox : ByteArray := prog_4_method_17_code
def yX2_isBox : MethodName := ⟨RX2, "isBox", "(IIII)Z"⟩
abbrev cX2_boxBits : ByteArray := prog_4_method_18_code
def yX2_boxBits : MethodName := ⟨RX2, "boxBits", "(IIII)J"⟩
def RX3 : String := "DrawnGates$Text"
def TX3 : u_T := fun k => match k with
  | 0 => ("DrawnGates$Text", "bytes", "[B", true)
  | 1 => ("DrawnGates$Text", "figures", "[I", true)
  | _ => ("DrawnGates$Text", "length", "I", false)
def tyX3 : Nat → FieldType := fun k => match k with
  | 0 => .array .byte
  | 1 => .array .int
  | _ => .int
theorem nmX3 : ∀ a, a < 3 → ∀ b, b < 3 → a ≠ b → (TX3 a).2.1 ≠ (TX3 b).2.1 := by decide +kernel
theorem tyX3_ok : ∀ k, k < 3 → parseFieldDescriptor (TX3 k).2.2.1 = some (tyX3 k) := by decide +kernel
abbrev cX3_init : ByteArray := prog_5_method_1_code
def yX3_init : MethodName := ⟨RX3, "<init>", "()V"⟩
abbrev cX3_add : ByteArray := prog_5_method_2_code
def yX3_add : MethodName := ⟨RX3, "add", "(I)I"⟩
abbrev cX3_findFault : ByteArray := prog_5_method_3_code
def yX3_findFault : MethodName := ⟨RX3, "findFault", "()I"⟩
abbrev cX3_perform : ByteArray := prog_5_method_4_code
def yX3_perform : MethodName := ⟨RX3, "perform", "(LDrawnGates$Plan;)I"⟩
abbrev cX3_performOne : ByteArray := prog_5_method_5_code
def yX3_performOne : MethodName := ⟨RX3, "performOne", "(LDrawnGates$Plan;I)I"⟩
abbrev cX3_canStand : ByteArray := prog_5_method_6_code
def yX3_canStand : MethodName := ⟨RX3, "canStand", "(II)Z"⟩
abbrev cX3_figuresOf : ByteArray := prog_5_method_7_code
def yX3_figuresOf : MethodName := ⟨RX3, "figuresOf", "(I)I"⟩
def RX4 : String := "DrawnGates"
def TX4 : u_T := fun k => match k with
  | 0 => ("DrawnGates", "plan", "LDrawnGates$Plan;", true)
  | 1 => ("DrawnGates", "before", "LDrawnGates$Plan;", true)
  | 2 => ("DrawnGates", "states", "[LDrawnGates$Plan;", true)
  | 3 => ("DrawnGates", "layout", "LDrawnGates$Layout;", true)
  | 4 => ("DrawnGates", "matching", "LDrawnGates$Matching;", true)
  | 5 => ("DrawnGates", "text", "LDrawnGates$Text;", true)
  | 6 => ("DrawnGates", "refusals", "[I", true)
  | 7 => ("DrawnGates", "stateCount", "I", false)
  | _ => ("DrawnGates", "searched", "Z", false)
def tyX4 : Nat → FieldType := fun k => match k with
  | 0 => .object "DrawnGates$Plan"
  | 1 => .object "DrawnGates$Plan"
  | 2 => .array (.object "DrawnGates$Plan")
  | 3 => .object "DrawnGates$Layout"
  | 4 => .object "DrawnGates$Matching"
  | 5 => .object "DrawnGates$Text"
  | 6 => .array .int
  | 7 => .int
  | _ => .boolean
theorem nmX4 : ∀ a, a < 9 → ∀ b, b < 9 → a ≠ b → (TX4 a).2.1 ≠ (TX4 b).2.1 := by decide +kernel
theorem tyX4_ok : ∀ k, k < 9 → parseFieldDescriptor (TX4 k).2.2.1 = some (tyX4 k) := by decide +kernel
abbrev cX4_init : ByteArray := prog_1_method_1_code
def yX4_init : MethodName := ⟨RX4, "<init>", "()V"⟩
abbrev cX4_draws : ByteArray := prog_1_method_2_code
def yX4_draws : MethodName := ⟨RX4, "draws", "(IIIII)I"⟩
abbrev cX4_rubs : ByteArray := prog_1_method_3_code
def yX4_rubs : MethodName := ⟨RX4, "rubs", "(IIIII)I"⟩
abbrev cX4_moves : ByteArray := prog_1_method_4_code
def yX4_moves : MethodName := ⟨RX4, "moves", "(III)I"⟩
abbrev cX4_means : ByteArray := prog_1_method_5_code
def yX4_means : MethodName := ⟨RX4, "means", "(III)I"⟩
abbrev cX4_pins : ByteArray := prog_1_method_6_code
def yX4_pins : MethodName := ⟨RX4, "pins", "(III)I"⟩
abbrev cX4_forgets : ByteArray := prog_1_method_7_code
def yX4_forgets : MethodName := ⟨RX4, "forgets", "()I"⟩
abbrev cX4_at : ByteArray := prog_1_method_8_code
def yX4_at : MethodName := ⟨RX4, "at", "(III)I"⟩
abbrev cX4_node : ByteArray := prog_1_method_9_code
def yX4_node : MethodName := ⟨RX4, "node", "(III)I"⟩
abbrev cX4_count : ByteArray := prog_1_method_10_code
def yX4_count : MethodName := ⟨RX4, "count", "(I)I"⟩
abbrev cX4_gateAt : ByteArray := prog_1_method_11_code
def yX4_gateAt : MethodName := ⟨RX4, "gateAt", "(II)I"⟩
abbrev cX4_gate : ByteArray := prog_1_method_12_code
def yX4_gate : MethodName := ⟨RX4, "gate", "(II)I"⟩
abbrev cX4_wire : ByteArray := prog_1_method_13_code
def yX4_wire : MethodName := ⟨RX4, "wire", "(II)I"⟩
abbrev cX4_ways : ByteArray := prog_1_method_14_code
def yX4_ways : MethodName := ⟨RX4, "ways", "()I"⟩
abbrev cX4_matched : ByteArray := prog_1_method_15_code
def yX4_matched : MethodName := ⟨RX4, "matched", "(I)I"⟩
abbrev cX4_net : ByteArray := prog_1_method_16_code
def yX4_net : MethodName := ⟨RX4, "net", "(I)I"⟩
abbrev cX4_device : ByteArray := prog_1_method_17_code
def yX4_device : MethodName := ⟨RX4, "device", "(II)I"⟩
abbrev cX4_pin : ByteArray := prog_1_method_18_code
def yX4_pin : MethodName := ⟨RX4, "pin", "(II)I"⟩
abbrev cX4_hangs : ByteArray := prog_1_method_19_code
def yX4_hangs : MethodName := ⟨RX4, "hangs", "(I)I"⟩
abbrev cX4_type : ByteArray := prog_1_method_20_code
def yX4_type : MethodName := ⟨RX4, "type", "(I)I"⟩
abbrev cX4_clear : ByteArray := prog_1_method_21_code
def yX4_clear : MethodName := ⟨RX4, "clear", "()I"⟩
abbrev cX4_does : ByteArray := prog_1_method_22_code
def yX4_does : MethodName := ⟨RX4, "does", "()I"⟩
abbrev cX4_back : ByteArray := prog_1_method_23_code
def yX4_back : MethodName := ⟨RX4, "back", "()I"⟩
abbrev cX4_told : ByteArray := prog_1_method_24_code
def yX4_told : MethodName := ⟨RX4, "told", "(I)I"⟩
abbrev cX4_digest : ByteArray := prog_1_method_25_code
def yX4_digest : MethodName := ⟨RX4, "digest", "()J"⟩
abbrev cX4_settle : ByteArray := prog_1_method_26_code
def yX4_settle : MethodName := ⟨RX4, "settle", "(I)I"⟩
abbrev cX4_keepBefore : ByteArray := prog_1_method_27_code
def yX4_keepBefore : MethodName := ⟨RX4, "keepBefore", "()V"⟩
abbrev cX4_dropOldestState : ByteArray := prog_1_method_28_code
def yX4_dropOldestState : MethodName := ⟨RX4, "dropOldestState", "()V"⟩
abbrev cX4_refuse : ByteArray := prog_1_method_29_code
def yX4_refuse : MethodName := ⟨RX4, "refuse", "(I)I"⟩
abbrev cX4_readLayout : ByteArray := prog_1_method_30_code
def yX4_readLayout : MethodName := ⟨RX4, "readLayout", "()LDrawnGates$Layout;"⟩
abbrev cX4_search : ByteArray := prog_1_method_31_code
def yX4_search : MethodName := ⟨RX4, "search", "()LDrawnGates$Matching;"⟩
abbrev cX4_isWithin : ByteArray := prog_1_method_32_code
def yX4_isWithin : MethodName := ⟨RX4, "isWithin", "(II)Z"⟩
abbrev cX4_isCell : ByteArray := prog_1_method_33_code
def yX4_isCell : MethodName := ⟨RX4, "isCell", "(II)Z"⟩
abbrev cX4_cellBit : ByteArray := prog_1_method_34_code
def yX4_cellBit : MethodName := ⟨RX4, "cellBit", "(II)J"⟩
def RX5 : String := "DrawnGatesModel"
def TX5 : u_T := fun k => match k with
  | 0 => ("DrawnGatesModel", "now", "[I", true)
  | 1 => ("DrawnGatesModel", "held", "[I", true)
  | 2 => ("DrawnGatesModel", "past", "[I", true)
  | 3 => ("DrawnGatesModel", "pasts", "I", false)
  | 4 => ("DrawnGatesModel", "refused", "[I", true)
  | 5 => ("DrawnGatesModel", "isLaid", "Z", false)
  | 6 => ("DrawnGatesModel", "nodeOf", "[I", true)
  | 7 => ("DrawnGatesModel", "nodeMany", "I", false)
  | 8 => ("DrawnGatesModel", "pieceMany", "I", false)
  | 9 => ("DrawnGatesModel", "gateOf", "[I", true)
  | 10 => ("DrawnGatesModel", "gateMany", "I", false)
  | 11 => ("DrawnGatesModel", "row", "[I", true)
  | 12 => ("DrawnGatesModel", "rowMany", "I", false)
  | 13 => ("DrawnGatesModel", "gates", "[I", true)
  | 14 => ("DrawnGatesModel", "wayMany", "I", false)
  | 15 => ("DrawnGatesModel", "best", "[I", true)
  | 16 => ("DrawnGatesModel", "choice", "[I", true)
  | 17 => ("DrawnGatesModel", "netAt", "[I", true)
  | 18 => ("DrawnGatesModel", "text", "[I", true)
  | 19 => ("DrawnGatesModel", "typed", "I", false)
  | 20 => ("DrawnGatesModel", "at", "I", false)
  | 21 => ("DrawnGatesModel", "fault", "I", false)
  | 22 => ("DrawnGatesModel", "orders", "I", false)
  | 23 => ("DrawnGatesModel", "letters", "[I", true)
  | 24 => ("DrawnGatesModel", "numbers", "[I", true)
  | _ => ("DrawnGatesModel", "h", "J", false)
def tyX5 : Nat → FieldType := fun k => match k with
  | 0 => .array .int
  | 1 => .array .int
  | 2 => .array .int
  | 3 => .int
  | 4 => .array .int
  | 5 => .boolean
  | 6 => .array .int
  | 7 => .int
  | 8 => .int
  | 9 => .array .int
  | 10 => .int
  | 11 => .array .int
  | 12 => .int
  | 13 => .array .int
  | 14 => .int
  | 15 => .array .int
  | 16 => .array .int
  | 17 => .array .int
  | 18 => .array .int
  | 19 => .int
  | 20 => .int
  | 21 => .int
  | 22 => .int
  | 23 => .array .int
  | 24 => .array .int
  | _ => .long
theorem nmX5 : ∀ a, a < 26 → ∀ b, b < 26 → a ≠ b → (TX5 a).2.1 ≠ (TX5 b).2.1 := by decide +kernel
theorem tyX5_ok : ∀ k, k < 26 → parseFieldDescriptor (TX5 k).2.2.1 = some (tyX5 k) := by decide +kernel
abbrev cX5_init : ByteArray := prog_7_method_1_code
def yX5_init : MethodName := ⟨RX5, "<init>", "()V"⟩
abbrev cX5_in : ByteArray := prog_7_method_2_code
def yX5_in : MethodName := ⟨RX5, "in", "(III)Z"⟩
abbrev cX5_refuses : ByteArray := prog_7_method_3_code
def yX5_refuses : MethodName := ⟨RX5, "refuses", "(I)I"⟩
abbrev cX5_hold : ByteArray := prog_7_method_4_code
def yX5_hold : MethodName := ⟨RX5, "hold", "()V"⟩
abbrev cX5_push : ByteArray := prog_7_method_5_code
def yX5_push : MethodName := ⟨RX5, "push", "()V"⟩
abbrev cX5_ends : ByteArray := prog_7_method_6_code
def yX5_ends : MethodName := ⟨RX5, "ends", "(I)I"⟩
abbrev cX5_back : ByteArray := prog_7_method_7_code
def yX5_back : MethodName := ⟨RX5, "back", "()I"⟩
abbrev cX5_isDrawn : ByteArray := prog_7_method_8_code
def yX5_isDrawn : MethodName := ⟨RX5, "isDrawn", "(II)Z"⟩
abbrev cX5_flip : ByteArray := prog_7_method_9_code
def yX5_flip : MethodName := ⟨RX5, "flip", "(II)V"⟩
abbrev cX5_isCell : ByteArray := prog_7_method_10_code
def yX5_isCell : MethodName := ⟨RX5, "isCell", "(II)Z"⟩
abbrev cX5_paint : ByteArray := prog_7_method_11_code
def yX5_paint : MethodName := ⟨RX5, "paint", "(IIIIIZ)I"⟩
abbrev cX5_doMoves : ByteArray := prog_7_method_12_code
def yX5_doMoves : MethodName := ⟨RX5, "doMoves", "(III)I"⟩
abbrev cX5_isNet : ByteArray := prog_7_method_13_code
def yX5_isNet : MethodName := ⟨RX5, "isNet", "(I)Z"⟩
abbrev cX5_doMeans : ByteArray := prog_7_method_14_code
def yX5_doMeans : MethodName := ⟨RX5, "doMeans", "(III)I"⟩
abbrev cX5_add : ByteArray := prog_7_method_15_code
def yX5_add : MethodName := ⟨RX5, "add", "(IIII)I"⟩
abbrev cX5_doPins : ByteArray := prog_7_method_16_code
def yX5_doPins : MethodName := ⟨RX5, "doPins", "(III)I"⟩
abbrev cX5_doForgets : ByteArray := prog_7_method_17_code
def yX5_doForgets : MethodName := ⟨RX5, "doForgets", "()I"⟩
abbrev cX5_draws : ByteArray := prog_7_method_18_code
def yX5_draws : MethodName := ⟨RX5, "draws", "(IIIII)I"⟩
abbrev cX5_rubs : ByteArray := prog_7_method_19_code
def yX5_rubs : MethodName := ⟨RX5, "rubs", "(IIIII)I"⟩
abbrev cX5_moves : ByteArray := prog_7_method_20_code
def yX5_moves : MethodName := ⟨RX5, "moves", "(III)I"⟩
abbrev cX5_means : ByteArray := prog_7_method_21_code
def yX5_means : MethodName := ⟨RX5, "means", "(III)I"⟩
abbrev cX5_pins : ByteArray := prog_7_method_22_code
def yX5_pins : MethodName := ⟨RX5, "pins", "(III)I"⟩
abbrev cX5_forgets : ByteArray := prog_7_method_23_code
def yX5_forgets : MethodName := ⟨RX5, "forgets", "()I"⟩
abbrev cX5_isGateCell : ByteArray := prog_7_method_24_code
def yX5_isGateCell : MethodName := ⟨RX5, "isGateCell", "(I)Z"⟩
abbrev cX5_isWire : ByteArray := prog_7_method_25_code
def yX5_isWire : MethodName := ⟨RX5, "isWire", "(I)Z"⟩
abbrev cX5_beside : ByteArray := prog_7_method_26_code
def yX5_beside : MethodName := ⟨RX5, "beside", "(II)I"⟩
abbrev cX5_take : ByteArray := prog_7_method_27_code
def yX5_take : MethodName := ⟨RX5, "take", "(II)V"⟩
abbrev cX5_hang : ByteArray := prog_7_method_28_code
def yX5_hang : MethodName := ⟨RX5, "hang", "(Z)I"⟩
abbrev cX5_goFrom : ByteArray := prog_7_method_29_code
def yX5_goFrom : MethodName := ⟨RX5, "goFrom", "(IIZ)V"⟩
abbrev cX5_findGates : ByteArray := prog_7_method_30_code
def yX5_findGates : MethodName := ⟨RX5, "findGates", "()V"⟩
abbrev cX5_goGate : ByteArray := prog_7_method_31_code
def yX5_goGate : MethodName := ⟨RX5, "goGate", "(I)V"⟩
abbrev cX5_ofGate : ByteArray := prog_7_method_32_code
def yX5_ofGate : MethodName := ⟨RX5, "ofGate", "(II)I"⟩
abbrev cX5_findSides : ByteArray := prog_7_method_33_code
def yX5_findSides : MethodName := ⟨RX5, "findSides", "()V"⟩
abbrev cX5_isSide : ByteArray := prog_7_method_34_code
def yX5_isSide : MethodName := ⟨RX5, "isSide", "(II)Z"⟩
abbrev cX5_countSides : ByteArray := prog_7_method_35_code
def yX5_countSides : MethodName := ⟨RX5, "countSides", "(I)V"⟩
abbrev cX5_isWell : ByteArray := prog_7_method_36_code
def yX5_isWell : MethodName := ⟨RX5, "isWell", "(I)Z"⟩
abbrev cX5_lay : ByteArray := prog_7_method_37_code
def yX5_lay : MethodName := ⟨RX5, "lay", "()V"⟩
abbrev cX5_at : ByteArray := prog_7_method_38_code
def yX5_at : MethodName := ⟨RX5, "at", "(III)I"⟩
abbrev cX5_node : ByteArray := prog_7_method_39_code
def yX5_node : MethodName := ⟨RX5, "node", "(III)I"⟩
abbrev cX5_ofDevice : ByteArray := prog_7_method_40_code
def yX5_ofDevice : MethodName := ⟨RX5, "ofDevice", "(II)I"⟩
abbrev cX5_ofPin : ByteArray := prog_7_method_41_code
def yX5_ofPin : MethodName := ⟨RX5, "ofPin", "(II)I"⟩
abbrev cX5_pinNode : ByteArray := prog_7_method_42_code
def yX5_pinNode : MethodName := ⟨RX5, "pinNode", "(I)I"⟩
abbrev cX5_pairs : ByteArray := prog_7_method_43_code
def yX5_pairs : MethodName := ⟨RX5, "pairs", "(Z)I"⟩
abbrev cX5_netHangs : ByteArray := prog_7_method_44_code
def yX5_netHangs : MethodName := ⟨RX5, "netHangs", "(I)I"⟩
abbrev cX5_nodeHangs : ByteArray := prog_7_method_45_code
def yX5_nodeHangs : MethodName := ⟨RX5, "nodeHangs", "(I)I"⟩
abbrev cX5_kind : ByteArray := prog_7_method_46_code
def yX5_kind : MethodName := ⟨RX5, "kind", "(III)I"⟩
abbrev cX5_kindOfDevice : ByteArray := prog_7_method_47_code
def yX5_kindOfDevice : MethodName := ⟨RX5, "kindOfDevice", "(I)I"⟩
abbrev cX5_kindOfGate : ByteArray := prog_7_method_48_code
def yX5_kindOfGate : MethodName := ⟨RX5, "kindOfGate", "(I)I"⟩
abbrev cX5_wells : ByteArray := prog_7_method_49_code
def yX5_wells : MethodName := ⟨RX5, "wells", "()I"⟩
abbrev cX5_unlike : ByteArray := prog_7_method_50_code
def yX5_unlike : MethodName := ⟨RX5, "unlike", "()I"⟩
abbrev cX5_counted : ByteArray := prog_7_method_51_code
def yX5_counted : MethodName := ⟨RX5, "counted", "(I)I"⟩
abbrev cX5_count : ByteArray := prog_7_method_52_code
def yX5_count : MethodName := ⟨RX5, "count", "(I)I"⟩
abbrev cX5_gateAt : ByteArray := prog_7_method_53_code
def yX5_gateAt : MethodName := ⟨RX5, "gateAt", "(II)I"⟩
abbrev cX5_gate : ByteArray := prog_7_method_54_code
def yX5_gate : MethodName := ⟨RX5, "gate", "(II)I"⟩
abbrev cX5_wireOf : ByteArray := prog_7_method_55_code
def yX5_wireOf : MethodName := ⟨RX5, "wireOf", "(II)I"⟩
abbrev cX5_wire : ByteArray := prog_7_method_56_code
def yX5_wire : MethodName := ⟨RX5, "wire", "(II)I"⟩
abbrev cX5_isBegun : ByteArray := prog_7_method_57_code
def yX5_isBegun : MethodName := ⟨RX5, "isBegun", "()Z"⟩
abbrev cX5_isPut : ByteArray := prog_7_method_58_code
def yX5_isPut : MethodName := ⟨RX5, "isPut", "(III)Z"⟩
abbrev cX5_isChosen : ByteArray := prog_7_method_59_code
def yX5_isChosen : MethodName := ⟨RX5, "isChosen", "(II)Z"⟩
abbrev cX5_found : ByteArray := prog_7_method_60_code
def yX5_found : MethodName := ⟨RX5, "found", "()V"⟩
abbrev cX5_findMatches : ByteArray := prog_7_method_61_code
def yX5_findMatches : MethodName := ⟨RX5, "findMatches", "()V"⟩
abbrev cX5_waysOf : ByteArray := prog_7_method_62_code
def yX5_waysOf : MethodName := ⟨RX5, "waysOf", "()I"⟩
abbrev cX5_ways : ByteArray := prog_7_method_63_code
def yX5_ways : MethodName := ⟨RX5, "ways", "()I"⟩
abbrev cX5_isDevice : ByteArray := prog_7_method_64_code
def yX5_isDevice : MethodName := ⟨RX5, "isDevice", "(I)Z"⟩
abbrev cX5_matched : ByteArray := prog_7_method_65_code
def yX5_matched : MethodName := ⟨RX5, "matched", "(I)I"⟩
abbrev cX5_net : ByteArray := prog_7_method_66_code
def yX5_net : MethodName := ⟨RX5, "net", "(I)I"⟩
abbrev cX5_device : ByteArray := prog_7_method_67_code
def yX5_device : MethodName := ⟨RX5, "device", "(II)I"⟩
abbrev cX5_pin : ByteArray := prog_7_method_68_code
def yX5_pin : MethodName := ⟨RX5, "pin", "(II)I"⟩
abbrev cX5_hangs : ByteArray := prog_7_method_69_code
def yX5_hangs : MethodName := ⟨RX5, "hangs", "(I)I"⟩
abbrev cX5_type : ByteArray := prog_7_method_70_code
def yX5_type : MethodName := ⟨RX5, "type", "(I)I"⟩
abbrev cX5_clear : ByteArray := prog_7_method_71_code
def yX5_clear : MethodName := ⟨RX5, "clear", "()I"⟩
abbrev cX5_here : ByteArray := prog_7_method_72_code
def yX5_here : MethodName := ⟨RX5, "here", "()I"⟩
abbrev cX5_must : ByteArray := prog_7_method_73_code
def yX5_must : MethodName := ⟨RX5, "must", "(Z)V"⟩
abbrev cX5_numbersOf : ByteArray := prog_7_method_74_code
def yX5_numbersOf : MethodName := ⟨RX5, "numbersOf", "(I)I"⟩
abbrev cX5_readOrder : ByteArray := prog_7_method_75_code
def yX5_readOrder : MethodName := ⟨RX5, "readOrder", "()V"⟩
abbrev cX5_doOrder : ByteArray := prog_7_method_76_code
def yX5_doOrder : MethodName := ⟨RX5, "doOrder", "(I)I"⟩
abbrev cX5_does : ByteArray := prog_7_method_77_code
def yX5_does : MethodName := ⟨RX5, "does", "()I"⟩
abbrev cX5_toldOf : ByteArray := prog_7_method_78_code
def yX5_toldOf : MethodName := ⟨RX5, "toldOf", "(I)I"⟩
abbrev cX5_told : ByteArray := prog_7_method_79_code
def yX5_told : MethodName := ⟨RX5, "told", "(I)I"⟩
abbrev cX5_mix : ByteArray := prog_7_method_80_code
def yX5_mix : MethodName := ⟨RX5, "mix", "(J)V"⟩
abbrev cX5_digest : ByteArray := prog_7_method_81_code
def yX5_digest : MethodName := ⟨RX5, "digest", "()J"⟩
def RJ6 : String := "java/lang/Integer"
abbrev cJ6_numberOfTrailingZeros_0f7a4 : ByteArray := prog_8_method_48_code
def yJ6_numberOfTrailingZeros_0f7a4 : MethodName := ⟨RJ6, "numberOfTrailingZeros", "(I)I"⟩
def RJ13 : String := "java/lang/Long"
abbrev cJ13_numberOfTrailingZeros_95d88 : ByteArray := prog_9_method_49_code
def yJ13_numberOfTrailingZeros_95d88 : MethodName := ⟨RJ13, "numberOfTrailingZeros", "(J)I"⟩
abbrev cJ13_bitCount_95d88 : ByteArray := prog_9_method_50_code
def yJ13_bitCount_95d88 : MethodName := ⟨RJ13, "bitCount", "(J)I"⟩
def RJ9 : String := "java/lang/Math"
abbrev cJ9_max_7cf53 : ByteArray := prog_10_method_65_code
def yJ9_max_7cf53 : MethodName := ⟨RJ9, "max", "(II)I"⟩
abbrev cJ9_min_7cf53 : ByteArray := prog_10_method_69_code
def yJ9_min_7cf53 : MethodName := ⟨RJ9, "min", "(II)I"⟩
def RJ10 : String := "java/lang/System"
def RJ7 : String := "java/util/Arrays"
abbrev cJ7_fill_53178 : ByteArray := prog_13_method_103_code
def yJ7_fill_53178 : MethodName := ⟨RJ7, "fill", "([II)V"⟩
def RL : String := "DrawnGatesLaw"
abbrev cL_law : ByteArray := code
def yL_law : MethodName := ⟨RL, "law", "([I)Z"⟩
end
section
/-! the words of the tables are all good; the fields' words -/
/-- the words that a call may hand on -/
def zTb : List Cond := lw_tbl.filter goodWord
theorem zk_in {w : Cond} (i : Nat) (h : lw_tbl[i]? = some w) (g : goodWord w = true) : w ∈ zTb := List.mem_filter.mpr ⟨List.mem_of_getElem? h, g⟩
theorem zk_gi {y : MethodName} {cc : ByteArray} {nL : Nat} {ret : Option FieldType} (h : Cond.code y cc nL ret ∈ zTb) : GoodIn zTb (Cond.code y cc nL ret :: zTb) := by
  intro w hw
  have hm : w ∈ zTb := by
    rcases List.mem_cons.mp hw with h' | h'
    · rw [h']; exact h
    · exact h'
  exact ⟨hm, good_of_word (List.mem_filter.mp hm).2⟩
set_option maxRecDepth 100000 in
theorem zk_w0 : ∀ w ∈ u_ws RX0 TX0 16, w ∈ zTb := by decide +kernel
set_option maxRecDepth 100000 in
theorem zk_w1 : ∀ w ∈ u_ws RX1 TX1 10, w ∈ zTb := by decide +kernel
set_option maxRecDepth 100000 in
theorem zk_w2 : ∀ w ∈ u_ws RX2 TX2 5, w ∈ zTb := by decide +kernel
set_option maxRecDepth 100000 in
theorem zk_w3 : ∀ w ∈ u_ws RX3 TX3 3, w ∈ zTb := by decide +kernel
set_option maxRecDepth 100000 in
theorem zk_w4 : ∀ w ∈ u_ws RX4 TX4 9, w ∈ zTb := by decide +kernel
set_option maxRecDepth 100000 in
theorem zk_w5 : ∀ w ∈ u_ws RX5 TX5 26, w ∈ zTb := by decide +kernel
/-! the state of an object: its int arrays by place, its long arrays by place, its int fields by slot, its long field -/
abbrev zOS : Type := (Nat → Nat → Int32) × (Nat → Nat → Int64) × (Nat → Int32) × Int64
/-- a component: the number of its class, its addresses (0 the object, then its arrays; others that it holds from 50 on), its state -/
abbrev zCm : Type := Nat × (Nat → Nat) × zOS
def zI (σ : zOS) (k : Nat) : Nat → Int32 := σ.1 k
def zL (σ : zOS) (k : Nat) : Nat → Int64 := σ.2.1 k
def zF (σ : zOS) (f : Nat) : Int32 := σ.2.2.1 f
def zH (σ : zOS) : Int64 := σ.2.2.2
def zsI (σ : zOS) (k : Nat) (a : Nat → Int32) : zOS := (va_up σ.1 k a, σ.2.1, σ.2.2.1, σ.2.2.2)
def zsL (σ : zOS) (k : Nat) (a : Nat → Int64) : zOS := (σ.1, va_up σ.2.1 k a, σ.2.2.1, σ.2.2.2)
def zsF (σ : zOS) (f : Nat) (v : Int32) : zOS := (σ.1, σ.2.1, va_up σ.2.2.1 f v, σ.2.2.2)
def zsH (σ : zOS) (v : Int64) : zOS := (σ.1, σ.2.1, σ.2.2.1, v)
/-! the classes -/
abbrev zcl : List vw_C := [(RX0, TX0, 16), (RX1, TX1, 10), (RX2, TX2, 5), (RX3, TX3, 3), (RX4, TX4, 9), (RX5, TX5, 26)]
def zRn (c : Nat) : String := match c with | 0 => RX0 | 1 => RX1 | 2 => RX2 | 3 => RX3 | 4 => RX4 | _ => RX5
def zTn (c : Nat) : u_T := match c with | 0 => TX0 | 1 => TX1 | 2 => TX2 | 3 => TX3 | 4 => TX4 | _ => TX5
def zTy (c : Nat) : Nat → FieldType := match c with | 0 => tyX0 | 1 => tyX1 | 2 => tyX2 | 3 => tyX3 | 4 => tyX4 | _ => tyX5
def znF (c : Nat) : Nat := match c with | 0 => 16 | 1 => 10 | 2 => 5 | 3 => 3 | 4 => 9 | _ => 26
def znA (c : Nat) : Nat := match c with | 0 => 15 | 1 => 18 | 2 => 3 | 3 => 2 | 4 => 2 | _ => 14
/-- what a field holds: 0 an int of the state, 1 the long, k + 2 the reference to address k -/
def zfk (c f : Nat) : Nat := match c with
  | 0 => if f < 12 then f + 3 else 0
  | 1 => match f with | 0 => 52 | 1 => 53 | 2 => 3 | 3 => 4 | 4 => 5 | 6 => 6 | 7 => 7 | _ => 0
  | 2 => if f < 3 then f + 3 else 0
  | 3 => if f < 2 then f + 3 else 0
  | 4 => match f with | 0 => 52 | 1 => 53 | 2 => 3 | 3 => 54 | 4 => 55 | 5 => 56 | 6 => 4 | _ => 0
  | _ => match f with | 0 => 3 | 1 => 4 | 2 => 5 | 4 => 6 | 6 => 7 | 9 => 8 | 11 => 9 | 13 => 10 | 15 => 11 | 16 => 12 | 17 => 13 | 18 => 14 | 23 => 15 | 24 => 16 | 25 => 1 | _ => 0
/-- an array's kind: 0 int, 1 long, 2 byte, 3 int[], 4 long[], 5 Plan -/
def zak (c k : Nat) : Nat := match c with
  | 0 => if k = 1 ∨ k = 2 ∨ k = 8 ∨ 13 ≤ k then 1 else if k = 6 then 4 else 0
  | 1 => if k = 3 then 3 else 0
  | 2 => if k = 1 then 1 else 0
  | 3 => if k = 1 then 2 else 0
  | 4 => if k = 1 then 5 else 0
  | _ => 0
def zln (c k : Nat) : Nat := match c with
  | 0 => if k = 1 then 4 else if k = 6 then 3 else if 8 ≤ k ∧ k ≤ 12 then 32 else 96
  | 1 => if k = 3 then 13 else if k = 1 ∨ k = 2 ∨ k = 4 then 6 else 10
  | 2 => if k = 1 then 4 else 18
  | 3 => if k = 1 then 150 else 5
  | 4 => if k = 1 then 5 else 3
  | _ => match k with | 1 => 46 | 2 => 46 | 3 => 230 | 4 => 3 | 5 => 192 | 6 => 64 | 7 => 192 | 8 => 192 | 9 => 16 | 10 => 7 | 11 => 70 | 12 => 150 | 13 => 80 | _ => 400
def zbs (c : Nat) : Nat := match c with | 0 => 13 | 1 => 6 | _ => 60
def zAr (c k kd n : Nat) : Prop := (0 < k ∧ k ≤ znA c) ∧ zak c k = kd ∧ zln c k = n
def zfv (c : Nat) (q : Nat → Nat) (σ : zOS) (f : Nat) : Value := match zfk c f with
  | 0 => .int (zF σ f)
  | 1 => .long (zH σ)
  | k + 2 => .ref (q k)
def zty (kA : Nat → ClassId) : List (ClassId × FieldType) := [(kA 0, .int), (kA 1, .long), (kA 2, .byte), (kA 3, .array .int), (kA 4, .array .long), (kA 5, .object RX2)]
def zce (kA : Nat → ClassId) (c : Nat) (q : Nat → Nat) (σ : zOS) (k : Nat) : va_E :=
  if k = 0 then .inr (c, (List.range (znF c)).map (zfv c q σ))
  else if zak c k = 1 then .inl (kA 1, zln c k, .inr (.inl (zL σ k)))
  else if zak c k < 3 then .inl (kA (zak c k), zln c k, .inl (zI σ k))
  else .inl (kA (zak c k), zln c k, .inr (.inr (.inr (.inr (fun i => if i < zln c k then some (q (zbs c + i)) else none)))))
def zco (kA : Nat → ClassId) (x : zCm) : va_W := (List.range (znA x.1 + 1)).map fun k => (x.2.1 k, zce kA x.1 x.2.1 x.2.2 k)
def zgw (kA : Nat → ClassId) (cs : List zCm) : va_W := cs.flatMap (zco kA)
theorem zcl_at {c : Nat} (h : c < 6) : zcl[c]? = some (zRn c, zTn c, znF c) := by
  match c, h with
  | 0, _ => rfl
  | 1, _ => rfl
  | 2, _ => rfl
  | 3, _ => rfl
  | 4, _ => rfl
  | 5, _ => rfl
theorem zk_w {c : Nat} (h : c < 6) : ∀ w ∈ u_ws (zRn c) (zTn c) (znF c), w ∈ zTb := by
  match c, h with
  | 0, _ => exact zk_w0
  | 1, _ => exact zk_w1
  | 2, _ => exact zk_w2
  | 3, _ => exact zk_w3
  | 4, _ => exact zk_w4
  | 5, _ => exact zk_w5
theorem zk_ty {c : Nat} (h : c < 6) : ∀ k, k < znF c → parseFieldDescriptor (zTn c k).2.2.1 = some (zTy c k) := by
  match c, h with
  | 0, _ => exact tyX0_ok
  | 1, _ => exact tyX1_ok
  | 2, _ => exact tyX2_ok
  | 3, _ => exact tyX3_ok
  | 4, _ => exact tyX4_ok
  | 5, _ => exact tyX5_ok
theorem zk_nm {c : Nat} (h : c < 6) : ∀ a, a < znF c → ∀ b, b < znF c → a ≠ b → (zTn c a).2.1 ≠ (zTn c b).2.1 := by
  match c, h with
  | 0, _ => exact nmX0
  | 1, _ => exact nmX1
  | 2, _ => exact nmX2
  | 3, _ => exact nmX3
  | 4, _ => exact nmX4
  | 5, _ => exact nmX5
theorem zset {α : Type} {f f' : Nat → α} {n k : Nat} (hk : k < n) (h : ∀ j, j < n → j ≠ k → f' j = f j) : ((List.range n).map f).set k (f' k) = (List.range n).map f' := by
  apply List.ext_getElem?
  intro j
  by_cases hj : j < n
  · by_cases e : j = k
    · subst e; simp [hj]
    · rw [List.getElem?_set_ne (Ne.symm e)]; simp [hj, h j hj e]
  · rw [List.getElem?_eq_none (by simp; omega), List.getElem?_eq_none (by simp; omega)]
theorem zco_at {kA : Nat → ClassId} {c : Nat} {q : Nat → Nat} {σ : zOS} {k : Nat} (hk : k ≤ znA c) : (zco kA (c, q, σ))[k]? = some (q k, zce kA c q σ k) := by
  unfold zco
  rw [List.getElem?_map, List.getElem?_range (by show k < znA c + 1; omega)]
  rfl
theorem zco_len {kA : Nat → ClassId} {x : zCm} : (zco kA x).length = znA x.1 + 1 := by simp [zco]
theorem zgw_at {kA : Nat → ClassId} : ∀ {cs : List zCm} {i c : Nat} {q : Nat → Nat} {σ : zOS}, cs[i]? = some (c, q, σ) → ∀ {k : Nat}, k ≤ znA c →
    ∃ pos, (zgw kA cs)[pos]? = some (q k, zce kA c q σ k) ∧ ∀ (q' : Nat → Nat) (σ' : zOS), (∀ j, j ≤ znA c → q' j = q j) → (∀ j, j ≤ znA c → j ≠ k → zce kA c q' σ' j = zce kA c q σ j) →
      (zgw kA cs).set pos (q k, zce kA c q' σ' k) = zgw kA (cs.set i (c, q', σ'))
  | [], i, c, q, σ, hc, k, hk => by simp at hc
  | x :: cs, 0, c, q, σ, hc, k, hk => by
    have hx : x = (c, q, σ) := by simpa using hc
    subst hx
    refine ⟨k, ?_, ?_⟩
    · show (zco kA (c, q, σ) ++ zgw kA cs)[k]? = _
      rw [List.getElem?_append_left (by rw [zco_len]; show k < znA c + 1; omega)]
      exact zco_at hk
    · intro q' σ' hq he
      show (zco kA (c, q, σ) ++ zgw kA cs).set k _ = zco kA (c, q', σ') ++ zgw kA cs
      rw [List.set_append_left _ _ (by rw [zco_len]; show k < znA c + 1; omega)]
      congr 1
      have h := zset (f := fun k => (q k, zce kA c q σ k)) (f' := fun k => (q' k, zce kA c q' σ' k)) (n := znA c + 1) (k := k) (by omega) (fun j hj hjk => by
        show (q' j, _) = (q j, _)
        rw [hq j (by omega), he j (by omega) hjk])
      rw [show (q k, zce kA c q' σ' k) = (q' k, zce kA c q' σ' k) by rw [hq k hk]]
      exact h
  | x :: cs, i + 1, c, q, σ, hc, k, hk => by
    obtain ⟨pos, h1, h2⟩ := zgw_at (cs := cs) (i := i) (by simpa using hc) hk (kA := kA)
    refine ⟨(zco kA x).length + pos, ?_, ?_⟩
    · show (zco kA x ++ zgw kA cs)[_]? = _
      rw [List.getElem?_append_right (by omega), Nat.add_sub_cancel_left]
      exact h1
    · intro q' σ' hq he
      show (zco kA x ++ zgw kA cs).set _ _ = zco kA x ++ zgw kA (cs.set i (c, q', σ'))
      rw [List.set_append_right _ _ (by omega), Nat.add_sub_cancel_left, h2 q' σ' hq he]
/-! what changes of a component's cells -/
theorem zce_0 {kA : Nat → ClassId} {c : Nat} {q : Nat → Nat} {σ : zOS} : zce kA c q σ 0 = .inr (c, (List.range (znF c)).map (zfv c q σ)) := rfl
theorem zce_i {kA : Nat → ClassId} {c : Nat} {q : Nat → Nat} {σ : zOS} {k n : Nat} (h : zAr c k 0 n) : zce kA c q σ k = .inl (kA 0, n, .inl (zI σ k)) := by
  obtain ⟨⟨h1, h2⟩, h3, h4⟩ := h
  unfold zce
  rw [if_neg (by omega), h3, if_neg (by decide), if_pos (by decide), h4]
theorem zce_b {kA : Nat → ClassId} {c : Nat} {q : Nat → Nat} {σ : zOS} {k n : Nat} (h : zAr c k 2 n) : zce kA c q σ k = .inl (kA 2, n, .inl (zI σ k)) := by
  obtain ⟨⟨h1, h2⟩, h3, h4⟩ := h
  unfold zce
  rw [if_neg (by omega), h3, if_neg (by decide), if_pos (by decide), h4]
theorem zce_l {kA : Nat → ClassId} {c : Nat} {q : Nat → Nat} {σ : zOS} {k n : Nat} (h : zAr c k 1 n) : zce kA c q σ k = .inl (kA 1, n, .inr (.inl (zL σ k))) := by
  obtain ⟨⟨h1, h2⟩, h3, h4⟩ := h
  unfold zce
  rw [if_neg (by omega), h3, if_pos rfl, h4]
theorem zce_r {kA : Nat → ClassId} {c : Nat} {q : Nat → Nat} {σ : zOS} {k kd n : Nat} (h : zAr c k kd n) (hd : 3 ≤ kd) : zce kA c q σ k = .inl (kA kd, n, .inr (.inr (.inr (.inr (fun i => if i < n then some (q (zbs c + i)) else none))))) := by
  obtain ⟨⟨h1, h2⟩, h3, h4⟩ := h
  unfold zce
  rw [if_neg (by omega), h3, if_neg (by omega), if_neg (by omega), h4]
theorem zfv_sI {c : Nat} {q : Nat → Nat} {σ : zOS} {k : Nat} {a : Nat → Int32} : zfv c q (zsI σ k a) = zfv c q σ := rfl
theorem zfv_sL {c : Nat} {q : Nat → Nat} {σ : zOS} {k : Nat} {a : Nat → Int64} : zfv c q (zsL σ k a) = zfv c q σ := rfl
theorem zI_s {σ : zOS} {k j : Nat} {a : Nat → Int32} (h : j ≠ k) : zI (zsI σ k a) j = zI σ j := if_neg h
theorem zI_e {σ : zOS} {k : Nat} {a : Nat → Int32} : zI (zsI σ k a) k = a := if_pos rfl
theorem zL_s {σ : zOS} {k j : Nat} {a : Nat → Int64} (h : j ≠ k) : zL (zsL σ k a) j = zL σ j := if_neg h
theorem zL_e {σ : zOS} {k : Nat} {a : Nat → Int64} : zL (zsL σ k a) k = a := if_pos rfl
theorem zF_s {σ : zOS} {k j : Nat} {a : Int32} (h : j ≠ k) : zF (zsF σ k a) j = zF σ j := if_neg h
theorem zF_e {σ : zOS} {k : Nat} {a : Int32} : zF (zsF σ k a) k = a := if_pos rfl
theorem zce_sI {kA : Nat → ClassId} {c : Nat} {q : Nat → Nat} {σ : zOS} {k j : Nat} {a : Nat → Int32} (h : j ≠ k) : zce kA c q (zsI σ k a) j = zce kA c q σ j := by
  unfold zce
  rw [zfv_sI, zI_s h]
  rfl
theorem zce_sL {kA : Nat → ClassId} {c : Nat} {q : Nat → Nat} {σ : zOS} {k j : Nat} {a : Nat → Int64} (h : j ≠ k) : zce kA c q (zsL σ k a) j = zce kA c q σ j := by
  unfold zce
  rw [zfv_sL, zL_s h]
  rfl
theorem zce_sF {kA : Nat → ClassId} {c : Nat} {q : Nat → Nat} {σ : zOS} {k j : Nat} {a : Int32} (h : j ≠ 0) : zce kA c q (zsF σ k a) j = zce kA c q σ j := by
  unfold zce
  rw [if_neg h, if_neg h]
  rfl
theorem zce_sH {kA : Nat → ClassId} {c : Nat} {q : Nat → Nat} {σ : zOS} {j : Nat} {a : Int64} (h : j ≠ 0) : zce kA c q (zsH σ a) j = zce kA c q σ j := by
  unfold zce
  rw [if_neg h, if_neg h]
  rfl
theorem zfl_F {c f : Nat} {q : Nat → Nat} {σ : zOS} {v : Int32} (hf : f < znF c) (hk : zfk c f = 0) : ((List.range (znF c)).map (zfv c q σ)).set f (.int v) = (List.range (znF c)).map (zfv c q (zsF σ f v)) := by
  have h := zset (f := zfv c q σ) (f' := zfv c q (zsF σ f v)) hf (fun j hj hjk => by
    unfold zfv
    split
    · rw [zF_s hjk]
    · rfl
    · rfl)
  rw [← h]
  congr 1
  unfold zfv
  rw [hk]
  show Value.int v = .int (zF (zsF σ f v) f)
  rw [zF_e]
theorem zfl_H {c f : Nat} {q : Nat → Nat} {σ : zOS} {v : Int64} (hf : f < znF c) (hk : zfk c f = 1) (hu : ∀ j, j < znF c → j ≠ f → zfk c j ≠ 1) : ((List.range (znF c)).map (zfv c q σ)).set f (.long v) = (List.range (znF c)).map (zfv c q (zsH σ v)) := by
  have h := zset (f := zfv c q σ) (f' := zfv c q (zsH σ v)) hf (fun j hj hjk => by
    unfold zfv
    split
    · rfl
    · exact absurd ‹_› (hu j hj hjk)
    · rfl)
  rw [← h]
  congr 1
  unfold zfv
  rw [hk]
  rfl
end
section
/-! the machine at a frame, over a world of components: everything else that is fixed in a method stands in X -/
abbrev zCx : Type := Program × Launch × Env × Room × State × MethodId × Array Value × List Frame × Method × Code × va_G × (Nat → ClassId) × (Nat → Prop) × (State → Prop)
def zN (X : zCx) (nL pc : Nat) (lv : List (Nat × Value)) (st : List Value) (cs : List zCm) : Prop := match X with
  | (p, l, e, R, s, m, args, below, meth, c, D, kA, A, Q) => ∀ (H : Heap) (locs : List Loc) (ls : Array Slot), va_P D zcl (zgw kA cs) H → va_D A (zgw kA cs) → va_S A s.heap H locs → lv_has ls nL lv → W p l e R s m args below meth c H locs 0 0 Q (F0 m pc ls st)
/-- the links to private methods of the nest's host -/
def zNw (U : State) : Prop := va_Nw (.methodLinkNest RX2 35 yX4_isWithin RX4) U ∧ va_Nw (.methodLinkNest RX2 63 yX4_isCell RX4) U ∧ va_Nw (.methodLinkNest RX2 59 yX4_cellBit RX4) U ∧ va_Nw (.methodLinkNest RX0 131 yX4_isWithin RX4) U
theorem zNw.warm {s U : State} (hW : s.WarmedH U.vm) (h : zNw s) : zNw U := ⟨va_Nw.warmM hW h.1, va_Nw.warmM hW h.2.1, va_Nw.warmM hW h.2.2.1, va_Nw.warmM hW h.2.2.2⟩
theorem zNw.same {s U : State} (hv : s.vm = U.vm) (h : zNw s) : zNw U := ⟨va_Nw.same rfl hv h.1, va_Nw.same rfl hv h.2.1, va_Nw.same rfl hv h.2.2.1, va_Nw.same rfl hv h.2.2.2⟩
def zC (X : zCx) (own : String) (cc : ByteArray) (nL rf rl : Nat) : Prop := match X with
  | (p, l, e, R, s, m, args, below, meth, c, D, kA, A, Q) => p.tables.exec = Jvm.exec ∧ c.code = cc ∧ c.maxLocals = nL ∧ s.vm.findClass own = some m.cls ∧ (∀ w ∈ zTb, w.before args s = true) ∧ va_K D zcl (zty kA) s ∧ (∀ q, s.heap.size ≤ q → A q) ∧ meth.locks = false ∧ R = { frames := rf, cells := 0, slots := 0, locals := rl } ∧ zNw s
/-- 'the run from here is told by e': if e answers res, the machine comes to its end -/
def zJ {β : Type} (X : zCx) (nL : Nat) (res : β) (e : Option β) (pc : Nat) (lv : List (Nat × Value)) (st : List Value) (cs : List zCm) : Prop := e = some res → zN X nL pc lv st cs
/-- an index that is looked at -/
def zchk {β : Type} (j : Int32) (n : Nat) (e : Option β) : Option β := if j < 0 ∨ n ≤ j.toNatClampNeg then none else e
/-- a divisor that is looked at -/
def zdvk {β : Type} (y : Int32) (e : Option β) : Option β := if y = 0 then none else e
theorem zJ_eq {β : Type} {X : zCx} {nL : Nat} {res : β} {e e' : Option β} {pc : Nat} {lv : List (Nat × Value)} {st : List Value} {cs : List zCm} (h : e = e') (k : zJ X nL res e' pc lv st cs) : zJ X nL res e pc lv st cs := h ▸ k
theorem zJ_none {β : Type} {X : zCx} {nL : Nat} {res : β} {pc : Nat} {lv : List (Nat × Value)} {st : List Value} {cs : List zCm} : zJ X nL res none pc lv st cs := fun h => by cases h
section ZR
variable {β : Type} {X : zCx} {own : String} {cc : ByteArray} {nL rf rl : Nat} {res : β} {e e1 e2 : Option β} {pc : Nat} {lv lv' : List (Nat × Value)} {st : List Value} {cs : List zCm}
theorem z_iconst {n : Int} (v : Int32) (hv : Int32.ofInt n = v) (C : zC X own cc nL rf rl) (hd : decode cc pc = .ok (.iconst n, 1)) (k : zJ X nL res e (pc + 1) lv (.int v :: st) cs) : zJ X nL res e pc lv st cs := by
  obtain ⟨p, l, ee, R, s, m, args, below, meth, c, D, kA, A, Q⟩ := X
  obtain ⟨hx, hb, hml, hown, hts, hK, hA, hlk, hR⟩ := C
  intro he H locs ls h1 h2 h3 h4
  exact lv_iconst hx hb hd hv (k he H locs ls h1 h2 h3 h4)
theorem z_bipush {n : Int} (v : Int32) (hv : (Int8.ofInt n).toInt32 = v) (C : zC X own cc nL rf rl) (hd : decode cc pc = .ok (.bipush n, 2)) (k : zJ X nL res e (pc + 2) lv (.int v :: st) cs) : zJ X nL res e pc lv st cs := by
  obtain ⟨p, l, ee, R, s, m, args, below, meth, c, D, kA, A, Q⟩ := X
  obtain ⟨hx, hb, hml, hown, hts, hK, hA, hlk, hR⟩ := C
  intro he H locs ls h1 h2 h3 h4
  exact lv_bipush hx hb hd hv (k he H locs ls h1 h2 h3 h4)
theorem z_sipush {n : Int} (v : Int32) (hv : (Int16.ofInt n).toInt32 = v) (C : zC X own cc nL rf rl) (hd : decode cc pc = .ok (.sipush n, 3)) (k : zJ X nL res e (pc + 3) lv (.int v :: st) cs) : zJ X nL res e pc lv st cs := by
  obtain ⟨p, l, ee, R, s, m, args, below, meth, c, D, kA, A, Q⟩ := X
  obtain ⟨hx, hb, hml, hown, hts, hK, hA, hlk, hR⟩ := C
  intro he H locs ls h1 h2 h3 h4
  exact lv_sipush hx hb hd hv (k he H locs ls h1 h2 h3 h4)
theorem z_lconst {n : Fin 2} (v : Int64) (hv : Int64.ofNat (n : Nat) = v) (C : zC X own cc nL rf rl) (hd : decode cc pc = .ok (.lconst n, 1)) (k : zJ X nL res e (pc + 1) lv (.long v :: st) cs) : zJ X nL res e pc lv st cs := by
  obtain ⟨p, l, ee, R, s, m, args, below, meth, c, D, kA, A, Q⟩ := X
  obtain ⟨hx, hb, hml, hown, hts, hK, hA, hlk, hR⟩ := C
  intro he H locs ls h1 h2 h3 h4
  exact lv_lconst hx hb hd hv (k he H locs ls h1 h2 h3 h4)
theorem z_ldc {ix : Nat} (v : Int32) (hw : Cond.constant own ix v ∈ zTb) (C : zC X own cc nL rf rl) (hd : decode cc pc = .ok (.ldc ix, 2)) (k : zJ X nL res e (pc + 2) lv (.int v :: st) cs) : zJ X nL res e pc lv st cs := by
  obtain ⟨p, l, ee, R, s, m, args, below, meth, c, D, kA, A, Q⟩ := X
  obtain ⟨hx, hb, hml, hown, hts, hK, hA, hlk, hR⟩ := C
  intro he H locs ls h1 h2 h3 h4
  exact lv_ldc hx hb hown (hts _ hw) hd (k he H locs ls h1 h2 h3 h4)
theorem z_ldc_w {ix : Nat} (v : Int32) (hw : Cond.constant own ix v ∈ zTb) (C : zC X own cc nL rf rl) (hd : decode cc pc = .ok (.ldc_w ix, 3)) (k : zJ X nL res e (pc + 3) lv (.int v :: st) cs) : zJ X nL res e pc lv st cs := by
  obtain ⟨p, l, ee, R, s, m, args, below, meth, c, D, kA, A, Q⟩ := X
  obtain ⟨hx, hb, hml, hown, hts, hK, hA, hlk, hR⟩ := C
  intro he H locs ls h1 h2 h3 h4
  exact lv_ldcw hx hb hown (hts _ hw) hd (k he H locs ls h1 h2 h3 h4)
theorem z_ldc2_w {ix : Nat} (v : Int64) (hw : Cond.constantLong own ix v ∈ zTb) (C : zC X own cc nL rf rl) (hd : decode cc pc = .ok (.ldc2_w ix, 3)) (k : zJ X nL res e (pc + 3) lv (.long v :: st) cs) : zJ X nL res e pc lv st cs := by
  obtain ⟨p, l, ee, R, s, m, args, below, meth, c, D, kA, A, Q⟩ := X
  obtain ⟨hx, hb, hml, hown, hts, hK, hA, hlk, hR⟩ := C
  intro he H locs ls h1 h2 h3 h4
  exact lv_ldc2 hx hb hown (hts _ hw) hd (k he H locs ls h1 h2 h3 h4)
theorem z_iload_n {kf : Fin 4} {i : Nat} {x : Int32} (j : Nat) (hl : lv[j]? = some (i, .int x)) (hi : (kf : Nat) = i) (C : zC X own cc nL rf rl) (hd : decode cc pc = .ok (.iload_n kf, 1)) (k : zJ X nL res e (pc + 1) lv (.int x :: st) cs) : zJ X nL res e pc lv st cs := by
  obtain ⟨p, l, ee, R, s, m, args, below, meth, c, D, kA, A, Q⟩ := X
  obtain ⟨hx, hb, hml, hown, hts, hK, hA, hlk, hR⟩ := C
  intro he H locs ls h1 h2 h3 h4
  exact lv_iload_n hx hb hd hi (lv_at h4 j hl) (k he H locs ls h1 h2 h3 h4)
theorem z_iload {i : Nat} {x : Int32} (j : Nat) (hl : lv[j]? = some (i, .int x)) (C : zC X own cc nL rf rl) (hd : decode cc pc = .ok (.iload i, 2)) (k : zJ X nL res e (pc + 2) lv (.int x :: st) cs) : zJ X nL res e pc lv st cs := by
  obtain ⟨p, l, ee, R, s, m, args, below, meth, c, D, kA, A, Q⟩ := X
  obtain ⟨hx, hb, hml, hown, hts, hK, hA, hlk, hR⟩ := C
  intro he H locs ls h1 h2 h3 h4
  exact lv_iload hx hb hd (lv_at h4 j hl) (k he H locs ls h1 h2 h3 h4)
theorem z_lload_n {kf : Fin 4} {i : Nat} {x : Int64} (j : Nat) (hl : lv[j]? = some (i, .long x)) (hi : (kf : Nat) = i) (C : zC X own cc nL rf rl) (hd : decode cc pc = .ok (.lload_n kf, 1)) (k : zJ X nL res e (pc + 1) lv (.long x :: st) cs) : zJ X nL res e pc lv st cs := by
  obtain ⟨p, l, ee, R, s, m, args, below, meth, c, D, kA, A, Q⟩ := X
  obtain ⟨hx, hb, hml, hown, hts, hK, hA, hlk, hR⟩ := C
  intro he H locs ls h1 h2 h3 h4
  exact lv_lload_n hx hb hd hi (lv_at h4 j hl) (k he H locs ls h1 h2 h3 h4)
theorem z_lload {i : Nat} {x : Int64} (j : Nat) (hl : lv[j]? = some (i, .long x)) (C : zC X own cc nL rf rl) (hd : decode cc pc = .ok (.lload i, 2)) (k : zJ X nL res e (pc + 2) lv (.long x :: st) cs) : zJ X nL res e pc lv st cs := by
  obtain ⟨p, l, ee, R, s, m, args, below, meth, c, D, kA, A, Q⟩ := X
  obtain ⟨hx, hb, hml, hown, hts, hK, hA, hlk, hR⟩ := C
  intro he H locs ls h1 h2 h3 h4
  exact lv_lload hx hb hd (lv_at h4 j hl) (k he H locs ls h1 h2 h3 h4)
theorem z_aload_n {kf : Fin 4} {i : Nat} {x : Nat} (j : Nat) (hl : lv[j]? = some (i, .ref x)) (hi : (kf : Nat) = i) (C : zC X own cc nL rf rl) (hd : decode cc pc = .ok (.aload_n kf, 1)) (k : zJ X nL res e (pc + 1) lv (.ref x :: st) cs) : zJ X nL res e pc lv st cs := by
  obtain ⟨p, l, ee, R, s, m, args, below, meth, c, D, kA, A, Q⟩ := X
  obtain ⟨hx, hb, hml, hown, hts, hK, hA, hlk, hR⟩ := C
  intro he H locs ls h1 h2 h3 h4
  exact lv_aload_n hx hb hd hi (lv_at h4 j hl) (k he H locs ls h1 h2 h3 h4)
theorem z_aload {i : Nat} {x : Nat} (j : Nat) (hl : lv[j]? = some (i, .ref x)) (C : zC X own cc nL rf rl) (hd : decode cc pc = .ok (.aload i, 2)) (k : zJ X nL res e (pc + 2) lv (.ref x :: st) cs) : zJ X nL res e pc lv st cs := by
  obtain ⟨p, l, ee, R, s, m, args, below, meth, c, D, kA, A, Q⟩ := X
  obtain ⟨hx, hb, hml, hown, hts, hK, hA, hlk, hR⟩ := C
  intro he H locs ls h1 h2 h3 h4
  exact lv_aload hx hb hd (lv_at h4 j hl) (k he H locs ls h1 h2 h3 h4)
theorem z_istore_n {kf : Fin 4} {i : Nat} {x : Int32} (lv' : List (Nat × Value)) (ks : List Nat) (hn : i < nL) (hl : lv_pick ((i, Value.int x) :: lv.filter (fun q => !(q.1 == i) && !(q.1 + 1 == i && q.2.category == 2))) ks = lv') (hi : (kf : Nat) = i) (C : zC X own cc nL rf rl) (hd : decode cc pc = .ok (.istore_n kf, 1)) (k : zJ X nL res e (pc + 1) lv' st cs) : zJ X nL res e pc lv (.int x :: st) cs := by
  obtain ⟨p, l, ee, R, s, m, args, below, meth, c, D, kA, A, Q⟩ := X
  obtain ⟨hx, hb, hml, hown, hts, hK, hA, hlk, hR⟩ := C
  intro he H locs ls h1 h2 h3 h4
  exact lv_istore_n hx hb hd hi h4 hn rfl (fun ls' h5 => k he H locs ls' h1 h2 h3 (lv_sub h5 ks hl))
theorem z_istore {i : Nat} {x : Int32} (lv' : List (Nat × Value)) (ks : List Nat) (hn : i < nL) (hl : lv_pick ((i, Value.int x) :: lv.filter (fun q => !(q.1 == i) && !(q.1 + 1 == i && q.2.category == 2))) ks = lv') (C : zC X own cc nL rf rl) (hd : decode cc pc = .ok (.istore i, 2)) (k : zJ X nL res e (pc + 2) lv' st cs) : zJ X nL res e pc lv (.int x :: st) cs := by
  obtain ⟨p, l, ee, R, s, m, args, below, meth, c, D, kA, A, Q⟩ := X
  obtain ⟨hx, hb, hml, hown, hts, hK, hA, hlk, hR⟩ := C
  intro he H locs ls h1 h2 h3 h4
  exact lv_istore hx hb hd h4 hn rfl (fun ls' h5 => k he H locs ls' h1 h2 h3 (lv_sub h5 ks hl))
theorem z_lstore_n {kf : Fin 4} {i : Nat} {x : Int64} (lv' : List (Nat × Value)) (ks : List Nat) (hn : i + 1 < nL) (hl : lv_pick ((i, Value.long x) :: lv.filter (fun q => !(q.1 == i) && (!(q.1 == i + 1) && !(q.1 + 1 == i && q.2.category == 2)))) ks = lv') (hi : (kf : Nat) = i) (C : zC X own cc nL rf rl) (hd : decode cc pc = .ok (.lstore_n kf, 1)) (k : zJ X nL res e (pc + 1) lv' st cs) : zJ X nL res e pc lv (.long x :: st) cs := by
  obtain ⟨p, l, ee, R, s, m, args, below, meth, c, D, kA, A, Q⟩ := X
  obtain ⟨hx, hb, hml, hown, hts, hK, hA, hlk, hR⟩ := C
  intro he H locs ls h1 h2 h3 h4
  exact lv_lstore_n hx hb hd hi h4 hn rfl (fun ls' h5 => k he H locs ls' h1 h2 h3 (lv_sub h5 ks hl))
theorem z_lstore {i : Nat} {x : Int64} (lv' : List (Nat × Value)) (ks : List Nat) (hn : i + 1 < nL) (hl : lv_pick ((i, Value.long x) :: lv.filter (fun q => !(q.1 == i) && (!(q.1 == i + 1) && !(q.1 + 1 == i && q.2.category == 2)))) ks = lv') (C : zC X own cc nL rf rl) (hd : decode cc pc = .ok (.lstore i, 2)) (k : zJ X nL res e (pc + 2) lv' st cs) : zJ X nL res e pc lv (.long x :: st) cs := by
  obtain ⟨p, l, ee, R, s, m, args, below, meth, c, D, kA, A, Q⟩ := X
  obtain ⟨hx, hb, hml, hown, hts, hK, hA, hlk, hR⟩ := C
  intro he H locs ls h1 h2 h3 h4
  exact lv_lstore hx hb hd h4 hn rfl (fun ls' h5 => k he H locs ls' h1 h2 h3 (lv_sub h5 ks hl))
theorem z_astore_n {kf : Fin 4} {i : Nat} {x : Nat} (lv' : List (Nat × Value)) (ks : List Nat) (hn : i < nL) (hl : lv_pick ((i, Value.ref x) :: lv.filter (fun q => !(q.1 == i) && !(q.1 + 1 == i && q.2.category == 2))) ks = lv') (hi : (kf : Nat) = i) (C : zC X own cc nL rf rl) (hd : decode cc pc = .ok (.astore_n kf, 1)) (k : zJ X nL res e (pc + 1) lv' st cs) : zJ X nL res e pc lv (.ref x :: st) cs := by
  obtain ⟨p, l, ee, R, s, m, args, below, meth, c, D, kA, A, Q⟩ := X
  obtain ⟨hx, hb, hml, hown, hts, hK, hA, hlk, hR⟩ := C
  intro he H locs ls h1 h2 h3 h4
  exact lv_astore_n hx hb hd hi h4 hn rfl (fun ls' h5 => k he H locs ls' h1 h2 h3 (lv_sub h5 ks hl))
theorem z_astore {i : Nat} {x : Nat} (lv' : List (Nat × Value)) (ks : List Nat) (hn : i < nL) (hl : lv_pick ((i, Value.ref x) :: lv.filter (fun q => !(q.1 == i) && !(q.1 + 1 == i && q.2.category == 2))) ks = lv') (C : zC X own cc nL rf rl) (hd : decode cc pc = .ok (.astore i, 2)) (k : zJ X nL res e (pc + 2) lv' st cs) : zJ X nL res e pc lv (.ref x :: st) cs := by
  obtain ⟨p, l, ee, R, s, m, args, below, meth, c, D, kA, A, Q⟩ := X
  obtain ⟨hx, hb, hml, hown, hts, hK, hA, hlk, hR⟩ := C
  intro he H locs ls h1 h2 h3 h4
  exact lv_astore hx hb hd h4 hn rfl (fun ls' h5 => k he H locs ls' h1 h2 h3 (lv_sub h5 ks hl))
theorem z_iinc {i : Nat} {n : Int} {x : Int32} (v : Int32) (j : Nat) (hj : lv[j]? = some (i, .int x)) (hv : x + Int32.ofInt n = v) (lv' : List (Nat × Value)) (ks : List Nat) (hn : i < nL) (hl : lv_pick ((i, Value.int v) :: lv.filter (fun q => !(q.1 == i) && !(q.1 + 1 == i && q.2.category == 2))) ks = lv') (C : zC X own cc nL rf rl) (hd : decode cc pc = .ok (.iinc i n, 3)) (k : zJ X nL res e (pc + 3) lv' st cs) : zJ X nL res e pc lv st cs := by
  obtain ⟨p, l, ee, R, s, m, args, below, meth, c, D, kA, A, Q⟩ := X
  obtain ⟨hx, hb, hml, hown, hts, hK, hA, hlk, hR⟩ := C
  intro he H locs ls h1 h2 h3 h4
  exact lv_iinc hx hb hd h4 hj hv hn rfl (fun ls' h5 => k he H locs ls' h1 h2 h3 (lv_sub h5 ks hl))
theorem z_iadd {x y : Int32} (C : zC X own cc nL rf rl) (hd : decode cc pc = .ok (.iadd, 1)) (k : zJ X nL res e (pc + 1) lv (.int (x + y) :: st) cs) : zJ X nL res e pc lv (.int y :: .int x :: st) cs := by
  obtain ⟨p, l, ee, R, s, m, args, below, meth, c, D, kA, A, Q⟩ := X
  obtain ⟨hx, hb, hml, hown, hts, hK, hA, hlk, hR⟩ := C
  intro he H locs ls h1 h2 h3 h4
  exact lv_iadd hx hb hd (k he H locs ls h1 h2 h3 h4)
theorem z_isub {x y : Int32} (C : zC X own cc nL rf rl) (hd : decode cc pc = .ok (.isub, 1)) (k : zJ X nL res e (pc + 1) lv (.int (x - y) :: st) cs) : zJ X nL res e pc lv (.int y :: .int x :: st) cs := by
  obtain ⟨p, l, ee, R, s, m, args, below, meth, c, D, kA, A, Q⟩ := X
  obtain ⟨hx, hb, hml, hown, hts, hK, hA, hlk, hR⟩ := C
  intro he H locs ls h1 h2 h3 h4
  exact lv_isub hx hb hd (k he H locs ls h1 h2 h3 h4)
theorem z_imul {x y : Int32} (C : zC X own cc nL rf rl) (hd : decode cc pc = .ok (.imul, 1)) (k : zJ X nL res e (pc + 1) lv (.int (x * y) :: st) cs) : zJ X nL res e pc lv (.int y :: .int x :: st) cs := by
  obtain ⟨p, l, ee, R, s, m, args, below, meth, c, D, kA, A, Q⟩ := X
  obtain ⟨hx, hb, hml, hown, hts, hK, hA, hlk, hR⟩ := C
  intro he H locs ls h1 h2 h3 h4
  exact lv_imul hx hb hd (k he H locs ls h1 h2 h3 h4)
theorem z_iand {x y : Int32} (C : zC X own cc nL rf rl) (hd : decode cc pc = .ok (.iand, 1)) (k : zJ X nL res e (pc + 1) lv (.int (x &&& y) :: st) cs) : zJ X nL res e pc lv (.int y :: .int x :: st) cs := by
  obtain ⟨p, l, ee, R, s, m, args, below, meth, c, D, kA, A, Q⟩ := X
  obtain ⟨hx, hb, hml, hown, hts, hK, hA, hlk, hR⟩ := C
  intro he H locs ls h1 h2 h3 h4
  exact lv_iand hx hb hd (k he H locs ls h1 h2 h3 h4)
theorem z_ior {x y : Int32} (C : zC X own cc nL rf rl) (hd : decode cc pc = .ok (.ior, 1)) (k : zJ X nL res e (pc + 1) lv (.int (x ||| y) :: st) cs) : zJ X nL res e pc lv (.int y :: .int x :: st) cs := by
  obtain ⟨p, l, ee, R, s, m, args, below, meth, c, D, kA, A, Q⟩ := X
  obtain ⟨hx, hb, hml, hown, hts, hK, hA, hlk, hR⟩ := C
  intro he H locs ls h1 h2 h3 h4
  exact lv_ior hx hb hd (k he H locs ls h1 h2 h3 h4)
theorem z_ixor {x y : Int32} (C : zC X own cc nL rf rl) (hd : decode cc pc = .ok (.ixor, 1)) (k : zJ X nL res e (pc + 1) lv (.int (x ^^^ y) :: st) cs) : zJ X nL res e pc lv (.int y :: .int x :: st) cs := by
  obtain ⟨p, l, ee, R, s, m, args, below, meth, c, D, kA, A, Q⟩ := X
  obtain ⟨hx, hb, hml, hown, hts, hK, hA, hlk, hR⟩ := C
  intro he H locs ls h1 h2 h3 h4
  exact lv_ixor hx hb hd (k he H locs ls h1 h2 h3 h4)
theorem z_ishl {x y : Int32} (C : zC X own cc nL rf rl) (hd : decode cc pc = .ok (.ishl, 1)) (k : zJ X nL res e (pc + 1) lv (.int (x <<< (y &&& 31)) :: st) cs) : zJ X nL res e pc lv (.int y :: .int x :: st) cs := by
  obtain ⟨p, l, ee, R, s, m, args, below, meth, c, D, kA, A, Q⟩ := X
  obtain ⟨hx, hb, hml, hown, hts, hK, hA, hlk, hR⟩ := C
  intro he H locs ls h1 h2 h3 h4
  exact lv_ishl hx hb hd (k he H locs ls h1 h2 h3 h4)
theorem z_ishr {x y : Int32} (C : zC X own cc nL rf rl) (hd : decode cc pc = .ok (.ishr, 1)) (k : zJ X nL res e (pc + 1) lv (.int (x >>> (y &&& 31)) :: st) cs) : zJ X nL res e pc lv (.int y :: .int x :: st) cs := by
  obtain ⟨p, l, ee, R, s, m, args, below, meth, c, D, kA, A, Q⟩ := X
  obtain ⟨hx, hb, hml, hown, hts, hK, hA, hlk, hR⟩ := C
  intro he H locs ls h1 h2 h3 h4
  exact lv_ishr hx hb hd (k he H locs ls h1 h2 h3 h4)
theorem z_iushr {x y : Int32} (C : zC X own cc nL rf rl) (hd : decode cc pc = .ok (.iushr, 1)) (k : zJ X nL res e (pc + 1) lv (.int ((x.toUInt32 >>> (y.toUInt32 &&& Int32.toUInt32 31)).toInt32) :: st) cs) : zJ X nL res e pc lv (.int y :: .int x :: st) cs := by
  obtain ⟨p, l, ee, R, s, m, args, below, meth, c, D, kA, A, Q⟩ := X
  obtain ⟨hx, hb, hml, hown, hts, hK, hA, hlk, hR⟩ := C
  intro he H locs ls h1 h2 h3 h4
  exact lv_iushr hx hb hd rfl (k he H locs ls h1 h2 h3 h4)
theorem z_ineg {x : Int32} (C : zC X own cc nL rf rl) (hd : decode cc pc = .ok (.ineg, 1)) (k : zJ X nL res e (pc + 1) lv (.int (-x) :: st) cs) : zJ X nL res e pc lv (.int x :: st) cs := by
  obtain ⟨p, l, ee, R, s, m, args, below, meth, c, D, kA, A, Q⟩ := X
  obtain ⟨hx, hb, hml, hown, hts, hK, hA, hlk, hR⟩ := C
  intro he H locs ls h1 h2 h3 h4
  exact lv_ineg hx hb hd (k he H locs ls h1 h2 h3 h4)
theorem z_lneg {x : Int64} (C : zC X own cc nL rf rl) (hd : decode cc pc = .ok (.lneg, 1)) (k : zJ X nL res e (pc + 1) lv (.long (-x) :: st) cs) : zJ X nL res e pc lv (.long x :: st) cs := by
  obtain ⟨p, l, ee, R, s, m, args, below, meth, c, D, kA, A, Q⟩ := X
  obtain ⟨hx, hb, hml, hown, hts, hK, hA, hlk, hR⟩ := C
  intro he H locs ls h1 h2 h3 h4
  exact lv_lneg hx hb hd (k he H locs ls h1 h2 h3 h4)
theorem z_ladd {x y : Int64} (C : zC X own cc nL rf rl) (hd : decode cc pc = .ok (.ladd, 1)) (k : zJ X nL res e (pc + 1) lv (.long (x + y) :: st) cs) : zJ X nL res e pc lv (.long y :: .long x :: st) cs := by
  obtain ⟨p, l, ee, R, s, m, args, below, meth, c, D, kA, A, Q⟩ := X
  obtain ⟨hx, hb, hml, hown, hts, hK, hA, hlk, hR⟩ := C
  intro he H locs ls h1 h2 h3 h4
  exact lv_ladd hx hb hd (k he H locs ls h1 h2 h3 h4)
theorem z_lsub {x y : Int64} (C : zC X own cc nL rf rl) (hd : decode cc pc = .ok (.lsub, 1)) (k : zJ X nL res e (pc + 1) lv (.long (x - y) :: st) cs) : zJ X nL res e pc lv (.long y :: .long x :: st) cs := by
  obtain ⟨p, l, ee, R, s, m, args, below, meth, c, D, kA, A, Q⟩ := X
  obtain ⟨hx, hb, hml, hown, hts, hK, hA, hlk, hR⟩ := C
  intro he H locs ls h1 h2 h3 h4
  exact lv_lsub hx hb hd (k he H locs ls h1 h2 h3 h4)
theorem z_lmul {x y : Int64} (C : zC X own cc nL rf rl) (hd : decode cc pc = .ok (.lmul, 1)) (k : zJ X nL res e (pc + 1) lv (.long (x * y) :: st) cs) : zJ X nL res e pc lv (.long y :: .long x :: st) cs := by
  obtain ⟨p, l, ee, R, s, m, args, below, meth, c, D, kA, A, Q⟩ := X
  obtain ⟨hx, hb, hml, hown, hts, hK, hA, hlk, hR⟩ := C
  intro he H locs ls h1 h2 h3 h4
  exact lv_lmul hx hb hd (k he H locs ls h1 h2 h3 h4)
theorem z_land {x y : Int64} (C : zC X own cc nL rf rl) (hd : decode cc pc = .ok (.land, 1)) (k : zJ X nL res e (pc + 1) lv (.long (x &&& y) :: st) cs) : zJ X nL res e pc lv (.long y :: .long x :: st) cs := by
  obtain ⟨p, l, ee, R, s, m, args, below, meth, c, D, kA, A, Q⟩ := X
  obtain ⟨hx, hb, hml, hown, hts, hK, hA, hlk, hR⟩ := C
  intro he H locs ls h1 h2 h3 h4
  exact lv_land hx hb hd (k he H locs ls h1 h2 h3 h4)
theorem z_lor {x y : Int64} (C : zC X own cc nL rf rl) (hd : decode cc pc = .ok (.lor, 1)) (k : zJ X nL res e (pc + 1) lv (.long (x ||| y) :: st) cs) : zJ X nL res e pc lv (.long y :: .long x :: st) cs := by
  obtain ⟨p, l, ee, R, s, m, args, below, meth, c, D, kA, A, Q⟩ := X
  obtain ⟨hx, hb, hml, hown, hts, hK, hA, hlk, hR⟩ := C
  intro he H locs ls h1 h2 h3 h4
  exact lv_lor hx hb hd (k he H locs ls h1 h2 h3 h4)
theorem z_lxor {x y : Int64} (C : zC X own cc nL rf rl) (hd : decode cc pc = .ok (.lxor, 1)) (k : zJ X nL res e (pc + 1) lv (.long (x ^^^ y) :: st) cs) : zJ X nL res e pc lv (.long y :: .long x :: st) cs := by
  obtain ⟨p, l, ee, R, s, m, args, below, meth, c, D, kA, A, Q⟩ := X
  obtain ⟨hx, hb, hml, hown, hts, hK, hA, hlk, hR⟩ := C
  intro he H locs ls h1 h2 h3 h4
  exact lv_lxor hx hb hd (k he H locs ls h1 h2 h3 h4)
theorem z_lshl {x : Int64} {y : Int32} (C : zC X own cc nL rf rl) (hd : decode cc pc = .ok (.lshl, 1)) (k : zJ X nL res e (pc + 1) lv (.long (x <<< (y.toInt64 &&& 63)) :: st) cs) : zJ X nL res e pc lv (.int y :: .long x :: st) cs := by
  obtain ⟨p, l, ee, R, s, m, args, below, meth, c, D, kA, A, Q⟩ := X
  obtain ⟨hx, hb, hml, hown, hts, hK, hA, hlk, hR⟩ := C
  intro he H locs ls h1 h2 h3 h4
  exact lv_lshl hx hb hd rfl (k he H locs ls h1 h2 h3 h4)
theorem z_lushr {x : Int64} {y : Int32} (C : zC X own cc nL rf rl) (hd : decode cc pc = .ok (.lushr, 1)) (k : zJ X nL res e (pc + 1) lv (.long ((x.toUInt64 >>> (y.toInt64.toUInt64 &&& Int64.toUInt64 63)).toInt64) :: st) cs) : zJ X nL res e pc lv (.int y :: .long x :: st) cs := by
  obtain ⟨p, l, ee, R, s, m, args, below, meth, c, D, kA, A, Q⟩ := X
  obtain ⟨hx, hb, hml, hown, hts, hK, hA, hlk, hR⟩ := C
  intro he H locs ls h1 h2 h3 h4
  exact lv_lushr hx hb hd rfl (k he H locs ls h1 h2 h3 h4)
theorem z_i2l {x : Int32} (C : zC X own cc nL rf rl) (hd : decode cc pc = .ok (.i2l, 1)) (k : zJ X nL res e (pc + 1) lv (.long x.toInt64 :: st) cs) : zJ X nL res e pc lv (.int x :: st) cs := by
  obtain ⟨p, l, ee, R, s, m, args, below, meth, c, D, kA, A, Q⟩ := X
  obtain ⟨hx, hb, hml, hown, hts, hK, hA, hlk, hR⟩ := C
  intro he H locs ls h1 h2 h3 h4
  exact lv_i2l hx hb hd rfl (k he H locs ls h1 h2 h3 h4)
theorem z_l2i {x : Int64} (C : zC X own cc nL rf rl) (hd : decode cc pc = .ok (.l2i, 1)) (k : zJ X nL res e (pc + 1) lv (.int x.toInt32 :: st) cs) : zJ X nL res e pc lv (.long x :: st) cs := by
  obtain ⟨p, l, ee, R, s, m, args, below, meth, c, D, kA, A, Q⟩ := X
  obtain ⟨hx, hb, hml, hown, hts, hK, hA, hlk, hR⟩ := C
  intro he H locs ls h1 h2 h3 h4
  exact lv_l2i hx hb hd rfl (k he H locs ls h1 h2 h3 h4)
theorem z_i2b {x : Int32} (C : zC X own cc nL rf rl) (hd : decode cc pc = .ok (.i2b, 1)) (k : zJ X nL res e (pc + 1) lv (.int x.toInt8.toInt32 :: st) cs) : zJ X nL res e pc lv (.int x :: st) cs := by
  obtain ⟨p, l, ee, R, s, m, args, below, meth, c, D, kA, A, Q⟩ := X
  obtain ⟨hx, hb, hml, hown, hts, hK, hA, hlk, hR⟩ := C
  intro he H locs ls h1 h2 h3 h4
  exact lv_i2b hx hb hd rfl (k he H locs ls h1 h2 h3 h4)
theorem z_lcmp {x y : Int64} (C : zC X own cc nL rf rl) (hd : decode cc pc = .ok (.lcmp, 1)) (k : zJ X nL res e (pc + 1) lv (.int (lg_cmp x y) :: st) cs) : zJ X nL res e pc lv (.long y :: .long x :: st) cs := by
  obtain ⟨p, l, ee, R, s, m, args, below, meth, c, D, kA, A, Q⟩ := X
  obtain ⟨hx, hb, hml, hown, hts, hK, hA, hlk, hR⟩ := C
  intro he H locs ls h1 h2 h3 h4
  exact W.lcmp hx hb hd (k he H locs ls h1 h2 h3 h4)
theorem z_dup {v : Value} (hv : v.category = 1) (C : zC X own cc nL rf rl) (hd : decode cc pc = .ok (.dup, 1)) (k : zJ X nL res e (pc + 1) lv (v :: v :: st) cs) : zJ X nL res e pc lv (v :: st) cs := by
  obtain ⟨p, l, ee, R, s, m, args, below, meth, c, D, kA, A, Q⟩ := X
  obtain ⟨hx, hb, hml, hown, hts, hK, hA, hlk, hR⟩ := C
  intro he H locs ls h1 h2 h3 h4
  exact lv_dup hx hb hd hv (k he H locs ls h1 h2 h3 h4)
theorem z_dup2 {v w : Value} (hv : v.category = 1) (hw : w.category = 1) (C : zC X own cc nL rf rl) (hd : decode cc pc = .ok (.dup2, 1)) (k : zJ X nL res e (pc + 1) lv (v :: w :: v :: w :: st) cs) : zJ X nL res e pc lv (v :: w :: st) cs := by
  obtain ⟨p, l, ee, R, s, m, args, below, meth, c, D, kA, A, Q⟩ := X
  obtain ⟨hx, hb, hml, hown, hts, hK, hA, hlk, hR⟩ := C
  intro he H locs ls h1 h2 h3 h4
  exact lv_dup2_11 hx hb hd hv hw (k he H locs ls h1 h2 h3 h4)
theorem z_dup2_2 {v : Value} (hv : v.category = 2) (C : zC X own cc nL rf rl) (hd : decode cc pc = .ok (.dup2, 1)) (k : zJ X nL res e (pc + 1) lv (v :: v :: st) cs) : zJ X nL res e pc lv (v :: st) cs := by
  obtain ⟨p, l, ee, R, s, m, args, below, meth, c, D, kA, A, Q⟩ := X
  obtain ⟨hx, hb, hml, hown, hts, hK, hA, hlk, hR⟩ := C
  intro he H locs ls h1 h2 h3 h4
  exact lv_dup2_2 hx hb hd hv (k he H locs ls h1 h2 h3 h4)
theorem z_idiv {x y : Int32} (C : zC X own cc nL rf rl) (hd : decode cc pc = .ok (.idiv, 1)) (k : zJ X nL res e (pc + 1) lv (.int (x / y) :: st) cs) : zJ X nL res (zdvk y e) pc lv (.int y :: .int x :: st) cs := by
  obtain ⟨p, l, ee, R, s, m, args, below, meth, c, D, kA, A, Q⟩ := X
  obtain ⟨hx, hb, hml, hown, hts, hK, hA, hlk, hR⟩ := C
  intro he H locs ls h1 h2 h3 h4
  unfold zdvk at he
  by_cases hy : y = 0
  · rw [if_pos hy] at he; cases he
  · rw [if_neg hy] at he
    exact lv_idiv hx hb hd hy (k he H locs ls h1 h2 h3 h4)
theorem z_irem {x y : Int32} (C : zC X own cc nL rf rl) (hd : decode cc pc = .ok (.irem, 1)) (k : zJ X nL res e (pc + 1) lv (.int (x - x / y * y) :: st) cs) : zJ X nL res (zdvk y e) pc lv (.int y :: .int x :: st) cs := by
  obtain ⟨p, l, ee, R, s, m, args, below, meth, c, D, kA, A, Q⟩ := X
  obtain ⟨hx, hb, hml, hown, hts, hK, hA, hlk, hR⟩ := C
  intro he H locs ls h1 h2 h3 h4
  unfold zdvk at he
  by_cases hy : y = 0
  · rw [if_pos hy] at he; cases he
  · rw [if_neg hy] at he
    exact lv_irem hx hb hd hy (k he H locs ls h1 h2 h3 h4)
theorem z_if_eq {x : Int32} {off : Int} (tgt : Nat) (C : zC X own cc nL rf rl) (hd : decode cc pc = .ok (.ifCond .eq off, 3)) (ht : (pc : Int) + off = (tgt : Int)) (kt : zJ X nL res e1 tgt lv st cs) (kf : zJ X nL res e2 (pc + 3) lv st cs) : zJ X nL res (if x = 0 then e1 else e2) pc lv (.int x :: st) cs := by
  obtain ⟨p, l, ee, R, s, m, args, below, meth, c, D, kA, A, Q⟩ := X
  obtain ⟨hx, hb, hml, hown, hts, hK, hA, hlk, hR⟩ := C
  intro he H locs ls h1 h2 h3 h4
  exact lv_if_eq hx hb hd ht (fun hc => kt (by rw [← he, if_pos hc]) H locs ls h1 h2 h3 h4) (fun hc => kf (by rw [← he, if_neg hc]) H locs ls h1 h2 h3 h4)
theorem z_icmp_eq {x y : Int32} {off : Int} (tgt : Nat) (C : zC X own cc nL rf rl) (hd : decode cc pc = .ok (.if_icmp .eq off, 3)) (ht : (pc : Int) + off = (tgt : Int)) (kt : zJ X nL res e1 tgt lv st cs) (kf : zJ X nL res e2 (pc + 3) lv st cs) : zJ X nL res (if x = y then e1 else e2) pc lv (.int y :: .int x :: st) cs := by
  obtain ⟨p, l, ee, R, s, m, args, below, meth, c, D, kA, A, Q⟩ := X
  obtain ⟨hx, hb, hml, hown, hts, hK, hA, hlk, hR⟩ := C
  intro he H locs ls h1 h2 h3 h4
  exact lv_icmp_eq hx hb hd ht (fun hc => kt (by rw [← he, if_pos hc]) H locs ls h1 h2 h3 h4) (fun hc => kf (by rw [← he, if_neg hc]) H locs ls h1 h2 h3 h4)
theorem z_if_ne {x : Int32} {off : Int} (tgt : Nat) (C : zC X own cc nL rf rl) (hd : decode cc pc = .ok (.ifCond .ne off, 3)) (ht : (pc : Int) + off = (tgt : Int)) (kt : zJ X nL res e1 (pc + 3) lv st cs) (kf : zJ X nL res e2 tgt lv st cs) : zJ X nL res (if x = 0 then e1 else e2) pc lv (.int x :: st) cs := by
  obtain ⟨p, l, ee, R, s, m, args, below, meth, c, D, kA, A, Q⟩ := X
  obtain ⟨hx, hb, hml, hown, hts, hK, hA, hlk, hR⟩ := C
  intro he H locs ls h1 h2 h3 h4
  exact lv_if_ne hx hb hd ht (fun hc => kf (by rw [← he, if_neg hc]) H locs ls h1 h2 h3 h4) (fun hc => kt (by rw [← he, if_pos hc]) H locs ls h1 h2 h3 h4)
theorem z_icmp_ne {x y : Int32} {off : Int} (tgt : Nat) (C : zC X own cc nL rf rl) (hd : decode cc pc = .ok (.if_icmp .ne off, 3)) (ht : (pc : Int) + off = (tgt : Int)) (kt : zJ X nL res e1 (pc + 3) lv st cs) (kf : zJ X nL res e2 tgt lv st cs) : zJ X nL res (if x = y then e1 else e2) pc lv (.int y :: .int x :: st) cs := by
  obtain ⟨p, l, ee, R, s, m, args, below, meth, c, D, kA, A, Q⟩ := X
  obtain ⟨hx, hb, hml, hown, hts, hK, hA, hlk, hR⟩ := C
  intro he H locs ls h1 h2 h3 h4
  exact lv_icmp_ne hx hb hd ht (fun hc => kf (by rw [← he, if_neg hc]) H locs ls h1 h2 h3 h4) (fun hc => kt (by rw [← he, if_pos hc]) H locs ls h1 h2 h3 h4)
theorem z_if_lt {x : Int32} {off : Int} (tgt : Nat) (C : zC X own cc nL rf rl) (hd : decode cc pc = .ok (.ifCond .lt off, 3)) (ht : (pc : Int) + off = (tgt : Int)) (kt : zJ X nL res e1 tgt lv st cs) (kf : zJ X nL res e2 (pc + 3) lv st cs) : zJ X nL res (if x < 0 then e1 else e2) pc lv (.int x :: st) cs := by
  obtain ⟨p, l, ee, R, s, m, args, below, meth, c, D, kA, A, Q⟩ := X
  obtain ⟨hx, hb, hml, hown, hts, hK, hA, hlk, hR⟩ := C
  intro he H locs ls h1 h2 h3 h4
  exact lv_if_lt hx hb hd ht (fun hc => kt (by rw [← he, if_pos hc]) H locs ls h1 h2 h3 h4) (fun hc => kf (by rw [← he, if_neg hc]) H locs ls h1 h2 h3 h4)
theorem z_icmp_lt {x y : Int32} {off : Int} (tgt : Nat) (C : zC X own cc nL rf rl) (hd : decode cc pc = .ok (.if_icmp .lt off, 3)) (ht : (pc : Int) + off = (tgt : Int)) (kt : zJ X nL res e1 tgt lv st cs) (kf : zJ X nL res e2 (pc + 3) lv st cs) : zJ X nL res (if x < y then e1 else e2) pc lv (.int y :: .int x :: st) cs := by
  obtain ⟨p, l, ee, R, s, m, args, below, meth, c, D, kA, A, Q⟩ := X
  obtain ⟨hx, hb, hml, hown, hts, hK, hA, hlk, hR⟩ := C
  intro he H locs ls h1 h2 h3 h4
  exact lv_icmp_lt hx hb hd ht (fun hc => kt (by rw [← he, if_pos hc]) H locs ls h1 h2 h3 h4) (fun hc => kf (by rw [← he, if_neg hc]) H locs ls h1 h2 h3 h4)
theorem z_if_ge {x : Int32} {off : Int} (tgt : Nat) (C : zC X own cc nL rf rl) (hd : decode cc pc = .ok (.ifCond .ge off, 3)) (ht : (pc : Int) + off = (tgt : Int)) (kt : zJ X nL res e1 tgt lv st cs) (kf : zJ X nL res e2 (pc + 3) lv st cs) : zJ X nL res (if 0 ≤ x then e1 else e2) pc lv (.int x :: st) cs := by
  obtain ⟨p, l, ee, R, s, m, args, below, meth, c, D, kA, A, Q⟩ := X
  obtain ⟨hx, hb, hml, hown, hts, hK, hA, hlk, hR⟩ := C
  intro he H locs ls h1 h2 h3 h4
  exact lv_if_ge hx hb hd ht (fun hc => kt (by rw [← he, if_pos hc]) H locs ls h1 h2 h3 h4) (fun hc => kf (by rw [← he, if_neg hc]) H locs ls h1 h2 h3 h4)
theorem z_icmp_ge {x y : Int32} {off : Int} (tgt : Nat) (C : zC X own cc nL rf rl) (hd : decode cc pc = .ok (.if_icmp .ge off, 3)) (ht : (pc : Int) + off = (tgt : Int)) (kt : zJ X nL res e1 tgt lv st cs) (kf : zJ X nL res e2 (pc + 3) lv st cs) : zJ X nL res (if y ≤ x then e1 else e2) pc lv (.int y :: .int x :: st) cs := by
  obtain ⟨p, l, ee, R, s, m, args, below, meth, c, D, kA, A, Q⟩ := X
  obtain ⟨hx, hb, hml, hown, hts, hK, hA, hlk, hR⟩ := C
  intro he H locs ls h1 h2 h3 h4
  exact lv_icmp_ge hx hb hd ht (fun hc => kt (by rw [← he, if_pos hc]) H locs ls h1 h2 h3 h4) (fun hc => kf (by rw [← he, if_neg hc]) H locs ls h1 h2 h3 h4)
theorem z_if_gt {x : Int32} {off : Int} (tgt : Nat) (C : zC X own cc nL rf rl) (hd : decode cc pc = .ok (.ifCond .gt off, 3)) (ht : (pc : Int) + off = (tgt : Int)) (kt : zJ X nL res e1 tgt lv st cs) (kf : zJ X nL res e2 (pc + 3) lv st cs) : zJ X nL res (if 0 < x then e1 else e2) pc lv (.int x :: st) cs := by
  obtain ⟨p, l, ee, R, s, m, args, below, meth, c, D, kA, A, Q⟩ := X
  obtain ⟨hx, hb, hml, hown, hts, hK, hA, hlk, hR⟩ := C
  intro he H locs ls h1 h2 h3 h4
  exact lv_if_gt hx hb hd ht (fun hc => kt (by rw [← he, if_pos hc]) H locs ls h1 h2 h3 h4) (fun hc => kf (by rw [← he, if_neg hc]) H locs ls h1 h2 h3 h4)
theorem z_icmp_gt {x y : Int32} {off : Int} (tgt : Nat) (C : zC X own cc nL rf rl) (hd : decode cc pc = .ok (.if_icmp .gt off, 3)) (ht : (pc : Int) + off = (tgt : Int)) (kt : zJ X nL res e1 tgt lv st cs) (kf : zJ X nL res e2 (pc + 3) lv st cs) : zJ X nL res (if y < x then e1 else e2) pc lv (.int y :: .int x :: st) cs := by
  obtain ⟨p, l, ee, R, s, m, args, below, meth, c, D, kA, A, Q⟩ := X
  obtain ⟨hx, hb, hml, hown, hts, hK, hA, hlk, hR⟩ := C
  intro he H locs ls h1 h2 h3 h4
  exact lv_icmp_gt hx hb hd ht (fun hc => kt (by rw [← he, if_pos hc]) H locs ls h1 h2 h3 h4) (fun hc => kf (by rw [← he, if_neg hc]) H locs ls h1 h2 h3 h4)
theorem z_if_le {x : Int32} {off : Int} (tgt : Nat) (C : zC X own cc nL rf rl) (hd : decode cc pc = .ok (.ifCond .le off, 3)) (ht : (pc : Int) + off = (tgt : Int)) (kt : zJ X nL res e1 tgt lv st cs) (kf : zJ X nL res e2 (pc + 3) lv st cs) : zJ X nL res (if x ≤ 0 then e1 else e2) pc lv (.int x :: st) cs := by
  obtain ⟨p, l, ee, R, s, m, args, below, meth, c, D, kA, A, Q⟩ := X
  obtain ⟨hx, hb, hml, hown, hts, hK, hA, hlk, hR⟩ := C
  intro he H locs ls h1 h2 h3 h4
  exact lv_if_le hx hb hd ht (fun hc => kt (by rw [← he, if_pos hc]) H locs ls h1 h2 h3 h4) (fun hc => kf (by rw [← he, if_neg hc]) H locs ls h1 h2 h3 h4)
theorem z_icmp_le {x y : Int32} {off : Int} (tgt : Nat) (C : zC X own cc nL rf rl) (hd : decode cc pc = .ok (.if_icmp .le off, 3)) (ht : (pc : Int) + off = (tgt : Int)) (kt : zJ X nL res e1 tgt lv st cs) (kf : zJ X nL res e2 (pc + 3) lv st cs) : zJ X nL res (if x ≤ y then e1 else e2) pc lv (.int y :: .int x :: st) cs := by
  obtain ⟨p, l, ee, R, s, m, args, below, meth, c, D, kA, A, Q⟩ := X
  obtain ⟨hx, hb, hml, hown, hts, hK, hA, hlk, hR⟩ := C
  intro he H locs ls h1 h2 h3 h4
  exact lv_icmp_le hx hb hd ht (fun hc => kt (by rw [← he, if_pos hc]) H locs ls h1 h2 h3 h4) (fun hc => kf (by rw [← he, if_neg hc]) H locs ls h1 h2 h3 h4)
theorem z_goto {off : Int} (tgt : Nat) (C : zC X own cc nL rf rl) (hd : decode cc pc = .ok (.goto off, 3)) (ht : (pc : Int) + off = (tgt : Int)) (k : zJ X nL res e tgt lv st cs) : zJ X nL res e pc lv st cs := by
  obtain ⟨p, l, ee, R, s, m, args, below, meth, c, D, kA, A, Q⟩ := X
  obtain ⟨hx, hb, hml, hown, hts, hK, hA, hlk, hR⟩ := C
  intro he H locs ls h1 h2 h3 h4
  exact lv_goto hx hb hd ht (k he H locs ls h1 h2 h3 h4)
end ZR
end
section
/-! fields and arrays of a component -/
section ZH
variable {β : Type} {X : zCx} {own : String} {cc : ByteArray} {nL rf rl : Nat} {res : β} {e : Option β} {pc : Nat} {lv : List (Nat × Value)} {st : List Value} {cs : List zCm} {q : Nat → Nat} {σ : zOS} {c ix : Nat}
theorem z_getI (i f : Nat) (C : zC X own cc nL rf rl) (hd : decode cc pc = .ok (.getfield ix, 3)) (hc : cs[i]? = some (c, q, σ)) (h6 : c < 6) (hf : f < znF c) (hk : zfk c f = 0) (hw : Cond.fieldLink own ix (zTn c f).1 (zTn c f).2.1 (zTn c f).2.2.1 ∈ zTb)
    (k : zJ X nL res e (pc + 3) lv (.int (zF σ f) :: st) cs) : zJ X nL res e pc lv (.ref (q 0) :: st) cs := by
  obtain ⟨p, l, ee, R, s, m, args, below, meth, cd, D, kA, A, Q⟩ := X
  obtain ⟨hx, hb, hml, hown, hts, hK, hA, hlk, hR⟩ := C
  intro he H locs ls h1 h2 h3 h4
  obtain ⟨pos, hp, -⟩ := zgw_at (kA := kA) hc (k := 0) (Nat.zero_le _)
  rw [zce_0] at hp
  exact va_get hx hb hts (zk_w h6) hown hK h1 pos hp (zcl_at h6) f hf (hts _ hw) (fun _ h9 => h9) (v := .int (zF σ f)) (by rw [List.getElem?_map, List.getElem?_range hf]; show some (zfv c q σ f) = _; unfold zfv; rw [hk]) hd (k he H locs ls h1 h2 h3 h4)
theorem z_getH (i f : Nat) (C : zC X own cc nL rf rl) (hd : decode cc pc = .ok (.getfield ix, 3)) (hc : cs[i]? = some (c, q, σ)) (h6 : c < 6) (hf : f < znF c) (hk : zfk c f = 1) (hw : Cond.fieldLink own ix (zTn c f).1 (zTn c f).2.1 (zTn c f).2.2.1 ∈ zTb)
    (k : zJ X nL res e (pc + 3) lv (.long (zH σ) :: st) cs) : zJ X nL res e pc lv (.ref (q 0) :: st) cs := by
  obtain ⟨p, l, ee, R, s, m, args, below, meth, cd, D, kA, A, Q⟩ := X
  obtain ⟨hx, hb, hml, hown, hts, hK, hA, hlk, hR⟩ := C
  intro he H locs ls h1 h2 h3 h4
  obtain ⟨pos, hp, -⟩ := zgw_at (kA := kA) hc (k := 0) (Nat.zero_le _)
  rw [zce_0] at hp
  exact va_get hx hb hts (zk_w h6) hown hK h1 pos hp (zcl_at h6) f hf (hts _ hw) (fun _ h9 => h9) (v := .long (zH σ)) (by rw [List.getElem?_map, List.getElem?_range hf]; show some (zfv c q σ f) = _; unfold zfv; rw [hk]) hd (k he H locs ls h1 h2 h3 h4)
theorem z_getR (i f n : Nat) (C : zC X own cc nL rf rl) (hd : decode cc pc = .ok (.getfield ix, 3)) (hc : cs[i]? = some (c, q, σ)) (h6 : c < 6) (hf : f < znF c) (hk : zfk c f = n + 2) (hw : Cond.fieldLink own ix (zTn c f).1 (zTn c f).2.1 (zTn c f).2.2.1 ∈ zTb)
    (k : zJ X nL res e (pc + 3) lv (.ref (q n) :: st) cs) : zJ X nL res e pc lv (.ref (q 0) :: st) cs := by
  obtain ⟨p, l, ee, R, s, m, args, below, meth, cd, D, kA, A, Q⟩ := X
  obtain ⟨hx, hb, hml, hown, hts, hK, hA, hlk, hR⟩ := C
  intro he H locs ls h1 h2 h3 h4
  obtain ⟨pos, hp, -⟩ := zgw_at (kA := kA) hc (k := 0) (Nat.zero_le _)
  rw [zce_0] at hp
  exact va_get hx hb hts (zk_w h6) hown hK h1 pos hp (zcl_at h6) f hf (hts _ hw) (fun _ h9 => h9) (v := .ref (q n)) (by rw [List.getElem?_map, List.getElem?_range hf]; show some (zfv c q σ f) = _; unfold zfv; rw [hk]) hd (k he H locs ls h1 h2 h3 h4)
theorem z_putI (i f : Nat) {v : Int32} (C : zC X own cc nL rf rl) (hd : decode cc pc = .ok (.putfield ix, 3)) (hc : cs[i]? = some (c, q, σ)) (h6 : c < 6) (hf : f < znF c) (hk : zfk c f = 0) (hw : Cond.fieldLink own ix (zTn c f).1 (zTn c f).2.1 (zTn c f).2.2.1 ∈ zTb)
    (hfin : (zTn c f).2.2.2 = false) (hn : narrow (zTy c f) (.int v) = .int v) (hfit : fits (zTy c f) (.int v) = true) (cs' : List zCm) (hcs : cs.set i (c, q, zsF σ f v) = cs')
    (k : zJ X nL res e (pc + 3) lv st cs') : zJ X nL res e pc lv (.int v :: .ref (q 0) :: st) cs := by
  obtain ⟨p, l, ee, R, s, m, args, below, meth, cd, D, kA, A, Q⟩ := X
  obtain ⟨hx, hb, hml, hown, hts, hK, hA, hlk, hR⟩ := C
  intro he H locs ls h1 h2 h3 h4
  obtain ⟨pos, hp, hset⟩ := zgw_at (kA := kA) hc (k := 0) (Nat.zero_le _)
  have h9 := hset q (zsF σ f v) (fun _ _ => rfl) (fun j _ hj => zce_sF hj)
  rw [zce_0] at hp h9
  rw [← zfl_F hf hk, hcs] at h9
  refine va_put hx hb hts (zk_w h6) (zTy c) (zk_ty h6) (zk_nm h6) hown hK h1 h2 h3 pos hp (zcl_at h6) f hf (hts _ hw) (fun _ h9 => h9) hfin (zk_ty h6 f hf) hn hfit (by simp [hf]) hd (fun H1 locs1 g1 g2 g3 => ?_)
  rw [h9] at g1 g2
  exact k he H1 locs1 ls g1 g2 g3 h4
theorem z_putH (i f : Nat) {v : Int64} (C : zC X own cc nL rf rl) (hd : decode cc pc = .ok (.putfield ix, 3)) (hc : cs[i]? = some (c, q, σ)) (h6 : c < 6) (hf : f < znF c) (hk : zfk c f = 1) (hu : ∀ j, j < znF c → j ≠ f → zfk c j ≠ 1) (hw : Cond.fieldLink own ix (zTn c f).1 (zTn c f).2.1 (zTn c f).2.2.1 ∈ zTb)
    (hfin : (zTn c f).2.2.2 = false) (hn : narrow (zTy c f) (.long v) = .long v) (hfit : fits (zTy c f) (.long v) = true) (cs' : List zCm) (hcs : cs.set i (c, q, zsH σ v) = cs')
    (k : zJ X nL res e (pc + 3) lv st cs') : zJ X nL res e pc lv (.long v :: .ref (q 0) :: st) cs := by
  obtain ⟨p, l, ee, R, s, m, args, below, meth, cd, D, kA, A, Q⟩ := X
  obtain ⟨hx, hb, hml, hown, hts, hK, hA, hlk, hR⟩ := C
  intro he H locs ls h1 h2 h3 h4
  obtain ⟨pos, hp, hset⟩ := zgw_at (kA := kA) hc (k := 0) (Nat.zero_le _)
  have h9 := hset q (zsH σ v) (fun _ _ => rfl) (fun j _ hj => zce_sH hj)
  rw [zce_0] at hp h9
  rw [← zfl_H hf hk hu, hcs] at h9
  refine va_put hx hb hts (zk_w h6) (zTy c) (zk_ty h6) (zk_nm h6) hown hK h1 h2 h3 pos hp (zcl_at h6) f hf (hts _ hw) (fun _ h9 => h9) hfin (zk_ty h6 f hf) hn hfit (by simp [hf]) hd (fun H1 locs1 g1 g2 g3 => ?_)
  rw [h9] at g1 g2
  exact k he H1 locs1 ls g1 g2 g3 h4
theorem zchk_some {j : Int32} {n : Nat} (he : zchk j n e = some res) : e = some res ∧ vp_in j n := by
  unfold zchk at he
  by_cases h : j < 0 ∨ n ≤ j.toNatClampNeg
  · rw [if_pos h] at he; cases he
  · rw [if_neg h] at he; exact ⟨he, h⟩
theorem z_iald (i : Nat) {a n : Nat} {j : Int32} (C : zC X own cc nL rf rl) (hd : decode cc pc = .ok (.iaload, 1)) (hc : cs[i]? = some (c, q, σ)) (ha : zAr c a 0 n)
    (k : zJ X nL res e (pc + 1) lv (.int (zI σ a j.toNatClampNeg) :: st) cs) : zJ X nL res (zchk j n e) pc lv (.int j :: .ref (q a) :: st) cs := by
  obtain ⟨p, l, ee, R, s, m, args, below, meth, cd, D, kA, A, Q⟩ := X
  obtain ⟨hx, hb, hml, hown, hts, hK, hA, hlk, hR⟩ := C
  intro he H locs ls h1 h2 h3 h4
  obtain ⟨he, hin⟩ := zchk_some he
  obtain ⟨pos, hp, -⟩ := zgw_at (kA := kA) hc (k := a) ha.1.2
  rw [zce_i ha] at hp
  exact va_iald hx hb hK h1 pos 0 hp rfl hin hd (k he H locs ls h1 h2 h3 h4)
theorem z_bald (i : Nat) {a n : Nat} {j : Int32} (C : zC X own cc nL rf rl) (hd : decode cc pc = .ok (.baload, 1)) (hc : cs[i]? = some (c, q, σ)) (ha : zAr c a 2 n)
    (k : zJ X nL res e (pc + 1) lv (.int (zI σ a j.toNatClampNeg) :: st) cs) : zJ X nL res (zchk j n e) pc lv (.int j :: .ref (q a) :: st) cs := by
  obtain ⟨p, l, ee, R, s, m, args, below, meth, cd, D, kA, A, Q⟩ := X
  obtain ⟨hx, hb, hml, hown, hts, hK, hA, hlk, hR⟩ := C
  intro he H locs ls h1 h2 h3 h4
  obtain ⟨he, hin⟩ := zchk_some he
  obtain ⟨pos, hp, -⟩ := zgw_at (kA := kA) hc (k := a) ha.1.2
  rw [zce_b ha] at hp
  exact va_bald hx hb hK h1 pos 2 hp rfl hin hd (k he H locs ls h1 h2 h3 h4)
theorem z_lald (i : Nat) {a n : Nat} {j : Int32} (C : zC X own cc nL rf rl) (hd : decode cc pc = .ok (.laload, 1)) (hc : cs[i]? = some (c, q, σ)) (ha : zAr c a 1 n)
    (k : zJ X nL res e (pc + 1) lv (.long (zL σ a j.toNatClampNeg) :: st) cs) : zJ X nL res (zchk j n e) pc lv (.int j :: .ref (q a) :: st) cs := by
  obtain ⟨p, l, ee, R, s, m, args, below, meth, cd, D, kA, A, Q⟩ := X
  obtain ⟨hx, hb, hml, hown, hts, hK, hA, hlk, hR⟩ := C
  intro he H locs ls h1 h2 h3 h4
  obtain ⟨he, hin⟩ := zchk_some he
  obtain ⟨pos, hp, -⟩ := zgw_at (kA := kA) hc (k := a) ha.1.2
  rw [zce_l ha] at hp
  exact va_lald hx hb hK h1 pos 1 hp rfl hin hd (k he H locs ls h1 h2 h3 h4)
theorem zrf_if {n : Nat} {j : Int32} {g : Nat → Nat} (h : vp_in j n) : va_rf (if j.toNatClampNeg < n then some (g j.toNatClampNeg) else none) = .ref (g j.toNatClampNeg) := by
  rw [if_pos (Nat.not_le.mp fun q => h (Or.inr q))]
  rfl
theorem z_aald (i : Nat) {a kd n : Nat} {j : Int32} (C : zC X own cc nL rf rl) (hd : decode cc pc = .ok (.aaload, 1)) (hc : cs[i]? = some (c, q, σ)) (ha : zAr c a kd n) (hkd : kd = 3 ∨ kd = 4 ∨ kd = 5)
    (k : zJ X nL res e (pc + 1) lv (.ref (q (zbs c + j.toNatClampNeg)) :: st) cs) : zJ X nL res (zchk j n e) pc lv (.int j :: .ref (q a) :: st) cs := by
  obtain ⟨p, l, ee, R, s, m, args, below, meth, cd, D, kA, A, Q⟩ := X
  obtain ⟨hx, hb, hml, hown, hts, hK, hA, hlk, hR⟩ := C
  intro he H locs ls h1 h2 h3 h4
  obtain ⟨he, hin⟩ := zchk_some he
  obtain ⟨pos, hp, -⟩ := zgw_at (kA := kA) hc (k := a) ha.1.2
  rw [zce_r ha (by omega)] at hp
  have kk := k he H locs ls h1 h2 h3 h4
  have hlt : j.toNatClampNeg < n := Nat.not_le.mp fun q => hin (Or.inr q)
  rw [← zrf_if (n := n) (g := fun x => q (zbs c + x)) hin] at kk
  rcases hkd with rfl | rfl | rfl
  · exact W.aald (v := va_rf (if j.toNatClampNeg < n then some (q (zbs c + j.toNatClampNeg)) else none)) (ty := .array .int) hx hb (h1 pos _ hp) ((hK.2 3 _ rfl).1 n (fun j => va_rf (if j < n then some (q (zbs c + j)) else none))) rfl (fun q => by cases q) (by show ¬ (j < 0 ∨ (arrV _ _ _).slots.size ≤ _); rw [arrV_size]; exact hin) (by show (arrV _ _ _).slots[_]? = _; rw [arrV_read _ _ hlt]) rfl rfl hd kk
  · exact W.aald (v := va_rf (if j.toNatClampNeg < n then some (q (zbs c + j.toNatClampNeg)) else none)) (ty := .array .long) hx hb (h1 pos _ hp) ((hK.2 4 _ rfl).1 n (fun j => va_rf (if j < n then some (q (zbs c + j)) else none))) rfl (fun q => by cases q) (by show ¬ (j < 0 ∨ (arrV _ _ _).slots.size ≤ _); rw [arrV_size]; exact hin) (by show (arrV _ _ _).slots[_]? = _; rw [arrV_read _ _ hlt]) rfl rfl hd kk
  · exact va_aldq hx hb hK h1 pos 5 hp rfl hin hd kk
theorem z_iast (i : Nat) {a n : Nat} {j v : Int32} (C : zC X own cc nL rf rl) (hd : decode cc pc = .ok (.iastore, 1)) (hc : cs[i]? = some (c, q, σ)) (ha : zAr c a 0 n) (cs' : List zCm) (hcs : cs.set i (c, q, zsI σ a (upd (zI σ a) j.toNatClampNeg v)) = cs')
    (k : zJ X nL res e (pc + 1) lv st cs') : zJ X nL res (zchk j n e) pc lv (.int v :: .int j :: .ref (q a) :: st) cs := by
  obtain ⟨p, l, ee, R, s, m, args, below, meth, cd, D, kA, A, Q⟩ := X
  obtain ⟨hx, hb, hml, hown, hts, hK, hA, hlk, hR⟩ := C
  intro he H locs ls h1 h2 h3 h4
  obtain ⟨he, hin⟩ := zchk_some he
  obtain ⟨pos, hp, hset⟩ := zgw_at (kA := kA) hc (k := a) ha.1.2
  have h9 := hset q (zsI σ a (upd (zI σ a) j.toNatClampNeg v)) (fun _ _ => rfl) (fun j _ hj => zce_sI hj)
  rw [zce_i ha] at hp h9
  rw [zI_e, hcs] at h9
  refine va_iast hx hb hK h1 h2 h3 pos 0 hp rfl hin hd (fun H1 locs1 g1 g2 g3 => ?_)
  rw [h9] at g1 g2
  exact k he H1 locs1 ls g1 g2 g3 h4
theorem z_bast (i : Nat) {a n : Nat} {j v : Int32} (C : zC X own cc nL rf rl) (hd : decode cc pc = .ok (.bastore, 1)) (hc : cs[i]? = some (c, q, σ)) (ha : zAr c a 2 n) (cs' : List zCm) (hcs : cs.set i (c, q, zsI σ a (upd (zI σ a) j.toNatClampNeg (vp_nar .byte v))) = cs')
    (k : zJ X nL res e (pc + 1) lv st cs') : zJ X nL res (zchk j n e) pc lv (.int v :: .int j :: .ref (q a) :: st) cs := by
  obtain ⟨p, l, ee, R, s, m, args, below, meth, cd, D, kA, A, Q⟩ := X
  obtain ⟨hx, hb, hml, hown, hts, hK, hA, hlk, hR⟩ := C
  intro he H locs ls h1 h2 h3 h4
  obtain ⟨he, hin⟩ := zchk_some he
  obtain ⟨pos, hp, hset⟩ := zgw_at (kA := kA) hc (k := a) ha.1.2
  have h9 := hset q (zsI σ a (upd (zI σ a) j.toNatClampNeg (vp_nar .byte v))) (fun _ _ => rfl) (fun j _ hj => zce_sI hj)
  rw [zce_b ha] at hp h9
  rw [zI_e, hcs] at h9
  refine va_bast hx hb hK h1 h2 h3 pos 2 hp rfl hin hd (fun H1 locs1 g1 g2 g3 => ?_)
  rw [h9] at g1 g2
  exact k he H1 locs1 ls g1 g2 g3 h4
theorem z_last (i : Nat) {a n : Nat} {j : Int32} {v : Int64} (C : zC X own cc nL rf rl) (hd : decode cc pc = .ok (.lastore, 1)) (hc : cs[i]? = some (c, q, σ)) (ha : zAr c a 1 n) (cs' : List zCm) (hcs : cs.set i (c, q, zsL σ a (vp_updL (zL σ a) j.toNatClampNeg v)) = cs')
    (k : zJ X nL res e (pc + 1) lv st cs') : zJ X nL res (zchk j n e) pc lv (.long v :: .int j :: .ref (q a) :: st) cs := by
  obtain ⟨p, l, ee, R, s, m, args, below, meth, cd, D, kA, A, Q⟩ := X
  obtain ⟨hx, hb, hml, hown, hts, hK, hA, hlk, hR⟩ := C
  intro he H locs ls h1 h2 h3 h4
  obtain ⟨he, hin⟩ := zchk_some he
  obtain ⟨pos, hp, hset⟩ := zgw_at (kA := kA) hc (k := a) ha.1.2
  have h9 := hset q (zsL σ a (vp_updL (zL σ a) j.toNatClampNeg v)) (fun _ _ => rfl) (fun j _ hj => zce_sL hj)
  rw [zce_l ha] at hp h9
  rw [zL_e, hcs] at h9
  refine va_last hx hb hK h1 h2 h3 pos 1 hp rfl hin hd (fun H1 locs1 g1 g2 g3 => ?_)
  rw [h9] at g1 g2
  exact k he H1 locs1 ls g1 g2 g3 h4
theorem z_alen (i kd : Nat) {a n : Nat} (v : Int32) (C : zC X own cc nL rf rl) (hd : decode cc pc = .ok (.arraylength, 1)) (hc : cs[i]? = some (c, q, σ)) (ha : zAr c a kd n) (hkd : kd = 0 ∨ kd = 1 ∨ kd = 2) (hv : Int32.ofNat n = v)
    (k : zJ X nL res e (pc + 1) lv (.int v :: st) cs) : zJ X nL res e pc lv (.ref (q a) :: st) cs := by
  obtain ⟨p, l, ee, R, s, m, args, below, meth, cd, D, kA, A, Q⟩ := X
  obtain ⟨hx, hb, hml, hown, hts, hK, hA, hlk, hR⟩ := C
  intro he H locs ls h1 h2 h3 h4
  obtain ⟨pos, hp, -⟩ := zgw_at (kA := kA) hc (k := a) ha.1.2
  rcases hkd with rfl | rfl | rfl
  · rw [zce_i ha] at hp
    exact va_alen hx hb hK h1 pos 0 hp rfl hv hd (k he H locs ls h1 h2 h3 h4)
  · rw [zce_l ha] at hp
    exact va_alen hx hb hK h1 pos 1 hp rfl hv hd (k he H locs ls h1 h2 h3 h4)
  · rw [zce_b ha] at hp
    exact va_alen hx hb hK h1 pos 2 hp rfl hv hd (k he H locs ls h1 h2 h3 h4)
end ZH
end
section
/-! contracts, answers, calls -/
def zQ (D : va_G) (kA : Nat → ClassId) (r : Option Value) (cs1 : List zCm) (A : Nat → Prop) : Array Value → State → Outcome → State → Prop := fun _ st oc t =>
  (oc = .returned r ∧ va_P D zcl (zgw kA cs1) t.heap ∧ va_K D zcl (zty kA) t ∧ va_D A (zgw kA cs1)) ∧ va_F A st t
def zB (D : va_G) (kA : Nat → ClassId) (sz : Nat) (cs : List zCm) (U : State) : Prop := U.heap.size = sz ∧ va_P D zcl (zgw kA cs) U.heap ∧ va_K D zcl (zty kA) U ∧ va_D (fun _ => True) (zgw kA cs) ∧ zNw U
/-- a method's contract: from the components cs it answers r and leaves cs1 -/
def zM (y : MethodName) (cc : ByteArray) (nL : Nat) (ret : Option FieldType) (rf rl : Nat) (As : List Value) (cs : List zCm) (r : Option Value) (cs1 : List zCm) : Prop :=
  ∀ (l : Launch) (D : va_G) (kA : Nat → ClassId) (sz : Nat), Met l y (.code y cc nL ret :: zTb) { frames := rf, cells := 0, slots := 0, locals := rl } (va_Pc As (zB D kA sz cs)) (zQ D kA r cs1 (va_A (zgw kA cs) sz)) 0 0 (va_A (zgw kA cs) sz)
def zR (X : zCx) (ret : Option FieldType) (r : Option Value) (cs1 : List zCm) : Prop := match X with
  | (p, l, e, R, s, m, args, below, meth, c, D, kA, A, Q) => meth.sig.returnType = ret ∧ Q = MQ below (zQ D kA r cs1 A) args s 0 0 A
theorem zM_of {y : MethodName} {cc : ByteArray} {nL : Nat} {ret : Option FieldType} {rf rl : Nat} {As : List Value} {cs : List zCm} {r : Option Value} {cs1 : List zCm} (hy : plainName y.cls = true) (hl : (lg_sl As).length ≤ nL)
    (body : ∀ X : zCx, zC X y.cls cc nL rf rl → zR X ret r cs1 → zN X nL 0 (lv_args 0 As) [] cs) : zM y cc nL ret rf rl As cs r cs1 := by
  intro l D kA sz
  refine Met.ofW (cc := cc) (maxL := nL) (ret := ret) hy rfl ?_
  intro p e s m args below meth c s₁ B hml hv
  obtain ⟨rfl, hsz, hP, hK, hD0, hN⟩ := hv
  have hx := B.exec
  have hb := B.bytes
  have hr := B.returns
  have hts := atoms_spec (ws := .code y cc nL ret :: zTb) B.pre
  have hown : s.vm.findClass y.cls = some m.cls := findClass_of_methodNamed B.named
  have hlocks := B.notSynchronized
  subst hsz
  have hD := hD0.self (sz := s.heap.size)
  generalize hAe : va_A (zgw kA cs) s.heap.size = A at hD ⊢
  have hA : ∀ q : Nat, s.heap.size ≤ q → A q := fun q h => by rw [← hAe]; exact Or.inr h
  have hl := lv_entry As (n := nL) hl
  rw [lg_entry_eq]
  exact body (p, l, e, _, s, m, As.toArray, below, meth, c, D, kA, A, _) ⟨hx, hb, hml, hown, fun w hw => hts w (List.mem_cons_of_mem _ hw), hK, hA, hlocks, rfl, hN⟩ ⟨hr, rfl⟩ s.heap [] _ hP hD va_S.rf hl
section ZA
variable {β : Type} {X : zCx} {own : String} {cc : ByteArray} {nL rf rl : Nat} {res b : β} {pc : Nat} {lv : List (Nat × Value)} {cs cs1 : List zCm} {r : Option Value}
theorem z_ireturn {v : Int32} (C : zC X own cc nL rf rl) (hR : zR X (some .int) r cs1) (hd : decode cc pc = .ok (.ireturn, 1)) (hv : b = res → r = some (.int v) ∧ cs1 = cs) : zJ X nL res (some b) pc lv [.int v] cs := by
  obtain ⟨p, l, ee, R, s, m, args, below, meth, c, D, kA, A, Q⟩ := X
  obtain ⟨hx, hb, hml, hown, hts, hK, hA, hlk, -⟩ := C
  obtain ⟨hr, hQ⟩ := hR
  intro he H locs ls h1 h2 h3 h4
  obtain ⟨rfl, rfl⟩ := hv (Option.some.inj he)
  subst hQ
  exact W.iret hx hb hr (fun t ht hW => ⟨⟨rfl, by rw [ht]; exact h1, va_K.moved hW.alike hK, h2⟩, h3.F ht⟩) h3.2.2 hd
theorem z_lreturn {v : Int64} (C : zC X own cc nL rf rl) (hR : zR X (some .long) r cs1) (hd : decode cc pc = .ok (.lreturn, 1)) (hv : b = res → r = some (.long v) ∧ cs1 = cs) : zJ X nL res (some b) pc lv [.long v] cs := by
  obtain ⟨p, l, ee, R, s, m, args, below, meth, c, D, kA, A, Q⟩ := X
  obtain ⟨hx, hb, hml, hown, hts, hK, hA, hlk, -⟩ := C
  obtain ⟨hr, hQ⟩ := hR
  intro he H locs ls h1 h2 h3 h4
  obtain ⟨rfl, rfl⟩ := hv (Option.some.inj he)
  subst hQ
  exact W.lret hx hb hr (fun t ht hW => ⟨⟨rfl, by rw [ht]; exact h1, va_K.moved hW.alike hK, h2⟩, h3.F ht⟩) h3.2.2 hd
theorem z_return (C : zC X own cc nL rf rl) (hR : zR X none r cs1) (hd : decode cc pc = .ok (.return_, 1)) (hv : b = res → r = none ∧ cs1 = cs) : zJ X nL res (some b) pc lv [] cs := by
  obtain ⟨p, l, ee, R, s, m, args, below, meth, c, D, kA, A, Q⟩ := X
  obtain ⟨hx, hb, hml, hown, hts, hK, hA, hlk, -⟩ := C
  obtain ⟨hr, hQ⟩ := hR
  intro he H locs ls h1 h2 h3 h4
  obtain ⟨rfl, rfl⟩ := hv (Option.some.inj he)
  subst hQ
  exact W.vret hx hb hr (fun t ht hW => ⟨⟨rfl, by rw [ht]; exact h1, va_K.moved hW.alike hK, h2⟩, h3.F ht⟩) h3.2.2 hd
theorem z_areturn {a : Nat} {ty : FieldType} (C : zC X own cc nL rf rl) (hR : zR X (some ty) r cs1) (hd : decode cc pc = .ok (.areturn, 1)) (hv : b = res → r = some (.ref a) ∧ cs1 = cs) (hty : ∃ c, ty = .object c) : zJ X nL res (some b) pc lv [.ref a] cs := by
  obtain ⟨p, l, ee, R, s, m, args, below, meth, c, D, kA, A, Q⟩ := X
  obtain ⟨hx, hb, hml, hown, hts, hK, hA, hlk, -⟩ := C
  obtain ⟨hr, hQ⟩ := hR
  obtain ⟨co, rfl⟩ := hty
  intro he H locs ls h1 h2 h3 h4
  obtain ⟨rfl, rfl⟩ := hv (Option.some.inj he)
  subst hQ
  exact W.aret hx hb hr (Or.inl ⟨co, rfl⟩) (Or.inr ⟨a, rfl⟩) (fun t ht hW => ⟨⟨rfl, by rw [ht]; exact h1, va_K.moved hW.alike hK, h2⟩, h3.F ht⟩) h3.2.2 hd
/-- an answer that is a boolean -/
def zbk {β : Type} (v : Int32) (e : Option β) : Option β := if v = 0 ∨ v = 1 then e else none
theorem z_zreturn {v : Int32} (C : zC X own cc nL rf rl) (hR : zR X (some .boolean) r cs1) (hd : decode cc pc = .ok (.ireturn, 1)) (hv : b = res → r = some (.int v) ∧ cs1 = cs) : zJ X nL res (zbk v (some b)) pc lv [.int v] cs := by
  obtain ⟨p, l, ee, R, s, m, args, below, meth, c, D, kA, A, Q⟩ := X
  obtain ⟨hx, hb, hml, hown, hts, hK, hA, hlk, -⟩ := C
  obtain ⟨hr, hQ⟩ := hR
  intro he H locs ls h1 h2 h3 h4
  unfold zbk at he
  by_cases hb01 : v = 0 ∨ v = 1
  · rw [if_pos hb01] at he
    obtain ⟨rfl, rfl⟩ := hv (Option.some.inj he)
    subst hQ
    exact W.zret hx hb hr (by rcases hb01 with rfl | rfl <;> decide) (fun t ht hW => ⟨⟨rfl, by rw [ht]; exact h1, va_K.moved hW.alike hK, h2⟩, h3.F ht⟩) h3.2.2 hd
  · rw [if_neg hb01] at he; cases he
end ZA
/-! worlds in another order -/
theorem zP_perm {D : va_G} {cl : List vw_C} {w1 w2 : va_W} {H : Heap} (hp : w1.Perm w2) (h : va_P D cl w1 H) : va_P D cl w2 H := fun k q hk => by
  obtain ⟨j, hj⟩ := List.getElem?_of_mem (hp.symm.mem_iff.mp (List.mem_of_getElem? hk))
  exact h j q hj
theorem zD_iff {A : Nat → Prop} {ws : va_W} : va_D A ws ↔ (ws.map Prod.fst).Nodup ∧ ∀ x ∈ ws, A x.1 := by
  constructor
  · intro h
    refine ⟨?_, fun x hx => ?_⟩
    · rw [List.Nodup, List.pairwise_iff_getElem]
      intro i j hi hj hij he
      rw [List.length_map] at hi hj
      have := h.1 i j ws[i] ws[j] (List.getElem?_eq_getElem hi) (List.getElem?_eq_getElem hj) (by simpa using he)
      omega
    · obtain ⟨k, hk⟩ := List.getElem?_of_mem hx
      exact h.2 k x hk
  · intro h
    refine ⟨fun i j p q hi hj hpq => ?_, fun k q hk => h.2 q (List.mem_of_getElem? hk)⟩
    have hn := h.1
    rw [List.Nodup, List.pairwise_iff_getElem] at hn
    obtain ⟨hi1, hi2⟩ := List.getElem?_eq_some_iff.mp hi
    obtain ⟨hj1, hj2⟩ := List.getElem?_eq_some_iff.mp hj
    have hi3 : i < (ws.map Prod.fst).length := by rw [List.length_map]; exact hi1
    have hj3 : j < (ws.map Prod.fst).length := by rw [List.length_map]; exact hj1
    rcases Nat.lt_trichotomy i j with hl | hl | hl
    · exact absurd (show (ws.map Prod.fst)[i] = (ws.map Prod.fst)[j] by rw [List.getElem_map, List.getElem_map, hi2, hj2, hpq]) (hn i j hi3 hj3 hl)
    · exact hl
    · exact absurd (show (ws.map Prod.fst)[j] = (ws.map Prod.fst)[i] by rw [List.getElem_map, List.getElem_map, hi2, hj2, hpq]) (hn j i hj3 hi3 hl)
theorem zD_perm {A : Nat → Prop} {w1 w2 : va_W} (hp : w1.Perm w2) (h : va_D A w1) : va_D A w2 := by
  rw [zD_iff] at h ⊢
  exact ⟨(hp.map Prod.fst).nodup h.1, fun x hx => h.2 x (hp.symm.mem_iff.mp hx)⟩
theorem zgw_perm {kA : Nat → ClassId} {c1 c2 : List zCm} (hp : c1.Perm c2) : (zgw kA c1).Perm (zgw kA c2) := hp.flatMap_right _
theorem zgw_app {kA : Nat → ClassId} {c1 c2 : List zCm} : zgw kA (c1 ++ c2) = zgw kA c1 ++ zgw kA c2 := by simp [zgw]
theorem zpl_l {α : Type} (a b : List α) : (List.range a.length).map (fun i => (a ++ b)[i]?) = a.map some := by
  apply List.ext_getElem?
  intro i
  by_cases h : i < a.length
  · simp [h, List.getElem?_append_left h]
  · rw [List.getElem?_eq_none (by simp; omega), List.getElem?_eq_none (by simp; omega)]
theorem zpl_r {α : Type} (a b : List α) : ((List.range b.length).map (fun i => a.length + i)).map (fun i => (a ++ b)[i]?) = b.map some := by
  apply List.ext_getElem?
  intro i
  by_cases h : i < b.length
  · simp [h]
  · rw [List.getElem?_eq_none (by simp; omega), List.getElem?_eq_none (by simp; omega)]
theorem znd_of {l : List Nat} (h : l.Nodup) : va_nd l = true := by
  induction l with
  | nil => rfl
  | cons a l ih =>
    rw [List.nodup_cons] at h
    simp [va_nd, h.1, ih h.2]
/-- behind a call: the callee's cells are new, the others as they were -/
theorem zjoin {A0 : Nat → Prop} {D : va_G} {cl : List vw_C} {wc wr w1 : va_W} {H H1 : Heap} (hP : va_P D cl (wc ++ wr) H) (hD : va_D A0 (wc ++ wr)) (hk : ∀ q : Nat, q < H.size → ¬ va_A wc H.size q → H1[q]? = H[q]?) (hF : ∀ q, va_A wc H.size q → A0 q) (hP1 : va_P D cl w1 H1) (hD1 : va_D (va_A wc H.size) w1) : va_P D cl (w1 ++ wr) H1 ∧ va_D A0 (w1 ++ wr) := by
  have h := va_join (wr := wr) (w1 := w1) hP hD (List.range wc.length) ((List.range wr.length).map (fun i => wc.length + i)) (zpl_l wc wr) (zpl_r wc wr) (znd_of (by
    rw [List.Nodup, List.pairwise_map]
    exact List.Pairwise.imp (fun h1 h2 => h1 (by omega)) List.nodup_range)) (by
      intro i hi hc
      simp at hi hc
      omega) hk hF hP1 hD1
  exact ⟨zP_perm List.perm_append_comm h.1, zD_perm List.perm_append_comm h.2⟩
theorem zfree {A0 : Nat → Prop} {wc wr : va_W} {H0 H : Heap} {locs : List Loc} (hD : va_D A0 (wc ++ wr)) (hS : va_S A0 H0 H locs) (hA : ∀ q, H0.size ≤ q → A0 q) : ∀ q, va_A wc H.size q → A0 q := va_free hD hS hA (List.range wc.length) (zpl_l wc wr)
theorem zrun {p : Program} {l : Launch} {e : Env} {R : Room} {s : State} {m : MethodId} {args : Array Value} {below : List Frame} {meth : Method} {c : Code} {H : Heap} {locs : List Loc} {Q : State → Prop} {pc : Nat} {ls : Array Slot} {st st0 : List Value} {a : Array Value} {A : Nat → Prop} {D : va_G} {kA : Nat → ClassId} {r : Option Value} {cc0 cc1 cr cs' : List zCm}
    (hr : va_Run p l e R s m args below meth c H locs 0 0 0 0 (F0 m pc ls st0) st (zQ D kA r cc1 (va_A (zgw kA cc0) H.size) a) (va_A (zgw kA cc0) H.size)) (h1 : va_P D zcl (zgw kA (cc0 ++ cr)) H) (h2 : va_D A (zgw kA (cc0 ++ cr))) (h3 : va_S A s.heap H locs) (hA : ∀ q, s.heap.size ≤ q → A q) (hp2 : (cc1 ++ cr).Perm cs')
    (kk : ∀ (H1 : Heap) (locs1 : List Loc), va_P D zcl (zgw kA cs') H1 → va_D A (zgw kA cs') → va_S A s.heap H1 locs1 → W p l e R s m args below meth c H1 locs1 0 0 Q (F0 m (pc + 3) ls (r.toList ++ st))) : W p l e R s m args below meth c H locs 0 0 Q (F0 m pc ls st0) := by
  rw [zgw_app] at h1 h2
  have hF := zfree h2 h3 hA
  intro T hT Xs
  obtain ⟨v, st₀, t, T', L, h0, X', hL, e1, e2, ⟨⟨hv, qP, qK, qD⟩, hz, hk⟩, stp⟩ := hr T hT Xs
  cases hv
  rw [h0] at hz hk
  rw [← e1] at qP hz
  have hk' : ∀ q : Nat, q < H.size → ¬ va_A (zgw kA cc0) H.size q → T'.heap[q]? = H[q]? := fun q g1 g2 => by rw [e1]; exact hk q g1 g2
  obtain ⟨j1, j2⟩ := zjoin h1 h2 hk' hF qP qD
  rw [← zgw_app] at j1 j2
  obtain ⟨t2, a1, b1⟩ := kk T'.heap (locs ++ L) (zP_perm (zgw_perm hp2) j1) (zD_perm (zgw_perm hp2) j2) ⟨Nat.le_trans h3.1 hz, fun q g1 g2 => by
      rw [hk' q (Nat.lt_of_lt_of_le g1 h3.1) (fun z => g2 (hF q z))]; exact h3.2.1 q g1 g2, fun q hq => by
      rcases List.mem_append.mp hq with h | h
      · exact h3.2.2 q h
      · exact hF _ (hL q h)⟩ T' rfl X'
  exact ⟨t2, stp t2 a1, b1⟩
def zYV (y : MethodName) (cc : ByteArray) (nL : Nat) (ret : Option FieldType) (n : Nat) : Prop := Cond.code y cc nL ret ∈ zTb ∧ Cond.initialized y.cls ∈ zTb ∧ (y.cls ≠ "java/lang/invoke/MethodHandle" ∧ y.cls ≠ "java/lang/invoke/VarHandle" ∧ (parseMethodDescriptor y.desc).map (fun d => d.parameters.length) = some n) ∧ Cond.instanceMethod y ∈ zTb ∧ Cond.selects y.cls y y ∈ zTb
def zYS (y : MethodName) (cc : ByteArray) (nL : Nat) (ret : Option FieldType) (n : Nat) : Prop := Cond.code y cc nL ret ∈ zTb ∧ Cond.initialized y.cls ∈ zTb ∧ (y.cls ≠ "java/lang/invoke/MethodHandle" ∧ y.cls ≠ "java/lang/invoke/VarHandle" ∧ (parseMethodDescriptor y.desc).map (fun d => d.parameters.length) = some n) ∧ Cond.static y ∈ zTb
theorem zB_blind {D : va_G} {kA : Nat → ClassId} {sz : Nat} {cs : List zCm} {As : List Value} : FrameBlind (va_Pc As (zB D kA sz cs)) := fun a U g mk q => by
  obtain ⟨q0, q1, qP, qK, qD, qN⟩ := q
  exact ⟨q0, q1, qP, va_K.moved (u := U) (U := U.calling g mk a) (Vm.Alike.refl U.vm) qK, qD, qN.same rfl⟩
section ZC
variable {α β : Type} {X : zCx} {own : String} {cc cc' : ByteArray} {nL nL' rf rl rf' rl' n ix : Nat} {res : β} {kf : α → Option β} {pc : Nat} {lv : List (Nat × Value)} {stk : List Value} {cs : List zCm} {y : MethodName} {ret : Option FieldType} {c' : Nat} {q' : Nat → Nat} {σ' : zOS} {host : String}
/-- a call of an instance's method that answers something -/
theorem z_callV (ga : Option α) (As st : List Value) (cc0 : List zCm) (rv : α → Option Value) (cc1 : α → List zCm) (cr : List zCm) (cs' : α → List zCm) (C : zC X own cc nL rf rl) (hd : decode cc pc = .ok (.invokevirtual ix, 3)) (hY : zYV y cc' nL' ret n) (hl : Cond.methodLink own ix y ∈ zTb)
    (hM : ∀ a, ga = some a → zM y cc' nL' ret rf' rl' (.ref (q' 0) :: As) cc0 (rv a) (cc1 a)) (hrm : rf' + 1 ≤ rf ∧ 8 + (nL' + 11) + rl' ≤ rl) (hn : As.length = n) (hr0 : cc0[0]? = some (c', q', σ')) (h6 : c' < 6) (hcl : zRn c' = y.cls) (hst : (st.map fun v => v.category).sum ≤ 8) (hp1 : cs.Perm (cc0 ++ cr)) (hp2 : ∀ a, (cc1 a ++ cr).Perm (cs' a)) (hsk : stk = As.reverse ++ .ref (q' 0) :: st)
    (k : ∀ a, ga = some a → zJ X nL res (kf a) (pc + 3) lv ((rv a).toList ++ st) (cs' a)) : zJ X nL res (ga.bind kf) pc lv stk cs := by
  obtain ⟨p, l, ee, R, s, m, args, below, meth, cd, D, kA, A, Q⟩ := X
  obtain ⟨hx, hb, hml, hown, hts, hK, hA, hlk, hR, hNw⟩ := C
  intro he H locs ls h1 h2 h3 h4
  cases hg : ga with
  | none => rw [hg] at he; cases he
  | some a =>
    rw [hg] at he
    subst hsk
    have g1 := zP_perm (zgw_perm (kA := kA) hp1) h1
    have g2 := zD_perm (zgw_perm (kA := kA) hp1) h2
    have g1c : va_P D zcl (zgw kA cc0) H := fun k q hk => g1 k q (by rw [zgw_app, List.getElem?_append_left (List.getElem?_eq_some_iff.mp hk).1]; exact hk)
    have g2c : va_D (fun _ => True) (zgw kA cc0) := by
      rw [zgw_app, zD_iff] at g2
      rw [zD_iff]
      refine ⟨?_, fun _ _ => trivial⟩
      rw [List.map_append, List.nodup_append] at g2
      exact g2.1.1
    obtain ⟨pos, hp, -⟩ := zgw_at (kA := kA) hr0 (k := 0) (Nat.zero_le _)
    rw [zce_0] at hp
    obtain ⟨w1, w2, w3, w4, w5⟩ := hY
    have hRf : rf' + 1 ≤ R.frames ∧ 8 + (nL' + 11) + rl' ≤ R.locals := by rw [hR]; exact hrm
    refine zrun (cr := cr) (va_runV (As := As) (rest := st) (C := y.cls) (b := q' 0) (n := n) ⟨hx, hb, hml, hown, hts⟩ (hM a hg l D kA H.size) ⟨callB_of n hts (zk_gi w1) rfl rfl rfl (hts _ w2) (hts _ hl) w3 hRf, hts _ w4, hts _ w5⟩ ⟨zB_blind, ?_, fun U hU hW => ⟨rfl, by rw [hU], by rw [hU]; exact g1c, va_K.moved hW.alike hK, g2c, hNw.warm hW⟩⟩ rfl hn h4.1 rfl (lv_room hst) hd ⟨Nat.zero_le _, Nat.zero_le _⟩) g1 g2 h3 hA (hp2 a) (fun H1 locs1 k1 k2 k3 => k a hg he H1 locs1 ls k1 k2 k3 h4)
    obtain ⟨cell, r1, r2, r3⟩ := va_recv hK g1c (zcl_at h6) hp
    exact ⟨cell, r1, r2, by rw [← hcl]; exact r3⟩
theorem z_callS (ga : Option α) (As st : List Value) (cc0 : List zCm) (rv : α → Option Value) (cc1 : α → List zCm) (cr : List zCm) (cs' : α → List zCm) (C : zC X own cc nL rf rl) (hd : decode cc pc = .ok (.invokestatic ix, 3)) (hY : zYS y cc' nL' ret n) (hl : Cond.methodLink own ix y ∈ zTb)
    (hM : ∀ a, ga = some a → zM y cc' nL' ret rf' rl' As cc0 (rv a) (cc1 a)) (hrm : rf' + 1 ≤ rf ∧ 8 + (nL' + 11) + rl' ≤ rl) (hn : As.length = n) (hst : (st.map fun v => v.category).sum ≤ 8) (hp1 : cs.Perm (cc0 ++ cr)) (hp2 : ∀ a, (cc1 a ++ cr).Perm (cs' a)) (hsk : stk = As.reverse ++ st)
    (k : ∀ a, ga = some a → zJ X nL res (kf a) (pc + 3) lv ((rv a).toList ++ st) (cs' a)) : zJ X nL res (ga.bind kf) pc lv stk cs := by
  obtain ⟨p, l, ee, R, s, m, args, below, meth, cd, D, kA, A, Q⟩ := X
  obtain ⟨hx, hb, hml, hown, hts, hK, hA, hlk, hR, hNw⟩ := C
  intro he H locs ls h1 h2 h3 h4
  cases hg : ga with
  | none => rw [hg] at he; cases he
  | some a =>
    rw [hg] at he
    subst hsk
    have g1 := zP_perm (zgw_perm (kA := kA) hp1) h1
    have g2 := zD_perm (zgw_perm (kA := kA) hp1) h2
    have g1c : va_P D zcl (zgw kA cc0) H := fun k q hk => g1 k q (by rw [zgw_app, List.getElem?_append_left (List.getElem?_eq_some_iff.mp hk).1]; exact hk)
    have g2c : va_D (fun _ => True) (zgw kA cc0) := by
      rw [zgw_app, zD_iff] at g2
      rw [zD_iff]
      refine ⟨?_, fun _ _ => trivial⟩
      rw [List.map_append, List.nodup_append] at g2
      exact g2.1.1
    obtain ⟨w1, w2, w3, w4⟩ := hY
    have hRf : rf' + 1 ≤ R.frames ∧ 8 + (nL' + 11) + rl' ≤ R.locals := by rw [hR]; exact hrm
    exact zrun (cr := cr) (va_runS (As := As) (rest := st) (n := n) ⟨hx, hb, hml, hown, hts⟩ (hM a hg l D kA H.size) ⟨callB_of n hts (zk_gi w1) rfl rfl rfl (hts _ w2) (hts _ hl) w3 hRf, hts _ w4⟩ ⟨zB_blind, fun U hU hW => ⟨rfl, by rw [hU], by rw [hU]; exact g1c, va_K.moved hW.alike hK, g2c, hNw.warm hW⟩⟩ rfl hn h4.1 rfl (lv_room hst) hd ⟨Nat.zero_le _, Nat.zero_le _⟩) g1 g2 h3 hA (hp2 a) (fun H1 locs1 k1 k2 k3 => k a hg he H1 locs1 ls k1 k2 k3 h4)
/-- a call of a private static method of the nest's host, that touches no component -/
theorem z_callN (ga : Option α) (As st : List Value) (rv : α → Option Value) (C : zC X own cc nL rf rl) (hd : decode cc pc = .ok (.invokestatic ix, 3)) (hY : zYS y cc' nL' ret n) (hl : ∀ U, zNw U → va_Nw (.methodLinkNest own ix y host) U)
    (hM : ∀ a, ga = some a → zM y cc' nL' ret rf' rl' As [] (rv a) []) (hrm : rf' + 1 ≤ rf ∧ 8 + (nL' + 11) + rl' ≤ rl) (hn : As.length = n) (hst : (st.map fun v => v.category).sum ≤ 8) (hsk : stk = As.reverse ++ st)
    (k : ∀ a, ga = some a → zJ X nL res (kf a) (pc + 3) lv ((rv a).toList ++ st) cs) : zJ X nL res (ga.bind kf) pc lv stk cs := by
  obtain ⟨p, l, ee, R, s, m, args, below, meth, cd, D, kA, A, Q⟩ := X
  obtain ⟨hx, hb, hml, hown, hts, hK, hA, hlk, hR, hNw⟩ := C
  intro he H locs ls h1 h2 h3 h4
  cases hg : ga with
  | none => rw [hg] at he; cases he
  | some a =>
    rw [hg] at he
    subst hsk
    obtain ⟨w1, w2, w3, w4⟩ := hY
    have hRf : rf' + 1 ≤ R.frames ∧ 8 + (nL' + 11) + rl' ≤ R.locals := by rw [hR]; exact hrm
    exact zrun (cc0 := []) (cc1 := []) (cr := cs) (va_runSN (As := As) (rest := st) (n := n) ⟨hx, hb, hml, hown, hts⟩ (hM a hg l D kA H.size) ⟨va_cnB n hts (zk_gi w1) rfl rfl rfl (hl s hNw) (hts _ w2) w3 hRf, hts _ w4, trivial⟩ ⟨zB_blind, fun U hU hW => ⟨rfl, by rw [hU], fun k q hk => by simp [zgw] at hk, va_K.moved hW.alike hK, by rw [zD_iff]; simp [zgw], hNw.warm hW⟩⟩ rfl hn h4.1 rfl (lv_room hst) hd ⟨Nat.zero_le _, Nat.zero_le _⟩) h1 h2 h3 hA (List.Perm.refl _) (fun H1 locs1 k1 k2 k3 => k a hg he H1 locs1 ls k1 k2 k3 h4)
theorem z_copyi (i0 i1 : Nat) {a0 a1 n0 n1 c0 c1 : Nat} {q0 q1 : Nat → Nat} {σ0 σ1 : zOS} {sp dp n : Int32} {st : List Value} {e : Option β} (C : zC X own cc nL rf rl) (hd : decode cc pc = .ok (.invokestatic ix, 3)) (hw : Cond.methodLink own ix arraycopyName ∈ zTb) (hnat : Cond.native arraycopyName ∈ zTb) (hstat : Cond.static arraycopyName ∈ zTb) (hini : Cond.initialized "java/lang/System" ∈ zTb)
    (hc0 : cs[i0]? = some (c0, q0, σ0)) (hc1 : cs[i1]? = some (c1, q1, σ1)) (ha0 : zAr c0 a0 0 n0) (ha1 : zAr c1 a1 0 n1) (h1 : ¬ sp < 0) (h2 : ¬ dp < 0) (h3 : ¬ n < 0) (h4 : sp.toNatClampNeg + n.toNatClampNeg ≤ n0) (h5 : dp.toNatClampNeg + n.toNatClampNeg ≤ n1) (hrf : 1 ≤ rf) (hrl : (st.map fun v => v.category).sum + 18 ≤ rl)
    (cs' : List zCm) (hcs : cs.set i1 (c1, q1, zsI σ1 a1 (va_cpy (zI σ0 a0) (zI σ1 a1) sp.toNatClampNeg dp.toNatClampNeg n.toNatClampNeg)) = cs') (k : zJ X nL res e (pc + 3) lv st cs') : zJ X nL res e pc lv (.int n :: .int dp :: .ref (q1 a1) :: .int sp :: .ref (q0 a0) :: st) cs := by
  obtain ⟨p, l, ee, R, s, m, args, below, meth, cd, D, kA, A, Q⟩ := X
  obtain ⟨hx, hb, hml, hown, hts, hK, hA, hlk, hR, hNw⟩ := C
  intro he H locs ls g1 g2 g3 g4
  obtain ⟨p0, hp0, -⟩ := zgw_at (kA := kA) hc0 (k := a0) ha0.1.2
  obtain ⟨p1, hp1, hset⟩ := zgw_at (kA := kA) hc1 (k := a1) ha1.1.2
  have h9 := hset q1 (zsI σ1 a1 (va_cpy (zI σ0 a0) (zI σ1 a1) sp.toNatClampNeg dp.toNatClampNeg n.toNatClampNeg)) (fun _ _ => rfl) (fun j _ hj => zce_sI hj)
  rw [zce_i ha0] at hp0
  rw [zce_i ha1] at hp1 h9
  rw [zI_e, hcs] at h9
  refine va_copyi (ty := .int) hx hb (by rw [hml, g4.1]) hown (hts _ hw) (hts _ hnat) (hts _ hstat) (hts _ hini) hK g1 g2 g3 p0 p1 0 0 hp0 hp1 rfl rfl rfl h1 h2 h3 h4 h5 (fun _ _ => rfl) (by rw [hR]; exact hrf) (by rw [hR]; exact hrl) hd (fun H1 locs1 k1 k2 k3 => ?_)
  rw [h9] at k1 k2
  exact k he H1 locs1 ls k1 k2 k3 g4
theorem z_copyl (i0 i1 : Nat) {a0 a1 n0 n1 c0 c1 : Nat} {q0 q1 : Nat → Nat} {σ0 σ1 : zOS} {sp dp n : Int32} {st : List Value} {e : Option β} (C : zC X own cc nL rf rl) (hd : decode cc pc = .ok (.invokestatic ix, 3)) (hw : Cond.methodLink own ix arraycopyName ∈ zTb) (hnat : Cond.native arraycopyName ∈ zTb) (hstat : Cond.static arraycopyName ∈ zTb) (hini : Cond.initialized "java/lang/System" ∈ zTb)
    (hc0 : cs[i0]? = some (c0, q0, σ0)) (hc1 : cs[i1]? = some (c1, q1, σ1)) (ha0 : zAr c0 a0 1 n0) (ha1 : zAr c1 a1 1 n1) (h1 : ¬ sp < 0) (h2 : ¬ dp < 0) (h3 : ¬ n < 0) (h4 : sp.toNatClampNeg + n.toNatClampNeg ≤ n0) (h5 : dp.toNatClampNeg + n.toNatClampNeg ≤ n1) (hrf : 1 ≤ rf) (hrl : (st.map fun v => v.category).sum + 18 ≤ rl)
    (cs' : List zCm) (hcs : cs.set i1 (c1, q1, zsL σ1 a1 (va_cpy (zL σ0 a0) (zL σ1 a1) sp.toNatClampNeg dp.toNatClampNeg n.toNatClampNeg)) = cs') (k : zJ X nL res e (pc + 3) lv st cs') : zJ X nL res e pc lv (.int n :: .int dp :: .ref (q1 a1) :: .int sp :: .ref (q0 a0) :: st) cs := by
  obtain ⟨p, l, ee, R, s, m, args, below, meth, cd, D, kA, A, Q⟩ := X
  obtain ⟨hx, hb, hml, hown, hts, hK, hA, hlk, hR, hNw⟩ := C
  intro he H locs ls g1 g2 g3 g4
  obtain ⟨p0, hp0, -⟩ := zgw_at (kA := kA) hc0 (k := a0) ha0.1.2
  obtain ⟨p1, hp1, hset⟩ := zgw_at (kA := kA) hc1 (k := a1) ha1.1.2
  have h9 := hset q1 (zsL σ1 a1 (va_cpy (zL σ0 a0) (zL σ1 a1) sp.toNatClampNeg dp.toNatClampNeg n.toNatClampNeg)) (fun _ _ => rfl) (fun j _ hj => zce_sL hj)
  rw [zce_l ha0] at hp0
  rw [zce_l ha1] at hp1 h9
  rw [zL_e, hcs] at h9
  refine va_copyl (ty := .long) hx hb (by rw [hml, g4.1]) hown (hts _ hw) (hts _ hnat) (hts _ hstat) (hts _ hini) hK g1 g2 g3 p0 p1 1 1 hp0 hp1 rfl rfl rfl h1 h2 h3 h4 h5 (fun _ _ => rfl) (by rw [hR]; exact hrf) (by rw [hR]; exact hrl) hd (fun H1 locs1 k1 k2 k3 => ?_)
  rw [h9] at k1 k2
  exact k he H1 locs1 ls k1 k2 k3 g4
end ZC
end
section
/-! names for values, loops, switches, and other rows that a program's text needs -/
def zlet {α β : Type} (v : α) (f : α → Option β) : Option β := f v
def zit {P R : Type} (B : (P → Option R) → P → Option R) : Nat → P → Option R
  | 0, _ => none
  | F + 1, p => B (zit B F) p
section ZL
variable {α β : Type} {X : zCx} {own : String} {cc : ByteArray} {nL rf rl : Nat} {res : β} {e e1 e2 : Option β} {pc : Nat} {lv : List (Nat × Value)} {st : List Value} {cs : List zCm}
theorem z_lv (lv' : List (Nat × Value)) (ks : List Nat) (hl : lv_pick lv ks = lv') (k : zJ X nL res e pc lv' st cs) : zJ X nL res e pc lv st cs := by
  obtain ⟨p, l, ee, R, s, m, args, below, meth, c, D, kA, A, Q⟩ := X
  intro he H locs ls h1 h2 h3 h4
  exact k he H locs ls h1 h2 h3 (lv_sub h4 ks hl)
theorem z_leti {v : Int32} {f : Int32 → Option β} (k : ∀ x : Int32, zJ X nL res (f x) pc lv (.int x :: st) cs) : zJ X nL res (zlet v f) pc lv (.int v :: st) cs := k v
theorem z_letl {v : Int64} {f : Int64 → Option β} (k : ∀ x : Int64, zJ X nL res (f x) pc lv (.long x :: st) cs) : zJ X nL res (zlet v f) pc lv (.long v :: st) cs := k v
theorem z_letc {v : zOS} {f : zOS → Option β} (csf : zOS → List zCm) (k : ∀ x : zOS, zJ X nL res (f x) pc lv st (csf x)) : zJ X nL res (zlet v f) pc lv st (csf v) := k v
theorem zit_J {P : Type} {B : (P → Option β) → P → Option β} (lvf : P → List (Nat × Value)) (csf : P → List zCm) (hB : ∀ kc : P → Option β, (∀ p, zJ X nL res (kc p) pc (lvf p) [] (csf p)) → ∀ p, zJ X nL res (B kc p) pc (lvf p) [] (csf p)) : ∀ (F : Nat) (p : P), zJ X nL res (zit B F p) pc (lvf p) [] (csf p)
  | 0, p => zJ_none
  | F + 1, p => hB (zit B F) (zit_J lvf csf hB F) p
theorem z_if {cnd : Prop} [Decidable cnd] (kt : cnd → zJ X nL res e1 pc lv st cs) (kf : ¬ cnd → zJ X nL res e2 pc lv st cs) : zJ X nL res (if cnd then e1 else e2) pc lv st cs := by
  intro he
  by_cases h : cnd
  · rw [if_pos h] at he; exact kt h he
  · rw [if_neg h] at he; exact kf h he
theorem z_tin {dflt lo hi : Int} {offs : Array Int} {len : Nat} {x : Int32} {off : Int} (v : Int32) (tgt : Nat) (hxv : x = v) (C : zC X own cc nL rf rl) (hd : decode cc pc = .ok (.tableswitch dflt lo hi offs, len)) (h1 : ¬ v.toInt < lo) (h2 : ¬ hi < v.toInt) (ho : offs[(v.toInt - lo).toNat]? = some off) (ht : (pc : Int) + off = (tgt : Int))
    (k : zJ X nL res e tgt lv st cs) : zJ X nL res e pc lv (.int x :: st) cs := by
  subst hxv
  obtain ⟨p, l, ee, R, s, m, args, below, meth, c, D, kA, A, Q⟩ := X
  obtain ⟨hx, hb, hml, hown, hts, hK, hA, hlk, hR⟩ := C
  intro he H locs ls g1 g2 g3 g4
  exact lv_tableIn hx hb hd h1 h2 ho ht (k he H locs ls g1 g2 g3 g4)
theorem z_tdef {dflt lo hi : Int} {offs : Array Int} {len : Nat} {x : Int32} (vs : List Int32) (tgt : Nat) (hne : ∀ v ∈ vs, ¬ x = v) (C : zC X own cc nL rf rl) (hd : decode cc pc = .ok (.tableswitch dflt lo hi offs, len)) (hall : ∀ k, k < (hi - lo + 1).toNat → offs[k]? = some dflt ∨ Int32.ofInt (lo + k) ∈ vs) (ht : (pc : Int) + dflt = (tgt : Int))
    (k : zJ X nL res e tgt lv st cs) : zJ X nL res e pc lv (.int x :: st) cs := by
  obtain ⟨p, l, ee, R, s, m, args, below, meth, c, D, kA, A, Q⟩ := X
  obtain ⟨hx, hb, hml, hown, hts, hK, hA, hlk, hR⟩ := C
  intro he H locs ls g1 g2 g3 g4
  by_cases h : x.toInt < lo ∨ hi < x.toInt
  · exact lv_tableOut hx hb hd h ht (k he H locs ls g1 g2 g3 g4)
  · have h1 : ¬ x.toInt < lo := fun z => h (Or.inl z)
    have h2 : ¬ hi < x.toInt := fun z => h (Or.inr z)
    rcases hall (x.toInt - lo).toNat (by omega) with h3 | h3
    · exact lv_tableIn hx hb hd h1 h2 h3 ht (k he H locs ls g1 g2 g3 g4)
    · exfalso
      have h4 : lo + ((x.toInt - lo).toNat : Int) = x.toInt := by omega
      rw [h4, Int32.ofInt_toInt] at h3
      exact hne x h3 rfl
theorem z_lin {dflt : Int} {ps : Array (Int × Int)} {len : Nat} {x : Int32} {off : Int} (v : Int32) (tgt : Nat) (hxv : x = v) (C : zC X own cc nL rf rl) (hd : decode cc pc = .ok (.lookupswitch dflt ps, len)) (hp : (ps.toList.zip (ps.toList.drop 1)).all (fun (a, next) => a.1 < next.1) = true) (ho : Op.lookupswitch.offset ps.toList dflt v.toInt = off) (ht : (pc : Int) + off = (tgt : Int))
    (k : zJ X nL res e tgt lv st cs) : zJ X nL res e pc lv (.int x :: st) cs := by
  subst hxv
  obtain ⟨p, l, ee, R, s, m, args, below, meth, c, D, kA, A, Q⟩ := X
  obtain ⟨hx, hb, hml, hown, hts, hK, hA, hlk, hR⟩ := C
  intro he H locs ls g1 g2 g3 g4
  exact lv_lookup hx hb hd hp ho ht (k he H locs ls g1 g2 g3 g4)
theorem z_min {x y : Int32} {ix : Nat} (C : zC X own cc nL rf rl) (hd : decode cc pc = .ok (.invokestatic ix, 3)) (hl : Cond.methodLink own ix Lib.Math.min.name ∈ zTb) (hs : Cond.static Lib.Math.min.name ∈ zTb) (hi : Cond.initialized "java/lang/Math" ∈ zTb) (hc : Cond.code Lib.Math.min.name Lib.Math.min.code 2 (some .int) ∈ zTb) (hrf : 1 ≤ rf) (hrl : (st.map fun v => v.category).sum + 13 ≤ rl)
    (k : zJ X nL res e (pc + 3) lv (.int (if y < x then y else x) :: st) cs) : zJ X nL res e pc lv (.int y :: .int x :: st) cs := by
  obtain ⟨p, l, ee, R, s, m, args, below, meth, c, D, kA, A, Q⟩ := X
  obtain ⟨hx, hb, hml, hown, hts, hK, hA, hlk, hR, hNw⟩ := C
  intro he H locs ls h1 h2 h3 h4
  exact va_mmin hx hb (by rw [hml, h4.1]) hown (hts _ hl) (hts _ hs) (hts _ hi) (hts _ hc) (by rw [hR]; exact hrf) (by rw [hR]; exact hrl) (Nat.zero_le _) (Nat.zero_le _) hd (k he H locs ls h1 h2 h3 h4)
theorem z_max {x y : Int32} {ix : Nat} (C : zC X own cc nL rf rl) (hd : decode cc pc = .ok (.invokestatic ix, 3)) (hl : Cond.methodLink own ix Lib.Math.max.name ∈ zTb) (hs : Cond.static Lib.Math.max.name ∈ zTb) (hi : Cond.initialized "java/lang/Math" ∈ zTb) (hc : Cond.code Lib.Math.max.name Lib.Math.max.code 2 (some .int) ∈ zTb) (hrf : 1 ≤ rf) (hrl : (st.map fun v => v.category).sum + 13 ≤ rl)
    (k : zJ X nL res e (pc + 3) lv (.int (if x < y then y else x) :: st) cs) : zJ X nL res e pc lv (.int y :: .int x :: st) cs := by
  obtain ⟨p, l, ee, R, s, m, args, below, meth, c, D, kA, A, Q⟩ := X
  obtain ⟨hx, hb, hml, hown, hts, hK, hA, hlk, hR, hNw⟩ := C
  intro he H locs ls h1 h2 h3 h4
  exact va_mmax hx hb (by rw [hml, h4.1]) hown (hts _ hl) (hts _ hs) (hts _ hi) (hts _ hc) (by rw [hR]; exact hrf) (by rw [hR]; exact hrl) (Nat.zero_le _) (Nat.zero_le _) hd (k he H locs ls h1 h2 h3 h4)
theorem z_getE {q : Nat → Nat} {σ : zOS} {c ix : Nat} (i f n a : Nat) (hq : q n = a) (C : zC X own cc nL rf rl) (hd : decode cc pc = .ok (.getfield ix, 3)) (hc : cs[i]? = some (c, q, σ)) (h6 : c < 6) (hf : f < znF c) (hk : zfk c f = n + 2) (hw : Cond.fieldLink own ix (zTn c f).1 (zTn c f).2.1 (zTn c f).2.2.1 ∈ zTb)
    (k : zJ X nL res e (pc + 3) lv (.ref a :: st) cs) : zJ X nL res e pc lv (.ref (q 0) :: st) cs := by
  subst hq
  exact z_getR i f n C hd hc h6 hf hk hw k
theorem z_aal {q : Nat → Nat} {σ : zOS} {c : Nat} (i : Nat) {a kd n : Nat} {j : Int32} (C : zC X own cc nL rf rl) (hd : decode cc pc = .ok (.aaload, 1)) (hc : cs[i]? = some (c, q, σ)) (ha : zAr c a kd n) (hkd : kd = 3 ∨ kd = 4 ∨ kd = 5)
    (k : vp_in j n → zJ X nL res e (pc + 1) lv (.ref (q (zbs c + j.toNatClampNeg)) :: st) cs) : zJ X nL res (zchk j n e) pc lv (.int j :: .ref (q a) :: st) cs := fun he => z_aald i C hd hc ha hkd (k (zchk_some he).2) he
end ZL
theorem zAr_w {j : Int32} (h : vp_in j 3) : zAr 0 (zbs 0 + j.toNatClampNeg) 1 96 := by
  have hlt : j.toNatClampNeg < 3 := Nat.not_le.mp fun q => h (Or.inr q)
  match hj : j.toNatClampNeg, hlt with
  | 0, _ => unfold zAr; decide
  | 1, _ => unfold zAr; decide
  | 2, _ => unfold zAr; decide
theorem zAr_n {j : Int32} (h : vp_in j 13) : zAr 1 (zbs 1 + j.toNatClampNeg) 0 10 := by
  have hlt : j.toNatClampNeg < 13 := Nat.not_le.mp fun q => h (Or.inr q)
  generalize j.toNatClampNeg = n at hlt
  have hall : ∀ n, n < 13 → ((0 < zbs 1 + n ∧ zbs 1 + n ≤ znA 1) ∧ zak 1 (zbs 1 + n) = 0 ∧ zln 1 (zbs 1 + n) = 10) := by decide
  exact hall n hlt
theorem z_pm {α : Type} (cs : List α) (is : List Nat) (h : is.Perm (List.range cs.length)) : (is.filterMap (fun i => cs[i]?)).Perm cs := by
  have h1 := h.filterMap (fun i => cs[i]?)
  have h2 : (List.range cs.length).filterMap (fun i => cs[i]?) = cs := by
    have h3 := zpl_l cs []
    rw [List.append_nil] at h3
    rw [show (fun i => cs[i]?) = (id ∘ fun i => cs[i]?) from rfl, ← List.filterMap_map, h3, List.filterMap_map]
    exact List.filterMap_some
  rw [h2] at h1
  exact h1
end
section
theorem zw_0 : (Jvm.Cond.selects "DrawnGates" ({ cls := "DrawnGates", name := "settle", desc := "(I)I" } : Jvm.MethodName) ({ cls := "DrawnGates", name := "settle", desc := "(I)I" } : Jvm.MethodName)) ∈ zTb := zk_in 0 (by decide +kernel) (by decide +kernel)
theorem zw_1 : (Jvm.Cond.selects "DrawnGates" ({ cls := "DrawnGates", name := "refuse", desc := "(I)I" } : Jvm.MethodName) ({ cls := "DrawnGates", name := "refuse", desc := "(I)I" } : Jvm.MethodName)) ∈ zTb := zk_in 1 (by decide +kernel) (by decide +kernel)
theorem zw_2 : (Jvm.Cond.selects "DrawnGates" ({ cls := "DrawnGates", name := "keepBefore", desc := "()V" } : Jvm.MethodName) ({ cls := "DrawnGates", name := "keepBefore", desc := "()V" } : Jvm.MethodName)) ∈ zTb := zk_in 2 (by decide +kernel) (by decide +kernel)
theorem zw_3 : (Jvm.Cond.selects "DrawnGates" ({ cls := "DrawnGates", name := "dropOldestState", desc := "()V" } : Jvm.MethodName) ({ cls := "DrawnGates", name := "dropOldestState", desc := "()V" } : Jvm.MethodName)) ∈ zTb := zk_in 3 (by decide +kernel) (by decide +kernel)
theorem zw_4 : (Jvm.Cond.selects "DrawnGates" ({ cls := "DrawnGates", name := "readLayout", desc := "()LDrawnGates$Layout;" } : Jvm.MethodName) ({ cls := "DrawnGates", name := "readLayout", desc := "()LDrawnGates$Layout;" } : Jvm.MethodName)) ∈ zTb := zk_in 4 (by decide +kernel) (by decide +kernel)
theorem zw_5 : (Jvm.Cond.selects "DrawnGates$Layout" ({ cls := "DrawnGates$Layout", name := "isAsRead", desc := "([J)Z" } : Jvm.MethodName) ({ cls := "DrawnGates$Layout", name := "isAsRead", desc := "([J)Z" } : Jvm.MethodName)) ∈ zTb := zk_in 5 (by decide +kernel) (by decide +kernel)
theorem zw_6 : (Jvm.Cond.selects "DrawnGates$Layout" ({ cls := "DrawnGates$Layout", name := "findPieces", desc := "()V" } : Jvm.MethodName) ({ cls := "DrawnGates$Layout", name := "findPieces", desc := "()V" } : Jvm.MethodName)) ∈ zTb := zk_in 6 (by decide +kernel) (by decide +kernel)
theorem zw_7 : (Jvm.Cond.selects "DrawnGates$Layout" ({ cls := "DrawnGates$Layout", name := "cellsOf", desc := "(I)J" } : Jvm.MethodName) ({ cls := "DrawnGates$Layout", name := "cellsOf", desc := "(I)J" } : Jvm.MethodName)) ∈ zTb := zk_in 7 (by decide +kernel) (by decide +kernel)
theorem zw_8 : (Jvm.Cond.selects "DrawnGates$Layout" ({ cls := "DrawnGates$Layout", name := "joinPieces", desc := "()V" } : Jvm.MethodName) ({ cls := "DrawnGates$Layout", name := "joinPieces", desc := "()V" } : Jvm.MethodName)) ∈ zTb := zk_in 8 (by decide +kernel) (by decide +kernel)
theorem zw_9 : (Jvm.Cond.selects "DrawnGates$Layout" ({ cls := "DrawnGates$Layout", name := "joinBelow", desc := "(I)V" } : Jvm.MethodName) ({ cls := "DrawnGates$Layout", name := "joinBelow", desc := "(I)V" } : Jvm.MethodName)) ∈ zTb := zk_in 9 (by decide +kernel) (by decide +kernel)
theorem zw_10 : (Jvm.Cond.selects "DrawnGates$Layout" ({ cls := "DrawnGates$Layout", name := "join", desc := "(II)V" } : Jvm.MethodName) ({ cls := "DrawnGates$Layout", name := "join", desc := "(II)V" } : Jvm.MethodName)) ∈ zTb := zk_in 10 (by decide +kernel) (by decide +kernel)
theorem zw_11 : (Jvm.Cond.selects "DrawnGates$Layout" ({ cls := "DrawnGates$Layout", name := "numberNodes", desc := "()V" } : Jvm.MethodName) ({ cls := "DrawnGates$Layout", name := "numberNodes", desc := "()V" } : Jvm.MethodName)) ∈ zTb := zk_in 11 (by decide +kernel) (by decide +kernel)
theorem zw_12 : (Jvm.Cond.selects "DrawnGates$Layout" ({ cls := "DrawnGates$Layout", name := "openNode", desc := "()V" } : Jvm.MethodName) ({ cls := "DrawnGates$Layout", name := "openNode", desc := "()V" } : Jvm.MethodName)) ∈ zTb := zk_in 12 (by decide +kernel) (by decide +kernel)
theorem zw_13 : (Jvm.Cond.selects "DrawnGates$Layout" ({ cls := "DrawnGates$Layout", name := "findGates", desc := "()V" } : Jvm.MethodName) ({ cls := "DrawnGates$Layout", name := "findGates", desc := "()V" } : Jvm.MethodName)) ∈ zTb := zk_in 13 (by decide +kernel) (by decide +kernel)
theorem zw_14 : (Jvm.Cond.selects "DrawnGates$Layout" ({ cls := "DrawnGates$Layout", name := "findSides", desc := "(I)V" } : Jvm.MethodName) ({ cls := "DrawnGates$Layout", name := "findSides", desc := "(I)V" } : Jvm.MethodName)) ∈ zTb := zk_in 14 (by decide +kernel) (by decide +kernel)
theorem zw_15 : (Jvm.Cond.selects "DrawnGates$Layout" ({ cls := "DrawnGates$Layout", name := "weighNodes", desc := "()V" } : Jvm.MethodName) ({ cls := "DrawnGates$Layout", name := "weighNodes", desc := "()V" } : Jvm.MethodName)) ∈ zTb := zk_in 15 (by decide +kernel) (by decide +kernel)
theorem zw_16 : (Jvm.Cond.selects "DrawnGates$Layout" ({ cls := "DrawnGates$Layout", name := "addHang", desc := "(II)V" } : Jvm.MethodName) ({ cls := "DrawnGates$Layout", name := "addHang", desc := "(II)V" } : Jvm.MethodName)) ∈ zTb := zk_in 16 (by decide +kernel) (by decide +kernel)
theorem zw_17 : (Jvm.Cond.selects "DrawnGates" ({ cls := "DrawnGates", name := "search", desc := "()LDrawnGates$Matching;" } : Jvm.MethodName) ({ cls := "DrawnGates", name := "search", desc := "()LDrawnGates$Matching;" } : Jvm.MethodName)) ∈ zTb := zk_in 17 (by decide +kernel) (by decide +kernel)
theorem zw_18 : (Jvm.Cond.selects "DrawnGates$Matching" ({ cls := "DrawnGates$Matching", name := "findLikes", desc := "()V" } : Jvm.MethodName) ({ cls := "DrawnGates$Matching", name := "findLikes", desc := "()V" } : Jvm.MethodName)) ∈ zTb := zk_in 18 (by decide +kernel) (by decide +kernel)
theorem zw_19 : (Jvm.Cond.selects "DrawnGates$Matching" ({ cls := "DrawnGates$Matching", name := "isLike", desc := "(II)Z" } : Jvm.MethodName) ({ cls := "DrawnGates$Matching", name := "isLike", desc := "(II)Z" } : Jvm.MethodName)) ∈ zTb := zk_in 19 (by decide +kernel) (by decide +kernel)
theorem zw_20 : (Jvm.Cond.selects "DrawnGates$Matching" ({ cls := "DrawnGates$Matching", name := "countLeftOver", desc := "()I" } : Jvm.MethodName) ({ cls := "DrawnGates$Matching", name := "countLeftOver", desc := "()I" } : Jvm.MethodName)) ∈ zTb := zk_in 20 (by decide +kernel) (by decide +kernel)
theorem zw_21 : (Jvm.Cond.selects "DrawnGates$Matching" ({ cls := "DrawnGates$Matching", name := "tiePins", desc := "([I)Z" } : Jvm.MethodName) ({ cls := "DrawnGates$Matching", name := "tiePins", desc := "([I)Z" } : Jvm.MethodName)) ∈ zTb := zk_in 21 (by decide +kernel) (by decide +kernel)
theorem zw_22 : (Jvm.Cond.selects "DrawnGates$Matching" ({ cls := "DrawnGates$Matching", name := "record", desc := "([I)V" } : Jvm.MethodName) ({ cls := "DrawnGates$Matching", name := "record", desc := "([I)V" } : Jvm.MethodName)) ∈ zTb := zk_in 22 (by decide +kernel) (by decide +kernel)
theorem zw_23 : (Jvm.Cond.selects "DrawnGates$Matching" ({ cls := "DrawnGates$Matching", name := "isBeforeFirst", desc := "([I)Z" } : Jvm.MethodName) ({ cls := "DrawnGates$Matching", name := "isBeforeFirst", desc := "([I)Z" } : Jvm.MethodName)) ∈ zTb := zk_in 23 (by decide +kernel) (by decide +kernel)
theorem zw_24 : (Jvm.Cond.selects "DrawnGates$Matching" ({ cls := "DrawnGates$Matching", name := "tieSides", desc := "(III)Z" } : Jvm.MethodName) ({ cls := "DrawnGates$Matching", name := "tieSides", desc := "(III)Z" } : Jvm.MethodName)) ∈ zTb := zk_in 24 (by decide +kernel) (by decide +kernel)
theorem zw_25 : (Jvm.Cond.selects "DrawnGates$Text" ({ cls := "DrawnGates$Text", name := "performOne", desc := "(LDrawnGates$Plan;I)I" } : Jvm.MethodName) ({ cls := "DrawnGates$Text", name := "performOne", desc := "(LDrawnGates$Plan;I)I" } : Jvm.MethodName)) ∈ zTb := zk_in 25 (by decide +kernel) (by decide +kernel)
theorem zw_26 : (Jvm.Cond.selects "DrawnGatesModel" ({ cls := "DrawnGatesModel", name := "refuses", desc := "(I)I" } : Jvm.MethodName) ({ cls := "DrawnGatesModel", name := "refuses", desc := "(I)I" } : Jvm.MethodName)) ∈ zTb := zk_in 26 (by decide +kernel) (by decide +kernel)
theorem zw_27 : (Jvm.Cond.selects "DrawnGatesModel" ({ cls := "DrawnGatesModel", name := "hold", desc := "()V" } : Jvm.MethodName) ({ cls := "DrawnGatesModel", name := "hold", desc := "()V" } : Jvm.MethodName)) ∈ zTb := zk_in 27 (by decide +kernel) (by decide +kernel)
theorem zw_28 : (Jvm.Cond.selects "DrawnGatesModel" ({ cls := "DrawnGatesModel", name := "paint", desc := "(IIIIIZ)I" } : Jvm.MethodName) ({ cls := "DrawnGatesModel", name := "paint", desc := "(IIIIIZ)I" } : Jvm.MethodName)) ∈ zTb := zk_in 28 (by decide +kernel) (by decide +kernel)
theorem zw_29 : (Jvm.Cond.selects "DrawnGatesModel" ({ cls := "DrawnGatesModel", name := "isDrawn", desc := "(II)Z" } : Jvm.MethodName) ({ cls := "DrawnGatesModel", name := "isDrawn", desc := "(II)Z" } : Jvm.MethodName)) ∈ zTb := zk_in 29 (by decide +kernel) (by decide +kernel)
theorem zw_30 : (Jvm.Cond.selects "DrawnGatesModel" ({ cls := "DrawnGatesModel", name := "flip", desc := "(II)V" } : Jvm.MethodName) ({ cls := "DrawnGatesModel", name := "flip", desc := "(II)V" } : Jvm.MethodName)) ∈ zTb := zk_in 30 (by decide +kernel) (by decide +kernel)
theorem zw_31 : (Jvm.Cond.selects "DrawnGatesModel" ({ cls := "DrawnGatesModel", name := "ends", desc := "(I)I" } : Jvm.MethodName) ({ cls := "DrawnGatesModel", name := "ends", desc := "(I)I" } : Jvm.MethodName)) ∈ zTb := zk_in 31 (by decide +kernel) (by decide +kernel)
theorem zw_32 : (Jvm.Cond.selects "DrawnGatesModel" ({ cls := "DrawnGatesModel", name := "push", desc := "()V" } : Jvm.MethodName) ({ cls := "DrawnGatesModel", name := "push", desc := "()V" } : Jvm.MethodName)) ∈ zTb := zk_in 32 (by decide +kernel) (by decide +kernel)
theorem zw_33 : (Jvm.Cond.selects "DrawnGatesModel" ({ cls := "DrawnGatesModel", name := "doMoves", desc := "(III)I" } : Jvm.MethodName) ({ cls := "DrawnGatesModel", name := "doMoves", desc := "(III)I" } : Jvm.MethodName)) ∈ zTb := zk_in 33 (by decide +kernel) (by decide +kernel)
theorem zw_34 : (Jvm.Cond.selects "DrawnGatesModel" ({ cls := "DrawnGatesModel", name := "doMeans", desc := "(III)I" } : Jvm.MethodName) ({ cls := "DrawnGatesModel", name := "doMeans", desc := "(III)I" } : Jvm.MethodName)) ∈ zTb := zk_in 34 (by decide +kernel) (by decide +kernel)
theorem zw_35 : (Jvm.Cond.selects "DrawnGatesModel" ({ cls := "DrawnGatesModel", name := "add", desc := "(IIII)I" } : Jvm.MethodName) ({ cls := "DrawnGatesModel", name := "add", desc := "(IIII)I" } : Jvm.MethodName)) ∈ zTb := zk_in 35 (by decide +kernel) (by decide +kernel)
theorem zw_36 : (Jvm.Cond.selects "DrawnGatesModel" ({ cls := "DrawnGatesModel", name := "doPins", desc := "(III)I" } : Jvm.MethodName) ({ cls := "DrawnGatesModel", name := "doPins", desc := "(III)I" } : Jvm.MethodName)) ∈ zTb := zk_in 36 (by decide +kernel) (by decide +kernel)
theorem zw_37 : (Jvm.Cond.selects "DrawnGatesModel" ({ cls := "DrawnGatesModel", name := "doForgets", desc := "()I" } : Jvm.MethodName) ({ cls := "DrawnGatesModel", name := "doForgets", desc := "()I" } : Jvm.MethodName)) ∈ zTb := zk_in 37 (by decide +kernel) (by decide +kernel)
theorem zw_38 : (Jvm.Cond.selects "DrawnGatesModel" ({ cls := "DrawnGatesModel", name := "lay", desc := "()V" } : Jvm.MethodName) ({ cls := "DrawnGatesModel", name := "lay", desc := "()V" } : Jvm.MethodName)) ∈ zTb := zk_in 38 (by decide +kernel) (by decide +kernel)
theorem zw_39 : (Jvm.Cond.selects "DrawnGatesModel" ({ cls := "DrawnGatesModel", name := "hang", desc := "(Z)I" } : Jvm.MethodName) ({ cls := "DrawnGatesModel", name := "hang", desc := "(Z)I" } : Jvm.MethodName)) ∈ zTb := zk_in 39 (by decide +kernel) (by decide +kernel)
theorem zw_40 : (Jvm.Cond.selects "DrawnGatesModel" ({ cls := "DrawnGatesModel", name := "isWire", desc := "(I)Z" } : Jvm.MethodName) ({ cls := "DrawnGatesModel", name := "isWire", desc := "(I)Z" } : Jvm.MethodName)) ∈ zTb := zk_in 40 (by decide +kernel) (by decide +kernel)
theorem zw_41 : (Jvm.Cond.selects "DrawnGatesModel" ({ cls := "DrawnGatesModel", name := "take", desc := "(II)V" } : Jvm.MethodName) ({ cls := "DrawnGatesModel", name := "take", desc := "(II)V" } : Jvm.MethodName)) ∈ zTb := zk_in 41 (by decide +kernel) (by decide +kernel)
theorem zw_42 : (Jvm.Cond.selects "DrawnGatesModel" ({ cls := "DrawnGatesModel", name := "goFrom", desc := "(IIZ)V" } : Jvm.MethodName) ({ cls := "DrawnGatesModel", name := "goFrom", desc := "(IIZ)V" } : Jvm.MethodName)) ∈ zTb := zk_in 42 (by decide +kernel) (by decide +kernel)
theorem zw_43 : (Jvm.Cond.selects "DrawnGatesModel" ({ cls := "DrawnGatesModel", name := "findGates", desc := "()V" } : Jvm.MethodName) ({ cls := "DrawnGatesModel", name := "findGates", desc := "()V" } : Jvm.MethodName)) ∈ zTb := zk_in 43 (by decide +kernel) (by decide +kernel)
theorem zw_44 : (Jvm.Cond.selects "DrawnGatesModel" ({ cls := "DrawnGatesModel", name := "isGateCell", desc := "(I)Z" } : Jvm.MethodName) ({ cls := "DrawnGatesModel", name := "isGateCell", desc := "(I)Z" } : Jvm.MethodName)) ∈ zTb := zk_in 44 (by decide +kernel) (by decide +kernel)
theorem zw_45 : (Jvm.Cond.selects "DrawnGatesModel" ({ cls := "DrawnGatesModel", name := "goGate", desc := "(I)V" } : Jvm.MethodName) ({ cls := "DrawnGatesModel", name := "goGate", desc := "(I)V" } : Jvm.MethodName)) ∈ zTb := zk_in 45 (by decide +kernel) (by decide +kernel)
theorem zw_46 : (Jvm.Cond.selects "DrawnGatesModel" ({ cls := "DrawnGatesModel", name := "findSides", desc := "()V" } : Jvm.MethodName) ({ cls := "DrawnGatesModel", name := "findSides", desc := "()V" } : Jvm.MethodName)) ∈ zTb := zk_in 46 (by decide +kernel) (by decide +kernel)
theorem zw_47 : (Jvm.Cond.selects "DrawnGatesModel" ({ cls := "DrawnGatesModel", name := "countSides", desc := "(I)V" } : Jvm.MethodName) ({ cls := "DrawnGatesModel", name := "countSides", desc := "(I)V" } : Jvm.MethodName)) ∈ zTb := zk_in 47 (by decide +kernel) (by decide +kernel)
theorem zw_48 : (Jvm.Cond.selects "DrawnGatesModel" ({ cls := "DrawnGatesModel", name := "isSide", desc := "(II)Z" } : Jvm.MethodName) ({ cls := "DrawnGatesModel", name := "isSide", desc := "(II)Z" } : Jvm.MethodName)) ∈ zTb := zk_in 48 (by decide +kernel) (by decide +kernel)
theorem zw_49 : (Jvm.Cond.selects "DrawnGatesModel" ({ cls := "DrawnGatesModel", name := "findMatches", desc := "()V" } : Jvm.MethodName) ({ cls := "DrawnGatesModel", name := "findMatches", desc := "()V" } : Jvm.MethodName)) ∈ zTb := zk_in 49 (by decide +kernel) (by decide +kernel)
theorem zw_50 : (Jvm.Cond.selects "DrawnGatesModel" ({ cls := "DrawnGatesModel", name := "wells", desc := "()I" } : Jvm.MethodName) ({ cls := "DrawnGatesModel", name := "wells", desc := "()I" } : Jvm.MethodName)) ∈ zTb := zk_in 50 (by decide +kernel) (by decide +kernel)
theorem zw_51 : (Jvm.Cond.selects "DrawnGatesModel" ({ cls := "DrawnGatesModel", name := "isWell", desc := "(I)Z" } : Jvm.MethodName) ({ cls := "DrawnGatesModel", name := "isWell", desc := "(I)Z" } : Jvm.MethodName)) ∈ zTb := zk_in 51 (by decide +kernel) (by decide +kernel)
theorem zw_52 : (Jvm.Cond.selects "DrawnGatesModel" ({ cls := "DrawnGatesModel", name := "ofGate", desc := "(II)I" } : Jvm.MethodName) ({ cls := "DrawnGatesModel", name := "ofGate", desc := "(II)I" } : Jvm.MethodName)) ∈ zTb := zk_in 52 (by decide +kernel) (by decide +kernel)
theorem zw_53 : (Jvm.Cond.selects "DrawnGatesModel" ({ cls := "DrawnGatesModel", name := "isBegun", desc := "()Z" } : Jvm.MethodName) ({ cls := "DrawnGatesModel", name := "isBegun", desc := "()Z" } : Jvm.MethodName)) ∈ zTb := zk_in 53 (by decide +kernel) (by decide +kernel)
theorem zw_54 : (Jvm.Cond.selects "DrawnGatesModel" ({ cls := "DrawnGatesModel", name := "pinNode", desc := "(I)I" } : Jvm.MethodName) ({ cls := "DrawnGatesModel", name := "pinNode", desc := "(I)I" } : Jvm.MethodName)) ∈ zTb := zk_in 54 (by decide +kernel) (by decide +kernel)
theorem zw_55 : (Jvm.Cond.selects "DrawnGatesModel" ({ cls := "DrawnGatesModel", name := "ofPin", desc := "(II)I" } : Jvm.MethodName) ({ cls := "DrawnGatesModel", name := "ofPin", desc := "(II)I" } : Jvm.MethodName)) ∈ zTb := zk_in 55 (by decide +kernel) (by decide +kernel)
theorem zw_56 : (Jvm.Cond.selects "DrawnGatesModel" ({ cls := "DrawnGatesModel", name := "isPut", desc := "(III)Z" } : Jvm.MethodName) ({ cls := "DrawnGatesModel", name := "isPut", desc := "(III)Z" } : Jvm.MethodName)) ∈ zTb := zk_in 56 (by decide +kernel) (by decide +kernel)
theorem zw_57 : (Jvm.Cond.selects "DrawnGatesModel" ({ cls := "DrawnGatesModel", name := "found", desc := "()V" } : Jvm.MethodName) ({ cls := "DrawnGatesModel", name := "found", desc := "()V" } : Jvm.MethodName)) ∈ zTb := zk_in 57 (by decide +kernel) (by decide +kernel)
theorem zw_58 : (Jvm.Cond.selects "DrawnGatesModel" ({ cls := "DrawnGatesModel", name := "isChosen", desc := "(II)Z" } : Jvm.MethodName) ({ cls := "DrawnGatesModel", name := "isChosen", desc := "(II)Z" } : Jvm.MethodName)) ∈ zTb := zk_in 58 (by decide +kernel) (by decide +kernel)
theorem zw_59 : (Jvm.Cond.selects "DrawnGatesModel" ({ cls := "DrawnGatesModel", name := "ofDevice", desc := "(II)I" } : Jvm.MethodName) ({ cls := "DrawnGatesModel", name := "ofDevice", desc := "(II)I" } : Jvm.MethodName)) ∈ zTb := zk_in 59 (by decide +kernel) (by decide +kernel)
theorem zw_60 : (Jvm.Cond.selects "DrawnGatesModel" ({ cls := "DrawnGatesModel", name := "counted", desc := "(I)I" } : Jvm.MethodName) ({ cls := "DrawnGatesModel", name := "counted", desc := "(I)I" } : Jvm.MethodName)) ∈ zTb := zk_in 60 (by decide +kernel) (by decide +kernel)
theorem zw_61 : (Jvm.Cond.selects "DrawnGatesModel" ({ cls := "DrawnGatesModel", name := "pairs", desc := "(Z)I" } : Jvm.MethodName) ({ cls := "DrawnGatesModel", name := "pairs", desc := "(Z)I" } : Jvm.MethodName)) ∈ zTb := zk_in 61 (by decide +kernel) (by decide +kernel)
theorem zw_62 : (Jvm.Cond.selects "DrawnGatesModel" ({ cls := "DrawnGatesModel", name := "unlike", desc := "()I" } : Jvm.MethodName) ({ cls := "DrawnGatesModel", name := "unlike", desc := "()I" } : Jvm.MethodName)) ∈ zTb := zk_in 62 (by decide +kernel) (by decide +kernel)
theorem zw_63 : (Jvm.Cond.selects "DrawnGatesModel" ({ cls := "DrawnGatesModel", name := "kindOfDevice", desc := "(I)I" } : Jvm.MethodName) ({ cls := "DrawnGatesModel", name := "kindOfDevice", desc := "(I)I" } : Jvm.MethodName)) ∈ zTb := zk_in 63 (by decide +kernel) (by decide +kernel)
theorem zw_64 : (Jvm.Cond.selects "DrawnGatesModel" ({ cls := "DrawnGatesModel", name := "netHangs", desc := "(I)I" } : Jvm.MethodName) ({ cls := "DrawnGatesModel", name := "netHangs", desc := "(I)I" } : Jvm.MethodName)) ∈ zTb := zk_in 64 (by decide +kernel) (by decide +kernel)
theorem zw_65 : (Jvm.Cond.selects "DrawnGatesModel" ({ cls := "DrawnGatesModel", name := "kindOfGate", desc := "(I)I" } : Jvm.MethodName) ({ cls := "DrawnGatesModel", name := "kindOfGate", desc := "(I)I" } : Jvm.MethodName)) ∈ zTb := zk_in 65 (by decide +kernel) (by decide +kernel)
theorem zw_66 : (Jvm.Cond.selects "DrawnGatesModel" ({ cls := "DrawnGatesModel", name := "nodeHangs", desc := "(I)I" } : Jvm.MethodName) ({ cls := "DrawnGatesModel", name := "nodeHangs", desc := "(I)I" } : Jvm.MethodName)) ∈ zTb := zk_in 66 (by decide +kernel) (by decide +kernel)
theorem zw_67 : (Jvm.Cond.selects "DrawnGatesModel" ({ cls := "DrawnGatesModel", name := "wireOf", desc := "(II)I" } : Jvm.MethodName) ({ cls := "DrawnGatesModel", name := "wireOf", desc := "(II)I" } : Jvm.MethodName)) ∈ zTb := zk_in 67 (by decide +kernel) (by decide +kernel)
theorem zw_68 : (Jvm.Cond.selects "DrawnGatesModel" ({ cls := "DrawnGatesModel", name := "waysOf", desc := "()I" } : Jvm.MethodName) ({ cls := "DrawnGatesModel", name := "waysOf", desc := "()I" } : Jvm.MethodName)) ∈ zTb := zk_in 68 (by decide +kernel) (by decide +kernel)
theorem zw_69 : (Jvm.Cond.selects "DrawnGatesModel" ({ cls := "DrawnGatesModel", name := "isDevice", desc := "(I)Z" } : Jvm.MethodName) ({ cls := "DrawnGatesModel", name := "isDevice", desc := "(I)Z" } : Jvm.MethodName)) ∈ zTb := zk_in 69 (by decide +kernel) (by decide +kernel)
theorem zw_70 : (Jvm.Cond.selects "DrawnGatesModel" ({ cls := "DrawnGatesModel", name := "here", desc := "()I" } : Jvm.MethodName) ({ cls := "DrawnGatesModel", name := "here", desc := "()I" } : Jvm.MethodName)) ∈ zTb := zk_in 70 (by decide +kernel) (by decide +kernel)
theorem zw_71 : (Jvm.Cond.selects "DrawnGatesModel" ({ cls := "DrawnGatesModel", name := "readOrder", desc := "()V" } : Jvm.MethodName) ({ cls := "DrawnGatesModel", name := "readOrder", desc := "()V" } : Jvm.MethodName)) ∈ zTb := zk_in 71 (by decide +kernel) (by decide +kernel)
theorem zw_72 : (Jvm.Cond.selects "DrawnGatesModel" ({ cls := "DrawnGatesModel", name := "must", desc := "(Z)V" } : Jvm.MethodName) ({ cls := "DrawnGatesModel", name := "must", desc := "(Z)V" } : Jvm.MethodName)) ∈ zTb := zk_in 72 (by decide +kernel) (by decide +kernel)
theorem zw_73 : (Jvm.Cond.selects "DrawnGatesModel" ({ cls := "DrawnGatesModel", name := "doOrder", desc := "(I)I" } : Jvm.MethodName) ({ cls := "DrawnGatesModel", name := "doOrder", desc := "(I)I" } : Jvm.MethodName)) ∈ zTb := zk_in 73 (by decide +kernel) (by decide +kernel)
theorem zw_74 : (Jvm.Cond.selects "DrawnGatesModel" ({ cls := "DrawnGatesModel", name := "toldOf", desc := "(I)I" } : Jvm.MethodName) ({ cls := "DrawnGatesModel", name := "toldOf", desc := "(I)I" } : Jvm.MethodName)) ∈ zTb := zk_in 74 (by decide +kernel) (by decide +kernel)
theorem zw_75 : (Jvm.Cond.selects "DrawnGatesModel" ({ cls := "DrawnGatesModel", name := "mix", desc := "(J)V" } : Jvm.MethodName) ({ cls := "DrawnGatesModel", name := "mix", desc := "(J)V" } : Jvm.MethodName)) ∈ zTb := zk_in 75 (by decide +kernel) (by decide +kernel)
theorem zw_76 : (Jvm.Cond.initialized "DrawnGatesLaw") ∈ zTb := zk_in 76 (by decide +kernel) (by decide +kernel)
theorem zw_77 : (Jvm.Cond.initialized "DrawnGates") ∈ zTb := zk_in 77 (by decide +kernel) (by decide +kernel)
theorem zw_78 : (Jvm.Cond.initialized "DrawnGates$Plan") ∈ zTb := zk_in 78 (by decide +kernel) (by decide +kernel)
theorem zw_79 : (Jvm.Cond.initialized "DrawnGates$Layout") ∈ zTb := zk_in 79 (by decide +kernel) (by decide +kernel)
theorem zw_80 : (Jvm.Cond.initialized "DrawnGates$Matching") ∈ zTb := zk_in 80 (by decide +kernel) (by decide +kernel)
theorem zw_81 : (Jvm.Cond.initialized "DrawnGates$Text") ∈ zTb := zk_in 81 (by decide +kernel) (by decide +kernel)
theorem zw_82 : (Jvm.Cond.initialized "DrawnGatesModel") ∈ zTb := zk_in 82 (by decide +kernel) (by decide +kernel)
theorem zw_83 : (Jvm.Cond.initialized "java/lang/System") ∈ zTb := zk_in 83 (by decide +kernel) (by decide +kernel)
theorem zw_84 : (Jvm.Cond.initialized "java/lang/Number") ∈ zTb := zk_in 84 (by decide +kernel) (by decide +kernel)
theorem zw_85 : (Jvm.Cond.initialized "java/lang/Long") ∈ zTb := zk_in 85 (by decide +kernel) (by decide +kernel)
theorem zw_86 : (Jvm.Cond.initialized "java/lang/Math") ∈ zTb := zk_in 86 (by decide +kernel) (by decide +kernel)
theorem zw_87 : (Jvm.Cond.initialized "java/util/Arrays") ∈ zTb := zk_in 87 (by decide +kernel) (by decide +kernel)
theorem zw_88 : (Jvm.Cond.initialized "java/lang/Integer") ∈ zTb := zk_in 88 (by decide +kernel) (by decide +kernel)
theorem zw_91 : (Jvm.Cond.methodLink "DrawnGatesLaw" (9 : Nat) ({ cls := "DrawnGates", name := "<init>", desc := "()V" } : Jvm.MethodName)) ∈ zTb := zk_in 91 (by decide +kernel) (by decide +kernel)
theorem zw_92 : (Jvm.Cond.instanceMethod ({ cls := "DrawnGates", name := "<init>", desc := "()V" } : Jvm.MethodName)) ∈ zTb := zk_in 92 (by decide +kernel) (by decide +kernel)
theorem zw_93 : (Jvm.Cond.code ({ cls := "DrawnGates", name := "<init>", desc := "()V" } : Jvm.MethodName) prog_1_method_1_code (2 : Nat) (Option.none : Option Jvm.ClassFile.FieldType)) ∈ zTb := zk_in 93 (by decide +kernel) (by decide +kernel)
theorem zw_94 : (Jvm.Cond.methodLink "DrawnGates" (3 : Nat) ({ cls := "java/lang/Object", name := "<init>", desc := "()V" } : Jvm.MethodName)) ∈ zTb := zk_in 94 (by decide +kernel) (by decide +kernel)
theorem zw_95 : (Jvm.Cond.instanceMethod ({ cls := "java/lang/Object", name := "<init>", desc := "()V" } : Jvm.MethodName)) ∈ zTb := zk_in 95 (by decide +kernel) (by decide +kernel)
theorem zw_96 : (Jvm.Cond.code ({ cls := "java/lang/Object", name := "<init>", desc := "()V" } : Jvm.MethodName) object_method_1_code (1 : Nat) (Option.none : Option Jvm.ClassFile.FieldType)) ∈ zTb := zk_in 96 (by decide +kernel) (by decide +kernel)
theorem zw_100 : (Jvm.Cond.instanceMethod ({ cls := "DrawnGates$Plan", name := "<init>", desc := "()V" } : Jvm.MethodName)) ∈ zTb := zk_in 100 (by decide +kernel) (by decide +kernel)
theorem zw_101 : (Jvm.Cond.code ({ cls := "DrawnGates$Plan", name := "<init>", desc := "()V" } : Jvm.MethodName) prog_4_method_1_code (1 : Nat) (Option.none : Option Jvm.ClassFile.FieldType)) ∈ zTb := zk_in 101 (by decide +kernel) (by decide +kernel)
theorem zw_102 : (Jvm.Cond.methodLink "DrawnGates$Plan" (3 : Nat) ({ cls := "java/lang/Object", name := "<init>", desc := "()V" } : Jvm.MethodName)) ∈ zTb := zk_in 102 (by decide +kernel) (by decide +kernel)
theorem zw_103 : (Jvm.Cond.fieldLink "DrawnGates$Plan" (9 : Nat) "DrawnGates$Plan" "layers" "[J") ∈ zTb := zk_in 103 (by decide +kernel) (by decide +kernel)
theorem zw_104 : (Jvm.Cond.fieldLink "DrawnGates" (97 : Nat) "DrawnGates$Plan" "layers" "[J") ∈ zTb := zk_in 104 (by decide +kernel) (by decide +kernel)
theorem zw_105 : (Jvm.Cond.fieldLink "DrawnGates$Plan" (15 : Nat) "DrawnGates$Plan" "devices" "[I") ∈ zTb := zk_in 105 (by decide +kernel) (by decide +kernel)
theorem zw_106 : (Jvm.Cond.fieldLink "DrawnGates" (168 : Nat) "DrawnGates$Plan" "devices" "[I") ∈ zTb := zk_in 106 (by decide +kernel) (by decide +kernel)
theorem zw_107 : (Jvm.Cond.fieldLink "DrawnGates$Plan" (19 : Nat) "DrawnGates$Plan" "ties" "[I") ∈ zTb := zk_in 107 (by decide +kernel) (by decide +kernel)
theorem zw_108 : (Jvm.Cond.fieldLink "DrawnGates" (175 : Nat) "DrawnGates$Plan" "ties" "[I") ∈ zTb := zk_in 108 (by decide +kernel) (by decide +kernel)
theorem zw_109 : (Jvm.Cond.fieldLink "DrawnGates$Plan" (22 : Nat) "DrawnGates$Plan" "deviceCount" "I") ∈ zTb := zk_in 109 (by decide +kernel) (by decide +kernel)
theorem zw_110 : (Jvm.Cond.fieldLink "DrawnGates$Matching" (75 : Nat) "DrawnGates$Plan" "deviceCount" "I") ∈ zTb := zk_in 110 (by decide +kernel) (by decide +kernel)
theorem zw_111 : (Jvm.Cond.fieldLink "DrawnGates" (125 : Nat) "DrawnGates$Plan" "deviceCount" "I") ∈ zTb := zk_in 111 (by decide +kernel) (by decide +kernel)
theorem zw_112 : (Jvm.Cond.fieldLink "DrawnGates$Plan" (26 : Nat) "DrawnGates$Plan" "pinCount" "I") ∈ zTb := zk_in 112 (by decide +kernel) (by decide +kernel)
theorem zw_113 : (Jvm.Cond.fieldLink "DrawnGates$Layout" (99 : Nat) "DrawnGates$Plan" "pinCount" "I") ∈ zTb := zk_in 113 (by decide +kernel) (by decide +kernel)
theorem zw_114 : (Jvm.Cond.fieldLink "DrawnGates$Matching" (114 : Nat) "DrawnGates$Plan" "pinCount" "I") ∈ zTb := zk_in 114 (by decide +kernel) (by decide +kernel)
theorem zw_115 : (Jvm.Cond.fieldLink "DrawnGates" (128 : Nat) "DrawnGates$Plan" "pinCount" "I") ∈ zTb := zk_in 115 (by decide +kernel) (by decide +kernel)
theorem zw_133 : (Jvm.Cond.instanceMethod ({ cls := "DrawnGates$Layout", name := "<init>", desc := "()V" } : Jvm.MethodName)) ∈ zTb := zk_in 133 (by decide +kernel) (by decide +kernel)
theorem zw_134 : (Jvm.Cond.code ({ cls := "DrawnGates$Layout", name := "<init>", desc := "()V" } : Jvm.MethodName) prog_2_method_1_code (1 : Nat) (Option.none : Option Jvm.ClassFile.FieldType)) ∈ zTb := zk_in 134 (by decide +kernel) (by decide +kernel)
theorem zw_135 : (Jvm.Cond.methodLink "DrawnGates$Layout" (3 : Nat) ({ cls := "java/lang/Object", name := "<init>", desc := "()V" } : Jvm.MethodName)) ∈ zTb := zk_in 135 (by decide +kernel) (by decide +kernel)
theorem zw_138 : (Jvm.Cond.fieldLink "DrawnGates$Layout" (9 : Nat) "DrawnGates$Layout" "layers" "[J") ∈ zTb := zk_in 138 (by decide +kernel) (by decide +kernel)
theorem zw_139 : (Jvm.Cond.fieldLink "DrawnGates$Layout" (15 : Nat) "DrawnGates$Layout" "pieces" "[J") ∈ zTb := zk_in 139 (by decide +kernel) (by decide +kernel)
theorem zw_140 : (Jvm.Cond.fieldLink "DrawnGates$Layout" (18 : Nat) "DrawnGates$Layout" "pieceLayer" "[I") ∈ zTb := zk_in 140 (by decide +kernel) (by decide +kernel)
theorem zw_141 : (Jvm.Cond.fieldLink "DrawnGates$Layout" (22 : Nat) "DrawnGates$Layout" "leastJoined" "[I") ∈ zTb := zk_in 141 (by decide +kernel) (by decide +kernel)
theorem zw_142 : (Jvm.Cond.fieldLink "DrawnGates$Layout" (25 : Nat) "DrawnGates$Layout" "pieceNode" "[I") ∈ zTb := zk_in 142 (by decide +kernel) (by decide +kernel)
theorem zw_143 : (Jvm.Cond.fieldLink "DrawnGates$Layout" (30 : Nat) "DrawnGates$Layout" "wires" "[[J") ∈ zTb := zk_in 143 (by decide +kernel) (by decide +kernel)
theorem zw_144 : (Jvm.Cond.fieldLink "DrawnGates$Layout" (33 : Nat) "DrawnGates$Layout" "nodeHang" "[I") ∈ zTb := zk_in 144 (by decide +kernel) (by decide +kernel)
theorem zw_145 : (Jvm.Cond.fieldLink "DrawnGates$Layout" (36 : Nat) "DrawnGates$Layout" "gateCells" "[J") ∈ zTb := zk_in 145 (by decide +kernel) (by decide +kernel)
theorem zw_146 : (Jvm.Cond.fieldLink "DrawnGates$Layout" (39 : Nat) "DrawnGates$Layout" "gateNode" "[I") ∈ zTb := zk_in 146 (by decide +kernel) (by decide +kernel)
theorem zw_147 : (Jvm.Cond.fieldLink "DrawnGates$Matching" (98 : Nat) "DrawnGates$Layout" "gateNode" "[I") ∈ zTb := zk_in 147 (by decide +kernel) (by decide +kernel)
theorem zw_148 : (Jvm.Cond.fieldLink "DrawnGates$Layout" (42 : Nat) "DrawnGates$Layout" "gateA" "[I") ∈ zTb := zk_in 148 (by decide +kernel) (by decide +kernel)
theorem zw_149 : (Jvm.Cond.fieldLink "DrawnGates$Matching" (108 : Nat) "DrawnGates$Layout" "gateA" "[I") ∈ zTb := zk_in 149 (by decide +kernel) (by decide +kernel)
theorem zw_150 : (Jvm.Cond.fieldLink "DrawnGates$Layout" (45 : Nat) "DrawnGates$Layout" "gateB" "[I") ∈ zTb := zk_in 150 (by decide +kernel) (by decide +kernel)
theorem zw_151 : (Jvm.Cond.fieldLink "DrawnGates$Matching" (111 : Nat) "DrawnGates$Layout" "gateB" "[I") ∈ zTb := zk_in 151 (by decide +kernel) (by decide +kernel)
theorem zw_152 : (Jvm.Cond.fieldLink "DrawnGates$Layout" (48 : Nat) "DrawnGates$Layout" "gateSides" "[I") ∈ zTb := zk_in 152 (by decide +kernel) (by decide +kernel)
theorem zw_153 : (Jvm.Cond.fieldLink "DrawnGates$Layout" (51 : Nat) "DrawnGates$Layout" "pieceCount" "I") ∈ zTb := zk_in 153 (by decide +kernel) (by decide +kernel)
theorem zw_154 : (Jvm.Cond.fieldLink "DrawnGates" (122 : Nat) "DrawnGates$Layout" "pieceCount" "I") ∈ zTb := zk_in 154 (by decide +kernel) (by decide +kernel)
theorem zw_155 : (Jvm.Cond.fieldLink "DrawnGates$Layout" (55 : Nat) "DrawnGates$Layout" "nodeCount" "I") ∈ zTb := zk_in 155 (by decide +kernel) (by decide +kernel)
theorem zw_156 : (Jvm.Cond.fieldLink "DrawnGates" (113 : Nat) "DrawnGates$Layout" "nodeCount" "I") ∈ zTb := zk_in 156 (by decide +kernel) (by decide +kernel)
theorem zw_157 : (Jvm.Cond.fieldLink "DrawnGates$Layout" (58 : Nat) "DrawnGates$Layout" "gateCount" "I") ∈ zTb := zk_in 157 (by decide +kernel) (by decide +kernel)
theorem zw_158 : (Jvm.Cond.fieldLink "DrawnGates$Matching" (80 : Nat) "DrawnGates$Layout" "gateCount" "I") ∈ zTb := zk_in 158 (by decide +kernel) (by decide +kernel)
theorem zw_159 : (Jvm.Cond.fieldLink "DrawnGates" (116 : Nat) "DrawnGates$Layout" "gateCount" "I") ∈ zTb := zk_in 159 (by decide +kernel) (by decide +kernel)
theorem zw_160 : (Jvm.Cond.fieldLink "DrawnGates$Layout" (61 : Nat) "DrawnGates$Layout" "brokenCount" "I") ∈ zTb := zk_in 160 (by decide +kernel) (by decide +kernel)
theorem zw_161 : (Jvm.Cond.fieldLink "DrawnGates$Matching" (54 : Nat) "DrawnGates$Layout" "brokenCount" "I") ∈ zTb := zk_in 161 (by decide +kernel) (by decide +kernel)
theorem zw_162 : (Jvm.Cond.fieldLink "DrawnGates" (119 : Nat) "DrawnGates$Layout" "brokenCount" "I") ∈ zTb := zk_in 162 (by decide +kernel) (by decide +kernel)
theorem zw_198 : (Jvm.Cond.methodLink "DrawnGates" (32 : Nat) ({ cls := "DrawnGates$Matching", name := "<init>", desc := "(LDrawnGates$Plan;LDrawnGates$Layout;)V" } : Jvm.MethodName)) ∈ zTb := zk_in 198 (by decide +kernel) (by decide +kernel)
theorem zw_199 : (Jvm.Cond.instanceMethod ({ cls := "DrawnGates$Matching", name := "<init>", desc := "(LDrawnGates$Plan;LDrawnGates$Layout;)V" } : Jvm.MethodName)) ∈ zTb := zk_in 199 (by decide +kernel) (by decide +kernel)
theorem zw_200 : (Jvm.Cond.code ({ cls := "DrawnGates$Matching", name := "<init>", desc := "(LDrawnGates$Plan;LDrawnGates$Layout;)V" } : Jvm.MethodName) prog_3_method_1_code (3 : Nat) (Option.none : Option Jvm.ClassFile.FieldType)) ∈ zTb := zk_in 200 (by decide +kernel) (by decide +kernel)
theorem zw_201 : (Jvm.Cond.methodLink "DrawnGates$Matching" (3 : Nat) ({ cls := "java/lang/Object", name := "<init>", desc := "()V" } : Jvm.MethodName)) ∈ zTb := zk_in 201 (by decide +kernel) (by decide +kernel)
theorem zw_204 : (Jvm.Cond.fieldLink "DrawnGates$Matching" (39 : Nat) "DrawnGates$Matching" "plan" "LDrawnGates$Plan;") ∈ zTb := zk_in 204 (by decide +kernel) (by decide +kernel)
theorem zw_205 : (Jvm.Cond.fieldLink "DrawnGates$Matching" (43 : Nat) "DrawnGates$Matching" "drawn" "LDrawnGates$Layout;") ∈ zTb := zk_in 205 (by decide +kernel) (by decide +kernel)
theorem zw_206 : (Jvm.Cond.fieldLink "DrawnGates$Matching" (9 : Nat) "DrawnGates$Matching" "likes" "[I") ∈ zTb := zk_in 206 (by decide +kernel) (by decide +kernel)
theorem zw_207 : (Jvm.Cond.fieldLink "DrawnGates$Matching" (15 : Nat) "DrawnGates$Matching" "gateOf" "[I") ∈ zTb := zk_in 207 (by decide +kernel) (by decide +kernel)
theorem zw_208 : (Jvm.Cond.fieldLink "DrawnGates$Matching" (20 : Nat) "DrawnGates$Matching" "nodesOf" "[[I") ∈ zTb := zk_in 208 (by decide +kernel) (by decide +kernel)
theorem zw_209 : (Jvm.Cond.fieldLink "DrawnGates$Matching" (23 : Nat) "DrawnGates$Matching" "taken" "I") ∈ zTb := zk_in 209 (by decide +kernel) (by decide +kernel)
theorem zw_210 : (Jvm.Cond.fieldLink "DrawnGates$Matching" (27 : Nat) "DrawnGates$Matching" "firstGates" "[I") ∈ zTb := zk_in 210 (by decide +kernel) (by decide +kernel)
theorem zw_211 : (Jvm.Cond.fieldLink "DrawnGates" (162 : Nat) "DrawnGates$Matching" "firstGates" "[I") ∈ zTb := zk_in 211 (by decide +kernel) (by decide +kernel)
theorem zw_212 : (Jvm.Cond.fieldLink "DrawnGates$Matching" (30 : Nat) "DrawnGates$Matching" "firstNodes" "[I") ∈ zTb := zk_in 212 (by decide +kernel) (by decide +kernel)
theorem zw_213 : (Jvm.Cond.fieldLink "DrawnGates" (165 : Nat) "DrawnGates$Matching" "firstNodes" "[I") ∈ zTb := zk_in 213 (by decide +kernel) (by decide +kernel)
theorem zw_214 : (Jvm.Cond.fieldLink "DrawnGates$Matching" (33 : Nat) "DrawnGates$Matching" "found" "I") ∈ zTb := zk_in 214 (by decide +kernel) (by decide +kernel)
theorem zw_215 : (Jvm.Cond.fieldLink "DrawnGates" (159 : Nat) "DrawnGates$Matching" "found" "I") ∈ zTb := zk_in 215 (by decide +kernel) (by decide +kernel)
theorem zw_216 : (Jvm.Cond.fieldLink "DrawnGates$Matching" (36 : Nat) "DrawnGates$Matching" "unlike" "I") ∈ zTb := zk_in 216 (by decide +kernel) (by decide +kernel)
theorem zw_217 : (Jvm.Cond.fieldLink "DrawnGates" (142 : Nat) "DrawnGates$Matching" "unlike" "I") ∈ zTb := zk_in 217 (by decide +kernel) (by decide +kernel)
theorem zw_242 : (Jvm.Cond.instanceMethod ({ cls := "DrawnGates$Text", name := "<init>", desc := "()V" } : Jvm.MethodName)) ∈ zTb := zk_in 242 (by decide +kernel) (by decide +kernel)
theorem zw_243 : (Jvm.Cond.code ({ cls := "DrawnGates$Text", name := "<init>", desc := "()V" } : Jvm.MethodName) prog_5_method_1_code (1 : Nat) (Option.none : Option Jvm.ClassFile.FieldType)) ∈ zTb := zk_in 243 (by decide +kernel) (by decide +kernel)
theorem zw_244 : (Jvm.Cond.methodLink "DrawnGates$Text" (3 : Nat) ({ cls := "java/lang/Object", name := "<init>", desc := "()V" } : Jvm.MethodName)) ∈ zTb := zk_in 244 (by decide +kernel) (by decide +kernel)
theorem zw_245 : (Jvm.Cond.fieldLink "DrawnGates$Text" (9 : Nat) "DrawnGates$Text" "bytes" "[B") ∈ zTb := zk_in 245 (by decide +kernel) (by decide +kernel)
theorem zw_246 : (Jvm.Cond.fieldLink "DrawnGates$Text" (15 : Nat) "DrawnGates$Text" "figures" "[I") ∈ zTb := zk_in 246 (by decide +kernel) (by decide +kernel)
theorem zw_247 : (Jvm.Cond.fieldLink "DrawnGates$Text" (19 : Nat) "DrawnGates$Text" "length" "I") ∈ zTb := zk_in 247 (by decide +kernel) (by decide +kernel)
theorem zw_248 : (Jvm.Cond.fieldLink "DrawnGates" (182 : Nat) "DrawnGates$Text" "length" "I") ∈ zTb := zk_in 248 (by decide +kernel) (by decide +kernel)
theorem zw_257 : (Jvm.Cond.fieldLink "DrawnGates" (12 : Nat) "DrawnGates" "plan" "LDrawnGates$Plan;") ∈ zTb := zk_in 257 (by decide +kernel) (by decide +kernel)
theorem zw_258 : (Jvm.Cond.fieldLink "DrawnGates" (16 : Nat) "DrawnGates" "before" "LDrawnGates$Plan;") ∈ zTb := zk_in 258 (by decide +kernel) (by decide +kernel)
theorem zw_259 : (Jvm.Cond.fieldLink "DrawnGates" (19 : Nat) "DrawnGates" "states" "[LDrawnGates$Plan;") ∈ zTb := zk_in 259 (by decide +kernel) (by decide +kernel)
theorem zw_260 : (Jvm.Cond.fieldLink "DrawnGates" (26 : Nat) "DrawnGates" "layout" "LDrawnGates$Layout;") ∈ zTb := zk_in 260 (by decide +kernel) (by decide +kernel)
theorem zw_261 : (Jvm.Cond.fieldLink "DrawnGates" (35 : Nat) "DrawnGates" "matching" "LDrawnGates$Matching;") ∈ zTb := zk_in 261 (by decide +kernel) (by decide +kernel)
theorem zw_262 : (Jvm.Cond.fieldLink "DrawnGates" (42 : Nat) "DrawnGates" "text" "LDrawnGates$Text;") ∈ zTb := zk_in 262 (by decide +kernel) (by decide +kernel)
theorem zw_263 : (Jvm.Cond.fieldLink "DrawnGates" (46 : Nat) "DrawnGates" "refusals" "[I") ∈ zTb := zk_in 263 (by decide +kernel) (by decide +kernel)
theorem zw_264 : (Jvm.Cond.fieldLink "DrawnGates" (50 : Nat) "DrawnGates" "stateCount" "I") ∈ zTb := zk_in 264 (by decide +kernel) (by decide +kernel)
theorem zw_265 : (Jvm.Cond.fieldLink "DrawnGates" (54 : Nat) "DrawnGates" "searched" "Z") ∈ zTb := zk_in 265 (by decide +kernel) (by decide +kernel)
theorem zw_285 : (Jvm.Cond.methodLink "DrawnGatesLaw" (13 : Nat) ({ cls := "DrawnGates", name := "draws", desc := "(IIIII)I" } : Jvm.MethodName)) ∈ zTb := zk_in 285 (by decide +kernel) (by decide +kernel)
theorem zw_286 : (Jvm.Cond.instanceMethod ({ cls := "DrawnGates", name := "draws", desc := "(IIIII)I" } : Jvm.MethodName)) ∈ zTb := zk_in 286 (by decide +kernel) (by decide +kernel)
theorem zw_287 : (Jvm.Cond.selects "DrawnGates" ({ cls := "DrawnGates", name := "draws", desc := "(IIIII)I" } : Jvm.MethodName) ({ cls := "DrawnGates", name := "draws", desc := "(IIIII)I" } : Jvm.MethodName)) ∈ zTb := zk_in 287 (by decide +kernel) (by decide +kernel)
theorem zw_288 : (Jvm.Cond.code ({ cls := "DrawnGates", name := "draws", desc := "(IIIII)I" } : Jvm.MethodName) prog_1_method_2_code (6 : Nat) (Option.some Jvm.ClassFile.FieldType.int)) ∈ zTb := zk_in 288 (by decide +kernel) (by decide +kernel)
theorem zw_289 : (Jvm.Cond.methodLink "DrawnGates" (58 : Nat) ({ cls := "DrawnGates$Plan", name := "take", desc := "(LDrawnGates$Plan;)V" } : Jvm.MethodName)) ∈ zTb := zk_in 289 (by decide +kernel) (by decide +kernel)
theorem zw_290 : (Jvm.Cond.instanceMethod ({ cls := "DrawnGates$Plan", name := "take", desc := "(LDrawnGates$Plan;)V" } : Jvm.MethodName)) ∈ zTb := zk_in 290 (by decide +kernel) (by decide +kernel)
theorem zw_291 : (Jvm.Cond.selects "DrawnGates$Plan" ({ cls := "DrawnGates$Plan", name := "take", desc := "(LDrawnGates$Plan;)V" } : Jvm.MethodName) ({ cls := "DrawnGates$Plan", name := "take", desc := "(LDrawnGates$Plan;)V" } : Jvm.MethodName)) ∈ zTb := zk_in 291 (by decide +kernel) (by decide +kernel)
theorem zw_292 : (Jvm.Cond.code ({ cls := "DrawnGates$Plan", name := "take", desc := "(LDrawnGates$Plan;)V" } : Jvm.MethodName) prog_4_method_2_code (2 : Nat) (Option.none : Option Jvm.ClassFile.FieldType)) ∈ zTb := zk_in 292 (by decide +kernel) (by decide +kernel)
theorem zw_293 : (Jvm.Cond.methodLink "DrawnGates$Plan" (29 : Nat) ({ cls := "java/lang/System", name := "arraycopy", desc := "(Ljava/lang/Object;ILjava/lang/Object;II)V" } : Jvm.MethodName)) ∈ zTb := zk_in 293 (by decide +kernel) (by decide +kernel)
theorem zw_294 : (Jvm.Cond.static ({ cls := "java/lang/System", name := "arraycopy", desc := "(Ljava/lang/Object;ILjava/lang/Object;II)V" } : Jvm.MethodName)) ∈ zTb := zk_in 294 (by decide +kernel) (by decide +kernel)
theorem zw_295 : (Jvm.Cond.native ({ cls := "java/lang/System", name := "arraycopy", desc := "(Ljava/lang/Object;ILjava/lang/Object;II)V" } : Jvm.MethodName)) ∈ zTb := zk_in 295 (by decide +kernel) (by decide +kernel)
theorem zw_296 : (Jvm.Cond.methodLink "DrawnGates" (62 : Nat) ({ cls := "DrawnGates$Plan", name := "paint", desc := "(IIIII)I" } : Jvm.MethodName)) ∈ zTb := zk_in 296 (by decide +kernel) (by decide +kernel)
theorem zw_297 : (Jvm.Cond.instanceMethod ({ cls := "DrawnGates$Plan", name := "paint", desc := "(IIIII)I" } : Jvm.MethodName)) ∈ zTb := zk_in 297 (by decide +kernel) (by decide +kernel)
theorem zw_298 : (Jvm.Cond.selects "DrawnGates$Plan" ({ cls := "DrawnGates$Plan", name := "paint", desc := "(IIIII)I" } : Jvm.MethodName) ({ cls := "DrawnGates$Plan", name := "paint", desc := "(IIIII)I" } : Jvm.MethodName)) ∈ zTb := zk_in 298 (by decide +kernel) (by decide +kernel)
theorem zw_299 : (Jvm.Cond.code ({ cls := "DrawnGates$Plan", name := "paint", desc := "(IIIII)I" } : Jvm.MethodName) prog_4_method_3_code (8 : Nat) (Option.some Jvm.ClassFile.FieldType.int)) ∈ zTb := zk_in 299 (by decide +kernel) (by decide +kernel)
theorem zw_301 : (Jvm.Cond.static ({ cls := "DrawnGates", name := "isWithin", desc := "(II)Z" } : Jvm.MethodName)) ∈ zTb := zk_in 301 (by decide +kernel) (by decide +kernel)
theorem zw_302 : (Jvm.Cond.code ({ cls := "DrawnGates", name := "isWithin", desc := "(II)Z" } : Jvm.MethodName) prog_1_method_32_code (2 : Nat) (Option.some Jvm.ClassFile.FieldType.boolean)) ∈ zTb := zk_in 302 (by decide +kernel) (by decide +kernel)
theorem zw_303 : (Jvm.Cond.methodLink "DrawnGates$Plan" (39 : Nat) ({ cls := "DrawnGates$Plan", name := "isBox", desc := "(IIII)Z" } : Jvm.MethodName)) ∈ zTb := zk_in 303 (by decide +kernel) (by decide +kernel)
theorem zw_304 : (Jvm.Cond.static ({ cls := "DrawnGates$Plan", name := "isBox", desc := "(IIII)Z" } : Jvm.MethodName)) ∈ zTb := zk_in 304 (by decide +kernel) (by decide +kernel)
theorem zw_305 : (Jvm.Cond.code ({ cls := "DrawnGates$Plan", name := "isBox", desc := "(IIII)Z" } : Jvm.MethodName) prog_4_method_17_code (4 : Nat) (Option.some Jvm.ClassFile.FieldType.boolean)) ∈ zTb := zk_in 305 (by decide +kernel) (by decide +kernel)
theorem zw_307 : (Jvm.Cond.static ({ cls := "DrawnGates", name := "isCell", desc := "(II)Z" } : Jvm.MethodName)) ∈ zTb := zk_in 307 (by decide +kernel) (by decide +kernel)
theorem zw_308 : (Jvm.Cond.code ({ cls := "DrawnGates", name := "isCell", desc := "(II)Z" } : Jvm.MethodName) prog_1_method_33_code (2 : Nat) (Option.some Jvm.ClassFile.FieldType.boolean)) ∈ zTb := zk_in 308 (by decide +kernel) (by decide +kernel)
theorem zw_309 : (Jvm.Cond.methodLink "DrawnGates" (87 : Nat) ({ cls := "DrawnGates", name := "isWithin", desc := "(II)Z" } : Jvm.MethodName)) ∈ zTb := zk_in 309 (by decide +kernel) (by decide +kernel)
theorem zw_310 : (Jvm.Cond.methodLink "DrawnGates$Plan" (43 : Nat) ({ cls := "DrawnGates$Plan", name := "boxBits", desc := "(IIII)J" } : Jvm.MethodName)) ∈ zTb := zk_in 310 (by decide +kernel) (by decide +kernel)
theorem zw_311 : (Jvm.Cond.static ({ cls := "DrawnGates$Plan", name := "boxBits", desc := "(IIII)J" } : Jvm.MethodName)) ∈ zTb := zk_in 311 (by decide +kernel) (by decide +kernel)
theorem zw_312 : (Jvm.Cond.code ({ cls := "DrawnGates$Plan", name := "boxBits", desc := "(IIII)J" } : Jvm.MethodName) prog_4_method_18_code (9 : Nat) (Option.some Jvm.ClassFile.FieldType.long)) ∈ zTb := zk_in 312 (by decide +kernel) (by decide +kernel)
theorem zw_313 : (Jvm.Cond.constantLong "DrawnGates$Plan" (47 : Nat) (-1 : Int64)) ∈ zTb := zk_in 313 (by decide +kernel) (by decide +kernel)
theorem zw_314 : (Jvm.Cond.methodLink "DrawnGates$Plan" (49 : Nat) ({ cls := "java/lang/Long", name := "bitCount", desc := "(J)I" } : Jvm.MethodName)) ∈ zTb := zk_in 314 (by decide +kernel) (by decide +kernel)
theorem zw_315 : (Jvm.Cond.static ({ cls := "java/lang/Long", name := "bitCount", desc := "(J)I" } : Jvm.MethodName)) ∈ zTb := zk_in 315 (by decide +kernel) (by decide +kernel)
theorem zw_316 : (Jvm.Cond.code ({ cls := "java/lang/Long", name := "bitCount", desc := "(J)I" } : Jvm.MethodName) prog_9_method_50_code (2 : Nat) (Option.some Jvm.ClassFile.FieldType.int)) ∈ zTb := zk_in 316 (by decide +kernel) (by decide +kernel)
theorem zw_317 : (Jvm.Cond.constantLong "java/lang/Long" (314 : Nat) (6148914691236517205 : Int64)) ∈ zTb := zk_in 317 (by decide +kernel) (by decide +kernel)
theorem zw_318 : (Jvm.Cond.constantLong "java/lang/Long" (316 : Nat) (3689348814741910323 : Int64)) ∈ zTb := zk_in 318 (by decide +kernel) (by decide +kernel)
theorem zw_319 : (Jvm.Cond.constantLong "java/lang/Long" (318 : Nat) (1085102592571150095 : Int64)) ∈ zTb := zk_in 319 (by decide +kernel) (by decide +kernel)
theorem zw_320 : (Jvm.Cond.methodLink "DrawnGates" (66 : Nat) ({ cls := "DrawnGates", name := "settle", desc := "(I)I" } : Jvm.MethodName)) ∈ zTb := zk_in 320 (by decide +kernel) (by decide +kernel)
theorem zw_322 : (Jvm.Cond.instanceMethod ({ cls := "DrawnGates", name := "settle", desc := "(I)I" } : Jvm.MethodName)) ∈ zTb := zk_in 322 (by decide +kernel) (by decide +kernel)
theorem zw_323 : (Jvm.Cond.code ({ cls := "DrawnGates", name := "settle", desc := "(I)I" } : Jvm.MethodName) prog_1_method_26_code (2 : Nat) (Option.some Jvm.ClassFile.FieldType.int)) ∈ zTb := zk_in 323 (by decide +kernel) (by decide +kernel)
theorem zw_324 : (Jvm.Cond.methodLink "DrawnGates" (94 : Nat) ({ cls := "DrawnGates", name := "refuse", desc := "(I)I" } : Jvm.MethodName)) ∈ zTb := zk_in 324 (by decide +kernel) (by decide +kernel)
theorem zw_326 : (Jvm.Cond.instanceMethod ({ cls := "DrawnGates", name := "refuse", desc := "(I)I" } : Jvm.MethodName)) ∈ zTb := zk_in 326 (by decide +kernel) (by decide +kernel)
theorem zw_327 : (Jvm.Cond.code ({ cls := "DrawnGates", name := "refuse", desc := "(I)I" } : Jvm.MethodName) prog_1_method_29_code (3 : Nat) (Option.some Jvm.ClassFile.FieldType.int)) ∈ zTb := zk_in 327 (by decide +kernel) (by decide +kernel)
theorem zw_328 : (Jvm.Cond.methodLink "DrawnGates" (206 : Nat) ({ cls := "DrawnGates", name := "keepBefore", desc := "()V" } : Jvm.MethodName)) ∈ zTb := zk_in 328 (by decide +kernel) (by decide +kernel)
theorem zw_330 : (Jvm.Cond.instanceMethod ({ cls := "DrawnGates", name := "keepBefore", desc := "()V" } : Jvm.MethodName)) ∈ zTb := zk_in 330 (by decide +kernel) (by decide +kernel)
theorem zw_331 : (Jvm.Cond.code ({ cls := "DrawnGates", name := "keepBefore", desc := "()V" } : Jvm.MethodName) prog_1_method_27_code (1 : Nat) (Option.none : Option Jvm.ClassFile.FieldType)) ∈ zTb := zk_in 331 (by decide +kernel) (by decide +kernel)
theorem zw_332 : (Jvm.Cond.methodLink "DrawnGates" (209 : Nat) ({ cls := "DrawnGates", name := "dropOldestState", desc := "()V" } : Jvm.MethodName)) ∈ zTb := zk_in 332 (by decide +kernel) (by decide +kernel)
theorem zw_334 : (Jvm.Cond.instanceMethod ({ cls := "DrawnGates", name := "dropOldestState", desc := "()V" } : Jvm.MethodName)) ∈ zTb := zk_in 334 (by decide +kernel) (by decide +kernel)
theorem zw_335 : (Jvm.Cond.code ({ cls := "DrawnGates", name := "dropOldestState", desc := "()V" } : Jvm.MethodName) prog_1_method_28_code (3 : Nat) (Option.none : Option Jvm.ClassFile.FieldType)) ∈ zTb := zk_in 335 (by decide +kernel) (by decide +kernel)
theorem zw_336 : (Jvm.Cond.methodLink "DrawnGatesLaw" (18 : Nat) ({ cls := "DrawnGates", name := "rubs", desc := "(IIIII)I" } : Jvm.MethodName)) ∈ zTb := zk_in 336 (by decide +kernel) (by decide +kernel)
theorem zw_337 : (Jvm.Cond.instanceMethod ({ cls := "DrawnGates", name := "rubs", desc := "(IIIII)I" } : Jvm.MethodName)) ∈ zTb := zk_in 337 (by decide +kernel) (by decide +kernel)
theorem zw_338 : (Jvm.Cond.selects "DrawnGates" ({ cls := "DrawnGates", name := "rubs", desc := "(IIIII)I" } : Jvm.MethodName) ({ cls := "DrawnGates", name := "rubs", desc := "(IIIII)I" } : Jvm.MethodName)) ∈ zTb := zk_in 338 (by decide +kernel) (by decide +kernel)
theorem zw_339 : (Jvm.Cond.code ({ cls := "DrawnGates", name := "rubs", desc := "(IIIII)I" } : Jvm.MethodName) prog_1_method_3_code (6 : Nat) (Option.some Jvm.ClassFile.FieldType.int)) ∈ zTb := zk_in 339 (by decide +kernel) (by decide +kernel)
theorem zw_340 : (Jvm.Cond.methodLink "DrawnGates" (70 : Nat) ({ cls := "DrawnGates$Plan", name := "erase", desc := "(IIIII)I" } : Jvm.MethodName)) ∈ zTb := zk_in 340 (by decide +kernel) (by decide +kernel)
theorem zw_341 : (Jvm.Cond.instanceMethod ({ cls := "DrawnGates$Plan", name := "erase", desc := "(IIIII)I" } : Jvm.MethodName)) ∈ zTb := zk_in 341 (by decide +kernel) (by decide +kernel)
theorem zw_342 : (Jvm.Cond.selects "DrawnGates$Plan" ({ cls := "DrawnGates$Plan", name := "erase", desc := "(IIIII)I" } : Jvm.MethodName) ({ cls := "DrawnGates$Plan", name := "erase", desc := "(IIIII)I" } : Jvm.MethodName)) ∈ zTb := zk_in 342 (by decide +kernel) (by decide +kernel)
theorem zw_343 : (Jvm.Cond.code ({ cls := "DrawnGates$Plan", name := "erase", desc := "(IIIII)I" } : Jvm.MethodName) prog_4_method_4_code (8 : Nat) (Option.some Jvm.ClassFile.FieldType.int)) ∈ zTb := zk_in 343 (by decide +kernel) (by decide +kernel)
theorem zw_344 : (Jvm.Cond.methodLink "DrawnGatesLaw" (22 : Nat) ({ cls := "DrawnGates", name := "moves", desc := "(III)I" } : Jvm.MethodName)) ∈ zTb := zk_in 344 (by decide +kernel) (by decide +kernel)
theorem zw_345 : (Jvm.Cond.instanceMethod ({ cls := "DrawnGates", name := "moves", desc := "(III)I" } : Jvm.MethodName)) ∈ zTb := zk_in 345 (by decide +kernel) (by decide +kernel)
theorem zw_346 : (Jvm.Cond.selects "DrawnGates" ({ cls := "DrawnGates", name := "moves", desc := "(III)I" } : Jvm.MethodName) ({ cls := "DrawnGates", name := "moves", desc := "(III)I" } : Jvm.MethodName)) ∈ zTb := zk_in 346 (by decide +kernel) (by decide +kernel)
theorem zw_347 : (Jvm.Cond.code ({ cls := "DrawnGates", name := "moves", desc := "(III)I" } : Jvm.MethodName) prog_1_method_4_code (4 : Nat) (Option.some Jvm.ClassFile.FieldType.int)) ∈ zTb := zk_in 347 (by decide +kernel) (by decide +kernel)
theorem zw_348 : (Jvm.Cond.methodLink "DrawnGates" (73 : Nat) ({ cls := "DrawnGates$Plan", name := "shift", desc := "(III)I" } : Jvm.MethodName)) ∈ zTb := zk_in 348 (by decide +kernel) (by decide +kernel)
theorem zw_349 : (Jvm.Cond.instanceMethod ({ cls := "DrawnGates$Plan", name := "shift", desc := "(III)I" } : Jvm.MethodName)) ∈ zTb := zk_in 349 (by decide +kernel) (by decide +kernel)
theorem zw_350 : (Jvm.Cond.selects "DrawnGates$Plan" ({ cls := "DrawnGates$Plan", name := "shift", desc := "(III)I" } : Jvm.MethodName) ({ cls := "DrawnGates$Plan", name := "shift", desc := "(III)I" } : Jvm.MethodName)) ∈ zTb := zk_in 350 (by decide +kernel) (by decide +kernel)
theorem zw_351 : (Jvm.Cond.code ({ cls := "DrawnGates$Plan", name := "shift", desc := "(III)I" } : Jvm.MethodName) prog_4_method_5_code (8 : Nat) (Option.some Jvm.ClassFile.FieldType.int)) ∈ zTb := zk_in 351 (by decide +kernel) (by decide +kernel)
theorem zw_352 : (Jvm.Cond.methodLink "DrawnGates$Plan" (55 : Nat) ({ cls := "DrawnGates$Plan", name := "isStep", desc := "(I)Z" } : Jvm.MethodName)) ∈ zTb := zk_in 352 (by decide +kernel) (by decide +kernel)
theorem zw_353 : (Jvm.Cond.static ({ cls := "DrawnGates$Plan", name := "isStep", desc := "(I)Z" } : Jvm.MethodName)) ∈ zTb := zk_in 353 (by decide +kernel) (by decide +kernel)
theorem zw_354 : (Jvm.Cond.code ({ cls := "DrawnGates$Plan", name := "isStep", desc := "(I)Z" } : Jvm.MethodName) prog_4_method_16_code (1 : Nat) (Option.some Jvm.ClassFile.FieldType.boolean)) ∈ zTb := zk_in 354 (by decide +kernel) (by decide +kernel)
theorem zw_356 : (Jvm.Cond.static ({ cls := "DrawnGates", name := "cellBit", desc := "(II)J" } : Jvm.MethodName)) ∈ zTb := zk_in 356 (by decide +kernel) (by decide +kernel)
theorem zw_357 : (Jvm.Cond.code ({ cls := "DrawnGates", name := "cellBit", desc := "(II)J" } : Jvm.MethodName) prog_1_method_34_code (2 : Nat) (Option.some Jvm.ClassFile.FieldType.long)) ∈ zTb := zk_in 357 (by decide +kernel) (by decide +kernel)
theorem zw_358 : (Jvm.Cond.methodLink "DrawnGatesLaw" (27 : Nat) ({ cls := "DrawnGates", name := "means", desc := "(III)I" } : Jvm.MethodName)) ∈ zTb := zk_in 358 (by decide +kernel) (by decide +kernel)
theorem zw_359 : (Jvm.Cond.instanceMethod ({ cls := "DrawnGates", name := "means", desc := "(III)I" } : Jvm.MethodName)) ∈ zTb := zk_in 359 (by decide +kernel) (by decide +kernel)
theorem zw_360 : (Jvm.Cond.selects "DrawnGates" ({ cls := "DrawnGates", name := "means", desc := "(III)I" } : Jvm.MethodName) ({ cls := "DrawnGates", name := "means", desc := "(III)I" } : Jvm.MethodName)) ∈ zTb := zk_in 360 (by decide +kernel) (by decide +kernel)
theorem zw_361 : (Jvm.Cond.code ({ cls := "DrawnGates", name := "means", desc := "(III)I" } : Jvm.MethodName) prog_1_method_5_code (4 : Nat) (Option.some Jvm.ClassFile.FieldType.int)) ∈ zTb := zk_in 361 (by decide +kernel) (by decide +kernel)
theorem zw_362 : (Jvm.Cond.methodLink "DrawnGates" (77 : Nat) ({ cls := "DrawnGates$Plan", name := "addDevice", desc := "(III)I" } : Jvm.MethodName)) ∈ zTb := zk_in 362 (by decide +kernel) (by decide +kernel)
theorem zw_363 : (Jvm.Cond.instanceMethod ({ cls := "DrawnGates$Plan", name := "addDevice", desc := "(III)I" } : Jvm.MethodName)) ∈ zTb := zk_in 363 (by decide +kernel) (by decide +kernel)
theorem zw_364 : (Jvm.Cond.selects "DrawnGates$Plan" ({ cls := "DrawnGates$Plan", name := "addDevice", desc := "(III)I" } : Jvm.MethodName) ({ cls := "DrawnGates$Plan", name := "addDevice", desc := "(III)I" } : Jvm.MethodName)) ∈ zTb := zk_in 364 (by decide +kernel) (by decide +kernel)
theorem zw_365 : (Jvm.Cond.code ({ cls := "DrawnGates$Plan", name := "addDevice", desc := "(III)I" } : Jvm.MethodName) prog_4_method_6_code (4 : Nat) (Option.some Jvm.ClassFile.FieldType.int)) ∈ zTb := zk_in 365 (by decide +kernel) (by decide +kernel)
theorem zw_366 : (Jvm.Cond.methodLink "DrawnGates$Plan" (66 : Nat) ({ cls := "DrawnGates$Plan", name := "putThree", desc := "([IIIII)V" } : Jvm.MethodName)) ∈ zTb := zk_in 366 (by decide +kernel) (by decide +kernel)
theorem zw_367 : (Jvm.Cond.static ({ cls := "DrawnGates$Plan", name := "putThree", desc := "([IIIII)V" } : Jvm.MethodName)) ∈ zTb := zk_in 367 (by decide +kernel) (by decide +kernel)
theorem zw_368 : (Jvm.Cond.code ({ cls := "DrawnGates$Plan", name := "putThree", desc := "([IIIII)V" } : Jvm.MethodName) prog_4_method_15_code (5 : Nat) (Option.none : Option Jvm.ClassFile.FieldType)) ∈ zTb := zk_in 368 (by decide +kernel) (by decide +kernel)
theorem zw_369 : (Jvm.Cond.methodLink "DrawnGatesLaw" (31 : Nat) ({ cls := "DrawnGates", name := "pins", desc := "(III)I" } : Jvm.MethodName)) ∈ zTb := zk_in 369 (by decide +kernel) (by decide +kernel)
theorem zw_370 : (Jvm.Cond.instanceMethod ({ cls := "DrawnGates", name := "pins", desc := "(III)I" } : Jvm.MethodName)) ∈ zTb := zk_in 370 (by decide +kernel) (by decide +kernel)
theorem zw_371 : (Jvm.Cond.selects "DrawnGates" ({ cls := "DrawnGates", name := "pins", desc := "(III)I" } : Jvm.MethodName) ({ cls := "DrawnGates", name := "pins", desc := "(III)I" } : Jvm.MethodName)) ∈ zTb := zk_in 371 (by decide +kernel) (by decide +kernel)
theorem zw_372 : (Jvm.Cond.code ({ cls := "DrawnGates", name := "pins", desc := "(III)I" } : Jvm.MethodName) prog_1_method_6_code (4 : Nat) (Option.some Jvm.ClassFile.FieldType.int)) ∈ zTb := zk_in 372 (by decide +kernel) (by decide +kernel)
theorem zw_373 : (Jvm.Cond.methodLink "DrawnGates" (80 : Nat) ({ cls := "DrawnGates$Plan", name := "addPin", desc := "(III)I" } : Jvm.MethodName)) ∈ zTb := zk_in 373 (by decide +kernel) (by decide +kernel)
theorem zw_374 : (Jvm.Cond.instanceMethod ({ cls := "DrawnGates$Plan", name := "addPin", desc := "(III)I" } : Jvm.MethodName)) ∈ zTb := zk_in 374 (by decide +kernel) (by decide +kernel)
theorem zw_375 : (Jvm.Cond.selects "DrawnGates$Plan" ({ cls := "DrawnGates$Plan", name := "addPin", desc := "(III)I" } : Jvm.MethodName) ({ cls := "DrawnGates$Plan", name := "addPin", desc := "(III)I" } : Jvm.MethodName)) ∈ zTb := zk_in 375 (by decide +kernel) (by decide +kernel)
theorem zw_376 : (Jvm.Cond.code ({ cls := "DrawnGates$Plan", name := "addPin", desc := "(III)I" } : Jvm.MethodName) prog_4_method_7_code (4 : Nat) (Option.some Jvm.ClassFile.FieldType.int)) ∈ zTb := zk_in 376 (by decide +kernel) (by decide +kernel)
theorem zw_377 : (Jvm.Cond.methodLink "DrawnGatesLaw" (35 : Nat) ({ cls := "DrawnGates", name := "forgets", desc := "()I" } : Jvm.MethodName)) ∈ zTb := zk_in 377 (by decide +kernel) (by decide +kernel)
theorem zw_378 : (Jvm.Cond.instanceMethod ({ cls := "DrawnGates", name := "forgets", desc := "()I" } : Jvm.MethodName)) ∈ zTb := zk_in 378 (by decide +kernel) (by decide +kernel)
theorem zw_379 : (Jvm.Cond.selects "DrawnGates" ({ cls := "DrawnGates", name := "forgets", desc := "()I" } : Jvm.MethodName) ({ cls := "DrawnGates", name := "forgets", desc := "()I" } : Jvm.MethodName)) ∈ zTb := zk_in 379 (by decide +kernel) (by decide +kernel)
theorem zw_380 : (Jvm.Cond.code ({ cls := "DrawnGates", name := "forgets", desc := "()I" } : Jvm.MethodName) prog_1_method_7_code (1 : Nat) (Option.some Jvm.ClassFile.FieldType.int)) ∈ zTb := zk_in 380 (by decide +kernel) (by decide +kernel)
theorem zw_381 : (Jvm.Cond.methodLink "DrawnGates" (83 : Nat) ({ cls := "DrawnGates$Plan", name := "dropMeant", desc := "()I" } : Jvm.MethodName)) ∈ zTb := zk_in 381 (by decide +kernel) (by decide +kernel)
theorem zw_382 : (Jvm.Cond.instanceMethod ({ cls := "DrawnGates$Plan", name := "dropMeant", desc := "()I" } : Jvm.MethodName)) ∈ zTb := zk_in 382 (by decide +kernel) (by decide +kernel)
theorem zw_383 : (Jvm.Cond.selects "DrawnGates$Plan" ({ cls := "DrawnGates$Plan", name := "dropMeant", desc := "()I" } : Jvm.MethodName) ({ cls := "DrawnGates$Plan", name := "dropMeant", desc := "()I" } : Jvm.MethodName)) ∈ zTb := zk_in 383 (by decide +kernel) (by decide +kernel)
theorem zw_384 : (Jvm.Cond.code ({ cls := "DrawnGates$Plan", name := "dropMeant", desc := "()I" } : Jvm.MethodName) prog_4_method_8_code (2 : Nat) (Option.some Jvm.ClassFile.FieldType.int)) ∈ zTb := zk_in 384 (by decide +kernel) (by decide +kernel)
theorem zw_385 : (Jvm.Cond.methodLink "DrawnGatesLaw" (40 : Nat) ({ cls := "DrawnGates", name := "at", desc := "(III)I" } : Jvm.MethodName)) ∈ zTb := zk_in 385 (by decide +kernel) (by decide +kernel)
theorem zw_386 : (Jvm.Cond.instanceMethod ({ cls := "DrawnGates", name := "at", desc := "(III)I" } : Jvm.MethodName)) ∈ zTb := zk_in 386 (by decide +kernel) (by decide +kernel)
theorem zw_387 : (Jvm.Cond.selects "DrawnGates" ({ cls := "DrawnGates", name := "at", desc := "(III)I" } : Jvm.MethodName) ({ cls := "DrawnGates", name := "at", desc := "(III)I" } : Jvm.MethodName)) ∈ zTb := zk_in 387 (by decide +kernel) (by decide +kernel)
theorem zw_388 : (Jvm.Cond.code ({ cls := "DrawnGates", name := "at", desc := "(III)I" } : Jvm.MethodName) prog_1_method_8_code (4 : Nat) (Option.some Jvm.ClassFile.FieldType.int)) ∈ zTb := zk_in 388 (by decide +kernel) (by decide +kernel)
theorem zw_389 : (Jvm.Cond.methodLink "DrawnGates" (91 : Nat) ({ cls := "DrawnGates", name := "isCell", desc := "(II)Z" } : Jvm.MethodName)) ∈ zTb := zk_in 389 (by decide +kernel) (by decide +kernel)
theorem zw_390 : (Jvm.Cond.methodLink "DrawnGates" (101 : Nat) ({ cls := "DrawnGates", name := "cellBit", desc := "(II)J" } : Jvm.MethodName)) ∈ zTb := zk_in 390 (by decide +kernel) (by decide +kernel)
theorem zw_391 : (Jvm.Cond.methodLink "DrawnGatesLaw" (44 : Nat) ({ cls := "DrawnGates", name := "node", desc := "(III)I" } : Jvm.MethodName)) ∈ zTb := zk_in 391 (by decide +kernel) (by decide +kernel)
theorem zw_392 : (Jvm.Cond.instanceMethod ({ cls := "DrawnGates", name := "node", desc := "(III)I" } : Jvm.MethodName)) ∈ zTb := zk_in 392 (by decide +kernel) (by decide +kernel)
theorem zw_393 : (Jvm.Cond.selects "DrawnGates" ({ cls := "DrawnGates", name := "node", desc := "(III)I" } : Jvm.MethodName) ({ cls := "DrawnGates", name := "node", desc := "(III)I" } : Jvm.MethodName)) ∈ zTb := zk_in 393 (by decide +kernel) (by decide +kernel)
theorem zw_394 : (Jvm.Cond.code ({ cls := "DrawnGates", name := "node", desc := "(III)I" } : Jvm.MethodName) prog_1_method_9_code (4 : Nat) (Option.some Jvm.ClassFile.FieldType.int)) ∈ zTb := zk_in 394 (by decide +kernel) (by decide +kernel)
theorem zw_395 : (Jvm.Cond.methodLink "DrawnGates" (105 : Nat) ({ cls := "DrawnGates", name := "readLayout", desc := "()LDrawnGates$Layout;" } : Jvm.MethodName)) ∈ zTb := zk_in 395 (by decide +kernel) (by decide +kernel)
theorem zw_397 : (Jvm.Cond.instanceMethod ({ cls := "DrawnGates", name := "readLayout", desc := "()LDrawnGates$Layout;" } : Jvm.MethodName)) ∈ zTb := zk_in 397 (by decide +kernel) (by decide +kernel)
theorem zw_398 : (Jvm.Cond.code ({ cls := "DrawnGates", name := "readLayout", desc := "()LDrawnGates$Layout;" } : Jvm.MethodName) prog_1_method_30_code (1 : Nat) (Option.some (Jvm.ClassFile.FieldType.object "DrawnGates$Layout"))) ∈ zTb := zk_in 398 (by decide +kernel) (by decide +kernel)
theorem zw_399 : (Jvm.Cond.methodLink "DrawnGates" (212 : Nat) ({ cls := "DrawnGates$Layout", name := "refresh", desc := "([J)V" } : Jvm.MethodName)) ∈ zTb := zk_in 399 (by decide +kernel) (by decide +kernel)
theorem zw_400 : (Jvm.Cond.instanceMethod ({ cls := "DrawnGates$Layout", name := "refresh", desc := "([J)V" } : Jvm.MethodName)) ∈ zTb := zk_in 400 (by decide +kernel) (by decide +kernel)
theorem zw_401 : (Jvm.Cond.selects "DrawnGates$Layout" ({ cls := "DrawnGates$Layout", name := "refresh", desc := "([J)V" } : Jvm.MethodName) ({ cls := "DrawnGates$Layout", name := "refresh", desc := "([J)V" } : Jvm.MethodName)) ∈ zTb := zk_in 401 (by decide +kernel) (by decide +kernel)
theorem zw_402 : (Jvm.Cond.code ({ cls := "DrawnGates$Layout", name := "refresh", desc := "([J)V" } : Jvm.MethodName) prog_2_method_2_code (2 : Nat) (Option.none : Option Jvm.ClassFile.FieldType)) ∈ zTb := zk_in 402 (by decide +kernel) (by decide +kernel)
theorem zw_403 : (Jvm.Cond.methodLink "DrawnGates$Layout" (64 : Nat) ({ cls := "DrawnGates$Layout", name := "isAsRead", desc := "([J)Z" } : Jvm.MethodName)) ∈ zTb := zk_in 403 (by decide +kernel) (by decide +kernel)
theorem zw_405 : (Jvm.Cond.instanceMethod ({ cls := "DrawnGates$Layout", name := "isAsRead", desc := "([J)Z" } : Jvm.MethodName)) ∈ zTb := zk_in 405 (by decide +kernel) (by decide +kernel)
theorem zw_406 : (Jvm.Cond.code ({ cls := "DrawnGates$Layout", name := "isAsRead", desc := "([J)Z" } : Jvm.MethodName) prog_2_method_13_code (3 : Nat) (Option.some Jvm.ClassFile.FieldType.boolean)) ∈ zTb := zk_in 406 (by decide +kernel) (by decide +kernel)
theorem zw_407 : (Jvm.Cond.methodLink "DrawnGates$Layout" (68 : Nat) ({ cls := "java/lang/System", name := "arraycopy", desc := "(Ljava/lang/Object;ILjava/lang/Object;II)V" } : Jvm.MethodName)) ∈ zTb := zk_in 407 (by decide +kernel) (by decide +kernel)
theorem zw_408 : (Jvm.Cond.methodLink "DrawnGates$Layout" (74 : Nat) ({ cls := "DrawnGates$Layout", name := "findPieces", desc := "()V" } : Jvm.MethodName)) ∈ zTb := zk_in 408 (by decide +kernel) (by decide +kernel)
theorem zw_410 : (Jvm.Cond.instanceMethod ({ cls := "DrawnGates$Layout", name := "findPieces", desc := "()V" } : Jvm.MethodName)) ∈ zTb := zk_in 410 (by decide +kernel) (by decide +kernel)
theorem zw_411 : (Jvm.Cond.code ({ cls := "DrawnGates$Layout", name := "findPieces", desc := "()V" } : Jvm.MethodName) prog_2_method_15_code (7 : Nat) (Option.none : Option Jvm.ClassFile.FieldType)) ∈ zTb := zk_in 411 (by decide +kernel) (by decide +kernel)
theorem zw_412 : (Jvm.Cond.methodLink "DrawnGates$Layout" (137 : Nat) ({ cls := "DrawnGates$Layout", name := "cellsOf", desc := "(I)J" } : Jvm.MethodName)) ∈ zTb := zk_in 412 (by decide +kernel) (by decide +kernel)
theorem zw_414 : (Jvm.Cond.instanceMethod ({ cls := "DrawnGates$Layout", name := "cellsOf", desc := "(I)J" } : Jvm.MethodName)) ∈ zTb := zk_in 414 (by decide +kernel) (by decide +kernel)
theorem zw_415 : (Jvm.Cond.code ({ cls := "DrawnGates$Layout", name := "cellsOf", desc := "(I)J" } : Jvm.MethodName) prog_2_method_14_code (2 : Nat) (Option.some Jvm.ClassFile.FieldType.long)) ∈ zTb := zk_in 415 (by decide +kernel) (by decide +kernel)
theorem zw_416 : (Jvm.Cond.constantLong "DrawnGates$Layout" (135 : Nat) (-1 : Int64)) ∈ zTb := zk_in 416 (by decide +kernel) (by decide +kernel)
theorem zw_417 : (Jvm.Cond.methodLink "DrawnGates$Layout" (140 : Nat) ({ cls := "DrawnGates$Layout", name := "hangingTogether", desc := "(J)J" } : Jvm.MethodName)) ∈ zTb := zk_in 417 (by decide +kernel) (by decide +kernel)
theorem zw_418 : (Jvm.Cond.static ({ cls := "DrawnGates$Layout", name := "hangingTogether", desc := "(J)J" } : Jvm.MethodName)) ∈ zTb := zk_in 418 (by decide +kernel) (by decide +kernel)
theorem zw_419 : (Jvm.Cond.code ({ cls := "DrawnGates$Layout", name := "hangingTogether", desc := "(J)J" } : Jvm.MethodName) prog_2_method_25_code (7 : Nat) (Option.some Jvm.ClassFile.FieldType.long)) ∈ zTb := zk_in 419 (by decide +kernel) (by decide +kernel)
theorem zw_420 : (Jvm.Cond.methodLink "DrawnGates$Layout" (166 : Nat) ({ cls := "DrawnGates$Layout", name := "besideOf", desc := "(J)J" } : Jvm.MethodName)) ∈ zTb := zk_in 420 (by decide +kernel) (by decide +kernel)
theorem zw_421 : (Jvm.Cond.static ({ cls := "DrawnGates$Layout", name := "besideOf", desc := "(J)J" } : Jvm.MethodName)) ∈ zTb := zk_in 421 (by decide +kernel) (by decide +kernel)
theorem zw_422 : (Jvm.Cond.code ({ cls := "DrawnGates$Layout", name := "besideOf", desc := "(J)J" } : Jvm.MethodName) prog_2_method_26_code (6 : Nat) (Option.some Jvm.ClassFile.FieldType.long)) ∈ zTb := zk_in 422 (by decide +kernel) (by decide +kernel)
theorem zw_423 : (Jvm.Cond.constantLong "DrawnGates$Layout" (182 : Nat) (9187201950435737471 : Int64)) ∈ zTb := zk_in 423 (by decide +kernel) (by decide +kernel)
theorem zw_424 : (Jvm.Cond.constantLong "DrawnGates$Layout" (184 : Nat) (-72340172838076674 : Int64)) ∈ zTb := zk_in 424 (by decide +kernel) (by decide +kernel)
theorem zw_425 : (Jvm.Cond.methodLink "DrawnGates$Layout" (77 : Nat) ({ cls := "DrawnGates$Layout", name := "joinPieces", desc := "()V" } : Jvm.MethodName)) ∈ zTb := zk_in 425 (by decide +kernel) (by decide +kernel)
theorem zw_427 : (Jvm.Cond.instanceMethod ({ cls := "DrawnGates$Layout", name := "joinPieces", desc := "()V" } : Jvm.MethodName)) ∈ zTb := zk_in 427 (by decide +kernel) (by decide +kernel)
theorem zw_428 : (Jvm.Cond.code ({ cls := "DrawnGates$Layout", name := "joinPieces", desc := "()V" } : Jvm.MethodName) prog_2_method_16_code (2 : Nat) (Option.none : Option Jvm.ClassFile.FieldType)) ∈ zTb := zk_in 428 (by decide +kernel) (by decide +kernel)
theorem zw_429 : (Jvm.Cond.methodLink "DrawnGates$Layout" (144 : Nat) ({ cls := "DrawnGates$Layout", name := "joinBelow", desc := "(I)V" } : Jvm.MethodName)) ∈ zTb := zk_in 429 (by decide +kernel) (by decide +kernel)
theorem zw_431 : (Jvm.Cond.instanceMethod ({ cls := "DrawnGates$Layout", name := "joinBelow", desc := "(I)V" } : Jvm.MethodName)) ∈ zTb := zk_in 431 (by decide +kernel) (by decide +kernel)
theorem zw_432 : (Jvm.Cond.code ({ cls := "DrawnGates$Layout", name := "joinBelow", desc := "(I)V" } : Jvm.MethodName) prog_2_method_17_code (5 : Nat) (Option.none : Option Jvm.ClassFile.FieldType)) ∈ zTb := zk_in 432 (by decide +kernel) (by decide +kernel)
theorem zw_433 : (Jvm.Cond.methodLink "DrawnGates$Layout" (148 : Nat) ({ cls := "DrawnGates$Layout", name := "join", desc := "(II)V" } : Jvm.MethodName)) ∈ zTb := zk_in 433 (by decide +kernel) (by decide +kernel)
theorem zw_435 : (Jvm.Cond.instanceMethod ({ cls := "DrawnGates$Layout", name := "join", desc := "(II)V" } : Jvm.MethodName)) ∈ zTb := zk_in 435 (by decide +kernel) (by decide +kernel)
theorem zw_436 : (Jvm.Cond.code ({ cls := "DrawnGates$Layout", name := "join", desc := "(II)V" } : Jvm.MethodName) prog_2_method_18_code (6 : Nat) (Option.none : Option Jvm.ClassFile.FieldType)) ∈ zTb := zk_in 436 (by decide +kernel) (by decide +kernel)
theorem zw_437 : (Jvm.Cond.methodLink "DrawnGates$Layout" (152 : Nat) ({ cls := "java/lang/Math", name := "min", desc := "(II)I" } : Jvm.MethodName)) ∈ zTb := zk_in 437 (by decide +kernel) (by decide +kernel)
theorem zw_438 : (Jvm.Cond.static ({ cls := "java/lang/Math", name := "min", desc := "(II)I" } : Jvm.MethodName)) ∈ zTb := zk_in 438 (by decide +kernel) (by decide +kernel)
theorem zw_439 : (Jvm.Cond.code ({ cls := "java/lang/Math", name := "min", desc := "(II)I" } : Jvm.MethodName) prog_10_method_69_code (2 : Nat) (Option.some Jvm.ClassFile.FieldType.int)) ∈ zTb := zk_in 439 (by decide +kernel) (by decide +kernel)
theorem zw_440 : (Jvm.Cond.methodLink "DrawnGates$Layout" (157 : Nat) ({ cls := "java/lang/Math", name := "max", desc := "(II)I" } : Jvm.MethodName)) ∈ zTb := zk_in 440 (by decide +kernel) (by decide +kernel)
theorem zw_441 : (Jvm.Cond.static ({ cls := "java/lang/Math", name := "max", desc := "(II)I" } : Jvm.MethodName)) ∈ zTb := zk_in 441 (by decide +kernel) (by decide +kernel)
theorem zw_442 : (Jvm.Cond.code ({ cls := "java/lang/Math", name := "max", desc := "(II)I" } : Jvm.MethodName) prog_10_method_65_code (2 : Nat) (Option.some Jvm.ClassFile.FieldType.int)) ∈ zTb := zk_in 442 (by decide +kernel) (by decide +kernel)
theorem zw_443 : (Jvm.Cond.methodLink "DrawnGates$Layout" (80 : Nat) ({ cls := "DrawnGates$Layout", name := "numberNodes", desc := "()V" } : Jvm.MethodName)) ∈ zTb := zk_in 443 (by decide +kernel) (by decide +kernel)
theorem zw_445 : (Jvm.Cond.instanceMethod ({ cls := "DrawnGates$Layout", name := "numberNodes", desc := "()V" } : Jvm.MethodName)) ∈ zTb := zk_in 445 (by decide +kernel) (by decide +kernel)
theorem zw_446 : (Jvm.Cond.code ({ cls := "DrawnGates$Layout", name := "numberNodes", desc := "()V" } : Jvm.MethodName) prog_2_method_19_code (3 : Nat) (Option.none : Option Jvm.ClassFile.FieldType)) ∈ zTb := zk_in 446 (by decide +kernel) (by decide +kernel)
theorem zw_447 : (Jvm.Cond.methodLink "DrawnGates$Layout" (160 : Nat) ({ cls := "DrawnGates$Layout", name := "openNode", desc := "()V" } : Jvm.MethodName)) ∈ zTb := zk_in 447 (by decide +kernel) (by decide +kernel)
theorem zw_449 : (Jvm.Cond.instanceMethod ({ cls := "DrawnGates$Layout", name := "openNode", desc := "()V" } : Jvm.MethodName)) ∈ zTb := zk_in 449 (by decide +kernel) (by decide +kernel)
theorem zw_450 : (Jvm.Cond.code ({ cls := "DrawnGates$Layout", name := "openNode", desc := "()V" } : Jvm.MethodName) prog_2_method_20_code (2 : Nat) (Option.none : Option Jvm.ClassFile.FieldType)) ∈ zTb := zk_in 450 (by decide +kernel) (by decide +kernel)
theorem zw_451 : (Jvm.Cond.methodLink "DrawnGates$Layout" (83 : Nat) ({ cls := "DrawnGates$Layout", name := "findGates", desc := "()V" } : Jvm.MethodName)) ∈ zTb := zk_in 451 (by decide +kernel) (by decide +kernel)
theorem zw_453 : (Jvm.Cond.instanceMethod ({ cls := "DrawnGates$Layout", name := "findGates", desc := "()V" } : Jvm.MethodName)) ∈ zTb := zk_in 453 (by decide +kernel) (by decide +kernel)
theorem zw_454 : (Jvm.Cond.code ({ cls := "DrawnGates$Layout", name := "findGates", desc := "()V" } : Jvm.MethodName) prog_2_method_21_code (6 : Nat) (Option.none : Option Jvm.ClassFile.FieldType)) ∈ zTb := zk_in 454 (by decide +kernel) (by decide +kernel)
theorem zw_455 : (Jvm.Cond.methodLink "DrawnGates$Layout" (95 : Nat) ({ cls := "DrawnGates$Layout", name := "nodeWith", desc := "(IJ)I" } : Jvm.MethodName)) ∈ zTb := zk_in 455 (by decide +kernel) (by decide +kernel)
theorem zw_456 : (Jvm.Cond.instanceMethod ({ cls := "DrawnGates$Layout", name := "nodeWith", desc := "(IJ)I" } : Jvm.MethodName)) ∈ zTb := zk_in 456 (by decide +kernel) (by decide +kernel)
theorem zw_457 : (Jvm.Cond.selects "DrawnGates$Layout" ({ cls := "DrawnGates$Layout", name := "nodeWith", desc := "(IJ)I" } : Jvm.MethodName) ({ cls := "DrawnGates$Layout", name := "nodeWith", desc := "(IJ)I" } : Jvm.MethodName)) ∈ zTb := zk_in 457 (by decide +kernel) (by decide +kernel)
theorem zw_458 : (Jvm.Cond.code ({ cls := "DrawnGates$Layout", name := "nodeWith", desc := "(IJ)I" } : Jvm.MethodName) prog_2_method_3_code (5 : Nat) (Option.some Jvm.ClassFile.FieldType.int)) ∈ zTb := zk_in 458 (by decide +kernel) (by decide +kernel)
theorem zw_459 : (Jvm.Cond.methodLink "DrawnGates$Layout" (163 : Nat) ({ cls := "DrawnGates$Layout", name := "findSides", desc := "(I)V" } : Jvm.MethodName)) ∈ zTb := zk_in 459 (by decide +kernel) (by decide +kernel)
theorem zw_461 : (Jvm.Cond.instanceMethod ({ cls := "DrawnGates$Layout", name := "findSides", desc := "(I)V" } : Jvm.MethodName)) ∈ zTb := zk_in 461 (by decide +kernel) (by decide +kernel)
theorem zw_462 : (Jvm.Cond.code ({ cls := "DrawnGates$Layout", name := "findSides", desc := "(I)V" } : Jvm.MethodName) prog_2_method_22_code (8 : Nat) (Option.none : Option Jvm.ClassFile.FieldType)) ∈ zTb := zk_in 462 (by decide +kernel) (by decide +kernel)
theorem zw_463 : (Jvm.Cond.methodLink "DrawnGates$Layout" (169 : Nat) ({ cls := "DrawnGates$Layout", name := "isWell", desc := "(I)Z" } : Jvm.MethodName)) ∈ zTb := zk_in 463 (by decide +kernel) (by decide +kernel)
theorem zw_464 : (Jvm.Cond.instanceMethod ({ cls := "DrawnGates$Layout", name := "isWell", desc := "(I)Z" } : Jvm.MethodName)) ∈ zTb := zk_in 464 (by decide +kernel) (by decide +kernel)
theorem zw_465 : (Jvm.Cond.selects "DrawnGates$Layout" ({ cls := "DrawnGates$Layout", name := "isWell", desc := "(I)Z" } : Jvm.MethodName) ({ cls := "DrawnGates$Layout", name := "isWell", desc := "(I)Z" } : Jvm.MethodName)) ∈ zTb := zk_in 465 (by decide +kernel) (by decide +kernel)
theorem zw_466 : (Jvm.Cond.code ({ cls := "DrawnGates$Layout", name := "isWell", desc := "(I)Z" } : Jvm.MethodName) prog_2_method_12_code (2 : Nat) (Option.some Jvm.ClassFile.FieldType.boolean)) ∈ zTb := zk_in 466 (by decide +kernel) (by decide +kernel)
theorem zw_467 : (Jvm.Cond.methodLink "DrawnGates$Layout" (86 : Nat) ({ cls := "DrawnGates$Layout", name := "weighNodes", desc := "()V" } : Jvm.MethodName)) ∈ zTb := zk_in 467 (by decide +kernel) (by decide +kernel)
theorem zw_469 : (Jvm.Cond.instanceMethod ({ cls := "DrawnGates$Layout", name := "weighNodes", desc := "()V" } : Jvm.MethodName)) ∈ zTb := zk_in 469 (by decide +kernel) (by decide +kernel)
theorem zw_470 : (Jvm.Cond.code ({ cls := "DrawnGates$Layout", name := "weighNodes", desc := "()V" } : Jvm.MethodName) prog_2_method_23_code (2 : Nat) (Option.none : Option Jvm.ClassFile.FieldType)) ∈ zTb := zk_in 470 (by decide +kernel) (by decide +kernel)
theorem zw_471 : (Jvm.Cond.methodLink "DrawnGates$Layout" (173 : Nat) ({ cls := "java/util/Arrays", name := "fill", desc := "([II)V" } : Jvm.MethodName)) ∈ zTb := zk_in 471 (by decide +kernel) (by decide +kernel)
theorem zw_472 : (Jvm.Cond.static ({ cls := "java/util/Arrays", name := "fill", desc := "([II)V" } : Jvm.MethodName)) ∈ zTb := zk_in 472 (by decide +kernel) (by decide +kernel)
theorem zw_473 : (Jvm.Cond.code ({ cls := "java/util/Arrays", name := "fill", desc := "([II)V" } : Jvm.MethodName) prog_13_method_103_code (4 : Nat) (Option.none : Option Jvm.ClassFile.FieldType)) ∈ zTb := zk_in 473 (by decide +kernel) (by decide +kernel)
theorem zw_474 : (Jvm.Cond.methodLink "DrawnGates$Layout" (179 : Nat) ({ cls := "DrawnGates$Layout", name := "addHang", desc := "(II)V" } : Jvm.MethodName)) ∈ zTb := zk_in 474 (by decide +kernel) (by decide +kernel)
theorem zw_476 : (Jvm.Cond.instanceMethod ({ cls := "DrawnGates$Layout", name := "addHang", desc := "(II)V" } : Jvm.MethodName)) ∈ zTb := zk_in 476 (by decide +kernel) (by decide +kernel)
theorem zw_477 : (Jvm.Cond.code ({ cls := "DrawnGates$Layout", name := "addHang", desc := "(II)V" } : Jvm.MethodName) prog_2_method_24_code (3 : Nat) (Option.none : Option Jvm.ClassFile.FieldType)) ∈ zTb := zk_in 477 (by decide +kernel) (by decide +kernel)
theorem zw_479 : (Jvm.Cond.methodLink "DrawnGates" (109 : Nat) ({ cls := "DrawnGates$Layout", name := "nodeWith", desc := "(IJ)I" } : Jvm.MethodName)) ∈ zTb := zk_in 479 (by decide +kernel) (by decide +kernel)
theorem zw_480 : (Jvm.Cond.methodLink "DrawnGatesLaw" (48 : Nat) ({ cls := "DrawnGates", name := "count", desc := "(I)I" } : Jvm.MethodName)) ∈ zTb := zk_in 480 (by decide +kernel) (by decide +kernel)
theorem zw_481 : (Jvm.Cond.instanceMethod ({ cls := "DrawnGates", name := "count", desc := "(I)I" } : Jvm.MethodName)) ∈ zTb := zk_in 481 (by decide +kernel) (by decide +kernel)
theorem zw_482 : (Jvm.Cond.selects "DrawnGates" ({ cls := "DrawnGates", name := "count", desc := "(I)I" } : Jvm.MethodName) ({ cls := "DrawnGates", name := "count", desc := "(I)I" } : Jvm.MethodName)) ∈ zTb := zk_in 482 (by decide +kernel) (by decide +kernel)
theorem zw_483 : (Jvm.Cond.code ({ cls := "DrawnGates", name := "count", desc := "(I)I" } : Jvm.MethodName) prog_1_method_10_code (2 : Nat) (Option.some Jvm.ClassFile.FieldType.int)) ∈ zTb := zk_in 483 (by decide +kernel) (by decide +kernel)
theorem zw_484 : (Jvm.Cond.methodLink "DrawnGates" (131 : Nat) ({ cls := "DrawnGates$Layout", name := "countShorts", desc := "(LDrawnGates$Plan;)I" } : Jvm.MethodName)) ∈ zTb := zk_in 484 (by decide +kernel) (by decide +kernel)
theorem zw_485 : (Jvm.Cond.instanceMethod ({ cls := "DrawnGates$Layout", name := "countShorts", desc := "(LDrawnGates$Plan;)I" } : Jvm.MethodName)) ∈ zTb := zk_in 485 (by decide +kernel) (by decide +kernel)
theorem zw_486 : (Jvm.Cond.selects "DrawnGates$Layout" ({ cls := "DrawnGates$Layout", name := "countShorts", desc := "(LDrawnGates$Plan;)I" } : Jvm.MethodName) ({ cls := "DrawnGates$Layout", name := "countShorts", desc := "(LDrawnGates$Plan;)I" } : Jvm.MethodName)) ∈ zTb := zk_in 486 (by decide +kernel) (by decide +kernel)
theorem zw_487 : (Jvm.Cond.code ({ cls := "DrawnGates$Layout", name := "countShorts", desc := "(LDrawnGates$Plan;)I" } : Jvm.MethodName) prog_2_method_6_code (6 : Nat) (Option.some Jvm.ClassFile.FieldType.int)) ∈ zTb := zk_in 487 (by decide +kernel) (by decide +kernel)
theorem zw_488 : (Jvm.Cond.methodLink "DrawnGates$Layout" (102 : Nat) ({ cls := "DrawnGates$Layout", name := "pinNode", desc := "(LDrawnGates$Plan;I)I" } : Jvm.MethodName)) ∈ zTb := zk_in 488 (by decide +kernel) (by decide +kernel)
theorem zw_489 : (Jvm.Cond.instanceMethod ({ cls := "DrawnGates$Layout", name := "pinNode", desc := "(LDrawnGates$Plan;I)I" } : Jvm.MethodName)) ∈ zTb := zk_in 489 (by decide +kernel) (by decide +kernel)
theorem zw_490 : (Jvm.Cond.selects "DrawnGates$Layout" ({ cls := "DrawnGates$Layout", name := "pinNode", desc := "(LDrawnGates$Plan;I)I" } : Jvm.MethodName) ({ cls := "DrawnGates$Layout", name := "pinNode", desc := "(LDrawnGates$Plan;I)I" } : Jvm.MethodName)) ∈ zTb := zk_in 490 (by decide +kernel) (by decide +kernel)
theorem zw_491 : (Jvm.Cond.code ({ cls := "DrawnGates$Layout", name := "pinNode", desc := "(LDrawnGates$Plan;I)I" } : Jvm.MethodName) prog_2_method_5_code (3 : Nat) (Option.some Jvm.ClassFile.FieldType.int)) ∈ zTb := zk_in 491 (by decide +kernel) (by decide +kernel)
theorem zw_492 : (Jvm.Cond.methodLink "DrawnGates$Layout" (89 : Nat) ({ cls := "DrawnGates$Plan", name := "pinBit", desc := "(I)J" } : Jvm.MethodName)) ∈ zTb := zk_in 492 (by decide +kernel) (by decide +kernel)
theorem zw_493 : (Jvm.Cond.instanceMethod ({ cls := "DrawnGates$Plan", name := "pinBit", desc := "(I)J" } : Jvm.MethodName)) ∈ zTb := zk_in 493 (by decide +kernel) (by decide +kernel)
theorem zw_494 : (Jvm.Cond.selects "DrawnGates$Plan" ({ cls := "DrawnGates$Plan", name := "pinBit", desc := "(I)J" } : Jvm.MethodName) ({ cls := "DrawnGates$Plan", name := "pinBit", desc := "(I)J" } : Jvm.MethodName)) ∈ zTb := zk_in 494 (by decide +kernel) (by decide +kernel)
theorem zw_495 : (Jvm.Cond.code ({ cls := "DrawnGates$Plan", name := "pinBit", desc := "(I)J" } : Jvm.MethodName) prog_4_method_12_code (2 : Nat) (Option.some Jvm.ClassFile.FieldType.long)) ∈ zTb := zk_in 495 (by decide +kernel) (by decide +kernel)
theorem zw_496 : (Jvm.Cond.methodLink "DrawnGates$Layout" (106 : Nat) ({ cls := "DrawnGates$Plan", name := "pinNet", desc := "(I)I" } : Jvm.MethodName)) ∈ zTb := zk_in 496 (by decide +kernel) (by decide +kernel)
theorem zw_497 : (Jvm.Cond.instanceMethod ({ cls := "DrawnGates$Plan", name := "pinNet", desc := "(I)I" } : Jvm.MethodName)) ∈ zTb := zk_in 497 (by decide +kernel) (by decide +kernel)
theorem zw_498 : (Jvm.Cond.selects "DrawnGates$Plan" ({ cls := "DrawnGates$Plan", name := "pinNet", desc := "(I)I" } : Jvm.MethodName) ({ cls := "DrawnGates$Plan", name := "pinNet", desc := "(I)I" } : Jvm.MethodName)) ∈ zTb := zk_in 498 (by decide +kernel) (by decide +kernel)
theorem zw_499 : (Jvm.Cond.code ({ cls := "DrawnGates$Plan", name := "pinNet", desc := "(I)I" } : Jvm.MethodName) prog_4_method_13_code (2 : Nat) (Option.some Jvm.ClassFile.FieldType.int)) ∈ zTb := zk_in 499 (by decide +kernel) (by decide +kernel)
theorem zw_500 : (Jvm.Cond.methodLink "DrawnGates" (135 : Nat) ({ cls := "DrawnGates$Layout", name := "countOpens", desc := "(LDrawnGates$Plan;)I" } : Jvm.MethodName)) ∈ zTb := zk_in 500 (by decide +kernel) (by decide +kernel)
theorem zw_501 : (Jvm.Cond.instanceMethod ({ cls := "DrawnGates$Layout", name := "countOpens", desc := "(LDrawnGates$Plan;)I" } : Jvm.MethodName)) ∈ zTb := zk_in 501 (by decide +kernel) (by decide +kernel)
theorem zw_502 : (Jvm.Cond.selects "DrawnGates$Layout" ({ cls := "DrawnGates$Layout", name := "countOpens", desc := "(LDrawnGates$Plan;)I" } : Jvm.MethodName) ({ cls := "DrawnGates$Layout", name := "countOpens", desc := "(LDrawnGates$Plan;)I" } : Jvm.MethodName)) ∈ zTb := zk_in 502 (by decide +kernel) (by decide +kernel)
theorem zw_503 : (Jvm.Cond.code ({ cls := "DrawnGates$Layout", name := "countOpens", desc := "(LDrawnGates$Plan;)I" } : Jvm.MethodName) prog_2_method_7_code (7 : Nat) (Option.some Jvm.ClassFile.FieldType.int)) ∈ zTb := zk_in 503 (by decide +kernel) (by decide +kernel)
theorem zw_504 : (Jvm.Cond.methodLink "DrawnGates" (138 : Nat) ({ cls := "DrawnGates", name := "search", desc := "()LDrawnGates$Matching;" } : Jvm.MethodName)) ∈ zTb := zk_in 504 (by decide +kernel) (by decide +kernel)
theorem zw_506 : (Jvm.Cond.instanceMethod ({ cls := "DrawnGates", name := "search", desc := "()LDrawnGates$Matching;" } : Jvm.MethodName)) ∈ zTb := zk_in 506 (by decide +kernel) (by decide +kernel)
theorem zw_507 : (Jvm.Cond.code ({ cls := "DrawnGates", name := "search", desc := "()LDrawnGates$Matching;" } : Jvm.MethodName) prog_1_method_31_code (1 : Nat) (Option.some (Jvm.ClassFile.FieldType.object "DrawnGates$Matching"))) ∈ zTb := zk_in 507 (by decide +kernel) (by decide +kernel)
theorem zw_508 : (Jvm.Cond.methodLink "DrawnGates" (216 : Nat) ({ cls := "DrawnGates$Matching", name := "run", desc := "()V" } : Jvm.MethodName)) ∈ zTb := zk_in 508 (by decide +kernel) (by decide +kernel)
theorem zw_509 : (Jvm.Cond.instanceMethod ({ cls := "DrawnGates$Matching", name := "run", desc := "()V" } : Jvm.MethodName)) ∈ zTb := zk_in 509 (by decide +kernel) (by decide +kernel)
theorem zw_510 : (Jvm.Cond.selects "DrawnGates$Matching" ({ cls := "DrawnGates$Matching", name := "run", desc := "()V" } : Jvm.MethodName) ({ cls := "DrawnGates$Matching", name := "run", desc := "()V" } : Jvm.MethodName)) ∈ zTb := zk_in 510 (by decide +kernel) (by decide +kernel)
theorem zw_511 : (Jvm.Cond.code ({ cls := "DrawnGates$Matching", name := "run", desc := "()V" } : Jvm.MethodName) prog_3_method_2_code (1 : Nat) (Option.none : Option Jvm.ClassFile.FieldType)) ∈ zTb := zk_in 511 (by decide +kernel) (by decide +kernel)
theorem zw_512 : (Jvm.Cond.methodLink "DrawnGates$Matching" (47 : Nat) ({ cls := "DrawnGates$Matching", name := "findLikes", desc := "()V" } : Jvm.MethodName)) ∈ zTb := zk_in 512 (by decide +kernel) (by decide +kernel)
theorem zw_514 : (Jvm.Cond.instanceMethod ({ cls := "DrawnGates$Matching", name := "findLikes", desc := "()V" } : Jvm.MethodName)) ∈ zTb := zk_in 514 (by decide +kernel) (by decide +kernel)
theorem zw_515 : (Jvm.Cond.code ({ cls := "DrawnGates$Matching", name := "findLikes", desc := "()V" } : Jvm.MethodName) prog_3_method_4_code (3 : Nat) (Option.none : Option Jvm.ClassFile.FieldType)) ∈ zTb := zk_in 515 (by decide +kernel) (by decide +kernel)
theorem zw_516 : (Jvm.Cond.methodLink "DrawnGates$Matching" (83 : Nat) ({ cls := "DrawnGates$Layout", name := "isWell", desc := "(I)Z" } : Jvm.MethodName)) ∈ zTb := zk_in 516 (by decide +kernel) (by decide +kernel)
theorem zw_517 : (Jvm.Cond.methodLink "DrawnGates$Matching" (87 : Nat) ({ cls := "DrawnGates$Matching", name := "isLike", desc := "(II)Z" } : Jvm.MethodName)) ∈ zTb := zk_in 517 (by decide +kernel) (by decide +kernel)
theorem zw_519 : (Jvm.Cond.instanceMethod ({ cls := "DrawnGates$Matching", name := "isLike", desc := "(II)Z" } : Jvm.MethodName)) ∈ zTb := zk_in 519 (by decide +kernel) (by decide +kernel)
theorem zw_520 : (Jvm.Cond.code ({ cls := "DrawnGates$Matching", name := "isLike", desc := "(II)Z" } : Jvm.MethodName) prog_3_method_5_code (7 : Nat) (Option.some Jvm.ClassFile.FieldType.boolean)) ∈ zTb := zk_in 520 (by decide +kernel) (by decide +kernel)
theorem zw_521 : (Jvm.Cond.methodLink "DrawnGates$Matching" (91 : Nat) ({ cls := "DrawnGates$Plan", name := "gateNet", desc := "(I)I" } : Jvm.MethodName)) ∈ zTb := zk_in 521 (by decide +kernel) (by decide +kernel)
theorem zw_522 : (Jvm.Cond.instanceMethod ({ cls := "DrawnGates$Plan", name := "gateNet", desc := "(I)I" } : Jvm.MethodName)) ∈ zTb := zk_in 522 (by decide +kernel) (by decide +kernel)
theorem zw_523 : (Jvm.Cond.selects "DrawnGates$Plan" ({ cls := "DrawnGates$Plan", name := "gateNet", desc := "(I)I" } : Jvm.MethodName) ({ cls := "DrawnGates$Plan", name := "gateNet", desc := "(I)I" } : Jvm.MethodName)) ∈ zTb := zk_in 523 (by decide +kernel) (by decide +kernel)
theorem zw_524 : (Jvm.Cond.code ({ cls := "DrawnGates$Plan", name := "gateNet", desc := "(I)I" } : Jvm.MethodName) prog_4_method_9_code (2 : Nat) (Option.some Jvm.ClassFile.FieldType.int)) ∈ zTb := zk_in 524 (by decide +kernel) (by decide +kernel)
theorem zw_525 : (Jvm.Cond.methodLink "DrawnGates$Matching" (95 : Nat) ({ cls := "DrawnGates$Plan", name := "hangOf", desc := "(I)I" } : Jvm.MethodName)) ∈ zTb := zk_in 525 (by decide +kernel) (by decide +kernel)
theorem zw_526 : (Jvm.Cond.instanceMethod ({ cls := "DrawnGates$Plan", name := "hangOf", desc := "(I)I" } : Jvm.MethodName)) ∈ zTb := zk_in 526 (by decide +kernel) (by decide +kernel)
theorem zw_527 : (Jvm.Cond.selects "DrawnGates$Plan" ({ cls := "DrawnGates$Plan", name := "hangOf", desc := "(I)I" } : Jvm.MethodName) ({ cls := "DrawnGates$Plan", name := "hangOf", desc := "(I)I" } : Jvm.MethodName)) ∈ zTb := zk_in 527 (by decide +kernel) (by decide +kernel)
theorem zw_528 : (Jvm.Cond.code ({ cls := "DrawnGates$Plan", name := "hangOf", desc := "(I)I" } : Jvm.MethodName) prog_4_method_14_code (4 : Nat) (Option.some Jvm.ClassFile.FieldType.int)) ∈ zTb := zk_in 528 (by decide +kernel) (by decide +kernel)
theorem zw_529 : (Jvm.Cond.methodLink "DrawnGates$Plan" (70 : Nat) ({ cls := "DrawnGates$Plan", name := "gateNet", desc := "(I)I" } : Jvm.MethodName)) ∈ zTb := zk_in 529 (by decide +kernel) (by decide +kernel)
theorem zw_530 : (Jvm.Cond.methodLink "DrawnGates$Plan" (74 : Nat) ({ cls := "DrawnGates$Plan", name := "sideA", desc := "(I)I" } : Jvm.MethodName)) ∈ zTb := zk_in 530 (by decide +kernel) (by decide +kernel)
theorem zw_531 : (Jvm.Cond.instanceMethod ({ cls := "DrawnGates$Plan", name := "sideA", desc := "(I)I" } : Jvm.MethodName)) ∈ zTb := zk_in 531 (by decide +kernel) (by decide +kernel)
theorem zw_532 : (Jvm.Cond.selects "DrawnGates$Plan" ({ cls := "DrawnGates$Plan", name := "sideA", desc := "(I)I" } : Jvm.MethodName) ({ cls := "DrawnGates$Plan", name := "sideA", desc := "(I)I" } : Jvm.MethodName)) ∈ zTb := zk_in 532 (by decide +kernel) (by decide +kernel)
theorem zw_533 : (Jvm.Cond.code ({ cls := "DrawnGates$Plan", name := "sideA", desc := "(I)I" } : Jvm.MethodName) prog_4_method_10_code (2 : Nat) (Option.some Jvm.ClassFile.FieldType.int)) ∈ zTb := zk_in 533 (by decide +kernel) (by decide +kernel)
theorem zw_534 : (Jvm.Cond.methodLink "DrawnGates$Plan" (77 : Nat) ({ cls := "DrawnGates$Plan", name := "sideB", desc := "(I)I" } : Jvm.MethodName)) ∈ zTb := zk_in 534 (by decide +kernel) (by decide +kernel)
theorem zw_535 : (Jvm.Cond.instanceMethod ({ cls := "DrawnGates$Plan", name := "sideB", desc := "(I)I" } : Jvm.MethodName)) ∈ zTb := zk_in 535 (by decide +kernel) (by decide +kernel)
theorem zw_536 : (Jvm.Cond.selects "DrawnGates$Plan" ({ cls := "DrawnGates$Plan", name := "sideB", desc := "(I)I" } : Jvm.MethodName) ({ cls := "DrawnGates$Plan", name := "sideB", desc := "(I)I" } : Jvm.MethodName)) ∈ zTb := zk_in 536 (by decide +kernel) (by decide +kernel)
theorem zw_537 : (Jvm.Cond.code ({ cls := "DrawnGates$Plan", name := "sideB", desc := "(I)I" } : Jvm.MethodName) prog_4_method_11_code (2 : Nat) (Option.some Jvm.ClassFile.FieldType.int)) ∈ zTb := zk_in 537 (by decide +kernel) (by decide +kernel)
theorem zw_538 : (Jvm.Cond.methodLink "DrawnGates$Matching" (101 : Nat) ({ cls := "DrawnGates$Layout", name := "hangOf", desc := "(I)I" } : Jvm.MethodName)) ∈ zTb := zk_in 538 (by decide +kernel) (by decide +kernel)
theorem zw_539 : (Jvm.Cond.instanceMethod ({ cls := "DrawnGates$Layout", name := "hangOf", desc := "(I)I" } : Jvm.MethodName)) ∈ zTb := zk_in 539 (by decide +kernel) (by decide +kernel)
theorem zw_540 : (Jvm.Cond.selects "DrawnGates$Layout" ({ cls := "DrawnGates$Layout", name := "hangOf", desc := "(I)I" } : Jvm.MethodName) ({ cls := "DrawnGates$Layout", name := "hangOf", desc := "(I)I" } : Jvm.MethodName)) ∈ zTb := zk_in 540 (by decide +kernel) (by decide +kernel)
theorem zw_541 : (Jvm.Cond.code ({ cls := "DrawnGates$Layout", name := "hangOf", desc := "(I)I" } : Jvm.MethodName) prog_2_method_11_code (2 : Nat) (Option.some Jvm.ClassFile.FieldType.int)) ∈ zTb := zk_in 541 (by decide +kernel) (by decide +kernel)
theorem zw_542 : (Jvm.Cond.methodLink "DrawnGates$Matching" (102 : Nat) ({ cls := "DrawnGates$Plan", name := "sideA", desc := "(I)I" } : Jvm.MethodName)) ∈ zTb := zk_in 542 (by decide +kernel) (by decide +kernel)
theorem zw_543 : (Jvm.Cond.methodLink "DrawnGates$Matching" (105 : Nat) ({ cls := "DrawnGates$Plan", name := "sideB", desc := "(I)I" } : Jvm.MethodName)) ∈ zTb := zk_in 543 (by decide +kernel) (by decide +kernel)
theorem zw_544 : (Jvm.Cond.methodLink "DrawnGates$Matching" (50 : Nat) ({ cls := "DrawnGates$Matching", name := "countLeftOver", desc := "()I" } : Jvm.MethodName)) ∈ zTb := zk_in 544 (by decide +kernel) (by decide +kernel)
theorem zw_546 : (Jvm.Cond.instanceMethod ({ cls := "DrawnGates$Matching", name := "countLeftOver", desc := "()I" } : Jvm.MethodName)) ∈ zTb := zk_in 546 (by decide +kernel) (by decide +kernel)
theorem zw_547 : (Jvm.Cond.code ({ cls := "DrawnGates$Matching", name := "countLeftOver", desc := "()I" } : Jvm.MethodName) prog_3_method_6_code (5 : Nat) (Option.some Jvm.ClassFile.FieldType.int)) ∈ zTb := zk_in 547 (by decide +kernel) (by decide +kernel)
theorem zw_548 : (Jvm.Cond.methodLink "DrawnGates$Matching" (59 : Nat) ({ cls := "java/util/Arrays", name := "fill", desc := "([II)V" } : Jvm.MethodName)) ∈ zTb := zk_in 548 (by decide +kernel) (by decide +kernel)
theorem zw_549 : (Jvm.Cond.methodLink "DrawnGates$Matching" (65 : Nat) ({ cls := "DrawnGates$Matching", name := "tiePins", desc := "([I)Z" } : Jvm.MethodName)) ∈ zTb := zk_in 549 (by decide +kernel) (by decide +kernel)
theorem zw_551 : (Jvm.Cond.instanceMethod ({ cls := "DrawnGates$Matching", name := "tiePins", desc := "([I)Z" } : Jvm.MethodName)) ∈ zTb := zk_in 551 (by decide +kernel) (by decide +kernel)
theorem zw_552 : (Jvm.Cond.code ({ cls := "DrawnGates$Matching", name := "tiePins", desc := "([I)Z" } : Jvm.MethodName) prog_3_method_7_code (4 : Nat) (Option.some Jvm.ClassFile.FieldType.boolean)) ∈ zTb := zk_in 552 (by decide +kernel) (by decide +kernel)
theorem zw_553 : (Jvm.Cond.methodLink "DrawnGates$Matching" (117 : Nat) ({ cls := "DrawnGates$Layout", name := "pinNode", desc := "(LDrawnGates$Plan;I)I" } : Jvm.MethodName)) ∈ zTb := zk_in 553 (by decide +kernel) (by decide +kernel)
theorem zw_554 : (Jvm.Cond.methodLink "DrawnGates$Matching" (121 : Nat) ({ cls := "DrawnGates$Plan", name := "pinNet", desc := "(I)I" } : Jvm.MethodName)) ∈ zTb := zk_in 554 (by decide +kernel) (by decide +kernel)
theorem zw_555 : (Jvm.Cond.methodLink "DrawnGates$Matching" (124 : Nat) ({ cls := "DrawnGates$Matching", name := "tie", desc := "([III)Z" } : Jvm.MethodName)) ∈ zTb := zk_in 555 (by decide +kernel) (by decide +kernel)
theorem zw_556 : (Jvm.Cond.static ({ cls := "DrawnGates$Matching", name := "tie", desc := "([III)Z" } : Jvm.MethodName)) ∈ zTb := zk_in 556 (by decide +kernel) (by decide +kernel)
theorem zw_557 : (Jvm.Cond.code ({ cls := "DrawnGates$Matching", name := "tie", desc := "([III)Z" } : Jvm.MethodName) prog_3_method_11_code (4 : Nat) (Option.some Jvm.ClassFile.FieldType.boolean)) ∈ zTb := zk_in 557 (by decide +kernel) (by decide +kernel)
theorem zw_558 : (Jvm.Cond.methodLink "DrawnGates$Matching" (69 : Nat) ({ cls := "DrawnGates$Matching", name := "place", desc := "(LDrawnGates$Matching;I)V" } : Jvm.MethodName)) ∈ zTb := zk_in 558 (by decide +kernel) (by decide +kernel)
theorem zw_559 : (Jvm.Cond.static ({ cls := "DrawnGates$Matching", name := "place", desc := "(LDrawnGates$Matching;I)V" } : Jvm.MethodName)) ∈ zTb := zk_in 559 (by decide +kernel) (by decide +kernel)
theorem zw_560 : (Jvm.Cond.code ({ cls := "DrawnGates$Matching", name := "place", desc := "(LDrawnGates$Matching;I)V" } : Jvm.MethodName) prog_3_method_8_code (5 : Nat) (Option.none : Option Jvm.ClassFile.FieldType)) ∈ zTb := zk_in 560 (by decide +kernel) (by decide +kernel)
theorem zw_561 : (Jvm.Cond.methodLink "DrawnGates$Matching" (128 : Nat) ({ cls := "DrawnGates$Matching", name := "turn", desc := "(LDrawnGates$Matching;I)V" } : Jvm.MethodName)) ∈ zTb := zk_in 561 (by decide +kernel) (by decide +kernel)
theorem zw_562 : (Jvm.Cond.static ({ cls := "DrawnGates$Matching", name := "turn", desc := "(LDrawnGates$Matching;I)V" } : Jvm.MethodName)) ∈ zTb := zk_in 562 (by decide +kernel) (by decide +kernel)
theorem zw_563 : (Jvm.Cond.code ({ cls := "DrawnGates$Matching", name := "turn", desc := "(LDrawnGates$Matching;I)V" } : Jvm.MethodName) prog_3_method_9_code (4 : Nat) (Option.none : Option Jvm.ClassFile.FieldType)) ∈ zTb := zk_in 563 (by decide +kernel) (by decide +kernel)
theorem zw_564 : (Jvm.Cond.methodLink "DrawnGates$Matching" (137 : Nat) ({ cls := "DrawnGates$Matching", name := "record", desc := "([I)V" } : Jvm.MethodName)) ∈ zTb := zk_in 564 (by decide +kernel) (by decide +kernel)
theorem zw_566 : (Jvm.Cond.instanceMethod ({ cls := "DrawnGates$Matching", name := "record", desc := "([I)V" } : Jvm.MethodName)) ∈ zTb := zk_in 566 (by decide +kernel) (by decide +kernel)
theorem zw_567 : (Jvm.Cond.code ({ cls := "DrawnGates$Matching", name := "record", desc := "([I)V" } : Jvm.MethodName) prog_3_method_12_code (2 : Nat) (Option.none : Option Jvm.ClassFile.FieldType)) ∈ zTb := zk_in 567 (by decide +kernel) (by decide +kernel)
theorem zw_568 : (Jvm.Cond.methodLink "DrawnGates$Matching" (145 : Nat) ({ cls := "DrawnGates$Matching", name := "isBeforeFirst", desc := "([I)Z" } : Jvm.MethodName)) ∈ zTb := zk_in 568 (by decide +kernel) (by decide +kernel)
theorem zw_570 : (Jvm.Cond.instanceMethod ({ cls := "DrawnGates$Matching", name := "isBeforeFirst", desc := "([I)Z" } : Jvm.MethodName)) ∈ zTb := zk_in 570 (by decide +kernel) (by decide +kernel)
theorem zw_571 : (Jvm.Cond.code ({ cls := "DrawnGates$Matching", name := "isBeforeFirst", desc := "([I)Z" } : Jvm.MethodName) prog_3_method_13_code (3 : Nat) (Option.some Jvm.ClassFile.FieldType.boolean)) ∈ zTb := zk_in 571 (by decide +kernel) (by decide +kernel)
theorem zw_572 : (Jvm.Cond.methodLink "DrawnGates$Matching" (131 : Nat) ({ cls := "java/lang/System", name := "arraycopy", desc := "(Ljava/lang/Object;ILjava/lang/Object;II)V" } : Jvm.MethodName)) ∈ zTb := zk_in 572 (by decide +kernel) (by decide +kernel)
theorem zw_573 : (Jvm.Cond.methodLink "DrawnGates$Matching" (148 : Nat) ({ cls := "java/lang/Math", name := "min", desc := "(II)I" } : Jvm.MethodName)) ∈ zTb := zk_in 573 (by decide +kernel) (by decide +kernel)
theorem zw_574 : (Jvm.Cond.methodLink "DrawnGates$Matching" (141 : Nat) ({ cls := "DrawnGates$Matching", name := "tieSides", desc := "(III)Z" } : Jvm.MethodName)) ∈ zTb := zk_in 574 (by decide +kernel) (by decide +kernel)
theorem zw_576 : (Jvm.Cond.instanceMethod ({ cls := "DrawnGates$Matching", name := "tieSides", desc := "(III)Z" } : Jvm.MethodName)) ∈ zTb := zk_in 576 (by decide +kernel) (by decide +kernel)
theorem zw_577 : (Jvm.Cond.code ({ cls := "DrawnGates$Matching", name := "tieSides", desc := "(III)Z" } : Jvm.MethodName) prog_3_method_10_code (6 : Nat) (Option.some Jvm.ClassFile.FieldType.boolean)) ∈ zTb := zk_in 577 (by decide +kernel) (by decide +kernel)
theorem zw_578 : (Jvm.Cond.methodLink "DrawnGatesLaw" (53 : Nat) ({ cls := "DrawnGates", name := "gateAt", desc := "(II)I" } : Jvm.MethodName)) ∈ zTb := zk_in 578 (by decide +kernel) (by decide +kernel)
theorem zw_579 : (Jvm.Cond.instanceMethod ({ cls := "DrawnGates", name := "gateAt", desc := "(II)I" } : Jvm.MethodName)) ∈ zTb := zk_in 579 (by decide +kernel) (by decide +kernel)
theorem zw_580 : (Jvm.Cond.selects "DrawnGates" ({ cls := "DrawnGates", name := "gateAt", desc := "(II)I" } : Jvm.MethodName) ({ cls := "DrawnGates", name := "gateAt", desc := "(II)I" } : Jvm.MethodName)) ∈ zTb := zk_in 580 (by decide +kernel) (by decide +kernel)
theorem zw_581 : (Jvm.Cond.code ({ cls := "DrawnGates", name := "gateAt", desc := "(II)I" } : Jvm.MethodName) prog_1_method_11_code (3 : Nat) (Option.some Jvm.ClassFile.FieldType.int)) ∈ zTb := zk_in 581 (by decide +kernel) (by decide +kernel)
theorem zw_582 : (Jvm.Cond.methodLink "DrawnGates" (145 : Nat) ({ cls := "DrawnGates$Layout", name := "gateWith", desc := "(J)I" } : Jvm.MethodName)) ∈ zTb := zk_in 582 (by decide +kernel) (by decide +kernel)
theorem zw_583 : (Jvm.Cond.instanceMethod ({ cls := "DrawnGates$Layout", name := "gateWith", desc := "(J)I" } : Jvm.MethodName)) ∈ zTb := zk_in 583 (by decide +kernel) (by decide +kernel)
theorem zw_584 : (Jvm.Cond.selects "DrawnGates$Layout" ({ cls := "DrawnGates$Layout", name := "gateWith", desc := "(J)I" } : Jvm.MethodName) ({ cls := "DrawnGates$Layout", name := "gateWith", desc := "(J)I" } : Jvm.MethodName)) ∈ zTb := zk_in 584 (by decide +kernel) (by decide +kernel)
theorem zw_585 : (Jvm.Cond.code ({ cls := "DrawnGates$Layout", name := "gateWith", desc := "(J)I" } : Jvm.MethodName) prog_2_method_4_code (4 : Nat) (Option.some Jvm.ClassFile.FieldType.int)) ∈ zTb := zk_in 585 (by decide +kernel) (by decide +kernel)
theorem zw_586 : (Jvm.Cond.methodLink "DrawnGatesLaw" (58 : Nat) ({ cls := "DrawnGates", name := "gate", desc := "(II)I" } : Jvm.MethodName)) ∈ zTb := zk_in 586 (by decide +kernel) (by decide +kernel)
theorem zw_587 : (Jvm.Cond.instanceMethod ({ cls := "DrawnGates", name := "gate", desc := "(II)I" } : Jvm.MethodName)) ∈ zTb := zk_in 587 (by decide +kernel) (by decide +kernel)
theorem zw_588 : (Jvm.Cond.selects "DrawnGates" ({ cls := "DrawnGates", name := "gate", desc := "(II)I" } : Jvm.MethodName) ({ cls := "DrawnGates", name := "gate", desc := "(II)I" } : Jvm.MethodName)) ∈ zTb := zk_in 588 (by decide +kernel) (by decide +kernel)
theorem zw_589 : (Jvm.Cond.code ({ cls := "DrawnGates", name := "gate", desc := "(II)I" } : Jvm.MethodName) prog_1_method_12_code (4 : Nat) (Option.some Jvm.ClassFile.FieldType.int)) ∈ zTb := zk_in 589 (by decide +kernel) (by decide +kernel)
theorem zw_590 : (Jvm.Cond.methodLink "DrawnGates" (149 : Nat) ({ cls := "DrawnGates$Layout", name := "tellGate", desc := "(II)I" } : Jvm.MethodName)) ∈ zTb := zk_in 590 (by decide +kernel) (by decide +kernel)
theorem zw_591 : (Jvm.Cond.instanceMethod ({ cls := "DrawnGates$Layout", name := "tellGate", desc := "(II)I" } : Jvm.MethodName)) ∈ zTb := zk_in 591 (by decide +kernel) (by decide +kernel)
theorem zw_592 : (Jvm.Cond.selects "DrawnGates$Layout" ({ cls := "DrawnGates$Layout", name := "tellGate", desc := "(II)I" } : Jvm.MethodName) ({ cls := "DrawnGates$Layout", name := "tellGate", desc := "(II)I" } : Jvm.MethodName)) ∈ zTb := zk_in 592 (by decide +kernel) (by decide +kernel)
theorem zw_593 : (Jvm.Cond.code ({ cls := "DrawnGates$Layout", name := "tellGate", desc := "(II)I" } : Jvm.MethodName) prog_2_method_8_code (3 : Nat) (Option.some Jvm.ClassFile.FieldType.int)) ∈ zTb := zk_in 593 (by decide +kernel) (by decide +kernel)
theorem zw_594 : (Jvm.Cond.methodLink "DrawnGates$Layout" (110 : Nat) ({ cls := "java/lang/Long", name := "bitCount", desc := "(J)I" } : Jvm.MethodName)) ∈ zTb := zk_in 594 (by decide +kernel) (by decide +kernel)
theorem zw_595 : (Jvm.Cond.methodLink "DrawnGates$Layout" (116 : Nat) ({ cls := "java/lang/Long", name := "numberOfTrailingZeros", desc := "(J)I" } : Jvm.MethodName)) ∈ zTb := zk_in 595 (by decide +kernel) (by decide +kernel)
theorem zw_596 : (Jvm.Cond.static ({ cls := "java/lang/Long", name := "numberOfTrailingZeros", desc := "(J)I" } : Jvm.MethodName)) ∈ zTb := zk_in 596 (by decide +kernel) (by decide +kernel)
theorem zw_597 : (Jvm.Cond.code ({ cls := "java/lang/Long", name := "numberOfTrailingZeros", desc := "(J)I" } : Jvm.MethodName) prog_9_method_49_code (3 : Nat) (Option.some Jvm.ClassFile.FieldType.int)) ∈ zTb := zk_in 597 (by decide +kernel) (by decide +kernel)
theorem zw_598 : (Jvm.Cond.methodLink "java/lang/Long" (311 : Nat) ({ cls := "java/lang/Integer", name := "numberOfTrailingZeros", desc := "(I)I" } : Jvm.MethodName)) ∈ zTb := zk_in 598 (by decide +kernel) (by decide +kernel)
theorem zw_599 : (Jvm.Cond.static ({ cls := "java/lang/Integer", name := "numberOfTrailingZeros", desc := "(I)I" } : Jvm.MethodName)) ∈ zTb := zk_in 599 (by decide +kernel) (by decide +kernel)
theorem zw_600 : (Jvm.Cond.code ({ cls := "java/lang/Integer", name := "numberOfTrailingZeros", desc := "(I)I" } : Jvm.MethodName) prog_8_method_48_code (2 : Nat) (Option.some Jvm.ClassFile.FieldType.int)) ∈ zTb := zk_in 600 (by decide +kernel) (by decide +kernel)
theorem zw_601 : (Jvm.Cond.constant "java/lang/Integer" (264 : Nat) (65536 : Int32)) ∈ zTb := zk_in 601 (by decide +kernel) (by decide +kernel)
theorem zw_602 : (Jvm.Cond.methodLink "DrawnGatesLaw" (62 : Nat) ({ cls := "DrawnGates", name := "wire", desc := "(II)I" } : Jvm.MethodName)) ∈ zTb := zk_in 602 (by decide +kernel) (by decide +kernel)
theorem zw_603 : (Jvm.Cond.instanceMethod ({ cls := "DrawnGates", name := "wire", desc := "(II)I" } : Jvm.MethodName)) ∈ zTb := zk_in 603 (by decide +kernel) (by decide +kernel)
theorem zw_604 : (Jvm.Cond.selects "DrawnGates" ({ cls := "DrawnGates", name := "wire", desc := "(II)I" } : Jvm.MethodName) ({ cls := "DrawnGates", name := "wire", desc := "(II)I" } : Jvm.MethodName)) ∈ zTb := zk_in 604 (by decide +kernel) (by decide +kernel)
theorem zw_605 : (Jvm.Cond.code ({ cls := "DrawnGates", name := "wire", desc := "(II)I" } : Jvm.MethodName) prog_1_method_13_code (4 : Nat) (Option.some Jvm.ClassFile.FieldType.int)) ∈ zTb := zk_in 605 (by decide +kernel) (by decide +kernel)
theorem zw_606 : (Jvm.Cond.methodLink "DrawnGates" (153 : Nat) ({ cls := "DrawnGates$Layout", name := "sizeOf", desc := "(I)I" } : Jvm.MethodName)) ∈ zTb := zk_in 606 (by decide +kernel) (by decide +kernel)
theorem zw_607 : (Jvm.Cond.instanceMethod ({ cls := "DrawnGates$Layout", name := "sizeOf", desc := "(I)I" } : Jvm.MethodName)) ∈ zTb := zk_in 607 (by decide +kernel) (by decide +kernel)
theorem zw_608 : (Jvm.Cond.selects "DrawnGates$Layout" ({ cls := "DrawnGates$Layout", name := "sizeOf", desc := "(I)I" } : Jvm.MethodName) ({ cls := "DrawnGates$Layout", name := "sizeOf", desc := "(I)I" } : Jvm.MethodName)) ∈ zTb := zk_in 608 (by decide +kernel) (by decide +kernel)
theorem zw_609 : (Jvm.Cond.code ({ cls := "DrawnGates$Layout", name := "sizeOf", desc := "(I)I" } : Jvm.MethodName) prog_2_method_10_code (4 : Nat) (Option.some Jvm.ClassFile.FieldType.int)) ∈ zTb := zk_in 609 (by decide +kernel) (by decide +kernel)
theorem zw_610 : (Jvm.Cond.methodLink "DrawnGates" (156 : Nat) ({ cls := "DrawnGates$Layout", name := "hangOf", desc := "(I)I" } : Jvm.MethodName)) ∈ zTb := zk_in 610 (by decide +kernel) (by decide +kernel)
theorem zw_611 : (Jvm.Cond.methodLink "DrawnGatesLaw" (66 : Nat) ({ cls := "DrawnGates", name := "ways", desc := "()I" } : Jvm.MethodName)) ∈ zTb := zk_in 611 (by decide +kernel) (by decide +kernel)
theorem zw_612 : (Jvm.Cond.instanceMethod ({ cls := "DrawnGates", name := "ways", desc := "()I" } : Jvm.MethodName)) ∈ zTb := zk_in 612 (by decide +kernel) (by decide +kernel)
theorem zw_613 : (Jvm.Cond.selects "DrawnGates" ({ cls := "DrawnGates", name := "ways", desc := "()I" } : Jvm.MethodName) ({ cls := "DrawnGates", name := "ways", desc := "()I" } : Jvm.MethodName)) ∈ zTb := zk_in 613 (by decide +kernel) (by decide +kernel)
theorem zw_614 : (Jvm.Cond.code ({ cls := "DrawnGates", name := "ways", desc := "()I" } : Jvm.MethodName) prog_1_method_14_code (1 : Nat) (Option.some Jvm.ClassFile.FieldType.int)) ∈ zTb := zk_in 614 (by decide +kernel) (by decide +kernel)
theorem zw_615 : (Jvm.Cond.methodLink "DrawnGatesLaw" (70 : Nat) ({ cls := "DrawnGates", name := "matched", desc := "(I)I" } : Jvm.MethodName)) ∈ zTb := zk_in 615 (by decide +kernel) (by decide +kernel)
theorem zw_616 : (Jvm.Cond.instanceMethod ({ cls := "DrawnGates", name := "matched", desc := "(I)I" } : Jvm.MethodName)) ∈ zTb := zk_in 616 (by decide +kernel) (by decide +kernel)
theorem zw_617 : (Jvm.Cond.selects "DrawnGates" ({ cls := "DrawnGates", name := "matched", desc := "(I)I" } : Jvm.MethodName) ({ cls := "DrawnGates", name := "matched", desc := "(I)I" } : Jvm.MethodName)) ∈ zTb := zk_in 617 (by decide +kernel) (by decide +kernel)
theorem zw_618 : (Jvm.Cond.code ({ cls := "DrawnGates", name := "matched", desc := "(I)I" } : Jvm.MethodName) prog_1_method_15_code (3 : Nat) (Option.some Jvm.ClassFile.FieldType.int)) ∈ zTb := zk_in 618 (by decide +kernel) (by decide +kernel)
theorem zw_619 : (Jvm.Cond.methodLink "DrawnGatesLaw" (74 : Nat) ({ cls := "DrawnGates", name := "net", desc := "(I)I" } : Jvm.MethodName)) ∈ zTb := zk_in 619 (by decide +kernel) (by decide +kernel)
theorem zw_620 : (Jvm.Cond.instanceMethod ({ cls := "DrawnGates", name := "net", desc := "(I)I" } : Jvm.MethodName)) ∈ zTb := zk_in 620 (by decide +kernel) (by decide +kernel)
theorem zw_621 : (Jvm.Cond.selects "DrawnGates" ({ cls := "DrawnGates", name := "net", desc := "(I)I" } : Jvm.MethodName) ({ cls := "DrawnGates", name := "net", desc := "(I)I" } : Jvm.MethodName)) ∈ zTb := zk_in 621 (by decide +kernel) (by decide +kernel)
theorem zw_622 : (Jvm.Cond.code ({ cls := "DrawnGates", name := "net", desc := "(I)I" } : Jvm.MethodName) prog_1_method_16_code (3 : Nat) (Option.some Jvm.ClassFile.FieldType.int)) ∈ zTb := zk_in 622 (by decide +kernel) (by decide +kernel)
theorem zw_623 : (Jvm.Cond.methodLink "DrawnGatesLaw" (78 : Nat) ({ cls := "DrawnGates", name := "device", desc := "(II)I" } : Jvm.MethodName)) ∈ zTb := zk_in 623 (by decide +kernel) (by decide +kernel)
theorem zw_624 : (Jvm.Cond.instanceMethod ({ cls := "DrawnGates", name := "device", desc := "(II)I" } : Jvm.MethodName)) ∈ zTb := zk_in 624 (by decide +kernel) (by decide +kernel)
theorem zw_625 : (Jvm.Cond.selects "DrawnGates" ({ cls := "DrawnGates", name := "device", desc := "(II)I" } : Jvm.MethodName) ({ cls := "DrawnGates", name := "device", desc := "(II)I" } : Jvm.MethodName)) ∈ zTb := zk_in 625 (by decide +kernel) (by decide +kernel)
theorem zw_626 : (Jvm.Cond.code ({ cls := "DrawnGates", name := "device", desc := "(II)I" } : Jvm.MethodName) prog_1_method_17_code (3 : Nat) (Option.some Jvm.ClassFile.FieldType.int)) ∈ zTb := zk_in 626 (by decide +kernel) (by decide +kernel)
theorem zw_627 : (Jvm.Cond.methodLink "DrawnGatesLaw" (82 : Nat) ({ cls := "DrawnGates", name := "pin", desc := "(II)I" } : Jvm.MethodName)) ∈ zTb := zk_in 627 (by decide +kernel) (by decide +kernel)
theorem zw_628 : (Jvm.Cond.instanceMethod ({ cls := "DrawnGates", name := "pin", desc := "(II)I" } : Jvm.MethodName)) ∈ zTb := zk_in 628 (by decide +kernel) (by decide +kernel)
theorem zw_629 : (Jvm.Cond.selects "DrawnGates" ({ cls := "DrawnGates", name := "pin", desc := "(II)I" } : Jvm.MethodName) ({ cls := "DrawnGates", name := "pin", desc := "(II)I" } : Jvm.MethodName)) ∈ zTb := zk_in 629 (by decide +kernel) (by decide +kernel)
theorem zw_630 : (Jvm.Cond.code ({ cls := "DrawnGates", name := "pin", desc := "(II)I" } : Jvm.MethodName) prog_1_method_18_code (3 : Nat) (Option.some Jvm.ClassFile.FieldType.int)) ∈ zTb := zk_in 630 (by decide +kernel) (by decide +kernel)
theorem zw_631 : (Jvm.Cond.methodLink "DrawnGates" (171 : Nat) ({ cls := "DrawnGates$Layout", name := "pinNode", desc := "(LDrawnGates$Plan;I)I" } : Jvm.MethodName)) ∈ zTb := zk_in 631 (by decide +kernel) (by decide +kernel)
theorem zw_632 : (Jvm.Cond.methodLink "DrawnGatesLaw" (86 : Nat) ({ cls := "DrawnGates", name := "hangs", desc := "(I)I" } : Jvm.MethodName)) ∈ zTb := zk_in 632 (by decide +kernel) (by decide +kernel)
theorem zw_633 : (Jvm.Cond.instanceMethod ({ cls := "DrawnGates", name := "hangs", desc := "(I)I" } : Jvm.MethodName)) ∈ zTb := zk_in 633 (by decide +kernel) (by decide +kernel)
theorem zw_634 : (Jvm.Cond.selects "DrawnGates" ({ cls := "DrawnGates", name := "hangs", desc := "(I)I" } : Jvm.MethodName) ({ cls := "DrawnGates", name := "hangs", desc := "(I)I" } : Jvm.MethodName)) ∈ zTb := zk_in 634 (by decide +kernel) (by decide +kernel)
theorem zw_635 : (Jvm.Cond.code ({ cls := "DrawnGates", name := "hangs", desc := "(I)I" } : Jvm.MethodName) prog_1_method_19_code (2 : Nat) (Option.some Jvm.ClassFile.FieldType.int)) ∈ zTb := zk_in 635 (by decide +kernel) (by decide +kernel)
theorem zw_636 : (Jvm.Cond.methodLink "DrawnGates" (178 : Nat) ({ cls := "DrawnGates$Plan", name := "hangOf", desc := "(I)I" } : Jvm.MethodName)) ∈ zTb := zk_in 636 (by decide +kernel) (by decide +kernel)
theorem zw_637 : (Jvm.Cond.methodLink "DrawnGatesLaw" (90 : Nat) ({ cls := "DrawnGates", name := "type", desc := "(I)I" } : Jvm.MethodName)) ∈ zTb := zk_in 637 (by decide +kernel) (by decide +kernel)
theorem zw_638 : (Jvm.Cond.instanceMethod ({ cls := "DrawnGates", name := "type", desc := "(I)I" } : Jvm.MethodName)) ∈ zTb := zk_in 638 (by decide +kernel) (by decide +kernel)
theorem zw_639 : (Jvm.Cond.selects "DrawnGates" ({ cls := "DrawnGates", name := "type", desc := "(I)I" } : Jvm.MethodName) ({ cls := "DrawnGates", name := "type", desc := "(I)I" } : Jvm.MethodName)) ∈ zTb := zk_in 639 (by decide +kernel) (by decide +kernel)
theorem zw_640 : (Jvm.Cond.code ({ cls := "DrawnGates", name := "type", desc := "(I)I" } : Jvm.MethodName) prog_1_method_20_code (3 : Nat) (Option.some Jvm.ClassFile.FieldType.int)) ∈ zTb := zk_in 640 (by decide +kernel) (by decide +kernel)
theorem zw_641 : (Jvm.Cond.methodLink "DrawnGates" (179 : Nat) ({ cls := "DrawnGates$Text", name := "add", desc := "(I)I" } : Jvm.MethodName)) ∈ zTb := zk_in 641 (by decide +kernel) (by decide +kernel)
theorem zw_642 : (Jvm.Cond.instanceMethod ({ cls := "DrawnGates$Text", name := "add", desc := "(I)I" } : Jvm.MethodName)) ∈ zTb := zk_in 642 (by decide +kernel) (by decide +kernel)
theorem zw_643 : (Jvm.Cond.selects "DrawnGates$Text" ({ cls := "DrawnGates$Text", name := "add", desc := "(I)I" } : Jvm.MethodName) ({ cls := "DrawnGates$Text", name := "add", desc := "(I)I" } : Jvm.MethodName)) ∈ zTb := zk_in 643 (by decide +kernel) (by decide +kernel)
theorem zw_644 : (Jvm.Cond.code ({ cls := "DrawnGates$Text", name := "add", desc := "(I)I" } : Jvm.MethodName) prog_5_method_2_code (2 : Nat) (Option.some Jvm.ClassFile.FieldType.int)) ∈ zTb := zk_in 644 (by decide +kernel) (by decide +kernel)
theorem zw_645 : (Jvm.Cond.methodLink "DrawnGatesLaw" (94 : Nat) ({ cls := "DrawnGates", name := "clear", desc := "()I" } : Jvm.MethodName)) ∈ zTb := zk_in 645 (by decide +kernel) (by decide +kernel)
theorem zw_646 : (Jvm.Cond.instanceMethod ({ cls := "DrawnGates", name := "clear", desc := "()I" } : Jvm.MethodName)) ∈ zTb := zk_in 646 (by decide +kernel) (by decide +kernel)
theorem zw_647 : (Jvm.Cond.selects "DrawnGates" ({ cls := "DrawnGates", name := "clear", desc := "()I" } : Jvm.MethodName) ({ cls := "DrawnGates", name := "clear", desc := "()I" } : Jvm.MethodName)) ∈ zTb := zk_in 647 (by decide +kernel) (by decide +kernel)
theorem zw_648 : (Jvm.Cond.code ({ cls := "DrawnGates", name := "clear", desc := "()I" } : Jvm.MethodName) prog_1_method_21_code (2 : Nat) (Option.some Jvm.ClassFile.FieldType.int)) ∈ zTb := zk_in 648 (by decide +kernel) (by decide +kernel)
theorem zw_649 : (Jvm.Cond.methodLink "DrawnGatesLaw" (98 : Nat) ({ cls := "DrawnGates", name := "does", desc := "()I" } : Jvm.MethodName)) ∈ zTb := zk_in 649 (by decide +kernel) (by decide +kernel)
theorem zw_650 : (Jvm.Cond.instanceMethod ({ cls := "DrawnGates", name := "does", desc := "()I" } : Jvm.MethodName)) ∈ zTb := zk_in 650 (by decide +kernel) (by decide +kernel)
theorem zw_651 : (Jvm.Cond.selects "DrawnGates" ({ cls := "DrawnGates", name := "does", desc := "()I" } : Jvm.MethodName) ({ cls := "DrawnGates", name := "does", desc := "()I" } : Jvm.MethodName)) ∈ zTb := zk_in 651 (by decide +kernel) (by decide +kernel)
theorem zw_652 : (Jvm.Cond.code ({ cls := "DrawnGates", name := "does", desc := "()I" } : Jvm.MethodName) prog_1_method_22_code (3 : Nat) (Option.some Jvm.ClassFile.FieldType.int)) ∈ zTb := zk_in 652 (by decide +kernel) (by decide +kernel)
theorem zw_653 : (Jvm.Cond.methodLink "DrawnGates" (185 : Nat) ({ cls := "DrawnGates$Text", name := "findFault", desc := "()I" } : Jvm.MethodName)) ∈ zTb := zk_in 653 (by decide +kernel) (by decide +kernel)
theorem zw_654 : (Jvm.Cond.instanceMethod ({ cls := "DrawnGates$Text", name := "findFault", desc := "()I" } : Jvm.MethodName)) ∈ zTb := zk_in 654 (by decide +kernel) (by decide +kernel)
theorem zw_655 : (Jvm.Cond.selects "DrawnGates$Text" ({ cls := "DrawnGates$Text", name := "findFault", desc := "()I" } : Jvm.MethodName) ({ cls := "DrawnGates$Text", name := "findFault", desc := "()I" } : Jvm.MethodName)) ∈ zTb := zk_in 655 (by decide +kernel) (by decide +kernel)
theorem zw_656 : (Jvm.Cond.code ({ cls := "DrawnGates$Text", name := "findFault", desc := "()I" } : Jvm.MethodName) prog_5_method_3_code (5 : Nat) (Option.some Jvm.ClassFile.FieldType.int)) ∈ zTb := zk_in 656 (by decide +kernel) (by decide +kernel)
theorem zw_657 : (Jvm.Cond.methodLink "DrawnGates$Text" (23 : Nat) ({ cls := "DrawnGates$Text", name := "canStand", desc := "(II)Z" } : Jvm.MethodName)) ∈ zTb := zk_in 657 (by decide +kernel) (by decide +kernel)
theorem zw_658 : (Jvm.Cond.static ({ cls := "DrawnGates$Text", name := "canStand", desc := "(II)Z" } : Jvm.MethodName)) ∈ zTb := zk_in 658 (by decide +kernel) (by decide +kernel)
theorem zw_659 : (Jvm.Cond.code ({ cls := "DrawnGates$Text", name := "canStand", desc := "(II)Z" } : Jvm.MethodName) prog_5_method_6_code (2 : Nat) (Option.some Jvm.ClassFile.FieldType.boolean)) ∈ zTb := zk_in 659 (by decide +kernel) (by decide +kernel)
theorem zw_660 : (Jvm.Cond.methodLink "DrawnGates$Text" (27 : Nat) ({ cls := "DrawnGates$Text", name := "figuresOf", desc := "(I)I" } : Jvm.MethodName)) ∈ zTb := zk_in 660 (by decide +kernel) (by decide +kernel)
theorem zw_661 : (Jvm.Cond.static ({ cls := "DrawnGates$Text", name := "figuresOf", desc := "(I)I" } : Jvm.MethodName)) ∈ zTb := zk_in 661 (by decide +kernel) (by decide +kernel)
theorem zw_662 : (Jvm.Cond.code ({ cls := "DrawnGates$Text", name := "figuresOf", desc := "(I)I" } : Jvm.MethodName) prog_5_method_7_code (1 : Nat) (Option.some Jvm.ClassFile.FieldType.int)) ∈ zTb := zk_in 662 (by decide +kernel) (by decide +kernel)
theorem zw_663 : (Jvm.Cond.methodLink "DrawnGates" (188 : Nat) ({ cls := "DrawnGates$Text", name := "perform", desc := "(LDrawnGates$Plan;)I" } : Jvm.MethodName)) ∈ zTb := zk_in 663 (by decide +kernel) (by decide +kernel)
theorem zw_664 : (Jvm.Cond.instanceMethod ({ cls := "DrawnGates$Text", name := "perform", desc := "(LDrawnGates$Plan;)I" } : Jvm.MethodName)) ∈ zTb := zk_in 664 (by decide +kernel) (by decide +kernel)
theorem zw_665 : (Jvm.Cond.selects "DrawnGates$Text" ({ cls := "DrawnGates$Text", name := "perform", desc := "(LDrawnGates$Plan;)I" } : Jvm.MethodName) ({ cls := "DrawnGates$Text", name := "perform", desc := "(LDrawnGates$Plan;)I" } : Jvm.MethodName)) ∈ zTb := zk_in 665 (by decide +kernel) (by decide +kernel)
theorem zw_666 : (Jvm.Cond.code ({ cls := "DrawnGates$Text", name := "perform", desc := "(LDrawnGates$Plan;)I" } : Jvm.MethodName) prog_5_method_4_code (7 : Nat) (Option.some Jvm.ClassFile.FieldType.int)) ∈ zTb := zk_in 666 (by decide +kernel) (by decide +kernel)
theorem zw_667 : (Jvm.Cond.methodLink "DrawnGates$Text" (31 : Nat) ({ cls := "DrawnGates$Text", name := "performOne", desc := "(LDrawnGates$Plan;I)I" } : Jvm.MethodName)) ∈ zTb := zk_in 667 (by decide +kernel) (by decide +kernel)
theorem zw_669 : (Jvm.Cond.instanceMethod ({ cls := "DrawnGates$Text", name := "performOne", desc := "(LDrawnGates$Plan;I)I" } : Jvm.MethodName)) ∈ zTb := zk_in 669 (by decide +kernel) (by decide +kernel)
theorem zw_670 : (Jvm.Cond.code ({ cls := "DrawnGates$Text", name := "performOne", desc := "(LDrawnGates$Plan;I)I" } : Jvm.MethodName) prog_5_method_5_code (4 : Nat) (Option.some Jvm.ClassFile.FieldType.int)) ∈ zTb := zk_in 670 (by decide +kernel) (by decide +kernel)
theorem zw_671 : (Jvm.Cond.methodLink "DrawnGates$Text" (35 : Nat) ({ cls := "DrawnGates$Plan", name := "paint", desc := "(IIIII)I" } : Jvm.MethodName)) ∈ zTb := zk_in 671 (by decide +kernel) (by decide +kernel)
theorem zw_672 : (Jvm.Cond.methodLink "DrawnGates$Text" (41 : Nat) ({ cls := "DrawnGates$Plan", name := "erase", desc := "(IIIII)I" } : Jvm.MethodName)) ∈ zTb := zk_in 672 (by decide +kernel) (by decide +kernel)
theorem zw_673 : (Jvm.Cond.methodLink "DrawnGates$Text" (44 : Nat) ({ cls := "DrawnGates$Plan", name := "addDevice", desc := "(III)I" } : Jvm.MethodName)) ∈ zTb := zk_in 673 (by decide +kernel) (by decide +kernel)
theorem zw_674 : (Jvm.Cond.methodLink "DrawnGates$Text" (48 : Nat) ({ cls := "DrawnGates$Plan", name := "addPin", desc := "(III)I" } : Jvm.MethodName)) ∈ zTb := zk_in 674 (by decide +kernel) (by decide +kernel)
theorem zw_675 : (Jvm.Cond.methodLink "DrawnGates$Text" (51 : Nat) ({ cls := "DrawnGates$Plan", name := "dropMeant", desc := "()I" } : Jvm.MethodName)) ∈ zTb := zk_in 675 (by decide +kernel) (by decide +kernel)
theorem zw_676 : (Jvm.Cond.methodLink "DrawnGatesLaw" (102 : Nat) ({ cls := "DrawnGates", name := "back", desc := "()I" } : Jvm.MethodName)) ∈ zTb := zk_in 676 (by decide +kernel) (by decide +kernel)
theorem zw_677 : (Jvm.Cond.instanceMethod ({ cls := "DrawnGates", name := "back", desc := "()I" } : Jvm.MethodName)) ∈ zTb := zk_in 677 (by decide +kernel) (by decide +kernel)
theorem zw_678 : (Jvm.Cond.selects "DrawnGates" ({ cls := "DrawnGates", name := "back", desc := "()I" } : Jvm.MethodName) ({ cls := "DrawnGates", name := "back", desc := "()I" } : Jvm.MethodName)) ∈ zTb := zk_in 678 (by decide +kernel) (by decide +kernel)
theorem zw_679 : (Jvm.Cond.code ({ cls := "DrawnGates", name := "back", desc := "()I" } : Jvm.MethodName) prog_1_method_23_code (1 : Nat) (Option.some Jvm.ClassFile.FieldType.int)) ∈ zTb := zk_in 679 (by decide +kernel) (by decide +kernel)
theorem zw_680 : (Jvm.Cond.methodLink "DrawnGatesLaw" (106 : Nat) ({ cls := "DrawnGates", name := "told", desc := "(I)I" } : Jvm.MethodName)) ∈ zTb := zk_in 680 (by decide +kernel) (by decide +kernel)
theorem zw_681 : (Jvm.Cond.instanceMethod ({ cls := "DrawnGates", name := "told", desc := "(I)I" } : Jvm.MethodName)) ∈ zTb := zk_in 681 (by decide +kernel) (by decide +kernel)
theorem zw_682 : (Jvm.Cond.selects "DrawnGates" ({ cls := "DrawnGates", name := "told", desc := "(I)I" } : Jvm.MethodName) ({ cls := "DrawnGates", name := "told", desc := "(I)I" } : Jvm.MethodName)) ∈ zTb := zk_in 682 (by decide +kernel) (by decide +kernel)
theorem zw_683 : (Jvm.Cond.code ({ cls := "DrawnGates", name := "told", desc := "(I)I" } : Jvm.MethodName) prog_1_method_24_code (2 : Nat) (Option.some Jvm.ClassFile.FieldType.int)) ∈ zTb := zk_in 683 (by decide +kernel) (by decide +kernel)
theorem zw_684 : (Jvm.Cond.methodLink "DrawnGatesLaw" (110 : Nat) ({ cls := "DrawnGates", name := "digest", desc := "()J" } : Jvm.MethodName)) ∈ zTb := zk_in 684 (by decide +kernel) (by decide +kernel)
theorem zw_685 : (Jvm.Cond.instanceMethod ({ cls := "DrawnGates", name := "digest", desc := "()J" } : Jvm.MethodName)) ∈ zTb := zk_in 685 (by decide +kernel) (by decide +kernel)
theorem zw_686 : (Jvm.Cond.selects "DrawnGates" ({ cls := "DrawnGates", name := "digest", desc := "()J" } : Jvm.MethodName) ({ cls := "DrawnGates", name := "digest", desc := "()J" } : Jvm.MethodName)) ∈ zTb := zk_in 686 (by decide +kernel) (by decide +kernel)
theorem zw_687 : (Jvm.Cond.code ({ cls := "DrawnGates", name := "digest", desc := "()J" } : Jvm.MethodName) prog_1_method_25_code (4 : Nat) (Option.some Jvm.ClassFile.FieldType.long)) ∈ zTb := zk_in 687 (by decide +kernel) (by decide +kernel)
theorem zw_688 : (Jvm.Cond.constantLong "DrawnGates" (191 : Nat) (1682 : Int64)) ∈ zTb := zk_in 688 (by decide +kernel) (by decide +kernel)
theorem zw_689 : (Jvm.Cond.constantLong "DrawnGates" (193 : Nat) (31 : Int64)) ∈ zTb := zk_in 689 (by decide +kernel) (by decide +kernel)
theorem zw_690 : (Jvm.Cond.methodLink "DrawnGates" (195 : Nat) ({ cls := "DrawnGates", name := "told", desc := "(I)I" } : Jvm.MethodName)) ∈ zTb := zk_in 690 (by decide +kernel) (by decide +kernel)
theorem zw_691 : (Jvm.Cond.methodLink "DrawnGates" (198 : Nat) ({ cls := "DrawnGates", name := "count", desc := "(I)I" } : Jvm.MethodName)) ∈ zTb := zk_in 691 (by decide +kernel) (by decide +kernel)
theorem zw_692 : (Jvm.Cond.methodLink "DrawnGates" (201 : Nat) ({ cls := "DrawnGates$Layout", name := "mixInto", desc := "(J)J" } : Jvm.MethodName)) ∈ zTb := zk_in 692 (by decide +kernel) (by decide +kernel)
theorem zw_693 : (Jvm.Cond.instanceMethod ({ cls := "DrawnGates$Layout", name := "mixInto", desc := "(J)J" } : Jvm.MethodName)) ∈ zTb := zk_in 693 (by decide +kernel) (by decide +kernel)
theorem zw_694 : (Jvm.Cond.selects "DrawnGates$Layout" ({ cls := "DrawnGates$Layout", name := "mixInto", desc := "(J)J" } : Jvm.MethodName) ({ cls := "DrawnGates$Layout", name := "mixInto", desc := "(J)J" } : Jvm.MethodName)) ∈ zTb := zk_in 694 (by decide +kernel) (by decide +kernel)
theorem zw_695 : (Jvm.Cond.code ({ cls := "DrawnGates$Layout", name := "mixInto", desc := "(J)J" } : Jvm.MethodName) prog_2_method_9_code (7 : Nat) (Option.some Jvm.ClassFile.FieldType.long)) ∈ zTb := zk_in 695 (by decide +kernel) (by decide +kernel)
theorem zw_696 : (Jvm.Cond.constantLong "DrawnGates$Layout" (119 : Nat) (31 : Int64)) ∈ zTb := zk_in 696 (by decide +kernel) (by decide +kernel)
theorem zw_697 : (Jvm.Cond.methodLink "DrawnGates$Layout" (121 : Nat) ({ cls := "DrawnGates$Layout", name := "tellGate", desc := "(II)I" } : Jvm.MethodName)) ∈ zTb := zk_in 697 (by decide +kernel) (by decide +kernel)
theorem zw_698 : (Jvm.Cond.methodLink "DrawnGates$Layout" (125 : Nat) ({ cls := "DrawnGates$Layout", name := "sizeOf", desc := "(I)I" } : Jvm.MethodName)) ∈ zTb := zk_in 698 (by decide +kernel) (by decide +kernel)
theorem zw_699 : (Jvm.Cond.methodLink "DrawnGates$Layout" (128 : Nat) ({ cls := "DrawnGates$Layout", name := "hangOf", desc := "(I)I" } : Jvm.MethodName)) ∈ zTb := zk_in 699 (by decide +kernel) (by decide +kernel)
theorem zw_700 : (Jvm.Cond.methodLink "DrawnGates" (205 : Nat) ({ cls := "DrawnGates$Matching", name := "mixInto", desc := "(J)J" } : Jvm.MethodName)) ∈ zTb := zk_in 700 (by decide +kernel) (by decide +kernel)
theorem zw_701 : (Jvm.Cond.instanceMethod ({ cls := "DrawnGates$Matching", name := "mixInto", desc := "(J)J" } : Jvm.MethodName)) ∈ zTb := zk_in 701 (by decide +kernel) (by decide +kernel)
theorem zw_702 : (Jvm.Cond.selects "DrawnGates$Matching" ({ cls := "DrawnGates$Matching", name := "mixInto", desc := "(J)J" } : Jvm.MethodName) ({ cls := "DrawnGates$Matching", name := "mixInto", desc := "(J)J" } : Jvm.MethodName)) ∈ zTb := zk_in 702 (by decide +kernel) (by decide +kernel)
theorem zw_703 : (Jvm.Cond.code ({ cls := "DrawnGates$Matching", name := "mixInto", desc := "(J)J" } : Jvm.MethodName) prog_3_method_3_code (6 : Nat) (Option.some Jvm.ClassFile.FieldType.long)) ∈ zTb := zk_in 703 (by decide +kernel) (by decide +kernel)
theorem zw_704 : (Jvm.Cond.constantLong "DrawnGates$Matching" (73 : Nat) (31 : Int64)) ∈ zTb := zk_in 704 (by decide +kernel) (by decide +kernel)
theorem zw_707 : (Jvm.Cond.methodLink "DrawnGatesLaw" (12 : Nat) ({ cls := "DrawnGatesModel", name := "<init>", desc := "()V" } : Jvm.MethodName)) ∈ zTb := zk_in 707 (by decide +kernel) (by decide +kernel)
theorem zw_708 : (Jvm.Cond.instanceMethod ({ cls := "DrawnGatesModel", name := "<init>", desc := "()V" } : Jvm.MethodName)) ∈ zTb := zk_in 708 (by decide +kernel) (by decide +kernel)
theorem zw_709 : (Jvm.Cond.code ({ cls := "DrawnGatesModel", name := "<init>", desc := "()V" } : Jvm.MethodName) prog_7_method_1_code (1 : Nat) (Option.none : Option Jvm.ClassFile.FieldType)) ∈ zTb := zk_in 709 (by decide +kernel) (by decide +kernel)
theorem zw_710 : (Jvm.Cond.methodLink "DrawnGatesModel" (1 : Nat) ({ cls := "java/lang/Object", name := "<init>", desc := "()V" } : Jvm.MethodName)) ∈ zTb := zk_in 710 (by decide +kernel) (by decide +kernel)
theorem zw_711 : (Jvm.Cond.fieldLink "DrawnGatesModel" (7 : Nat) "DrawnGatesModel" "now" "[I") ∈ zTb := zk_in 711 (by decide +kernel) (by decide +kernel)
theorem zw_712 : (Jvm.Cond.fieldLink "DrawnGatesModel" (13 : Nat) "DrawnGatesModel" "held" "[I") ∈ zTb := zk_in 712 (by decide +kernel) (by decide +kernel)
theorem zw_713 : (Jvm.Cond.fieldLink "DrawnGatesModel" (16 : Nat) "DrawnGatesModel" "past" "[I") ∈ zTb := zk_in 713 (by decide +kernel) (by decide +kernel)
theorem zw_714 : (Jvm.Cond.fieldLink "DrawnGatesModel" (52 : Nat) "DrawnGatesModel" "pasts" "I") ∈ zTb := zk_in 714 (by decide +kernel) (by decide +kernel)
theorem zw_715 : (Jvm.Cond.fieldLink "DrawnGatesModel" (19 : Nat) "DrawnGatesModel" "refused" "[I") ∈ zTb := zk_in 715 (by decide +kernel) (by decide +kernel)
theorem zw_716 : (Jvm.Cond.fieldLink "DrawnGatesModel" (56 : Nat) "DrawnGatesModel" "isLaid" "Z") ∈ zTb := zk_in 716 (by decide +kernel) (by decide +kernel)
theorem zw_717 : (Jvm.Cond.fieldLink "DrawnGatesModel" (22 : Nat) "DrawnGatesModel" "nodeOf" "[I") ∈ zTb := zk_in 717 (by decide +kernel) (by decide +kernel)
theorem zw_718 : (Jvm.Cond.fieldLink "DrawnGatesModel" (144 : Nat) "DrawnGatesModel" "nodeMany" "I") ∈ zTb := zk_in 718 (by decide +kernel) (by decide +kernel)
theorem zw_719 : (Jvm.Cond.fieldLink "DrawnGatesModel" (157 : Nat) "DrawnGatesModel" "pieceMany" "I") ∈ zTb := zk_in 719 (by decide +kernel) (by decide +kernel)
theorem zw_720 : (Jvm.Cond.fieldLink "DrawnGatesModel" (25 : Nat) "DrawnGatesModel" "gateOf" "[I") ∈ zTb := zk_in 720 (by decide +kernel) (by decide +kernel)
theorem zw_721 : (Jvm.Cond.fieldLink "DrawnGatesModel" (131 : Nat) "DrawnGatesModel" "gateMany" "I") ∈ zTb := zk_in 721 (by decide +kernel) (by decide +kernel)
theorem zw_722 : (Jvm.Cond.fieldLink "DrawnGatesModel" (28 : Nat) "DrawnGatesModel" "row" "[I") ∈ zTb := zk_in 722 (by decide +kernel) (by decide +kernel)
theorem zw_723 : (Jvm.Cond.fieldLink "DrawnGatesModel" (117 : Nat) "DrawnGatesModel" "rowMany" "I") ∈ zTb := zk_in 723 (by decide +kernel) (by decide +kernel)
theorem zw_724 : (Jvm.Cond.fieldLink "DrawnGatesModel" (31 : Nat) "DrawnGatesModel" "gates" "[I") ∈ zTb := zk_in 724 (by decide +kernel) (by decide +kernel)
theorem zw_725 : (Jvm.Cond.fieldLink "DrawnGatesModel" (218 : Nat) "DrawnGatesModel" "wayMany" "I") ∈ zTb := zk_in 725 (by decide +kernel) (by decide +kernel)
theorem zw_726 : (Jvm.Cond.fieldLink "DrawnGatesModel" (34 : Nat) "DrawnGatesModel" "best" "[I") ∈ zTb := zk_in 726 (by decide +kernel) (by decide +kernel)
theorem zw_727 : (Jvm.Cond.fieldLink "DrawnGatesModel" (37 : Nat) "DrawnGatesModel" "choice" "[I") ∈ zTb := zk_in 727 (by decide +kernel) (by decide +kernel)
theorem zw_728 : (Jvm.Cond.fieldLink "DrawnGatesModel" (40 : Nat) "DrawnGatesModel" "netAt" "[I") ∈ zTb := zk_in 728 (by decide +kernel) (by decide +kernel)
theorem zw_729 : (Jvm.Cond.fieldLink "DrawnGatesModel" (43 : Nat) "DrawnGatesModel" "text" "[I") ∈ zTb := zk_in 729 (by decide +kernel) (by decide +kernel)
theorem zw_730 : (Jvm.Cond.fieldLink "DrawnGatesModel" (237 : Nat) "DrawnGatesModel" "typed" "I") ∈ zTb := zk_in 730 (by decide +kernel) (by decide +kernel)
theorem zw_731 : (Jvm.Cond.fieldLink "DrawnGatesModel" (240 : Nat) "DrawnGatesModel" "at" "I") ∈ zTb := zk_in 731 (by decide +kernel) (by decide +kernel)
theorem zw_732 : (Jvm.Cond.fieldLink "DrawnGatesModel" (243 : Nat) "DrawnGatesModel" "fault" "I") ∈ zTb := zk_in 732 (by decide +kernel) (by decide +kernel)
theorem zw_733 : (Jvm.Cond.fieldLink "DrawnGatesModel" (256 : Nat) "DrawnGatesModel" "orders" "I") ∈ zTb := zk_in 733 (by decide +kernel) (by decide +kernel)
theorem zw_734 : (Jvm.Cond.fieldLink "DrawnGatesModel" (46 : Nat) "DrawnGatesModel" "letters" "[I") ∈ zTb := zk_in 734 (by decide +kernel) (by decide +kernel)
theorem zw_735 : (Jvm.Cond.fieldLink "DrawnGatesModel" (49 : Nat) "DrawnGatesModel" "numbers" "[I") ∈ zTb := zk_in 735 (by decide +kernel) (by decide +kernel)
theorem zw_736 : (Jvm.Cond.fieldLink "DrawnGatesModel" (270 : Nat) "DrawnGatesModel" "h" "J") ∈ zTb := zk_in 736 (by decide +kernel) (by decide +kernel)
theorem zw_790 : (Jvm.Cond.methodLink "DrawnGatesLaw" (105 : Nat) ({ cls := "DrawnGatesModel", name := "back", desc := "()I" } : Jvm.MethodName)) ∈ zTb := zk_in 790 (by decide +kernel) (by decide +kernel)
theorem zw_791 : (Jvm.Cond.instanceMethod ({ cls := "DrawnGatesModel", name := "back", desc := "()I" } : Jvm.MethodName)) ∈ zTb := zk_in 791 (by decide +kernel) (by decide +kernel)
theorem zw_792 : (Jvm.Cond.selects "DrawnGatesModel" ({ cls := "DrawnGatesModel", name := "back", desc := "()I" } : Jvm.MethodName) ({ cls := "DrawnGatesModel", name := "back", desc := "()I" } : Jvm.MethodName)) ∈ zTb := zk_in 792 (by decide +kernel) (by decide +kernel)
theorem zw_793 : (Jvm.Cond.code ({ cls := "DrawnGatesModel", name := "back", desc := "()I" } : Jvm.MethodName) prog_7_method_7_code (2 : Nat) (Option.some Jvm.ClassFile.FieldType.int)) ∈ zTb := zk_in 793 (by decide +kernel) (by decide +kernel)
theorem zw_794 : (Jvm.Cond.methodLink "DrawnGatesModel" (60 : Nat) ({ cls := "DrawnGatesModel", name := "refuses", desc := "(I)I" } : Jvm.MethodName)) ∈ zTb := zk_in 794 (by decide +kernel) (by decide +kernel)
theorem zw_796 : (Jvm.Cond.instanceMethod ({ cls := "DrawnGatesModel", name := "refuses", desc := "(I)I" } : Jvm.MethodName)) ∈ zTb := zk_in 796 (by decide +kernel) (by decide +kernel)
theorem zw_797 : (Jvm.Cond.code ({ cls := "DrawnGatesModel", name := "refuses", desc := "(I)I" } : Jvm.MethodName) prog_7_method_3_code (2 : Nat) (Option.some Jvm.ClassFile.FieldType.int)) ∈ zTb := zk_in 797 (by decide +kernel) (by decide +kernel)
theorem zw_798 : (Jvm.Cond.methodLink "DrawnGatesLaw" (17 : Nat) ({ cls := "DrawnGatesModel", name := "draws", desc := "(IIIII)I" } : Jvm.MethodName)) ∈ zTb := zk_in 798 (by decide +kernel) (by decide +kernel)
theorem zw_799 : (Jvm.Cond.instanceMethod ({ cls := "DrawnGatesModel", name := "draws", desc := "(IIIII)I" } : Jvm.MethodName)) ∈ zTb := zk_in 799 (by decide +kernel) (by decide +kernel)
theorem zw_800 : (Jvm.Cond.selects "DrawnGatesModel" ({ cls := "DrawnGatesModel", name := "draws", desc := "(IIIII)I" } : Jvm.MethodName) ({ cls := "DrawnGatesModel", name := "draws", desc := "(IIIII)I" } : Jvm.MethodName)) ∈ zTb := zk_in 800 (by decide +kernel) (by decide +kernel)
theorem zw_801 : (Jvm.Cond.code ({ cls := "DrawnGatesModel", name := "draws", desc := "(IIIII)I" } : Jvm.MethodName) prog_7_method_18_code (6 : Nat) (Option.some Jvm.ClassFile.FieldType.int)) ∈ zTb := zk_in 801 (by decide +kernel) (by decide +kernel)
theorem zw_802 : (Jvm.Cond.methodLink "DrawnGatesModel" (90 : Nat) ({ cls := "DrawnGatesModel", name := "hold", desc := "()V" } : Jvm.MethodName)) ∈ zTb := zk_in 802 (by decide +kernel) (by decide +kernel)
theorem zw_804 : (Jvm.Cond.instanceMethod ({ cls := "DrawnGatesModel", name := "hold", desc := "()V" } : Jvm.MethodName)) ∈ zTb := zk_in 804 (by decide +kernel) (by decide +kernel)
theorem zw_805 : (Jvm.Cond.code ({ cls := "DrawnGatesModel", name := "hold", desc := "()V" } : Jvm.MethodName) prog_7_method_4_code (2 : Nat) (Option.none : Option Jvm.ClassFile.FieldType)) ∈ zTb := zk_in 805 (by decide +kernel) (by decide +kernel)
theorem zw_806 : (Jvm.Cond.methodLink "DrawnGatesModel" (93 : Nat) ({ cls := "DrawnGatesModel", name := "paint", desc := "(IIIIIZ)I" } : Jvm.MethodName)) ∈ zTb := zk_in 806 (by decide +kernel) (by decide +kernel)
theorem zw_808 : (Jvm.Cond.instanceMethod ({ cls := "DrawnGatesModel", name := "paint", desc := "(IIIIIZ)I" } : Jvm.MethodName)) ∈ zTb := zk_in 808 (by decide +kernel) (by decide +kernel)
theorem zw_809 : (Jvm.Cond.code ({ cls := "DrawnGatesModel", name := "paint", desc := "(IIIIIZ)I" } : Jvm.MethodName) prog_7_method_11_code (10 : Nat) (Option.some Jvm.ClassFile.FieldType.int)) ∈ zTb := zk_in 809 (by decide +kernel) (by decide +kernel)
theorem zw_810 : (Jvm.Cond.methodLink "DrawnGatesModel" (67 : Nat) ({ cls := "DrawnGatesModel", name := "in", desc := "(III)Z" } : Jvm.MethodName)) ∈ zTb := zk_in 810 (by decide +kernel) (by decide +kernel)
theorem zw_811 : (Jvm.Cond.static ({ cls := "DrawnGatesModel", name := "in", desc := "(III)Z" } : Jvm.MethodName)) ∈ zTb := zk_in 811 (by decide +kernel) (by decide +kernel)
theorem zw_812 : (Jvm.Cond.code ({ cls := "DrawnGatesModel", name := "in", desc := "(III)Z" } : Jvm.MethodName) prog_7_method_2_code (3 : Nat) (Option.some Jvm.ClassFile.FieldType.boolean)) ∈ zTb := zk_in 812 (by decide +kernel) (by decide +kernel)
theorem zw_813 : (Jvm.Cond.methodLink "DrawnGatesModel" (71 : Nat) ({ cls := "DrawnGatesModel", name := "isCell", desc := "(II)Z" } : Jvm.MethodName)) ∈ zTb := zk_in 813 (by decide +kernel) (by decide +kernel)
theorem zw_814 : (Jvm.Cond.static ({ cls := "DrawnGatesModel", name := "isCell", desc := "(II)Z" } : Jvm.MethodName)) ∈ zTb := zk_in 814 (by decide +kernel) (by decide +kernel)
theorem zw_815 : (Jvm.Cond.code ({ cls := "DrawnGatesModel", name := "isCell", desc := "(II)Z" } : Jvm.MethodName) prog_7_method_10_code (2 : Nat) (Option.some Jvm.ClassFile.FieldType.boolean)) ∈ zTb := zk_in 815 (by decide +kernel) (by decide +kernel)
theorem zw_816 : (Jvm.Cond.methodLink "DrawnGatesModel" (75 : Nat) ({ cls := "DrawnGatesModel", name := "isDrawn", desc := "(II)Z" } : Jvm.MethodName)) ∈ zTb := zk_in 816 (by decide +kernel) (by decide +kernel)
theorem zw_818 : (Jvm.Cond.instanceMethod ({ cls := "DrawnGatesModel", name := "isDrawn", desc := "(II)Z" } : Jvm.MethodName)) ∈ zTb := zk_in 818 (by decide +kernel) (by decide +kernel)
theorem zw_819 : (Jvm.Cond.code ({ cls := "DrawnGatesModel", name := "isDrawn", desc := "(II)Z" } : Jvm.MethodName) prog_7_method_8_code (3 : Nat) (Option.some Jvm.ClassFile.FieldType.boolean)) ∈ zTb := zk_in 819 (by decide +kernel) (by decide +kernel)
theorem zw_820 : (Jvm.Cond.methodLink "DrawnGatesModel" (78 : Nat) ({ cls := "DrawnGatesModel", name := "flip", desc := "(II)V" } : Jvm.MethodName)) ∈ zTb := zk_in 820 (by decide +kernel) (by decide +kernel)
theorem zw_822 : (Jvm.Cond.instanceMethod ({ cls := "DrawnGatesModel", name := "flip", desc := "(II)V" } : Jvm.MethodName)) ∈ zTb := zk_in 822 (by decide +kernel) (by decide +kernel)
theorem zw_823 : (Jvm.Cond.code ({ cls := "DrawnGatesModel", name := "flip", desc := "(II)V" } : Jvm.MethodName) prog_7_method_9_code (3 : Nat) (Option.none : Option Jvm.ClassFile.FieldType)) ∈ zTb := zk_in 823 (by decide +kernel) (by decide +kernel)
theorem zw_824 : (Jvm.Cond.methodLink "DrawnGatesModel" (97 : Nat) ({ cls := "DrawnGatesModel", name := "ends", desc := "(I)I" } : Jvm.MethodName)) ∈ zTb := zk_in 824 (by decide +kernel) (by decide +kernel)
theorem zw_826 : (Jvm.Cond.instanceMethod ({ cls := "DrawnGatesModel", name := "ends", desc := "(I)I" } : Jvm.MethodName)) ∈ zTb := zk_in 826 (by decide +kernel) (by decide +kernel)
theorem zw_827 : (Jvm.Cond.code ({ cls := "DrawnGatesModel", name := "ends", desc := "(I)I" } : Jvm.MethodName) prog_7_method_6_code (2 : Nat) (Option.some Jvm.ClassFile.FieldType.int)) ∈ zTb := zk_in 827 (by decide +kernel) (by decide +kernel)
theorem zw_828 : (Jvm.Cond.methodLink "DrawnGatesModel" (64 : Nat) ({ cls := "DrawnGatesModel", name := "push", desc := "()V" } : Jvm.MethodName)) ∈ zTb := zk_in 828 (by decide +kernel) (by decide +kernel)
theorem zw_830 : (Jvm.Cond.instanceMethod ({ cls := "DrawnGatesModel", name := "push", desc := "()V" } : Jvm.MethodName)) ∈ zTb := zk_in 830 (by decide +kernel) (by decide +kernel)
theorem zw_831 : (Jvm.Cond.code ({ cls := "DrawnGatesModel", name := "push", desc := "()V" } : Jvm.MethodName) prog_7_method_5_code (2 : Nat) (Option.none : Option Jvm.ClassFile.FieldType)) ∈ zTb := zk_in 831 (by decide +kernel) (by decide +kernel)
theorem zw_832 : (Jvm.Cond.methodLink "DrawnGatesLaw" (21 : Nat) ({ cls := "DrawnGatesModel", name := "rubs", desc := "(IIIII)I" } : Jvm.MethodName)) ∈ zTb := zk_in 832 (by decide +kernel) (by decide +kernel)
theorem zw_833 : (Jvm.Cond.instanceMethod ({ cls := "DrawnGatesModel", name := "rubs", desc := "(IIIII)I" } : Jvm.MethodName)) ∈ zTb := zk_in 833 (by decide +kernel) (by decide +kernel)
theorem zw_834 : (Jvm.Cond.selects "DrawnGatesModel" ({ cls := "DrawnGatesModel", name := "rubs", desc := "(IIIII)I" } : Jvm.MethodName) ({ cls := "DrawnGatesModel", name := "rubs", desc := "(IIIII)I" } : Jvm.MethodName)) ∈ zTb := zk_in 834 (by decide +kernel) (by decide +kernel)
theorem zw_835 : (Jvm.Cond.code ({ cls := "DrawnGatesModel", name := "rubs", desc := "(IIIII)I" } : Jvm.MethodName) prog_7_method_19_code (6 : Nat) (Option.some Jvm.ClassFile.FieldType.int)) ∈ zTb := zk_in 835 (by decide +kernel) (by decide +kernel)
theorem zw_836 : (Jvm.Cond.methodLink "DrawnGatesLaw" (26 : Nat) ({ cls := "DrawnGatesModel", name := "moves", desc := "(III)I" } : Jvm.MethodName)) ∈ zTb := zk_in 836 (by decide +kernel) (by decide +kernel)
theorem zw_837 : (Jvm.Cond.instanceMethod ({ cls := "DrawnGatesModel", name := "moves", desc := "(III)I" } : Jvm.MethodName)) ∈ zTb := zk_in 837 (by decide +kernel) (by decide +kernel)
theorem zw_838 : (Jvm.Cond.selects "DrawnGatesModel" ({ cls := "DrawnGatesModel", name := "moves", desc := "(III)I" } : Jvm.MethodName) ({ cls := "DrawnGatesModel", name := "moves", desc := "(III)I" } : Jvm.MethodName)) ∈ zTb := zk_in 838 (by decide +kernel) (by decide +kernel)
theorem zw_839 : (Jvm.Cond.code ({ cls := "DrawnGatesModel", name := "moves", desc := "(III)I" } : Jvm.MethodName) prog_7_method_20_code (4 : Nat) (Option.some Jvm.ClassFile.FieldType.int)) ∈ zTb := zk_in 839 (by decide +kernel) (by decide +kernel)
theorem zw_840 : (Jvm.Cond.methodLink "DrawnGatesModel" (100 : Nat) ({ cls := "DrawnGatesModel", name := "doMoves", desc := "(III)I" } : Jvm.MethodName)) ∈ zTb := zk_in 840 (by decide +kernel) (by decide +kernel)
theorem zw_842 : (Jvm.Cond.instanceMethod ({ cls := "DrawnGatesModel", name := "doMoves", desc := "(III)I" } : Jvm.MethodName)) ∈ zTb := zk_in 842 (by decide +kernel) (by decide +kernel)
theorem zw_843 : (Jvm.Cond.code ({ cls := "DrawnGatesModel", name := "doMoves", desc := "(III)I" } : Jvm.MethodName) prog_7_method_12_code (11 : Nat) (Option.some Jvm.ClassFile.FieldType.int)) ∈ zTb := zk_in 843 (by decide +kernel) (by decide +kernel)
theorem zw_844 : (Jvm.Cond.methodLink "DrawnGatesLaw" (30 : Nat) ({ cls := "DrawnGatesModel", name := "means", desc := "(III)I" } : Jvm.MethodName)) ∈ zTb := zk_in 844 (by decide +kernel) (by decide +kernel)
theorem zw_845 : (Jvm.Cond.instanceMethod ({ cls := "DrawnGatesModel", name := "means", desc := "(III)I" } : Jvm.MethodName)) ∈ zTb := zk_in 845 (by decide +kernel) (by decide +kernel)
theorem zw_846 : (Jvm.Cond.selects "DrawnGatesModel" ({ cls := "DrawnGatesModel", name := "means", desc := "(III)I" } : Jvm.MethodName) ({ cls := "DrawnGatesModel", name := "means", desc := "(III)I" } : Jvm.MethodName)) ∈ zTb := zk_in 846 (by decide +kernel) (by decide +kernel)
theorem zw_847 : (Jvm.Cond.code ({ cls := "DrawnGatesModel", name := "means", desc := "(III)I" } : Jvm.MethodName) prog_7_method_21_code (4 : Nat) (Option.some Jvm.ClassFile.FieldType.int)) ∈ zTb := zk_in 847 (by decide +kernel) (by decide +kernel)
theorem zw_848 : (Jvm.Cond.methodLink "DrawnGatesModel" (104 : Nat) ({ cls := "DrawnGatesModel", name := "doMeans", desc := "(III)I" } : Jvm.MethodName)) ∈ zTb := zk_in 848 (by decide +kernel) (by decide +kernel)
theorem zw_850 : (Jvm.Cond.instanceMethod ({ cls := "DrawnGatesModel", name := "doMeans", desc := "(III)I" } : Jvm.MethodName)) ∈ zTb := zk_in 850 (by decide +kernel) (by decide +kernel)
theorem zw_851 : (Jvm.Cond.code ({ cls := "DrawnGatesModel", name := "doMeans", desc := "(III)I" } : Jvm.MethodName) prog_7_method_14_code (4 : Nat) (Option.some Jvm.ClassFile.FieldType.int)) ∈ zTb := zk_in 851 (by decide +kernel) (by decide +kernel)
theorem zw_852 : (Jvm.Cond.methodLink "DrawnGatesModel" (82 : Nat) ({ cls := "DrawnGatesModel", name := "isNet", desc := "(I)Z" } : Jvm.MethodName)) ∈ zTb := zk_in 852 (by decide +kernel) (by decide +kernel)
theorem zw_853 : (Jvm.Cond.static ({ cls := "DrawnGatesModel", name := "isNet", desc := "(I)Z" } : Jvm.MethodName)) ∈ zTb := zk_in 853 (by decide +kernel) (by decide +kernel)
theorem zw_854 : (Jvm.Cond.code ({ cls := "DrawnGatesModel", name := "isNet", desc := "(I)Z" } : Jvm.MethodName) prog_7_method_13_code (1 : Nat) (Option.some Jvm.ClassFile.FieldType.boolean)) ∈ zTb := zk_in 854 (by decide +kernel) (by decide +kernel)
theorem zw_855 : (Jvm.Cond.methodLink "DrawnGatesModel" (86 : Nat) ({ cls := "DrawnGatesModel", name := "add", desc := "(IIII)I" } : Jvm.MethodName)) ∈ zTb := zk_in 855 (by decide +kernel) (by decide +kernel)
theorem zw_857 : (Jvm.Cond.instanceMethod ({ cls := "DrawnGatesModel", name := "add", desc := "(IIII)I" } : Jvm.MethodName)) ∈ zTb := zk_in 857 (by decide +kernel) (by decide +kernel)
theorem zw_858 : (Jvm.Cond.code ({ cls := "DrawnGatesModel", name := "add", desc := "(IIII)I" } : Jvm.MethodName) prog_7_method_15_code (6 : Nat) (Option.some Jvm.ClassFile.FieldType.int)) ∈ zTb := zk_in 858 (by decide +kernel) (by decide +kernel)
theorem zw_859 : (Jvm.Cond.methodLink "DrawnGatesLaw" (34 : Nat) ({ cls := "DrawnGatesModel", name := "pins", desc := "(III)I" } : Jvm.MethodName)) ∈ zTb := zk_in 859 (by decide +kernel) (by decide +kernel)
theorem zw_860 : (Jvm.Cond.instanceMethod ({ cls := "DrawnGatesModel", name := "pins", desc := "(III)I" } : Jvm.MethodName)) ∈ zTb := zk_in 860 (by decide +kernel) (by decide +kernel)
theorem zw_861 : (Jvm.Cond.selects "DrawnGatesModel" ({ cls := "DrawnGatesModel", name := "pins", desc := "(III)I" } : Jvm.MethodName) ({ cls := "DrawnGatesModel", name := "pins", desc := "(III)I" } : Jvm.MethodName)) ∈ zTb := zk_in 861 (by decide +kernel) (by decide +kernel)
theorem zw_862 : (Jvm.Cond.code ({ cls := "DrawnGatesModel", name := "pins", desc := "(III)I" } : Jvm.MethodName) prog_7_method_22_code (4 : Nat) (Option.some Jvm.ClassFile.FieldType.int)) ∈ zTb := zk_in 862 (by decide +kernel) (by decide +kernel)
theorem zw_863 : (Jvm.Cond.methodLink "DrawnGatesModel" (107 : Nat) ({ cls := "DrawnGatesModel", name := "doPins", desc := "(III)I" } : Jvm.MethodName)) ∈ zTb := zk_in 863 (by decide +kernel) (by decide +kernel)
theorem zw_865 : (Jvm.Cond.instanceMethod ({ cls := "DrawnGatesModel", name := "doPins", desc := "(III)I" } : Jvm.MethodName)) ∈ zTb := zk_in 865 (by decide +kernel) (by decide +kernel)
theorem zw_866 : (Jvm.Cond.code ({ cls := "DrawnGatesModel", name := "doPins", desc := "(III)I" } : Jvm.MethodName) prog_7_method_16_code (4 : Nat) (Option.some Jvm.ClassFile.FieldType.int)) ∈ zTb := zk_in 866 (by decide +kernel) (by decide +kernel)
theorem zw_867 : (Jvm.Cond.methodLink "DrawnGatesLaw" (39 : Nat) ({ cls := "DrawnGatesModel", name := "forgets", desc := "()I" } : Jvm.MethodName)) ∈ zTb := zk_in 867 (by decide +kernel) (by decide +kernel)
theorem zw_868 : (Jvm.Cond.instanceMethod ({ cls := "DrawnGatesModel", name := "forgets", desc := "()I" } : Jvm.MethodName)) ∈ zTb := zk_in 868 (by decide +kernel) (by decide +kernel)
theorem zw_869 : (Jvm.Cond.selects "DrawnGatesModel" ({ cls := "DrawnGatesModel", name := "forgets", desc := "()I" } : Jvm.MethodName) ({ cls := "DrawnGatesModel", name := "forgets", desc := "()I" } : Jvm.MethodName)) ∈ zTb := zk_in 869 (by decide +kernel) (by decide +kernel)
theorem zw_870 : (Jvm.Cond.code ({ cls := "DrawnGatesModel", name := "forgets", desc := "()I" } : Jvm.MethodName) prog_7_method_23_code (1 : Nat) (Option.some Jvm.ClassFile.FieldType.int)) ∈ zTb := zk_in 870 (by decide +kernel) (by decide +kernel)
theorem zw_871 : (Jvm.Cond.methodLink "DrawnGatesModel" (110 : Nat) ({ cls := "DrawnGatesModel", name := "doForgets", desc := "()I" } : Jvm.MethodName)) ∈ zTb := zk_in 871 (by decide +kernel) (by decide +kernel)
theorem zw_873 : (Jvm.Cond.instanceMethod ({ cls := "DrawnGatesModel", name := "doForgets", desc := "()I" } : Jvm.MethodName)) ∈ zTb := zk_in 873 (by decide +kernel) (by decide +kernel)
theorem zw_874 : (Jvm.Cond.code ({ cls := "DrawnGatesModel", name := "doForgets", desc := "()I" } : Jvm.MethodName) prog_7_method_17_code (2 : Nat) (Option.some Jvm.ClassFile.FieldType.int)) ∈ zTb := zk_in 874 (by decide +kernel) (by decide +kernel)
theorem zw_875 : (Jvm.Cond.methodLink "DrawnGatesLaw" (43 : Nat) ({ cls := "DrawnGatesModel", name := "at", desc := "(III)I" } : Jvm.MethodName)) ∈ zTb := zk_in 875 (by decide +kernel) (by decide +kernel)
theorem zw_876 : (Jvm.Cond.instanceMethod ({ cls := "DrawnGatesModel", name := "at", desc := "(III)I" } : Jvm.MethodName)) ∈ zTb := zk_in 876 (by decide +kernel) (by decide +kernel)
theorem zw_877 : (Jvm.Cond.selects "DrawnGatesModel" ({ cls := "DrawnGatesModel", name := "at", desc := "(III)I" } : Jvm.MethodName) ({ cls := "DrawnGatesModel", name := "at", desc := "(III)I" } : Jvm.MethodName)) ∈ zTb := zk_in 877 (by decide +kernel) (by decide +kernel)
theorem zw_878 : (Jvm.Cond.code ({ cls := "DrawnGatesModel", name := "at", desc := "(III)I" } : Jvm.MethodName) prog_7_method_38_code (4 : Nat) (Option.some Jvm.ClassFile.FieldType.int)) ∈ zTb := zk_in 878 (by decide +kernel) (by decide +kernel)
theorem zw_879 : (Jvm.Cond.methodLink "DrawnGatesLaw" (47 : Nat) ({ cls := "DrawnGatesModel", name := "node", desc := "(III)I" } : Jvm.MethodName)) ∈ zTb := zk_in 879 (by decide +kernel) (by decide +kernel)
theorem zw_880 : (Jvm.Cond.instanceMethod ({ cls := "DrawnGatesModel", name := "node", desc := "(III)I" } : Jvm.MethodName)) ∈ zTb := zk_in 880 (by decide +kernel) (by decide +kernel)
theorem zw_881 : (Jvm.Cond.selects "DrawnGatesModel" ({ cls := "DrawnGatesModel", name := "node", desc := "(III)I" } : Jvm.MethodName) ({ cls := "DrawnGatesModel", name := "node", desc := "(III)I" } : Jvm.MethodName)) ∈ zTb := zk_in 881 (by decide +kernel) (by decide +kernel)
theorem zw_882 : (Jvm.Cond.code ({ cls := "DrawnGatesModel", name := "node", desc := "(III)I" } : Jvm.MethodName) prog_7_method_39_code (4 : Nat) (Option.some Jvm.ClassFile.FieldType.int)) ∈ zTb := zk_in 882 (by decide +kernel) (by decide +kernel)
theorem zw_883 : (Jvm.Cond.methodLink "DrawnGatesModel" (169 : Nat) ({ cls := "DrawnGatesModel", name := "lay", desc := "()V" } : Jvm.MethodName)) ∈ zTb := zk_in 883 (by decide +kernel) (by decide +kernel)
theorem zw_885 : (Jvm.Cond.instanceMethod ({ cls := "DrawnGatesModel", name := "lay", desc := "()V" } : Jvm.MethodName)) ∈ zTb := zk_in 885 (by decide +kernel) (by decide +kernel)
theorem zw_886 : (Jvm.Cond.code ({ cls := "DrawnGatesModel", name := "lay", desc := "()V" } : Jvm.MethodName) prog_7_method_37_code (1 : Nat) (Option.none : Option Jvm.ClassFile.FieldType)) ∈ zTb := zk_in 886 (by decide +kernel) (by decide +kernel)
theorem zw_887 : (Jvm.Cond.methodLink "DrawnGatesModel" (153 : Nat) ({ cls := "DrawnGatesModel", name := "hang", desc := "(Z)I" } : Jvm.MethodName)) ∈ zTb := zk_in 887 (by decide +kernel) (by decide +kernel)
theorem zw_889 : (Jvm.Cond.instanceMethod ({ cls := "DrawnGatesModel", name := "hang", desc := "(Z)I" } : Jvm.MethodName)) ∈ zTb := zk_in 889 (by decide +kernel) (by decide +kernel)
theorem zw_890 : (Jvm.Cond.code ({ cls := "DrawnGatesModel", name := "hang", desc := "(Z)I" } : Jvm.MethodName) prog_7_method_28_code (5 : Nat) (Option.some Jvm.ClassFile.FieldType.int)) ∈ zTb := zk_in 890 (by decide +kernel) (by decide +kernel)
theorem zw_891 : (Jvm.Cond.methodLink "DrawnGatesModel" (114 : Nat) ({ cls := "DrawnGatesModel", name := "isWire", desc := "(I)Z" } : Jvm.MethodName)) ∈ zTb := zk_in 891 (by decide +kernel) (by decide +kernel)
theorem zw_893 : (Jvm.Cond.instanceMethod ({ cls := "DrawnGatesModel", name := "isWire", desc := "(I)Z" } : Jvm.MethodName)) ∈ zTb := zk_in 893 (by decide +kernel) (by decide +kernel)
theorem zw_894 : (Jvm.Cond.code ({ cls := "DrawnGatesModel", name := "isWire", desc := "(I)Z" } : Jvm.MethodName) prog_7_method_25_code (3 : Nat) (Option.some Jvm.ClassFile.FieldType.boolean)) ∈ zTb := zk_in 894 (by decide +kernel) (by decide +kernel)
theorem zw_895 : (Jvm.Cond.methodLink "DrawnGatesModel" (120 : Nat) ({ cls := "DrawnGatesModel", name := "take", desc := "(II)V" } : Jvm.MethodName)) ∈ zTb := zk_in 895 (by decide +kernel) (by decide +kernel)
theorem zw_897 : (Jvm.Cond.instanceMethod ({ cls := "DrawnGatesModel", name := "take", desc := "(II)V" } : Jvm.MethodName)) ∈ zTb := zk_in 897 (by decide +kernel) (by decide +kernel)
theorem zw_898 : (Jvm.Cond.code ({ cls := "DrawnGatesModel", name := "take", desc := "(II)V" } : Jvm.MethodName) prog_7_method_27_code (3 : Nat) (Option.none : Option Jvm.ClassFile.FieldType)) ∈ zTb := zk_in 898 (by decide +kernel) (by decide +kernel)
theorem zw_899 : (Jvm.Cond.methodLink "DrawnGatesModel" (123 : Nat) ({ cls := "DrawnGatesModel", name := "goFrom", desc := "(IIZ)V" } : Jvm.MethodName)) ∈ zTb := zk_in 899 (by decide +kernel) (by decide +kernel)
theorem zw_901 : (Jvm.Cond.instanceMethod ({ cls := "DrawnGatesModel", name := "goFrom", desc := "(IIZ)V" } : Jvm.MethodName)) ∈ zTb := zk_in 901 (by decide +kernel) (by decide +kernel)
theorem zw_902 : (Jvm.Cond.code ({ cls := "DrawnGatesModel", name := "goFrom", desc := "(IIZ)V" } : Jvm.MethodName) prog_7_method_29_code (7 : Nat) (Option.none : Option Jvm.ClassFile.FieldType)) ∈ zTb := zk_in 902 (by decide +kernel) (by decide +kernel)
theorem zw_903 : (Jvm.Cond.methodLink "DrawnGatesModel" (127 : Nat) ({ cls := "DrawnGatesModel", name := "beside", desc := "(II)I" } : Jvm.MethodName)) ∈ zTb := zk_in 903 (by decide +kernel) (by decide +kernel)
theorem zw_904 : (Jvm.Cond.static ({ cls := "DrawnGatesModel", name := "beside", desc := "(II)I" } : Jvm.MethodName)) ∈ zTb := zk_in 904 (by decide +kernel) (by decide +kernel)
theorem zw_905 : (Jvm.Cond.code ({ cls := "DrawnGatesModel", name := "beside", desc := "(II)I" } : Jvm.MethodName) prog_7_method_26_code (4 : Nat) (Option.some Jvm.ClassFile.FieldType.int)) ∈ zTb := zk_in 905 (by decide +kernel) (by decide +kernel)
theorem zw_906 : (Jvm.Cond.methodLink "DrawnGatesModel" (160 : Nat) ({ cls := "DrawnGatesModel", name := "findGates", desc := "()V" } : Jvm.MethodName)) ∈ zTb := zk_in 906 (by decide +kernel) (by decide +kernel)
theorem zw_908 : (Jvm.Cond.instanceMethod ({ cls := "DrawnGatesModel", name := "findGates", desc := "()V" } : Jvm.MethodName)) ∈ zTb := zk_in 908 (by decide +kernel) (by decide +kernel)
theorem zw_909 : (Jvm.Cond.code ({ cls := "DrawnGatesModel", name := "findGates", desc := "()V" } : Jvm.MethodName) prog_7_method_30_code (3 : Nat) (Option.none : Option Jvm.ClassFile.FieldType)) ∈ zTb := zk_in 909 (by decide +kernel) (by decide +kernel)
theorem zw_910 : (Jvm.Cond.methodLink "DrawnGatesModel" (134 : Nat) ({ cls := "DrawnGatesModel", name := "isGateCell", desc := "(I)Z" } : Jvm.MethodName)) ∈ zTb := zk_in 910 (by decide +kernel) (by decide +kernel)
theorem zw_912 : (Jvm.Cond.instanceMethod ({ cls := "DrawnGatesModel", name := "isGateCell", desc := "(I)Z" } : Jvm.MethodName)) ∈ zTb := zk_in 912 (by decide +kernel) (by decide +kernel)
theorem zw_913 : (Jvm.Cond.code ({ cls := "DrawnGatesModel", name := "isGateCell", desc := "(I)Z" } : Jvm.MethodName) prog_7_method_24_code (2 : Nat) (Option.some Jvm.ClassFile.FieldType.boolean)) ∈ zTb := zk_in 913 (by decide +kernel) (by decide +kernel)
theorem zw_914 : (Jvm.Cond.methodLink "DrawnGatesModel" (137 : Nat) ({ cls := "DrawnGatesModel", name := "goGate", desc := "(I)V" } : Jvm.MethodName)) ∈ zTb := zk_in 914 (by decide +kernel) (by decide +kernel)
theorem zw_916 : (Jvm.Cond.instanceMethod ({ cls := "DrawnGatesModel", name := "goGate", desc := "(I)V" } : Jvm.MethodName)) ∈ zTb := zk_in 916 (by decide +kernel) (by decide +kernel)
theorem zw_917 : (Jvm.Cond.code ({ cls := "DrawnGatesModel", name := "goGate", desc := "(I)V" } : Jvm.MethodName) prog_7_method_31_code (4 : Nat) (Option.none : Option Jvm.ClassFile.FieldType)) ∈ zTb := zk_in 917 (by decide +kernel) (by decide +kernel)
theorem zw_918 : (Jvm.Cond.methodLink "DrawnGatesModel" (163 : Nat) ({ cls := "DrawnGatesModel", name := "findSides", desc := "()V" } : Jvm.MethodName)) ∈ zTb := zk_in 918 (by decide +kernel) (by decide +kernel)
theorem zw_920 : (Jvm.Cond.instanceMethod ({ cls := "DrawnGatesModel", name := "findSides", desc := "()V" } : Jvm.MethodName)) ∈ zTb := zk_in 920 (by decide +kernel) (by decide +kernel)
theorem zw_921 : (Jvm.Cond.code ({ cls := "DrawnGatesModel", name := "findSides", desc := "()V" } : Jvm.MethodName) prog_7_method_33_code (4 : Nat) (Option.none : Option Jvm.ClassFile.FieldType)) ∈ zTb := zk_in 921 (by decide +kernel) (by decide +kernel)
theorem zw_922 : (Jvm.Cond.methodLink "DrawnGatesModel" (141 : Nat) ({ cls := "DrawnGatesModel", name := "countSides", desc := "(I)V" } : Jvm.MethodName)) ∈ zTb := zk_in 922 (by decide +kernel) (by decide +kernel)
theorem zw_924 : (Jvm.Cond.instanceMethod ({ cls := "DrawnGatesModel", name := "countSides", desc := "(I)V" } : Jvm.MethodName)) ∈ zTb := zk_in 924 (by decide +kernel) (by decide +kernel)
theorem zw_925 : (Jvm.Cond.code ({ cls := "DrawnGatesModel", name := "countSides", desc := "(I)V" } : Jvm.MethodName) prog_7_method_35_code (6 : Nat) (Option.none : Option Jvm.ClassFile.FieldType)) ∈ zTb := zk_in 925 (by decide +kernel) (by decide +kernel)
theorem zw_926 : (Jvm.Cond.methodLink "DrawnGatesModel" (147 : Nat) ({ cls := "DrawnGatesModel", name := "isSide", desc := "(II)Z" } : Jvm.MethodName)) ∈ zTb := zk_in 926 (by decide +kernel) (by decide +kernel)
theorem zw_928 : (Jvm.Cond.instanceMethod ({ cls := "DrawnGatesModel", name := "isSide", desc := "(II)Z" } : Jvm.MethodName)) ∈ zTb := zk_in 928 (by decide +kernel) (by decide +kernel)
theorem zw_929 : (Jvm.Cond.code ({ cls := "DrawnGatesModel", name := "isSide", desc := "(II)Z" } : Jvm.MethodName) prog_7_method_34_code (7 : Nat) (Option.some Jvm.ClassFile.FieldType.boolean)) ∈ zTb := zk_in 929 (by decide +kernel) (by decide +kernel)
theorem zw_930 : (Jvm.Cond.methodLink "DrawnGatesModel" (166 : Nat) ({ cls := "DrawnGatesModel", name := "findMatches", desc := "()V" } : Jvm.MethodName)) ∈ zTb := zk_in 930 (by decide +kernel) (by decide +kernel)
theorem zw_932 : (Jvm.Cond.instanceMethod ({ cls := "DrawnGatesModel", name := "findMatches", desc := "()V" } : Jvm.MethodName)) ∈ zTb := zk_in 932 (by decide +kernel) (by decide +kernel)
theorem zw_933 : (Jvm.Cond.code ({ cls := "DrawnGatesModel", name := "findMatches", desc := "()V" } : Jvm.MethodName) prog_7_method_61_code (3 : Nat) (Option.none : Option Jvm.ClassFile.FieldType)) ∈ zTb := zk_in 933 (by decide +kernel) (by decide +kernel)
theorem zw_934 : (Jvm.Cond.methodLink "DrawnGatesModel" (200 : Nat) ({ cls := "DrawnGatesModel", name := "wells", desc := "()I" } : Jvm.MethodName)) ∈ zTb := zk_in 934 (by decide +kernel) (by decide +kernel)
theorem zw_936 : (Jvm.Cond.instanceMethod ({ cls := "DrawnGatesModel", name := "wells", desc := "()I" } : Jvm.MethodName)) ∈ zTb := zk_in 936 (by decide +kernel) (by decide +kernel)
theorem zw_937 : (Jvm.Cond.code ({ cls := "DrawnGatesModel", name := "wells", desc := "()I" } : Jvm.MethodName) prog_7_method_49_code (3 : Nat) (Option.some Jvm.ClassFile.FieldType.int)) ∈ zTb := zk_in 937 (by decide +kernel) (by decide +kernel)
theorem zw_938 : (Jvm.Cond.methodLink "DrawnGatesModel" (181 : Nat) ({ cls := "DrawnGatesModel", name := "isWell", desc := "(I)Z" } : Jvm.MethodName)) ∈ zTb := zk_in 938 (by decide +kernel) (by decide +kernel)
theorem zw_940 : (Jvm.Cond.instanceMethod ({ cls := "DrawnGatesModel", name := "isWell", desc := "(I)Z" } : Jvm.MethodName)) ∈ zTb := zk_in 940 (by decide +kernel) (by decide +kernel)
theorem zw_941 : (Jvm.Cond.code ({ cls := "DrawnGatesModel", name := "isWell", desc := "(I)Z" } : Jvm.MethodName) prog_7_method_36_code (2 : Nat) (Option.some Jvm.ClassFile.FieldType.boolean)) ∈ zTb := zk_in 941 (by decide +kernel) (by decide +kernel)
theorem zw_942 : (Jvm.Cond.methodLink "DrawnGatesModel" (150 : Nat) ({ cls := "DrawnGatesModel", name := "ofGate", desc := "(II)I" } : Jvm.MethodName)) ∈ zTb := zk_in 942 (by decide +kernel) (by decide +kernel)
theorem zw_944 : (Jvm.Cond.instanceMethod ({ cls := "DrawnGatesModel", name := "ofGate", desc := "(II)I" } : Jvm.MethodName)) ∈ zTb := zk_in 944 (by decide +kernel) (by decide +kernel)
theorem zw_945 : (Jvm.Cond.code ({ cls := "DrawnGatesModel", name := "ofGate", desc := "(II)I" } : Jvm.MethodName) prog_7_method_32_code (3 : Nat) (Option.some Jvm.ClassFile.FieldType.int)) ∈ zTb := zk_in 945 (by decide +kernel) (by decide +kernel)
theorem zw_946 : (Jvm.Cond.methodLink "DrawnGatesModel" (221 : Nat) ({ cls := "DrawnGatesModel", name := "isBegun", desc := "()Z" } : Jvm.MethodName)) ∈ zTb := zk_in 946 (by decide +kernel) (by decide +kernel)
theorem zw_948 : (Jvm.Cond.instanceMethod ({ cls := "DrawnGatesModel", name := "isBegun", desc := "()Z" } : Jvm.MethodName)) ∈ zTb := zk_in 948 (by decide +kernel) (by decide +kernel)
theorem zw_949 : (Jvm.Cond.code ({ cls := "DrawnGatesModel", name := "isBegun", desc := "()Z" } : Jvm.MethodName) prog_7_method_57_code (4 : Nat) (Option.some Jvm.ClassFile.FieldType.boolean)) ∈ zTb := zk_in 949 (by decide +kernel) (by decide +kernel)
theorem zw_950 : (Jvm.Cond.methodLink "DrawnGatesModel" (175 : Nat) ({ cls := "DrawnGatesModel", name := "pinNode", desc := "(I)I" } : Jvm.MethodName)) ∈ zTb := zk_in 950 (by decide +kernel) (by decide +kernel)
theorem zw_952 : (Jvm.Cond.instanceMethod ({ cls := "DrawnGatesModel", name := "pinNode", desc := "(I)I" } : Jvm.MethodName)) ∈ zTb := zk_in 952 (by decide +kernel) (by decide +kernel)
theorem zw_953 : (Jvm.Cond.code ({ cls := "DrawnGatesModel", name := "pinNode", desc := "(I)I" } : Jvm.MethodName) prog_7_method_42_code (2 : Nat) (Option.some Jvm.ClassFile.FieldType.int)) ∈ zTb := zk_in 953 (by decide +kernel) (by decide +kernel)
theorem zw_954 : (Jvm.Cond.methodLink "DrawnGatesModel" (172 : Nat) ({ cls := "DrawnGatesModel", name := "ofPin", desc := "(II)I" } : Jvm.MethodName)) ∈ zTb := zk_in 954 (by decide +kernel) (by decide +kernel)
theorem zw_956 : (Jvm.Cond.instanceMethod ({ cls := "DrawnGatesModel", name := "ofPin", desc := "(II)I" } : Jvm.MethodName)) ∈ zTb := zk_in 956 (by decide +kernel) (by decide +kernel)
theorem zw_957 : (Jvm.Cond.code ({ cls := "DrawnGatesModel", name := "ofPin", desc := "(II)I" } : Jvm.MethodName) prog_7_method_41_code (3 : Nat) (Option.some Jvm.ClassFile.FieldType.int)) ∈ zTb := zk_in 957 (by decide +kernel) (by decide +kernel)
theorem zw_958 : (Jvm.Cond.methodLink "DrawnGatesModel" (215 : Nat) ({ cls := "DrawnGatesModel", name := "isPut", desc := "(III)Z" } : Jvm.MethodName)) ∈ zTb := zk_in 958 (by decide +kernel) (by decide +kernel)
theorem zw_960 : (Jvm.Cond.instanceMethod ({ cls := "DrawnGatesModel", name := "isPut", desc := "(III)Z" } : Jvm.MethodName)) ∈ zTb := zk_in 960 (by decide +kernel) (by decide +kernel)
theorem zw_961 : (Jvm.Cond.code ({ cls := "DrawnGatesModel", name := "isPut", desc := "(III)Z" } : Jvm.MethodName) prog_7_method_58_code (7 : Nat) (Option.some Jvm.ClassFile.FieldType.boolean)) ∈ zTb := zk_in 961 (by decide +kernel) (by decide +kernel)
theorem zw_962 : (Jvm.Cond.methodLink "DrawnGatesModel" (225 : Nat) ({ cls := "DrawnGatesModel", name := "found", desc := "()V" } : Jvm.MethodName)) ∈ zTb := zk_in 962 (by decide +kernel) (by decide +kernel)
theorem zw_964 : (Jvm.Cond.instanceMethod ({ cls := "DrawnGatesModel", name := "found", desc := "()V" } : Jvm.MethodName)) ∈ zTb := zk_in 964 (by decide +kernel) (by decide +kernel)
theorem zw_965 : (Jvm.Cond.code ({ cls := "DrawnGatesModel", name := "found", desc := "()V" } : Jvm.MethodName) prog_7_method_60_code (6 : Nat) (Option.none : Option Jvm.ClassFile.FieldType)) ∈ zTb := zk_in 965 (by decide +kernel) (by decide +kernel)
theorem zw_966 : (Jvm.Cond.methodLink "DrawnGatesModel" (228 : Nat) ({ cls := "DrawnGatesModel", name := "isChosen", desc := "(II)Z" } : Jvm.MethodName)) ∈ zTb := zk_in 966 (by decide +kernel) (by decide +kernel)
theorem zw_968 : (Jvm.Cond.instanceMethod ({ cls := "DrawnGatesModel", name := "isChosen", desc := "(II)Z" } : Jvm.MethodName)) ∈ zTb := zk_in 968 (by decide +kernel) (by decide +kernel)
theorem zw_969 : (Jvm.Cond.code ({ cls := "DrawnGatesModel", name := "isChosen", desc := "(II)Z" } : Jvm.MethodName) prog_7_method_59_code (8 : Nat) (Option.some Jvm.ClassFile.FieldType.boolean)) ∈ zTb := zk_in 969 (by decide +kernel) (by decide +kernel)
theorem zw_970 : (Jvm.Cond.methodLink "DrawnGatesModel" (178 : Nat) ({ cls := "DrawnGatesModel", name := "ofDevice", desc := "(II)I" } : Jvm.MethodName)) ∈ zTb := zk_in 970 (by decide +kernel) (by decide +kernel)
theorem zw_972 : (Jvm.Cond.instanceMethod ({ cls := "DrawnGatesModel", name := "ofDevice", desc := "(II)I" } : Jvm.MethodName)) ∈ zTb := zk_in 972 (by decide +kernel) (by decide +kernel)
theorem zw_973 : (Jvm.Cond.code ({ cls := "DrawnGatesModel", name := "ofDevice", desc := "(II)I" } : Jvm.MethodName) prog_7_method_40_code (3 : Nat) (Option.some Jvm.ClassFile.FieldType.int)) ∈ zTb := zk_in 973 (by decide +kernel) (by decide +kernel)
theorem zw_974 : (Jvm.Cond.methodLink "DrawnGatesLaw" (52 : Nat) ({ cls := "DrawnGatesModel", name := "count", desc := "(I)I" } : Jvm.MethodName)) ∈ zTb := zk_in 974 (by decide +kernel) (by decide +kernel)
theorem zw_975 : (Jvm.Cond.instanceMethod ({ cls := "DrawnGatesModel", name := "count", desc := "(I)I" } : Jvm.MethodName)) ∈ zTb := zk_in 975 (by decide +kernel) (by decide +kernel)
theorem zw_976 : (Jvm.Cond.selects "DrawnGatesModel" ({ cls := "DrawnGatesModel", name := "count", desc := "(I)I" } : Jvm.MethodName) ({ cls := "DrawnGatesModel", name := "count", desc := "(I)I" } : Jvm.MethodName)) ∈ zTb := zk_in 976 (by decide +kernel) (by decide +kernel)
theorem zw_977 : (Jvm.Cond.code ({ cls := "DrawnGatesModel", name := "count", desc := "(I)I" } : Jvm.MethodName) prog_7_method_52_code (2 : Nat) (Option.some Jvm.ClassFile.FieldType.int)) ∈ zTb := zk_in 977 (by decide +kernel) (by decide +kernel)
theorem zw_978 : (Jvm.Cond.methodLink "DrawnGatesModel" (209 : Nat) ({ cls := "DrawnGatesModel", name := "counted", desc := "(I)I" } : Jvm.MethodName)) ∈ zTb := zk_in 978 (by decide +kernel) (by decide +kernel)
theorem zw_980 : (Jvm.Cond.instanceMethod ({ cls := "DrawnGatesModel", name := "counted", desc := "(I)I" } : Jvm.MethodName)) ∈ zTb := zk_in 980 (by decide +kernel) (by decide +kernel)
theorem zw_981 : (Jvm.Cond.code ({ cls := "DrawnGatesModel", name := "counted", desc := "(I)I" } : Jvm.MethodName) prog_7_method_51_code (2 : Nat) (Option.some Jvm.ClassFile.FieldType.int)) ∈ zTb := zk_in 981 (by decide +kernel) (by decide +kernel)
theorem zw_982 : (Jvm.Cond.methodLink "DrawnGatesModel" (203 : Nat) ({ cls := "DrawnGatesModel", name := "pairs", desc := "(Z)I" } : Jvm.MethodName)) ∈ zTb := zk_in 982 (by decide +kernel) (by decide +kernel)
theorem zw_984 : (Jvm.Cond.instanceMethod ({ cls := "DrawnGatesModel", name := "pairs", desc := "(Z)I" } : Jvm.MethodName)) ∈ zTb := zk_in 984 (by decide +kernel) (by decide +kernel)
theorem zw_985 : (Jvm.Cond.code ({ cls := "DrawnGatesModel", name := "pairs", desc := "(Z)I" } : Jvm.MethodName) prog_7_method_43_code (7 : Nat) (Option.some Jvm.ClassFile.FieldType.int)) ∈ zTb := zk_in 985 (by decide +kernel) (by decide +kernel)
theorem zw_986 : (Jvm.Cond.methodLink "DrawnGatesModel" (206 : Nat) ({ cls := "DrawnGatesModel", name := "unlike", desc := "()I" } : Jvm.MethodName)) ∈ zTb := zk_in 986 (by decide +kernel) (by decide +kernel)
theorem zw_988 : (Jvm.Cond.instanceMethod ({ cls := "DrawnGatesModel", name := "unlike", desc := "()I" } : Jvm.MethodName)) ∈ zTb := zk_in 988 (by decide +kernel) (by decide +kernel)
theorem zw_989 : (Jvm.Cond.code ({ cls := "DrawnGatesModel", name := "unlike", desc := "()I" } : Jvm.MethodName) prog_7_method_50_code (7 : Nat) (Option.some Jvm.ClassFile.FieldType.int)) ∈ zTb := zk_in 989 (by decide +kernel) (by decide +kernel)
theorem zw_990 : (Jvm.Cond.methodLink "DrawnGatesModel" (194 : Nat) ({ cls := "DrawnGatesModel", name := "kindOfDevice", desc := "(I)I" } : Jvm.MethodName)) ∈ zTb := zk_in 990 (by decide +kernel) (by decide +kernel)
theorem zw_992 : (Jvm.Cond.instanceMethod ({ cls := "DrawnGatesModel", name := "kindOfDevice", desc := "(I)I" } : Jvm.MethodName)) ∈ zTb := zk_in 992 (by decide +kernel) (by decide +kernel)
theorem zw_993 : (Jvm.Cond.code ({ cls := "DrawnGatesModel", name := "kindOfDevice", desc := "(I)I" } : Jvm.MethodName) prog_7_method_47_code (2 : Nat) (Option.some Jvm.ClassFile.FieldType.int)) ∈ zTb := zk_in 993 (by decide +kernel) (by decide +kernel)
theorem zw_994 : (Jvm.Cond.methodLink "DrawnGatesModel" (185 : Nat) ({ cls := "DrawnGatesModel", name := "netHangs", desc := "(I)I" } : Jvm.MethodName)) ∈ zTb := zk_in 994 (by decide +kernel) (by decide +kernel)
theorem zw_996 : (Jvm.Cond.instanceMethod ({ cls := "DrawnGatesModel", name := "netHangs", desc := "(I)I" } : Jvm.MethodName)) ∈ zTb := zk_in 996 (by decide +kernel) (by decide +kernel)
theorem zw_997 : (Jvm.Cond.code ({ cls := "DrawnGatesModel", name := "netHangs", desc := "(I)I" } : Jvm.MethodName) prog_7_method_44_code (4 : Nat) (Option.some Jvm.ClassFile.FieldType.int)) ∈ zTb := zk_in 997 (by decide +kernel) (by decide +kernel)
theorem zw_998 : (Jvm.Cond.methodLink "DrawnGatesModel" (188 : Nat) ({ cls := "DrawnGatesModel", name := "kind", desc := "(III)I" } : Jvm.MethodName)) ∈ zTb := zk_in 998 (by decide +kernel) (by decide +kernel)
theorem zw_999 : (Jvm.Cond.static ({ cls := "DrawnGatesModel", name := "kind", desc := "(III)I" } : Jvm.MethodName)) ∈ zTb := zk_in 999 (by decide +kernel) (by decide +kernel)
theorem zw_1000 : (Jvm.Cond.code ({ cls := "DrawnGatesModel", name := "kind", desc := "(III)I" } : Jvm.MethodName) prog_7_method_46_code (4 : Nat) (Option.some Jvm.ClassFile.FieldType.int)) ∈ zTb := zk_in 1000 (by decide +kernel) (by decide +kernel)
theorem zw_1001 : (Jvm.Cond.constant "DrawnGatesModel" (184 : Nat) (1000000 : Int32)) ∈ zTb := zk_in 1001 (by decide +kernel) (by decide +kernel)
theorem zw_1002 : (Jvm.Cond.methodLink "DrawnGatesModel" (197 : Nat) ({ cls := "DrawnGatesModel", name := "kindOfGate", desc := "(I)I" } : Jvm.MethodName)) ∈ zTb := zk_in 1002 (by decide +kernel) (by decide +kernel)
theorem zw_1004 : (Jvm.Cond.instanceMethod ({ cls := "DrawnGatesModel", name := "kindOfGate", desc := "(I)I" } : Jvm.MethodName)) ∈ zTb := zk_in 1004 (by decide +kernel) (by decide +kernel)
theorem zw_1005 : (Jvm.Cond.code ({ cls := "DrawnGatesModel", name := "kindOfGate", desc := "(I)I" } : Jvm.MethodName) prog_7_method_48_code (2 : Nat) (Option.some Jvm.ClassFile.FieldType.int)) ∈ zTb := zk_in 1005 (by decide +kernel) (by decide +kernel)
theorem zw_1006 : (Jvm.Cond.methodLink "DrawnGatesModel" (191 : Nat) ({ cls := "DrawnGatesModel", name := "nodeHangs", desc := "(I)I" } : Jvm.MethodName)) ∈ zTb := zk_in 1006 (by decide +kernel) (by decide +kernel)
theorem zw_1008 : (Jvm.Cond.instanceMethod ({ cls := "DrawnGatesModel", name := "nodeHangs", desc := "(I)I" } : Jvm.MethodName)) ∈ zTb := zk_in 1008 (by decide +kernel) (by decide +kernel)
theorem zw_1009 : (Jvm.Cond.code ({ cls := "DrawnGatesModel", name := "nodeHangs", desc := "(I)I" } : Jvm.MethodName) prog_7_method_45_code (4 : Nat) (Option.some Jvm.ClassFile.FieldType.int)) ∈ zTb := zk_in 1009 (by decide +kernel) (by decide +kernel)
theorem zw_1010 : (Jvm.Cond.methodLink "DrawnGatesLaw" (57 : Nat) ({ cls := "DrawnGatesModel", name := "gateAt", desc := "(II)I" } : Jvm.MethodName)) ∈ zTb := zk_in 1010 (by decide +kernel) (by decide +kernel)
theorem zw_1011 : (Jvm.Cond.instanceMethod ({ cls := "DrawnGatesModel", name := "gateAt", desc := "(II)I" } : Jvm.MethodName)) ∈ zTb := zk_in 1011 (by decide +kernel) (by decide +kernel)
theorem zw_1012 : (Jvm.Cond.selects "DrawnGatesModel" ({ cls := "DrawnGatesModel", name := "gateAt", desc := "(II)I" } : Jvm.MethodName) ({ cls := "DrawnGatesModel", name := "gateAt", desc := "(II)I" } : Jvm.MethodName)) ∈ zTb := zk_in 1012 (by decide +kernel) (by decide +kernel)
theorem zw_1013 : (Jvm.Cond.code ({ cls := "DrawnGatesModel", name := "gateAt", desc := "(II)I" } : Jvm.MethodName) prog_7_method_53_code (3 : Nat) (Option.some Jvm.ClassFile.FieldType.int)) ∈ zTb := zk_in 1013 (by decide +kernel) (by decide +kernel)
theorem zw_1014 : (Jvm.Cond.methodLink "DrawnGatesLaw" (61 : Nat) ({ cls := "DrawnGatesModel", name := "gate", desc := "(II)I" } : Jvm.MethodName)) ∈ zTb := zk_in 1014 (by decide +kernel) (by decide +kernel)
theorem zw_1015 : (Jvm.Cond.instanceMethod ({ cls := "DrawnGatesModel", name := "gate", desc := "(II)I" } : Jvm.MethodName)) ∈ zTb := zk_in 1015 (by decide +kernel) (by decide +kernel)
theorem zw_1016 : (Jvm.Cond.selects "DrawnGatesModel" ({ cls := "DrawnGatesModel", name := "gate", desc := "(II)I" } : Jvm.MethodName) ({ cls := "DrawnGatesModel", name := "gate", desc := "(II)I" } : Jvm.MethodName)) ∈ zTb := zk_in 1016 (by decide +kernel) (by decide +kernel)
theorem zw_1017 : (Jvm.Cond.code ({ cls := "DrawnGatesModel", name := "gate", desc := "(II)I" } : Jvm.MethodName) prog_7_method_54_code (3 : Nat) (Option.some Jvm.ClassFile.FieldType.int)) ∈ zTb := zk_in 1017 (by decide +kernel) (by decide +kernel)
theorem zw_1018 : (Jvm.Cond.methodLink "DrawnGatesLaw" (65 : Nat) ({ cls := "DrawnGatesModel", name := "wire", desc := "(II)I" } : Jvm.MethodName)) ∈ zTb := zk_in 1018 (by decide +kernel) (by decide +kernel)
theorem zw_1019 : (Jvm.Cond.instanceMethod ({ cls := "DrawnGatesModel", name := "wire", desc := "(II)I" } : Jvm.MethodName)) ∈ zTb := zk_in 1019 (by decide +kernel) (by decide +kernel)
theorem zw_1020 : (Jvm.Cond.selects "DrawnGatesModel" ({ cls := "DrawnGatesModel", name := "wire", desc := "(II)I" } : Jvm.MethodName) ({ cls := "DrawnGatesModel", name := "wire", desc := "(II)I" } : Jvm.MethodName)) ∈ zTb := zk_in 1020 (by decide +kernel) (by decide +kernel)
theorem zw_1021 : (Jvm.Cond.code ({ cls := "DrawnGatesModel", name := "wire", desc := "(II)I" } : Jvm.MethodName) prog_7_method_56_code (3 : Nat) (Option.some Jvm.ClassFile.FieldType.int)) ∈ zTb := zk_in 1021 (by decide +kernel) (by decide +kernel)
theorem zw_1022 : (Jvm.Cond.methodLink "DrawnGatesModel" (212 : Nat) ({ cls := "DrawnGatesModel", name := "wireOf", desc := "(II)I" } : Jvm.MethodName)) ∈ zTb := zk_in 1022 (by decide +kernel) (by decide +kernel)
theorem zw_1024 : (Jvm.Cond.instanceMethod ({ cls := "DrawnGatesModel", name := "wireOf", desc := "(II)I" } : Jvm.MethodName)) ∈ zTb := zk_in 1024 (by decide +kernel) (by decide +kernel)
theorem zw_1025 : (Jvm.Cond.code ({ cls := "DrawnGatesModel", name := "wireOf", desc := "(II)I" } : Jvm.MethodName) prog_7_method_55_code (5 : Nat) (Option.some Jvm.ClassFile.FieldType.int)) ∈ zTb := zk_in 1025 (by decide +kernel) (by decide +kernel)
theorem zw_1026 : (Jvm.Cond.methodLink "DrawnGatesLaw" (69 : Nat) ({ cls := "DrawnGatesModel", name := "ways", desc := "()I" } : Jvm.MethodName)) ∈ zTb := zk_in 1026 (by decide +kernel) (by decide +kernel)
theorem zw_1027 : (Jvm.Cond.instanceMethod ({ cls := "DrawnGatesModel", name := "ways", desc := "()I" } : Jvm.MethodName)) ∈ zTb := zk_in 1027 (by decide +kernel) (by decide +kernel)
theorem zw_1028 : (Jvm.Cond.selects "DrawnGatesModel" ({ cls := "DrawnGatesModel", name := "ways", desc := "()I" } : Jvm.MethodName) ({ cls := "DrawnGatesModel", name := "ways", desc := "()I" } : Jvm.MethodName)) ∈ zTb := zk_in 1028 (by decide +kernel) (by decide +kernel)
theorem zw_1029 : (Jvm.Cond.code ({ cls := "DrawnGatesModel", name := "ways", desc := "()I" } : Jvm.MethodName) prog_7_method_63_code (1 : Nat) (Option.some Jvm.ClassFile.FieldType.int)) ∈ zTb := zk_in 1029 (by decide +kernel) (by decide +kernel)
theorem zw_1030 : (Jvm.Cond.methodLink "DrawnGatesModel" (231 : Nat) ({ cls := "DrawnGatesModel", name := "waysOf", desc := "()I" } : Jvm.MethodName)) ∈ zTb := zk_in 1030 (by decide +kernel) (by decide +kernel)
theorem zw_1032 : (Jvm.Cond.instanceMethod ({ cls := "DrawnGatesModel", name := "waysOf", desc := "()I" } : Jvm.MethodName)) ∈ zTb := zk_in 1032 (by decide +kernel) (by decide +kernel)
theorem zw_1033 : (Jvm.Cond.code ({ cls := "DrawnGatesModel", name := "waysOf", desc := "()I" } : Jvm.MethodName) prog_7_method_62_code (1 : Nat) (Option.some Jvm.ClassFile.FieldType.int)) ∈ zTb := zk_in 1033 (by decide +kernel) (by decide +kernel)
theorem zw_1034 : (Jvm.Cond.methodLink "DrawnGatesLaw" (73 : Nat) ({ cls := "DrawnGatesModel", name := "matched", desc := "(I)I" } : Jvm.MethodName)) ∈ zTb := zk_in 1034 (by decide +kernel) (by decide +kernel)
theorem zw_1035 : (Jvm.Cond.instanceMethod ({ cls := "DrawnGatesModel", name := "matched", desc := "(I)I" } : Jvm.MethodName)) ∈ zTb := zk_in 1035 (by decide +kernel) (by decide +kernel)
theorem zw_1036 : (Jvm.Cond.selects "DrawnGatesModel" ({ cls := "DrawnGatesModel", name := "matched", desc := "(I)I" } : Jvm.MethodName) ({ cls := "DrawnGatesModel", name := "matched", desc := "(I)I" } : Jvm.MethodName)) ∈ zTb := zk_in 1036 (by decide +kernel) (by decide +kernel)
theorem zw_1037 : (Jvm.Cond.code ({ cls := "DrawnGatesModel", name := "matched", desc := "(I)I" } : Jvm.MethodName) prog_7_method_65_code (2 : Nat) (Option.some Jvm.ClassFile.FieldType.int)) ∈ zTb := zk_in 1037 (by decide +kernel) (by decide +kernel)
theorem zw_1038 : (Jvm.Cond.methodLink "DrawnGatesModel" (234 : Nat) ({ cls := "DrawnGatesModel", name := "isDevice", desc := "(I)Z" } : Jvm.MethodName)) ∈ zTb := zk_in 1038 (by decide +kernel) (by decide +kernel)
theorem zw_1040 : (Jvm.Cond.instanceMethod ({ cls := "DrawnGatesModel", name := "isDevice", desc := "(I)Z" } : Jvm.MethodName)) ∈ zTb := zk_in 1040 (by decide +kernel) (by decide +kernel)
theorem zw_1041 : (Jvm.Cond.code ({ cls := "DrawnGatesModel", name := "isDevice", desc := "(I)Z" } : Jvm.MethodName) prog_7_method_64_code (2 : Nat) (Option.some Jvm.ClassFile.FieldType.boolean)) ∈ zTb := zk_in 1041 (by decide +kernel) (by decide +kernel)
theorem zw_1042 : (Jvm.Cond.methodLink "DrawnGatesLaw" (77 : Nat) ({ cls := "DrawnGatesModel", name := "net", desc := "(I)I" } : Jvm.MethodName)) ∈ zTb := zk_in 1042 (by decide +kernel) (by decide +kernel)
theorem zw_1043 : (Jvm.Cond.instanceMethod ({ cls := "DrawnGatesModel", name := "net", desc := "(I)I" } : Jvm.MethodName)) ∈ zTb := zk_in 1043 (by decide +kernel) (by decide +kernel)
theorem zw_1044 : (Jvm.Cond.selects "DrawnGatesModel" ({ cls := "DrawnGatesModel", name := "net", desc := "(I)I" } : Jvm.MethodName) ({ cls := "DrawnGatesModel", name := "net", desc := "(I)I" } : Jvm.MethodName)) ∈ zTb := zk_in 1044 (by decide +kernel) (by decide +kernel)
theorem zw_1045 : (Jvm.Cond.code ({ cls := "DrawnGatesModel", name := "net", desc := "(I)I" } : Jvm.MethodName) prog_7_method_66_code (2 : Nat) (Option.some Jvm.ClassFile.FieldType.int)) ∈ zTb := zk_in 1045 (by decide +kernel) (by decide +kernel)
theorem zw_1046 : (Jvm.Cond.methodLink "DrawnGatesLaw" (81 : Nat) ({ cls := "DrawnGatesModel", name := "device", desc := "(II)I" } : Jvm.MethodName)) ∈ zTb := zk_in 1046 (by decide +kernel) (by decide +kernel)
theorem zw_1047 : (Jvm.Cond.instanceMethod ({ cls := "DrawnGatesModel", name := "device", desc := "(II)I" } : Jvm.MethodName)) ∈ zTb := zk_in 1047 (by decide +kernel) (by decide +kernel)
theorem zw_1048 : (Jvm.Cond.selects "DrawnGatesModel" ({ cls := "DrawnGatesModel", name := "device", desc := "(II)I" } : Jvm.MethodName) ({ cls := "DrawnGatesModel", name := "device", desc := "(II)I" } : Jvm.MethodName)) ∈ zTb := zk_in 1048 (by decide +kernel) (by decide +kernel)
theorem zw_1049 : (Jvm.Cond.code ({ cls := "DrawnGatesModel", name := "device", desc := "(II)I" } : Jvm.MethodName) prog_7_method_67_code (3 : Nat) (Option.some Jvm.ClassFile.FieldType.int)) ∈ zTb := zk_in 1049 (by decide +kernel) (by decide +kernel)
theorem zw_1050 : (Jvm.Cond.methodLink "DrawnGatesLaw" (85 : Nat) ({ cls := "DrawnGatesModel", name := "pin", desc := "(II)I" } : Jvm.MethodName)) ∈ zTb := zk_in 1050 (by decide +kernel) (by decide +kernel)
theorem zw_1051 : (Jvm.Cond.instanceMethod ({ cls := "DrawnGatesModel", name := "pin", desc := "(II)I" } : Jvm.MethodName)) ∈ zTb := zk_in 1051 (by decide +kernel) (by decide +kernel)
theorem zw_1052 : (Jvm.Cond.selects "DrawnGatesModel" ({ cls := "DrawnGatesModel", name := "pin", desc := "(II)I" } : Jvm.MethodName) ({ cls := "DrawnGatesModel", name := "pin", desc := "(II)I" } : Jvm.MethodName)) ∈ zTb := zk_in 1052 (by decide +kernel) (by decide +kernel)
theorem zw_1053 : (Jvm.Cond.code ({ cls := "DrawnGatesModel", name := "pin", desc := "(II)I" } : Jvm.MethodName) prog_7_method_68_code (3 : Nat) (Option.some Jvm.ClassFile.FieldType.int)) ∈ zTb := zk_in 1053 (by decide +kernel) (by decide +kernel)
theorem zw_1054 : (Jvm.Cond.methodLink "DrawnGatesLaw" (89 : Nat) ({ cls := "DrawnGatesModel", name := "hangs", desc := "(I)I" } : Jvm.MethodName)) ∈ zTb := zk_in 1054 (by decide +kernel) (by decide +kernel)
theorem zw_1055 : (Jvm.Cond.instanceMethod ({ cls := "DrawnGatesModel", name := "hangs", desc := "(I)I" } : Jvm.MethodName)) ∈ zTb := zk_in 1055 (by decide +kernel) (by decide +kernel)
theorem zw_1056 : (Jvm.Cond.selects "DrawnGatesModel" ({ cls := "DrawnGatesModel", name := "hangs", desc := "(I)I" } : Jvm.MethodName) ({ cls := "DrawnGatesModel", name := "hangs", desc := "(I)I" } : Jvm.MethodName)) ∈ zTb := zk_in 1056 (by decide +kernel) (by decide +kernel)
theorem zw_1057 : (Jvm.Cond.code ({ cls := "DrawnGatesModel", name := "hangs", desc := "(I)I" } : Jvm.MethodName) prog_7_method_69_code (2 : Nat) (Option.some Jvm.ClassFile.FieldType.int)) ∈ zTb := zk_in 1057 (by decide +kernel) (by decide +kernel)
theorem zw_1058 : (Jvm.Cond.methodLink "DrawnGatesLaw" (93 : Nat) ({ cls := "DrawnGatesModel", name := "type", desc := "(I)I" } : Jvm.MethodName)) ∈ zTb := zk_in 1058 (by decide +kernel) (by decide +kernel)
theorem zw_1059 : (Jvm.Cond.instanceMethod ({ cls := "DrawnGatesModel", name := "type", desc := "(I)I" } : Jvm.MethodName)) ∈ zTb := zk_in 1059 (by decide +kernel) (by decide +kernel)
theorem zw_1060 : (Jvm.Cond.selects "DrawnGatesModel" ({ cls := "DrawnGatesModel", name := "type", desc := "(I)I" } : Jvm.MethodName) ({ cls := "DrawnGatesModel", name := "type", desc := "(I)I" } : Jvm.MethodName)) ∈ zTb := zk_in 1060 (by decide +kernel) (by decide +kernel)
theorem zw_1061 : (Jvm.Cond.code ({ cls := "DrawnGatesModel", name := "type", desc := "(I)I" } : Jvm.MethodName) prog_7_method_70_code (2 : Nat) (Option.some Jvm.ClassFile.FieldType.int)) ∈ zTb := zk_in 1061 (by decide +kernel) (by decide +kernel)
theorem zw_1062 : (Jvm.Cond.methodLink "DrawnGatesLaw" (97 : Nat) ({ cls := "DrawnGatesModel", name := "clear", desc := "()I" } : Jvm.MethodName)) ∈ zTb := zk_in 1062 (by decide +kernel) (by decide +kernel)
theorem zw_1063 : (Jvm.Cond.instanceMethod ({ cls := "DrawnGatesModel", name := "clear", desc := "()I" } : Jvm.MethodName)) ∈ zTb := zk_in 1063 (by decide +kernel) (by decide +kernel)
theorem zw_1064 : (Jvm.Cond.selects "DrawnGatesModel" ({ cls := "DrawnGatesModel", name := "clear", desc := "()I" } : Jvm.MethodName) ({ cls := "DrawnGatesModel", name := "clear", desc := "()I" } : Jvm.MethodName)) ∈ zTb := zk_in 1064 (by decide +kernel) (by decide +kernel)
theorem zw_1065 : (Jvm.Cond.code ({ cls := "DrawnGatesModel", name := "clear", desc := "()I" } : Jvm.MethodName) prog_7_method_71_code (2 : Nat) (Option.some Jvm.ClassFile.FieldType.int)) ∈ zTb := zk_in 1065 (by decide +kernel) (by decide +kernel)
theorem zw_1066 : (Jvm.Cond.methodLink "DrawnGatesLaw" (101 : Nat) ({ cls := "DrawnGatesModel", name := "does", desc := "()I" } : Jvm.MethodName)) ∈ zTb := zk_in 1066 (by decide +kernel) (by decide +kernel)
theorem zw_1067 : (Jvm.Cond.instanceMethod ({ cls := "DrawnGatesModel", name := "does", desc := "()I" } : Jvm.MethodName)) ∈ zTb := zk_in 1067 (by decide +kernel) (by decide +kernel)
theorem zw_1068 : (Jvm.Cond.selects "DrawnGatesModel" ({ cls := "DrawnGatesModel", name := "does", desc := "()I" } : Jvm.MethodName) ({ cls := "DrawnGatesModel", name := "does", desc := "()I" } : Jvm.MethodName)) ∈ zTb := zk_in 1068 (by decide +kernel) (by decide +kernel)
theorem zw_1069 : (Jvm.Cond.code ({ cls := "DrawnGatesModel", name := "does", desc := "()I" } : Jvm.MethodName) prog_7_method_77_code (3 : Nat) (Option.some Jvm.ClassFile.FieldType.int)) ∈ zTb := zk_in 1069 (by decide +kernel) (by decide +kernel)
theorem zw_1070 : (Jvm.Cond.methodLink "DrawnGatesModel" (246 : Nat) ({ cls := "DrawnGatesModel", name := "here", desc := "()I" } : Jvm.MethodName)) ∈ zTb := zk_in 1070 (by decide +kernel) (by decide +kernel)
theorem zw_1072 : (Jvm.Cond.instanceMethod ({ cls := "DrawnGatesModel", name := "here", desc := "()I" } : Jvm.MethodName)) ∈ zTb := zk_in 1072 (by decide +kernel) (by decide +kernel)
theorem zw_1073 : (Jvm.Cond.code ({ cls := "DrawnGatesModel", name := "here", desc := "()I" } : Jvm.MethodName) prog_7_method_72_code (1 : Nat) (Option.some Jvm.ClassFile.FieldType.int)) ∈ zTb := zk_in 1073 (by decide +kernel) (by decide +kernel)
theorem zw_1074 : (Jvm.Cond.methodLink "DrawnGatesModel" (259 : Nat) ({ cls := "DrawnGatesModel", name := "readOrder", desc := "()V" } : Jvm.MethodName)) ∈ zTb := zk_in 1074 (by decide +kernel) (by decide +kernel)
theorem zw_1076 : (Jvm.Cond.instanceMethod ({ cls := "DrawnGatesModel", name := "readOrder", desc := "()V" } : Jvm.MethodName)) ∈ zTb := zk_in 1076 (by decide +kernel) (by decide +kernel)
theorem zw_1077 : (Jvm.Cond.code ({ cls := "DrawnGatesModel", name := "readOrder", desc := "()V" } : Jvm.MethodName) prog_7_method_75_code (5 : Nat) (Option.none : Option Jvm.ClassFile.FieldType)) ∈ zTb := zk_in 1077 (by decide +kernel) (by decide +kernel)
theorem zw_1078 : (Jvm.Cond.methodLink "DrawnGatesModel" (249 : Nat) ({ cls := "DrawnGatesModel", name := "numbersOf", desc := "(I)I" } : Jvm.MethodName)) ∈ zTb := zk_in 1078 (by decide +kernel) (by decide +kernel)
theorem zw_1079 : (Jvm.Cond.static ({ cls := "DrawnGatesModel", name := "numbersOf", desc := "(I)I" } : Jvm.MethodName)) ∈ zTb := zk_in 1079 (by decide +kernel) (by decide +kernel)
theorem zw_1080 : (Jvm.Cond.code ({ cls := "DrawnGatesModel", name := "numbersOf", desc := "(I)I" } : Jvm.MethodName) prog_7_method_74_code (1 : Nat) (Option.some Jvm.ClassFile.FieldType.int)) ∈ zTb := zk_in 1080 (by decide +kernel) (by decide +kernel)
theorem zw_1081 : (Jvm.Cond.methodLink "DrawnGatesModel" (252 : Nat) ({ cls := "DrawnGatesModel", name := "must", desc := "(Z)V" } : Jvm.MethodName)) ∈ zTb := zk_in 1081 (by decide +kernel) (by decide +kernel)
theorem zw_1083 : (Jvm.Cond.instanceMethod ({ cls := "DrawnGatesModel", name := "must", desc := "(Z)V" } : Jvm.MethodName)) ∈ zTb := zk_in 1083 (by decide +kernel) (by decide +kernel)
theorem zw_1084 : (Jvm.Cond.code ({ cls := "DrawnGatesModel", name := "must", desc := "(Z)V" } : Jvm.MethodName) prog_7_method_73_code (2 : Nat) (Option.none : Option Jvm.ClassFile.FieldType)) ∈ zTb := zk_in 1084 (by decide +kernel) (by decide +kernel)
theorem zw_1085 : (Jvm.Cond.methodLink "DrawnGatesModel" (262 : Nat) ({ cls := "DrawnGatesModel", name := "doOrder", desc := "(I)I" } : Jvm.MethodName)) ∈ zTb := zk_in 1085 (by decide +kernel) (by decide +kernel)
theorem zw_1087 : (Jvm.Cond.instanceMethod ({ cls := "DrawnGatesModel", name := "doOrder", desc := "(I)I" } : Jvm.MethodName)) ∈ zTb := zk_in 1087 (by decide +kernel) (by decide +kernel)
theorem zw_1088 : (Jvm.Cond.code ({ cls := "DrawnGatesModel", name := "doOrder", desc := "(I)I" } : Jvm.MethodName) prog_7_method_76_code (5 : Nat) (Option.some Jvm.ClassFile.FieldType.int)) ∈ zTb := zk_in 1088 (by decide +kernel) (by decide +kernel)
theorem zw_1089 : (Jvm.Cond.methodLink "DrawnGatesLaw" (109 : Nat) ({ cls := "DrawnGatesModel", name := "told", desc := "(I)I" } : Jvm.MethodName)) ∈ zTb := zk_in 1089 (by decide +kernel) (by decide +kernel)
theorem zw_1090 : (Jvm.Cond.instanceMethod ({ cls := "DrawnGatesModel", name := "told", desc := "(I)I" } : Jvm.MethodName)) ∈ zTb := zk_in 1090 (by decide +kernel) (by decide +kernel)
theorem zw_1091 : (Jvm.Cond.selects "DrawnGatesModel" ({ cls := "DrawnGatesModel", name := "told", desc := "(I)I" } : Jvm.MethodName) ({ cls := "DrawnGatesModel", name := "told", desc := "(I)I" } : Jvm.MethodName)) ∈ zTb := zk_in 1091 (by decide +kernel) (by decide +kernel)
theorem zw_1092 : (Jvm.Cond.code ({ cls := "DrawnGatesModel", name := "told", desc := "(I)I" } : Jvm.MethodName) prog_7_method_79_code (2 : Nat) (Option.some Jvm.ClassFile.FieldType.int)) ∈ zTb := zk_in 1092 (by decide +kernel) (by decide +kernel)
theorem zw_1093 : (Jvm.Cond.methodLink "DrawnGatesModel" (265 : Nat) ({ cls := "DrawnGatesModel", name := "toldOf", desc := "(I)I" } : Jvm.MethodName)) ∈ zTb := zk_in 1093 (by decide +kernel) (by decide +kernel)
theorem zw_1095 : (Jvm.Cond.instanceMethod ({ cls := "DrawnGatesModel", name := "toldOf", desc := "(I)I" } : Jvm.MethodName)) ∈ zTb := zk_in 1095 (by decide +kernel) (by decide +kernel)
theorem zw_1096 : (Jvm.Cond.code ({ cls := "DrawnGatesModel", name := "toldOf", desc := "(I)I" } : Jvm.MethodName) prog_7_method_78_code (2 : Nat) (Option.some Jvm.ClassFile.FieldType.int)) ∈ zTb := zk_in 1096 (by decide +kernel) (by decide +kernel)
theorem zw_1097 : (Jvm.Cond.methodLink "DrawnGatesLaw" (114 : Nat) ({ cls := "DrawnGatesModel", name := "digest", desc := "()J" } : Jvm.MethodName)) ∈ zTb := zk_in 1097 (by decide +kernel) (by decide +kernel)
theorem zw_1098 : (Jvm.Cond.instanceMethod ({ cls := "DrawnGatesModel", name := "digest", desc := "()J" } : Jvm.MethodName)) ∈ zTb := zk_in 1098 (by decide +kernel) (by decide +kernel)
theorem zw_1099 : (Jvm.Cond.selects "DrawnGatesModel" ({ cls := "DrawnGatesModel", name := "digest", desc := "()J" } : Jvm.MethodName) ({ cls := "DrawnGatesModel", name := "digest", desc := "()J" } : Jvm.MethodName)) ∈ zTb := zk_in 1099 (by decide +kernel) (by decide +kernel)
theorem zw_1100 : (Jvm.Cond.code ({ cls := "DrawnGatesModel", name := "digest", desc := "()J" } : Jvm.MethodName) prog_7_method_81_code (2 : Nat) (Option.some Jvm.ClassFile.FieldType.long)) ∈ zTb := zk_in 1100 (by decide +kernel) (by decide +kernel)
theorem zw_1101 : (Jvm.Cond.constantLong "DrawnGatesModel" (274 : Nat) (1682 : Int64)) ∈ zTb := zk_in 1101 (by decide +kernel) (by decide +kernel)
theorem zw_1102 : (Jvm.Cond.methodLink "DrawnGatesModel" (276 : Nat) ({ cls := "DrawnGatesModel", name := "mix", desc := "(J)V" } : Jvm.MethodName)) ∈ zTb := zk_in 1102 (by decide +kernel) (by decide +kernel)
theorem zw_1104 : (Jvm.Cond.instanceMethod ({ cls := "DrawnGatesModel", name := "mix", desc := "(J)V" } : Jvm.MethodName)) ∈ zTb := zk_in 1104 (by decide +kernel) (by decide +kernel)
theorem zw_1105 : (Jvm.Cond.code ({ cls := "DrawnGatesModel", name := "mix", desc := "(J)V" } : Jvm.MethodName) prog_7_method_80_code (3 : Nat) (Option.none : Option Jvm.ClassFile.FieldType)) ∈ zTb := zk_in 1105 (by decide +kernel) (by decide +kernel)
theorem zw_1106 : (Jvm.Cond.constantLong "DrawnGatesModel" (268 : Nat) (31 : Int64)) ∈ zTb := zk_in 1106 (by decide +kernel) (by decide +kernel)
theorem zw_1107 : (Jvm.Cond.constantLong "DrawnGatesModel" (280 : Nat) (4294967295 : Int64)) ∈ zTb := zk_in 1107 (by decide +kernel) (by decide +kernel)
theorem zy_J13_bitCount_95d88 : zYS yJ13_bitCount_95d88 cJ13_bitCount_95d88 2 (some .int) 1 := ⟨zw_316, zw_85, by decide +kernel, zw_315⟩
theorem zy_J13_numberOfTrailingZeros_95d88 : zYS yJ13_numberOfTrailingZeros_95d88 cJ13_numberOfTrailingZeros_95d88 3 (some .int) 1 := ⟨zw_597, zw_85, by decide +kernel, zw_596⟩
theorem zy_J6_numberOfTrailingZeros_0f7a4 : zYS yJ6_numberOfTrailingZeros_0f7a4 cJ6_numberOfTrailingZeros_0f7a4 2 (some .int) 1 := ⟨zw_600, zw_88, by decide +kernel, zw_599⟩
theorem zy_J7_fill_53178 : zYS yJ7_fill_53178 cJ7_fill_53178 4 none 2 := ⟨zw_473, zw_87, by decide +kernel, zw_472⟩
theorem zy_J9_max_7cf53 : zYS yJ9_max_7cf53 cJ9_max_7cf53 2 (some .int) 2 := ⟨zw_442, zw_86, by decide +kernel, zw_441⟩
theorem zy_J9_min_7cf53 : zYS yJ9_min_7cf53 cJ9_min_7cf53 2 (some .int) 2 := ⟨zw_439, zw_86, by decide +kernel, zw_438⟩
theorem zy_X0_addHang : zYV yX0_addHang cX0_addHang 3 none 2 := ⟨zw_477, zw_79, by decide +kernel, zw_476, zw_16⟩
theorem zy_X0_besideOf : zYS yX0_besideOf cX0_besideOf 6 (some .long) 1 := ⟨zw_422, zw_79, by decide +kernel, zw_421⟩
theorem zy_X0_cellsOf : zYV yX0_cellsOf cX0_cellsOf 2 (some .long) 1 := ⟨zw_415, zw_79, by decide +kernel, zw_414, zw_7⟩
theorem zy_X0_countOpens : zYV yX0_countOpens cX0_countOpens 7 (some .int) 1 := ⟨zw_503, zw_79, by decide +kernel, zw_501, zw_502⟩
theorem zy_X0_countShorts : zYV yX0_countShorts cX0_countShorts 6 (some .int) 1 := ⟨zw_487, zw_79, by decide +kernel, zw_485, zw_486⟩
theorem zy_X0_findGates : zYV yX0_findGates cX0_findGates 6 none 0 := ⟨zw_454, zw_79, by decide +kernel, zw_453, zw_13⟩
theorem zy_X0_findPieces : zYV yX0_findPieces cX0_findPieces 7 none 0 := ⟨zw_411, zw_79, by decide +kernel, zw_410, zw_6⟩
theorem zy_X0_findSides : zYV yX0_findSides cX0_findSides 8 none 1 := ⟨zw_462, zw_79, by decide +kernel, zw_461, zw_14⟩
theorem zy_X0_gateWith : zYV yX0_gateWith cX0_gateWith 4 (some .int) 1 := ⟨zw_585, zw_79, by decide +kernel, zw_583, zw_584⟩
theorem zy_X0_hangOf : zYV yX0_hangOf cX0_hangOf 2 (some .int) 1 := ⟨zw_541, zw_79, by decide +kernel, zw_539, zw_540⟩
theorem zy_X0_hangingTogether : zYS yX0_hangingTogether cX0_hangingTogether 7 (some .long) 1 := ⟨zw_419, zw_79, by decide +kernel, zw_418⟩
theorem zy_X0_isAsRead : zYV yX0_isAsRead cX0_isAsRead 3 (some .boolean) 1 := ⟨zw_406, zw_79, by decide +kernel, zw_405, zw_5⟩
theorem zy_X0_isWell : zYV yX0_isWell cX0_isWell 2 (some .boolean) 1 := ⟨zw_466, zw_79, by decide +kernel, zw_464, zw_465⟩
theorem zy_X0_join : zYV yX0_join cX0_join 6 none 2 := ⟨zw_436, zw_79, by decide +kernel, zw_435, zw_10⟩
theorem zy_X0_joinBelow : zYV yX0_joinBelow cX0_joinBelow 5 none 1 := ⟨zw_432, zw_79, by decide +kernel, zw_431, zw_9⟩
theorem zy_X0_joinPieces : zYV yX0_joinPieces cX0_joinPieces 2 none 0 := ⟨zw_428, zw_79, by decide +kernel, zw_427, zw_8⟩
theorem zy_X0_mixInto : zYV yX0_mixInto cX0_mixInto 7 (some .long) 1 := ⟨zw_695, zw_79, by decide +kernel, zw_693, zw_694⟩
theorem zy_X0_nodeWith : zYV yX0_nodeWith cX0_nodeWith 5 (some .int) 2 := ⟨zw_458, zw_79, by decide +kernel, zw_456, zw_457⟩
theorem zy_X0_numberNodes : zYV yX0_numberNodes cX0_numberNodes 3 none 0 := ⟨zw_446, zw_79, by decide +kernel, zw_445, zw_11⟩
theorem zy_X0_openNode : zYV yX0_openNode cX0_openNode 2 none 0 := ⟨zw_450, zw_79, by decide +kernel, zw_449, zw_12⟩
theorem zy_X0_pinNode : zYV yX0_pinNode cX0_pinNode 3 (some .int) 2 := ⟨zw_491, zw_79, by decide +kernel, zw_489, zw_490⟩
theorem zy_X0_refresh : zYV yX0_refresh cX0_refresh 2 none 1 := ⟨zw_402, zw_79, by decide +kernel, zw_400, zw_401⟩
theorem zy_X0_sizeOf : zYV yX0_sizeOf cX0_sizeOf 4 (some .int) 1 := ⟨zw_609, zw_79, by decide +kernel, zw_607, zw_608⟩
theorem zy_X0_tellGate : zYV yX0_tellGate cX0_tellGate 3 (some .int) 2 := ⟨zw_593, zw_79, by decide +kernel, zw_591, zw_592⟩
theorem zy_X0_weighNodes : zYV yX0_weighNodes cX0_weighNodes 2 none 0 := ⟨zw_470, zw_79, by decide +kernel, zw_469, zw_15⟩
theorem zy_X1_countLeftOver : zYV yX1_countLeftOver cX1_countLeftOver 5 (some .int) 0 := ⟨zw_547, zw_80, by decide +kernel, zw_546, zw_20⟩
theorem zy_X1_findLikes : zYV yX1_findLikes cX1_findLikes 3 none 0 := ⟨zw_515, zw_80, by decide +kernel, zw_514, zw_18⟩
theorem zy_X1_isBeforeFirst : zYV yX1_isBeforeFirst cX1_isBeforeFirst 3 (some .boolean) 1 := ⟨zw_571, zw_80, by decide +kernel, zw_570, zw_23⟩
theorem zy_X1_isLike : zYV yX1_isLike cX1_isLike 7 (some .boolean) 2 := ⟨zw_520, zw_80, by decide +kernel, zw_519, zw_19⟩
theorem zy_X1_mixInto : zYV yX1_mixInto cX1_mixInto 6 (some .long) 1 := ⟨zw_703, zw_80, by decide +kernel, zw_701, zw_702⟩
theorem zy_X1_place : zYS yX1_place cX1_place 5 none 2 := ⟨zw_560, zw_80, by decide +kernel, zw_559⟩
theorem zy_X1_record : zYV yX1_record cX1_record 2 none 1 := ⟨zw_567, zw_80, by decide +kernel, zw_566, zw_22⟩
theorem zy_X1_run : zYV yX1_run cX1_run 1 none 0 := ⟨zw_511, zw_80, by decide +kernel, zw_509, zw_510⟩
theorem zy_X1_tie : zYS yX1_tie cX1_tie 4 (some .boolean) 3 := ⟨zw_557, zw_80, by decide +kernel, zw_556⟩
theorem zy_X1_tiePins : zYV yX1_tiePins cX1_tiePins 4 (some .boolean) 1 := ⟨zw_552, zw_80, by decide +kernel, zw_551, zw_21⟩
theorem zy_X1_tieSides : zYV yX1_tieSides cX1_tieSides 6 (some .boolean) 3 := ⟨zw_577, zw_80, by decide +kernel, zw_576, zw_24⟩
theorem zy_X1_turn : zYS yX1_turn cX1_turn 4 none 2 := ⟨zw_563, zw_80, by decide +kernel, zw_562⟩
theorem zy_X2_addDevice : zYV yX2_addDevice cX2_addDevice 4 (some .int) 3 := ⟨zw_365, zw_78, by decide +kernel, zw_363, zw_364⟩
theorem zy_X2_addPin : zYV yX2_addPin cX2_addPin 4 (some .int) 3 := ⟨zw_376, zw_78, by decide +kernel, zw_374, zw_375⟩
theorem zy_X2_boxBits : zYS yX2_boxBits cX2_boxBits 9 (some .long) 4 := ⟨zw_312, zw_78, by decide +kernel, zw_311⟩
theorem zy_X2_dropMeant : zYV yX2_dropMeant cX2_dropMeant 2 (some .int) 0 := ⟨zw_384, zw_78, by decide +kernel, zw_382, zw_383⟩
theorem zy_X2_erase : zYV yX2_erase cX2_erase 8 (some .int) 5 := ⟨zw_343, zw_78, by decide +kernel, zw_341, zw_342⟩
theorem zy_X2_gateNet : zYV yX2_gateNet cX2_gateNet 2 (some .int) 1 := ⟨zw_524, zw_78, by decide +kernel, zw_522, zw_523⟩
theorem zy_X2_hangOf : zYV yX2_hangOf cX2_hangOf 4 (some .int) 1 := ⟨zw_528, zw_78, by decide +kernel, zw_526, zw_527⟩
theorem zy_X2_isBox : zYS yX2_isBox cX2_isBox 4 (some .boolean) 4 := ⟨zw_305, zw_78, by decide +kernel, zw_304⟩
theorem zy_X2_isStep : zYS yX2_isStep cX2_isStep 1 (some .boolean) 1 := ⟨zw_354, zw_78, by decide +kernel, zw_353⟩
theorem zy_X2_paint : zYV yX2_paint cX2_paint 8 (some .int) 5 := ⟨zw_299, zw_78, by decide +kernel, zw_297, zw_298⟩
theorem zy_X2_pinBit : zYV yX2_pinBit cX2_pinBit 2 (some .long) 1 := ⟨zw_495, zw_78, by decide +kernel, zw_493, zw_494⟩
theorem zy_X2_pinNet : zYV yX2_pinNet cX2_pinNet 2 (some .int) 1 := ⟨zw_499, zw_78, by decide +kernel, zw_497, zw_498⟩
theorem zy_X2_putThree : zYS yX2_putThree cX2_putThree 5 none 5 := ⟨zw_368, zw_78, by decide +kernel, zw_367⟩
theorem zy_X2_shift : zYV yX2_shift cX2_shift 8 (some .int) 3 := ⟨zw_351, zw_78, by decide +kernel, zw_349, zw_350⟩
theorem zy_X2_sideA : zYV yX2_sideA cX2_sideA 2 (some .int) 1 := ⟨zw_533, zw_78, by decide +kernel, zw_531, zw_532⟩
theorem zy_X2_sideB : zYV yX2_sideB cX2_sideB 2 (some .int) 1 := ⟨zw_537, zw_78, by decide +kernel, zw_535, zw_536⟩
theorem zy_X2_take : zYV yX2_take cX2_take 2 none 1 := ⟨zw_292, zw_78, by decide +kernel, zw_290, zw_291⟩
theorem zy_X3_add : zYV yX3_add cX3_add 2 (some .int) 1 := ⟨zw_644, zw_81, by decide +kernel, zw_642, zw_643⟩
theorem zy_X3_canStand : zYS yX3_canStand cX3_canStand 2 (some .boolean) 2 := ⟨zw_659, zw_81, by decide +kernel, zw_658⟩
theorem zy_X3_figuresOf : zYS yX3_figuresOf cX3_figuresOf 1 (some .int) 1 := ⟨zw_662, zw_81, by decide +kernel, zw_661⟩
theorem zy_X3_findFault : zYV yX3_findFault cX3_findFault 5 (some .int) 0 := ⟨zw_656, zw_81, by decide +kernel, zw_654, zw_655⟩
theorem zy_X3_perform : zYV yX3_perform cX3_perform 7 (some .int) 1 := ⟨zw_666, zw_81, by decide +kernel, zw_664, zw_665⟩
theorem zy_X3_performOne : zYV yX3_performOne cX3_performOne 4 (some .int) 2 := ⟨zw_670, zw_81, by decide +kernel, zw_669, zw_25⟩
theorem zy_X4_at : zYV yX4_at cX4_at 4 (some .int) 3 := ⟨zw_388, zw_77, by decide +kernel, zw_386, zw_387⟩
theorem zy_X4_back : zYV yX4_back cX4_back 1 (some .int) 0 := ⟨zw_679, zw_77, by decide +kernel, zw_677, zw_678⟩
theorem zy_X4_cellBit : zYS yX4_cellBit cX4_cellBit 2 (some .long) 2 := ⟨zw_357, zw_77, by decide +kernel, zw_356⟩
theorem zy_X4_clear : zYV yX4_clear cX4_clear 2 (some .int) 0 := ⟨zw_648, zw_77, by decide +kernel, zw_646, zw_647⟩
theorem zy_X4_count : zYV yX4_count cX4_count 2 (some .int) 1 := ⟨zw_483, zw_77, by decide +kernel, zw_481, zw_482⟩
theorem zy_X4_device : zYV yX4_device cX4_device 3 (some .int) 2 := ⟨zw_626, zw_77, by decide +kernel, zw_624, zw_625⟩
theorem zy_X4_digest : zYV yX4_digest cX4_digest 4 (some .long) 0 := ⟨zw_687, zw_77, by decide +kernel, zw_685, zw_686⟩
theorem zy_X4_does : zYV yX4_does cX4_does 3 (some .int) 0 := ⟨zw_652, zw_77, by decide +kernel, zw_650, zw_651⟩
theorem zy_X4_draws : zYV yX4_draws cX4_draws 6 (some .int) 5 := ⟨zw_288, zw_77, by decide +kernel, zw_286, zw_287⟩
theorem zy_X4_dropOldestState : zYV yX4_dropOldestState cX4_dropOldestState 3 none 0 := ⟨zw_335, zw_77, by decide +kernel, zw_334, zw_3⟩
theorem zy_X4_forgets : zYV yX4_forgets cX4_forgets 1 (some .int) 0 := ⟨zw_380, zw_77, by decide +kernel, zw_378, zw_379⟩
theorem zy_X4_gate : zYV yX4_gate cX4_gate 4 (some .int) 2 := ⟨zw_589, zw_77, by decide +kernel, zw_587, zw_588⟩
theorem zy_X4_gateAt : zYV yX4_gateAt cX4_gateAt 3 (some .int) 2 := ⟨zw_581, zw_77, by decide +kernel, zw_579, zw_580⟩
theorem zy_X4_hangs : zYV yX4_hangs cX4_hangs 2 (some .int) 1 := ⟨zw_635, zw_77, by decide +kernel, zw_633, zw_634⟩
theorem zy_X4_isCell : zYS yX4_isCell cX4_isCell 2 (some .boolean) 2 := ⟨zw_308, zw_77, by decide +kernel, zw_307⟩
theorem zy_X4_isWithin : zYS yX4_isWithin cX4_isWithin 2 (some .boolean) 2 := ⟨zw_302, zw_77, by decide +kernel, zw_301⟩
theorem zy_X4_keepBefore : zYV yX4_keepBefore cX4_keepBefore 1 none 0 := ⟨zw_331, zw_77, by decide +kernel, zw_330, zw_2⟩
theorem zy_X4_matched : zYV yX4_matched cX4_matched 3 (some .int) 1 := ⟨zw_618, zw_77, by decide +kernel, zw_616, zw_617⟩
theorem zy_X4_means : zYV yX4_means cX4_means 4 (some .int) 3 := ⟨zw_361, zw_77, by decide +kernel, zw_359, zw_360⟩
theorem zy_X4_moves : zYV yX4_moves cX4_moves 4 (some .int) 3 := ⟨zw_347, zw_77, by decide +kernel, zw_345, zw_346⟩
theorem zy_X4_net : zYV yX4_net cX4_net 3 (some .int) 1 := ⟨zw_622, zw_77, by decide +kernel, zw_620, zw_621⟩
theorem zy_X4_node : zYV yX4_node cX4_node 4 (some .int) 3 := ⟨zw_394, zw_77, by decide +kernel, zw_392, zw_393⟩
theorem zy_X4_pin : zYV yX4_pin cX4_pin 3 (some .int) 2 := ⟨zw_630, zw_77, by decide +kernel, zw_628, zw_629⟩
theorem zy_X4_pins : zYV yX4_pins cX4_pins 4 (some .int) 3 := ⟨zw_372, zw_77, by decide +kernel, zw_370, zw_371⟩
theorem zy_X4_readLayout : zYV yX4_readLayout cX4_readLayout 1 (some (.object "DrawnGates$Layout")) 0 := ⟨zw_398, zw_77, by decide +kernel, zw_397, zw_4⟩
theorem zy_X4_refuse : zYV yX4_refuse cX4_refuse 3 (some .int) 1 := ⟨zw_327, zw_77, by decide +kernel, zw_326, zw_1⟩
theorem zy_X4_rubs : zYV yX4_rubs cX4_rubs 6 (some .int) 5 := ⟨zw_339, zw_77, by decide +kernel, zw_337, zw_338⟩
theorem zy_X4_search : zYV yX4_search cX4_search 1 (some (.object "DrawnGates$Matching")) 0 := ⟨zw_507, zw_77, by decide +kernel, zw_506, zw_17⟩
theorem zy_X4_settle : zYV yX4_settle cX4_settle 2 (some .int) 1 := ⟨zw_323, zw_77, by decide +kernel, zw_322, zw_0⟩
theorem zy_X4_told : zYV yX4_told cX4_told 2 (some .int) 1 := ⟨zw_683, zw_77, by decide +kernel, zw_681, zw_682⟩
theorem zy_X4_type : zYV yX4_type cX4_type 3 (some .int) 1 := ⟨zw_640, zw_77, by decide +kernel, zw_638, zw_639⟩
theorem zy_X4_ways : zYV yX4_ways cX4_ways 1 (some .int) 0 := ⟨zw_614, zw_77, by decide +kernel, zw_612, zw_613⟩
theorem zy_X4_wire : zYV yX4_wire cX4_wire 4 (some .int) 2 := ⟨zw_605, zw_77, by decide +kernel, zw_603, zw_604⟩
theorem zy_X5_add : zYV yX5_add cX5_add 6 (some .int) 4 := ⟨zw_858, zw_82, by decide +kernel, zw_857, zw_35⟩
theorem zy_X5_at : zYV yX5_at cX5_at 4 (some .int) 3 := ⟨zw_878, zw_82, by decide +kernel, zw_876, zw_877⟩
theorem zy_X5_back : zYV yX5_back cX5_back 2 (some .int) 0 := ⟨zw_793, zw_82, by decide +kernel, zw_791, zw_792⟩
theorem zy_X5_beside : zYS yX5_beside cX5_beside 4 (some .int) 2 := ⟨zw_905, zw_82, by decide +kernel, zw_904⟩
theorem zy_X5_clear : zYV yX5_clear cX5_clear 2 (some .int) 0 := ⟨zw_1065, zw_82, by decide +kernel, zw_1063, zw_1064⟩
theorem zy_X5_count : zYV yX5_count cX5_count 2 (some .int) 1 := ⟨zw_977, zw_82, by decide +kernel, zw_975, zw_976⟩
theorem zy_X5_countSides : zYV yX5_countSides cX5_countSides 6 none 1 := ⟨zw_925, zw_82, by decide +kernel, zw_924, zw_47⟩
theorem zy_X5_counted : zYV yX5_counted cX5_counted 2 (some .int) 1 := ⟨zw_981, zw_82, by decide +kernel, zw_980, zw_60⟩
theorem zy_X5_device : zYV yX5_device cX5_device 3 (some .int) 2 := ⟨zw_1049, zw_82, by decide +kernel, zw_1047, zw_1048⟩
theorem zy_X5_digest : zYV yX5_digest cX5_digest 2 (some .long) 0 := ⟨zw_1100, zw_82, by decide +kernel, zw_1098, zw_1099⟩
theorem zy_X5_doForgets : zYV yX5_doForgets cX5_doForgets 2 (some .int) 0 := ⟨zw_874, zw_82, by decide +kernel, zw_873, zw_37⟩
theorem zy_X5_doMeans : zYV yX5_doMeans cX5_doMeans 4 (some .int) 3 := ⟨zw_851, zw_82, by decide +kernel, zw_850, zw_34⟩
theorem zy_X5_doMoves : zYV yX5_doMoves cX5_doMoves 11 (some .int) 3 := ⟨zw_843, zw_82, by decide +kernel, zw_842, zw_33⟩
theorem zy_X5_doOrder : zYV yX5_doOrder cX5_doOrder 5 (some .int) 1 := ⟨zw_1088, zw_82, by decide +kernel, zw_1087, zw_73⟩
theorem zy_X5_doPins : zYV yX5_doPins cX5_doPins 4 (some .int) 3 := ⟨zw_866, zw_82, by decide +kernel, zw_865, zw_36⟩
theorem zy_X5_does : zYV yX5_does cX5_does 3 (some .int) 0 := ⟨zw_1069, zw_82, by decide +kernel, zw_1067, zw_1068⟩
theorem zy_X5_draws : zYV yX5_draws cX5_draws 6 (some .int) 5 := ⟨zw_801, zw_82, by decide +kernel, zw_799, zw_800⟩
theorem zy_X5_ends : zYV yX5_ends cX5_ends 2 (some .int) 1 := ⟨zw_827, zw_82, by decide +kernel, zw_826, zw_31⟩
theorem zy_X5_findGates : zYV yX5_findGates cX5_findGates 3 none 0 := ⟨zw_909, zw_82, by decide +kernel, zw_908, zw_43⟩
theorem zy_X5_findMatches : zYV yX5_findMatches cX5_findMatches 3 none 0 := ⟨zw_933, zw_82, by decide +kernel, zw_932, zw_49⟩
theorem zy_X5_findSides : zYV yX5_findSides cX5_findSides 4 none 0 := ⟨zw_921, zw_82, by decide +kernel, zw_920, zw_46⟩
theorem zy_X5_flip : zYV yX5_flip cX5_flip 3 none 2 := ⟨zw_823, zw_82, by decide +kernel, zw_822, zw_30⟩
theorem zy_X5_forgets : zYV yX5_forgets cX5_forgets 1 (some .int) 0 := ⟨zw_870, zw_82, by decide +kernel, zw_868, zw_869⟩
theorem zy_X5_found : zYV yX5_found cX5_found 6 none 0 := ⟨zw_965, zw_82, by decide +kernel, zw_964, zw_57⟩
theorem zy_X5_gate : zYV yX5_gate cX5_gate 3 (some .int) 2 := ⟨zw_1017, zw_82, by decide +kernel, zw_1015, zw_1016⟩
theorem zy_X5_gateAt : zYV yX5_gateAt cX5_gateAt 3 (some .int) 2 := ⟨zw_1013, zw_82, by decide +kernel, zw_1011, zw_1012⟩
theorem zy_X5_goFrom : zYV yX5_goFrom cX5_goFrom 7 none 3 := ⟨zw_902, zw_82, by decide +kernel, zw_901, zw_42⟩
theorem zy_X5_goGate : zYV yX5_goGate cX5_goGate 4 none 1 := ⟨zw_917, zw_82, by decide +kernel, zw_916, zw_45⟩
theorem zy_X5_hang : zYV yX5_hang cX5_hang 5 (some .int) 1 := ⟨zw_890, zw_82, by decide +kernel, zw_889, zw_39⟩
theorem zy_X5_hangs : zYV yX5_hangs cX5_hangs 2 (some .int) 1 := ⟨zw_1057, zw_82, by decide +kernel, zw_1055, zw_1056⟩
theorem zy_X5_here : zYV yX5_here cX5_here 1 (some .int) 0 := ⟨zw_1073, zw_82, by decide +kernel, zw_1072, zw_70⟩
theorem zy_X5_hold : zYV yX5_hold cX5_hold 2 none 0 := ⟨zw_805, zw_82, by decide +kernel, zw_804, zw_27⟩
theorem zy_X5_in : zYS yX5_in cX5_in 3 (some .boolean) 3 := ⟨zw_812, zw_82, by decide +kernel, zw_811⟩
theorem zy_X5_isBegun : zYV yX5_isBegun cX5_isBegun 4 (some .boolean) 0 := ⟨zw_949, zw_82, by decide +kernel, zw_948, zw_53⟩
theorem zy_X5_isCell : zYS yX5_isCell cX5_isCell 2 (some .boolean) 2 := ⟨zw_815, zw_82, by decide +kernel, zw_814⟩
theorem zy_X5_isChosen : zYV yX5_isChosen cX5_isChosen 8 (some .boolean) 2 := ⟨zw_969, zw_82, by decide +kernel, zw_968, zw_58⟩
theorem zy_X5_isDevice : zYV yX5_isDevice cX5_isDevice 2 (some .boolean) 1 := ⟨zw_1041, zw_82, by decide +kernel, zw_1040, zw_69⟩
theorem zy_X5_isDrawn : zYV yX5_isDrawn cX5_isDrawn 3 (some .boolean) 2 := ⟨zw_819, zw_82, by decide +kernel, zw_818, zw_29⟩
theorem zy_X5_isGateCell : zYV yX5_isGateCell cX5_isGateCell 2 (some .boolean) 1 := ⟨zw_913, zw_82, by decide +kernel, zw_912, zw_44⟩
theorem zy_X5_isNet : zYS yX5_isNet cX5_isNet 1 (some .boolean) 1 := ⟨zw_854, zw_82, by decide +kernel, zw_853⟩
theorem zy_X5_isPut : zYV yX5_isPut cX5_isPut 7 (some .boolean) 3 := ⟨zw_961, zw_82, by decide +kernel, zw_960, zw_56⟩
theorem zy_X5_isSide : zYV yX5_isSide cX5_isSide 7 (some .boolean) 2 := ⟨zw_929, zw_82, by decide +kernel, zw_928, zw_48⟩
theorem zy_X5_isWell : zYV yX5_isWell cX5_isWell 2 (some .boolean) 1 := ⟨zw_941, zw_82, by decide +kernel, zw_940, zw_51⟩
theorem zy_X5_isWire : zYV yX5_isWire cX5_isWire 3 (some .boolean) 1 := ⟨zw_894, zw_82, by decide +kernel, zw_893, zw_40⟩
theorem zy_X5_kind : zYS yX5_kind cX5_kind 4 (some .int) 3 := ⟨zw_1000, zw_82, by decide +kernel, zw_999⟩
theorem zy_X5_kindOfDevice : zYV yX5_kindOfDevice cX5_kindOfDevice 2 (some .int) 1 := ⟨zw_993, zw_82, by decide +kernel, zw_992, zw_63⟩
theorem zy_X5_kindOfGate : zYV yX5_kindOfGate cX5_kindOfGate 2 (some .int) 1 := ⟨zw_1005, zw_82, by decide +kernel, zw_1004, zw_65⟩
theorem zy_X5_lay : zYV yX5_lay cX5_lay 1 none 0 := ⟨zw_886, zw_82, by decide +kernel, zw_885, zw_38⟩
theorem zy_X5_matched : zYV yX5_matched cX5_matched 2 (some .int) 1 := ⟨zw_1037, zw_82, by decide +kernel, zw_1035, zw_1036⟩
theorem zy_X5_means : zYV yX5_means cX5_means 4 (some .int) 3 := ⟨zw_847, zw_82, by decide +kernel, zw_845, zw_846⟩
theorem zy_X5_mix : zYV yX5_mix cX5_mix 3 none 1 := ⟨zw_1105, zw_82, by decide +kernel, zw_1104, zw_75⟩
theorem zy_X5_moves : zYV yX5_moves cX5_moves 4 (some .int) 3 := ⟨zw_839, zw_82, by decide +kernel, zw_837, zw_838⟩
theorem zy_X5_must : zYV yX5_must cX5_must 2 none 1 := ⟨zw_1084, zw_82, by decide +kernel, zw_1083, zw_72⟩
theorem zy_X5_net : zYV yX5_net cX5_net 2 (some .int) 1 := ⟨zw_1045, zw_82, by decide +kernel, zw_1043, zw_1044⟩
theorem zy_X5_netHangs : zYV yX5_netHangs cX5_netHangs 4 (some .int) 1 := ⟨zw_997, zw_82, by decide +kernel, zw_996, zw_64⟩
theorem zy_X5_node : zYV yX5_node cX5_node 4 (some .int) 3 := ⟨zw_882, zw_82, by decide +kernel, zw_880, zw_881⟩
theorem zy_X5_nodeHangs : zYV yX5_nodeHangs cX5_nodeHangs 4 (some .int) 1 := ⟨zw_1009, zw_82, by decide +kernel, zw_1008, zw_66⟩
theorem zy_X5_numbersOf : zYS yX5_numbersOf cX5_numbersOf 1 (some .int) 1 := ⟨zw_1080, zw_82, by decide +kernel, zw_1079⟩
theorem zy_X5_ofDevice : zYV yX5_ofDevice cX5_ofDevice 3 (some .int) 2 := ⟨zw_973, zw_82, by decide +kernel, zw_972, zw_59⟩
theorem zy_X5_ofGate : zYV yX5_ofGate cX5_ofGate 3 (some .int) 2 := ⟨zw_945, zw_82, by decide +kernel, zw_944, zw_52⟩
theorem zy_X5_ofPin : zYV yX5_ofPin cX5_ofPin 3 (some .int) 2 := ⟨zw_957, zw_82, by decide +kernel, zw_956, zw_55⟩
theorem zy_X5_paint : zYV yX5_paint cX5_paint 10 (some .int) 6 := ⟨zw_809, zw_82, by decide +kernel, zw_808, zw_28⟩
theorem zy_X5_pairs : zYV yX5_pairs cX5_pairs 7 (some .int) 1 := ⟨zw_985, zw_82, by decide +kernel, zw_984, zw_61⟩
theorem zy_X5_pin : zYV yX5_pin cX5_pin 3 (some .int) 2 := ⟨zw_1053, zw_82, by decide +kernel, zw_1051, zw_1052⟩
theorem zy_X5_pinNode : zYV yX5_pinNode cX5_pinNode 2 (some .int) 1 := ⟨zw_953, zw_82, by decide +kernel, zw_952, zw_54⟩
theorem zy_X5_pins : zYV yX5_pins cX5_pins 4 (some .int) 3 := ⟨zw_862, zw_82, by decide +kernel, zw_860, zw_861⟩
theorem zy_X5_push : zYV yX5_push cX5_push 2 none 0 := ⟨zw_831, zw_82, by decide +kernel, zw_830, zw_32⟩
theorem zy_X5_readOrder : zYV yX5_readOrder cX5_readOrder 5 none 0 := ⟨zw_1077, zw_82, by decide +kernel, zw_1076, zw_71⟩
theorem zy_X5_refuses : zYV yX5_refuses cX5_refuses 2 (some .int) 1 := ⟨zw_797, zw_82, by decide +kernel, zw_796, zw_26⟩
theorem zy_X5_rubs : zYV yX5_rubs cX5_rubs 6 (some .int) 5 := ⟨zw_835, zw_82, by decide +kernel, zw_833, zw_834⟩
theorem zy_X5_take : zYV yX5_take cX5_take 3 none 2 := ⟨zw_898, zw_82, by decide +kernel, zw_897, zw_41⟩
theorem zy_X5_told : zYV yX5_told cX5_told 2 (some .int) 1 := ⟨zw_1092, zw_82, by decide +kernel, zw_1090, zw_1091⟩
theorem zy_X5_toldOf : zYV yX5_toldOf cX5_toldOf 2 (some .int) 1 := ⟨zw_1096, zw_82, by decide +kernel, zw_1095, zw_74⟩
theorem zy_X5_type : zYV yX5_type cX5_type 2 (some .int) 1 := ⟨zw_1061, zw_82, by decide +kernel, zw_1059, zw_1060⟩
theorem zy_X5_unlike : zYV yX5_unlike cX5_unlike 7 (some .int) 0 := ⟨zw_989, zw_82, by decide +kernel, zw_988, zw_62⟩
theorem zy_X5_ways : zYV yX5_ways cX5_ways 1 (some .int) 0 := ⟨zw_1029, zw_82, by decide +kernel, zw_1027, zw_1028⟩
theorem zy_X5_waysOf : zYV yX5_waysOf cX5_waysOf 1 (some .int) 0 := ⟨zw_1033, zw_82, by decide +kernel, zw_1032, zw_68⟩
theorem zy_X5_wells : zYV yX5_wells cX5_wells 3 (some .int) 0 := ⟨zw_937, zw_82, by decide +kernel, zw_936, zw_50⟩
theorem zy_X5_wire : zYV yX5_wire cX5_wire 3 (some .int) 2 := ⟨zw_1021, zw_82, by decide +kernel, zw_1019, zw_1020⟩
theorem zy_X5_wireOf : zYV yX5_wireOf cX5_wireOf 5 (some .int) 2 := ⟨zw_1025, zw_82, by decide +kernel, zw_1024, zw_67⟩
end
section
theorem dX4_isWithin_0 : decode cX4_isWithin 0 = .ok (.iload_n 0, 1) := by decide +kernel
theorem dX4_isWithin_1 : decode cX4_isWithin 1 = .ok (.ifCond .lt 12, 3) := by decide +kernel
theorem dX4_isWithin_4 : decode cX4_isWithin 4 = .ok (.iload_n 0, 1) := by decide +kernel
theorem dX4_isWithin_5 : decode cX4_isWithin 5 = .ok (.iload_n 1, 1) := by decide +kernel
theorem dX4_isWithin_6 : decode cX4_isWithin 6 = .ok (.if_icmp .ge 7, 3) := by decide +kernel
theorem dX4_isWithin_9 : decode cX4_isWithin 9 = .ok (.iconst 1, 1) := by decide +kernel
theorem dX4_isWithin_10 : decode cX4_isWithin 10 = .ok (.goto 4, 3) := by decide +kernel
theorem dX4_isWithin_13 : decode cX4_isWithin 13 = .ok (.iconst 0, 1) := by decide +kernel
theorem dX4_isWithin_14 : decode cX4_isWithin 14 = .ok (.ireturn, 1) := by decide +kernel
def fX4_isWithin (x0 : Int32) (x1 : Int32) : Option (Int32) := (if x0 < 0 then (zbk (0 : Int32) (some ((0 : Int32)))) else (if x1 ≤ x0 then (zbk (0 : Int32) (some ((0 : Int32)))) else (zbk (1 : Int32) (some ((1 : Int32))))))
set_option maxRecDepth 20000 in
theorem wX4_isWithin {X : zCx} {res : Int32}   {x0 : Int32} {x1 : Int32} (C : zC X RX4 cX4_isWithin 2 0 0) (hR : zR X (some .boolean) (some (.int res)) [])  : zJ X 2 res (fX4_isWithin x0 x1) 0 [(0, (.int x0)), (1, (.int x1))] [] [] := by
  unfold fX4_isWithin
  refine z_iload_n (pc := 0) 0 rfl rfl C dX4_isWithin_0 ?_
  refine z_if_lt (pc := 1) 13 C dX4_isWithin_1 (by decide) ?_ ?_
  · refine z_iconst (pc := 13) (0 : Int32) (by decide) C dX4_isWithin_13 ?_
    exact z_zreturn (pc := 14) C hR dX4_isWithin_14 (fun h => by subst h; exact ⟨rfl, rfl⟩)
  · refine z_iload_n (pc := 4) 0 rfl rfl C dX4_isWithin_4 ?_
    refine z_iload_n (pc := 5) 1 rfl rfl C dX4_isWithin_5 ?_
    refine z_icmp_ge (pc := 6) 13 C dX4_isWithin_6 (by decide) ?_ ?_
    · refine z_iconst (pc := 13) (0 : Int32) (by decide) C dX4_isWithin_13 ?_
      exact z_zreturn (pc := 14) C hR dX4_isWithin_14 (fun h => by subst h; exact ⟨rfl, rfl⟩)
    · refine z_iconst (pc := 9) (1 : Int32) (by decide) C dX4_isWithin_9 ?_
      refine z_goto (pc := 10) 14 C dX4_isWithin_10 (by decide) ?_
      exact z_zreturn (pc := 14) C hR dX4_isWithin_14 (fun h => by subst h; exact ⟨rfl, rfl⟩)
theorem mX4_isWithin   {x0 : Int32} {x1 : Int32} {res : Int32}  (hf : fX4_isWithin x0 x1 = some res) : zM yX4_isWithin cX4_isWithin 2 (some .boolean) 0 0 [(.int x0), (.int x1)] [] (some (.int res)) [] := zM_of (by decide +kernel) (Nat.le_of_ble_eq_true rfl) (fun X C hR => wX4_isWithin C hR  hf)
theorem dX4_isCell_0 : decode cX4_isCell 0 = .ok (.iload_n 0, 1) := by decide +kernel
theorem dX4_isCell_1 : decode cX4_isCell 1 = .ok (.bipush 8, 2) := by decide +kernel
theorem dX4_isCell_3 : decode cX4_isCell 3 = .ok (.invokestatic 87, 3) := by decide +kernel
theorem dX4_isCell_6 : decode cX4_isCell 6 = .ok (.ifCond .eq 16, 3) := by decide +kernel
theorem dX4_isCell_9 : decode cX4_isCell 9 = .ok (.iload_n 1, 1) := by decide +kernel
theorem dX4_isCell_10 : decode cX4_isCell 10 = .ok (.bipush 8, 2) := by decide +kernel
theorem dX4_isCell_12 : decode cX4_isCell 12 = .ok (.invokestatic 87, 3) := by decide +kernel
theorem dX4_isCell_15 : decode cX4_isCell 15 = .ok (.ifCond .eq 7, 3) := by decide +kernel
theorem dX4_isCell_18 : decode cX4_isCell 18 = .ok (.iconst 1, 1) := by decide +kernel
theorem dX4_isCell_19 : decode cX4_isCell 19 = .ok (.goto 4, 3) := by decide +kernel
theorem dX4_isCell_22 : decode cX4_isCell 22 = .ok (.iconst 0, 1) := by decide +kernel
theorem dX4_isCell_23 : decode cX4_isCell 23 = .ok (.ireturn, 1) := by decide +kernel
def fX4_isCell (x0 : Int32) (x1 : Int32) : Option (Int32) := (Option.bind (fX4_isWithin x0 (8 : Int32)) (fun r_1 : Int32 => (if r_1 = 0 then (zbk (0 : Int32) (some ((0 : Int32)))) else (Option.bind (fX4_isWithin x1 (8 : Int32)) (fun r_3 : Int32 => (if r_3 = 0 then (zbk (0 : Int32) (some ((0 : Int32)))) else (zbk (1 : Int32) (some ((1 : Int32))))))))))
set_option maxRecDepth 20000 in
theorem wX4_isCell {X : zCx} {res : Int32}   {x0 : Int32} {x1 : Int32} (C : zC X RX4 cX4_isCell 2 1 21) (hR : zR X (some .boolean) (some (.int res)) [])  : zJ X 2 res (fX4_isCell x0 x1) 0 [(0, (.int x0)), (1, (.int x1))] [] [] := by
  unfold fX4_isCell
  refine z_iload_n (pc := 0) 0 rfl rfl C dX4_isCell_0 ?_
  refine z_bipush (pc := 1) (8 : Int32) (by decide) C dX4_isCell_1 ?_
  refine z_callS (pc := 3) (rf' := 0) (rl' := 0) (fX4_isWithin x0 (8 : Int32)) [(.int x0), (.int (8 : Int32))] [] [] (fun r_1 => (some (.int r_1))) (fun r_1 => []) [] (fun r_1 => []) C dX4_isCell_3 zy_X4_isWithin zw_309 (fun _ hr9 => mX4_isWithin  hr9) (by decide) rfl (Nat.le_of_ble_eq_true rfl) (List.Perm.refl _) (fun _ => List.Perm.refl _) rfl (fun r_1 hr_2 => ?_)
  show zJ X 2 res _ 6 [(0, (.int x0)), (1, (.int x1))] [(.int r_1)] []
  refine z_if_eq (pc := 6) 22 C dX4_isCell_6 (by decide) ?_ ?_
  · refine z_iconst (pc := 22) (0 : Int32) (by decide) C dX4_isCell_22 ?_
    exact z_zreturn (pc := 23) C hR dX4_isCell_23 (fun h => by subst h; exact ⟨rfl, rfl⟩)
  · refine z_iload_n (pc := 9) 1 rfl rfl C dX4_isCell_9 ?_
    refine z_bipush (pc := 10) (8 : Int32) (by decide) C dX4_isCell_10 ?_
    refine z_callS (pc := 12) (rf' := 0) (rl' := 0) (fX4_isWithin x1 (8 : Int32)) [(.int x1), (.int (8 : Int32))] [] [] (fun r_3 => (some (.int r_3))) (fun r_3 => []) [] (fun r_3 => []) C dX4_isCell_12 zy_X4_isWithin zw_309 (fun _ hr9 => mX4_isWithin  hr9) (by decide) rfl (Nat.le_of_ble_eq_true rfl) (List.Perm.refl _) (fun _ => List.Perm.refl _) rfl (fun r_3 hr_4 => ?_)
    show zJ X 2 res _ 15 [(0, (.int x0)), (1, (.int x1))] [(.int r_3)] []
    refine z_if_eq (pc := 15) 22 C dX4_isCell_15 (by decide) ?_ ?_
    · refine z_iconst (pc := 22) (0 : Int32) (by decide) C dX4_isCell_22 ?_
      exact z_zreturn (pc := 23) C hR dX4_isCell_23 (fun h => by subst h; exact ⟨rfl, rfl⟩)
    · refine z_iconst (pc := 18) (1 : Int32) (by decide) C dX4_isCell_18 ?_
      refine z_goto (pc := 19) 23 C dX4_isCell_19 (by decide) ?_
      exact z_zreturn (pc := 23) C hR dX4_isCell_23 (fun h => by subst h; exact ⟨rfl, rfl⟩)
theorem mX4_isCell   {x0 : Int32} {x1 : Int32} {res : Int32}  (hf : fX4_isCell x0 x1 = some res) : zM yX4_isCell cX4_isCell 2 (some .boolean) 1 21 [(.int x0), (.int x1)] [] (some (.int res)) [] := zM_of (by decide +kernel) (Nat.le_of_ble_eq_true rfl) (fun X C hR => wX4_isCell C hR  hf)
theorem dX4_cellBit_0 : decode cX4_cellBit 0 = .ok (.lconst 1, 1) := by decide +kernel
theorem dX4_cellBit_1 : decode cX4_cellBit 1 = .ok (.bipush 8, 2) := by decide +kernel
theorem dX4_cellBit_3 : decode cX4_cellBit 3 = .ok (.iload_n 1, 1) := by decide +kernel
theorem dX4_cellBit_4 : decode cX4_cellBit 4 = .ok (.imul, 1) := by decide +kernel
theorem dX4_cellBit_5 : decode cX4_cellBit 5 = .ok (.iload_n 0, 1) := by decide +kernel
theorem dX4_cellBit_6 : decode cX4_cellBit 6 = .ok (.iadd, 1) := by decide +kernel
theorem dX4_cellBit_7 : decode cX4_cellBit 7 = .ok (.lshl, 1) := by decide +kernel
theorem dX4_cellBit_8 : decode cX4_cellBit 8 = .ok (.lreturn, 1) := by decide +kernel
def fX4_cellBit (x0 : Int32) (x1 : Int32) : Option (Int64) := (some ((1 : Int64) <<< ((((8 : Int32) * x1) + x0).toInt64 &&& 63)))
set_option maxRecDepth 20000 in
theorem wX4_cellBit {X : zCx} {res : Int64}   {x0 : Int32} {x1 : Int32} (C : zC X RX4 cX4_cellBit 2 0 0) (hR : zR X (some .long) (some (.long res)) [])  : zJ X 2 res (fX4_cellBit x0 x1) 0 [(0, (.int x0)), (1, (.int x1))] [] [] := by
  unfold fX4_cellBit
  refine z_lconst (pc := 0) (1 : Int64) (by decide) C dX4_cellBit_0 ?_
  refine z_bipush (pc := 1) (8 : Int32) (by decide) C dX4_cellBit_1 ?_
  refine z_iload_n (pc := 3) 1 rfl rfl C dX4_cellBit_3 ?_
  refine z_imul (pc := 4) C dX4_cellBit_4 ?_
  refine z_iload_n (pc := 5) 0 rfl rfl C dX4_cellBit_5 ?_
  refine z_iadd (pc := 6) C dX4_cellBit_6 ?_
  refine z_lshl (pc := 7) C dX4_cellBit_7 ?_
  exact z_lreturn (pc := 8) C hR dX4_cellBit_8 (fun h => by subst h; exact ⟨rfl, rfl⟩)
theorem mX4_cellBit   {x0 : Int32} {x1 : Int32} {res : Int64}  (hf : fX4_cellBit x0 x1 = some res) : zM yX4_cellBit cX4_cellBit 2 (some .long) 0 0 [(.int x0), (.int x1)] [] (some (.long res)) [] := zM_of (by decide +kernel) (Nat.le_of_ble_eq_true rfl) (fun X C hR => wX4_cellBit C hR  hf)
theorem dX2_isStep_0 : decode cX2_isStep 0 = .ok (.iload_n 0, 1) := by decide +kernel
theorem dX2_isStep_1 : decode cX2_isStep 1 = .ok (.bipush (-8), 2) := by decide +kernel
theorem dX2_isStep_3 : decode cX2_isStep 3 = .ok (.if_icmp .le 13, 3) := by decide +kernel
theorem dX2_isStep_6 : decode cX2_isStep 6 = .ok (.iload_n 0, 1) := by decide +kernel
theorem dX2_isStep_7 : decode cX2_isStep 7 = .ok (.bipush 8, 2) := by decide +kernel
theorem dX2_isStep_9 : decode cX2_isStep 9 = .ok (.if_icmp .ge 7, 3) := by decide +kernel
theorem dX2_isStep_12 : decode cX2_isStep 12 = .ok (.iconst 1, 1) := by decide +kernel
theorem dX2_isStep_13 : decode cX2_isStep 13 = .ok (.goto 4, 3) := by decide +kernel
theorem dX2_isStep_16 : decode cX2_isStep 16 = .ok (.iconst 0, 1) := by decide +kernel
theorem dX2_isStep_17 : decode cX2_isStep 17 = .ok (.ireturn, 1) := by decide +kernel
def fX2_isStep (x0 : Int32) : Option (Int32) := (if x0 ≤ (-8 : Int32) then (zbk (0 : Int32) (some ((0 : Int32)))) else (if (8 : Int32) ≤ x0 then (zbk (0 : Int32) (some ((0 : Int32)))) else (zbk (1 : Int32) (some ((1 : Int32))))))
set_option maxRecDepth 20000 in
theorem wX2_isStep {X : zCx} {res : Int32}   {x0 : Int32} (C : zC X RX2 cX2_isStep 1 0 0) (hR : zR X (some .boolean) (some (.int res)) [])  : zJ X 1 res (fX2_isStep x0) 0 [(0, (.int x0))] [] [] := by
  unfold fX2_isStep
  refine z_iload_n (pc := 0) 0 rfl rfl C dX2_isStep_0 ?_
  refine z_bipush (pc := 1) (-8 : Int32) (by decide) C dX2_isStep_1 ?_
  refine z_icmp_le (pc := 3) 16 C dX2_isStep_3 (by decide) ?_ ?_
  · refine z_iconst (pc := 16) (0 : Int32) (by decide) C dX2_isStep_16 ?_
    exact z_zreturn (pc := 17) C hR dX2_isStep_17 (fun h => by subst h; exact ⟨rfl, rfl⟩)
  · refine z_iload_n (pc := 6) 0 rfl rfl C dX2_isStep_6 ?_
    refine z_bipush (pc := 7) (8 : Int32) (by decide) C dX2_isStep_7 ?_
    refine z_icmp_ge (pc := 9) 16 C dX2_isStep_9 (by decide) ?_ ?_
    · refine z_iconst (pc := 16) (0 : Int32) (by decide) C dX2_isStep_16 ?_
      exact z_zreturn (pc := 17) C hR dX2_isStep_17 (fun h => by subst h; exact ⟨rfl, rfl⟩)
    · refine z_iconst (pc := 12) (1 : Int32) (by decide) C dX2_isStep_12 ?_
      refine z_goto (pc := 13) 17 C dX2_isStep_13 (by decide) ?_
      exact z_zreturn (pc := 17) C hR dX2_isStep_17 (fun h => by subst h; exact ⟨rfl, rfl⟩)
theorem mX2_isStep   {x0 : Int32} {res : Int32}  (hf : fX2_isStep x0 = some res) : zM yX2_isStep cX2_isStep 1 (some .boolean) 0 0 [(.int x0)] [] (some (.int res)) [] := zM_of (by decide +kernel) (Nat.le_of_ble_eq_true rfl) (fun X C hR => wX2_isStep C hR  hf)
theorem dX2_isBox_0 : decode cX2_isBox 0 = .ok (.iload_n 0, 1) := by decide +kernel
theorem dX2_isBox_1 : decode cX2_isBox 1 = .ok (.iload_n 1, 1) := by decide +kernel
theorem dX2_isBox_2 : decode cX2_isBox 2 = .ok (.invokestatic 63, 3) := by decide +kernel
theorem dX2_isBox_5 : decode cX2_isBox 5 = .ok (.ifCond .eq 33, 3) := by decide +kernel
theorem dX2_isBox_8 : decode cX2_isBox 8 = .ok (.iload_n 2, 1) := by decide +kernel
theorem dX2_isBox_9 : decode cX2_isBox 9 = .ok (.iconst 1, 1) := by decide +kernel
theorem dX2_isBox_10 : decode cX2_isBox 10 = .ok (.if_icmp .lt 28, 3) := by decide +kernel
theorem dX2_isBox_13 : decode cX2_isBox 13 = .ok (.iload_n 2, 1) := by decide +kernel
theorem dX2_isBox_14 : decode cX2_isBox 14 = .ok (.bipush 8, 2) := by decide +kernel
theorem dX2_isBox_16 : decode cX2_isBox 16 = .ok (.iload_n 0, 1) := by decide +kernel
theorem dX2_isBox_17 : decode cX2_isBox 17 = .ok (.isub, 1) := by decide +kernel
theorem dX2_isBox_18 : decode cX2_isBox 18 = .ok (.if_icmp .gt 20, 3) := by decide +kernel
theorem dX2_isBox_21 : decode cX2_isBox 21 = .ok (.iload_n 3, 1) := by decide +kernel
theorem dX2_isBox_22 : decode cX2_isBox 22 = .ok (.iconst 1, 1) := by decide +kernel
theorem dX2_isBox_23 : decode cX2_isBox 23 = .ok (.if_icmp .lt 15, 3) := by decide +kernel
theorem dX2_isBox_26 : decode cX2_isBox 26 = .ok (.iload_n 3, 1) := by decide +kernel
theorem dX2_isBox_27 : decode cX2_isBox 27 = .ok (.bipush 8, 2) := by decide +kernel
theorem dX2_isBox_29 : decode cX2_isBox 29 = .ok (.iload_n 1, 1) := by decide +kernel
theorem dX2_isBox_30 : decode cX2_isBox 30 = .ok (.isub, 1) := by decide +kernel
theorem dX2_isBox_31 : decode cX2_isBox 31 = .ok (.if_icmp .gt 7, 3) := by decide +kernel
theorem dX2_isBox_34 : decode cX2_isBox 34 = .ok (.iconst 1, 1) := by decide +kernel
theorem dX2_isBox_35 : decode cX2_isBox 35 = .ok (.goto 4, 3) := by decide +kernel
theorem dX2_isBox_38 : decode cX2_isBox 38 = .ok (.iconst 0, 1) := by decide +kernel
theorem dX2_isBox_39 : decode cX2_isBox 39 = .ok (.ireturn, 1) := by decide +kernel
def fX2_isBox (x0 : Int32) (x1 : Int32) (x2 : Int32) (x3 : Int32) : Option (Int32) := (Option.bind (fX4_isCell x0 x1) (fun r_1 : Int32 => (if r_1 = 0 then (zbk (0 : Int32) (some ((0 : Int32)))) else (if x2 < (1 : Int32) then (zbk (0 : Int32) (some ((0 : Int32)))) else (if ((8 : Int32) - x0) < x2 then (zbk (0 : Int32) (some ((0 : Int32)))) else (if x3 < (1 : Int32) then (zbk (0 : Int32) (some ((0 : Int32)))) else (if ((8 : Int32) - x1) < x3 then (zbk (0 : Int32) (some ((0 : Int32)))) else (zbk (1 : Int32) (some ((1 : Int32)))))))))))
set_option maxRecDepth 20000 in
theorem wX2_isBox {X : zCx} {res : Int32}   {x0 : Int32} {x1 : Int32} {x2 : Int32} {x3 : Int32} (C : zC X RX2 cX2_isBox 4 2 42) (hR : zR X (some .boolean) (some (.int res)) [])  : zJ X 4 res (fX2_isBox x0 x1 x2 x3) 0 [(0, (.int x0)), (1, (.int x1)), (2, (.int x2)), (3, (.int x3))] [] [] := by
  unfold fX2_isBox
  refine z_iload_n (pc := 0) 0 rfl rfl C dX2_isBox_0 ?_
  refine z_iload_n (pc := 1) 1 rfl rfl C dX2_isBox_1 ?_
  refine z_callN (pc := 2) (rf' := 1) (rl' := 21) (fX4_isCell x0 x1) [(.int x0), (.int x1)] [] (fun r_1 => (some (.int r_1))) C dX2_isBox_2 zy_X4_isCell (fun U h => h.2.1) (fun _ hr9 => mX4_isCell  hr9) (by decide) rfl (Nat.le_of_ble_eq_true rfl) rfl (fun r_1 hr_2 => ?_)
  show zJ X 4 res _ 5 [(0, (.int x0)), (1, (.int x1)), (2, (.int x2)), (3, (.int x3))] [(.int r_1)] []
  refine z_if_eq (pc := 5) 38 C dX2_isBox_5 (by decide) ?_ ?_
  · refine z_iconst (pc := 38) (0 : Int32) (by decide) C dX2_isBox_38 ?_
    exact z_zreturn (pc := 39) C hR dX2_isBox_39 (fun h => by subst h; exact ⟨rfl, rfl⟩)
  · refine z_iload_n (pc := 8) 2 rfl rfl C dX2_isBox_8 ?_
    refine z_iconst (pc := 9) (1 : Int32) (by decide) C dX2_isBox_9 ?_
    refine z_icmp_lt (pc := 10) 38 C dX2_isBox_10 (by decide) ?_ ?_
    · refine z_iconst (pc := 38) (0 : Int32) (by decide) C dX2_isBox_38 ?_
      exact z_zreturn (pc := 39) C hR dX2_isBox_39 (fun h => by subst h; exact ⟨rfl, rfl⟩)
    · refine z_iload_n (pc := 13) 2 rfl rfl C dX2_isBox_13 ?_
      refine z_bipush (pc := 14) (8 : Int32) (by decide) C dX2_isBox_14 ?_
      refine z_iload_n (pc := 16) 0 rfl rfl C dX2_isBox_16 ?_
      refine z_isub (pc := 17) C dX2_isBox_17 ?_
      refine z_icmp_gt (pc := 18) 38 C dX2_isBox_18 (by decide) ?_ ?_
      · refine z_iconst (pc := 38) (0 : Int32) (by decide) C dX2_isBox_38 ?_
        exact z_zreturn (pc := 39) C hR dX2_isBox_39 (fun h => by subst h; exact ⟨rfl, rfl⟩)
      · refine z_iload_n (pc := 21) 3 rfl rfl C dX2_isBox_21 ?_
        refine z_iconst (pc := 22) (1 : Int32) (by decide) C dX2_isBox_22 ?_
        refine z_icmp_lt (pc := 23) 38 C dX2_isBox_23 (by decide) ?_ ?_
        · refine z_iconst (pc := 38) (0 : Int32) (by decide) C dX2_isBox_38 ?_
          exact z_zreturn (pc := 39) C hR dX2_isBox_39 (fun h => by subst h; exact ⟨rfl, rfl⟩)
        · refine z_iload_n (pc := 26) 3 rfl rfl C dX2_isBox_26 ?_
          refine z_bipush (pc := 27) (8 : Int32) (by decide) C dX2_isBox_27 ?_
          refine z_iload_n (pc := 29) 1 rfl rfl C dX2_isBox_29 ?_
          refine z_isub (pc := 30) C dX2_isBox_30 ?_
          refine z_icmp_gt (pc := 31) 38 C dX2_isBox_31 (by decide) ?_ ?_
          · refine z_iconst (pc := 38) (0 : Int32) (by decide) C dX2_isBox_38 ?_
            exact z_zreturn (pc := 39) C hR dX2_isBox_39 (fun h => by subst h; exact ⟨rfl, rfl⟩)
          · refine z_iconst (pc := 34) (1 : Int32) (by decide) C dX2_isBox_34 ?_
            refine z_goto (pc := 35) 39 C dX2_isBox_35 (by decide) ?_
            exact z_zreturn (pc := 39) C hR dX2_isBox_39 (fun h => by subst h; exact ⟨rfl, rfl⟩)
theorem mX2_isBox   {x0 : Int32} {x1 : Int32} {x2 : Int32} {x3 : Int32} {res : Int32}  (hf : fX2_isBox x0 x1 x2 x3 = some res) : zM yX2_isBox cX2_isBox 4 (some .boolean) 2 42 [(.int x0), (.int x1), (.int x2), (.int x3)] [] (some (.int res)) [] := zM_of (by decide +kernel) (Nat.le_of_ble_eq_true rfl) (fun X C hR => wX2_isBox C hR  hf)
theorem dX2_boxBits_0 : decode cX2_boxBits 0 = .ok (.lconst 1, 1) := by decide +kernel
theorem dX2_boxBits_1 : decode cX2_boxBits 1 = .ok (.iload_n 2, 1) := by decide +kernel
theorem dX2_boxBits_2 : decode cX2_boxBits 2 = .ok (.lshl, 1) := by decide +kernel
theorem dX2_boxBits_3 : decode cX2_boxBits 3 = .ok (.lconst 1, 1) := by decide +kernel
theorem dX2_boxBits_4 : decode cX2_boxBits 4 = .ok (.lsub, 1) := by decide +kernel
theorem dX2_boxBits_5 : decode cX2_boxBits 5 = .ok (.iload_n 0, 1) := by decide +kernel
theorem dX2_boxBits_6 : decode cX2_boxBits 6 = .ok (.lshl, 1) := by decide +kernel
theorem dX2_boxBits_7 : decode cX2_boxBits 7 = .ok (.lstore 4, 2) := by decide +kernel
theorem dX2_boxBits_9 : decode cX2_boxBits 9 = .ok (.lconst 0, 1) := by decide +kernel
theorem dX2_boxBits_10 : decode cX2_boxBits 10 = .ok (.lstore 6, 2) := by decide +kernel
theorem dX2_boxBits_12 : decode cX2_boxBits 12 = .ok (.iload_n 1, 1) := by decide +kernel
theorem dX2_boxBits_13 : decode cX2_boxBits 13 = .ok (.istore 8, 2) := by decide +kernel
theorem dX2_boxBits_15 : decode cX2_boxBits 15 = .ok (.iload 8, 2) := by decide +kernel
theorem dX2_boxBits_17 : decode cX2_boxBits 17 = .ok (.iload_n 1, 1) := by decide +kernel
theorem dX2_boxBits_18 : decode cX2_boxBits 18 = .ok (.iload_n 3, 1) := by decide +kernel
theorem dX2_boxBits_19 : decode cX2_boxBits 19 = .ok (.iadd, 1) := by decide +kernel
theorem dX2_boxBits_20 : decode cX2_boxBits 20 = .ok (.if_icmp .ge 22, 3) := by decide +kernel
theorem dX2_boxBits_23 : decode cX2_boxBits 23 = .ok (.lload 6, 2) := by decide +kernel
theorem dX2_boxBits_25 : decode cX2_boxBits 25 = .ok (.lload 4, 2) := by decide +kernel
theorem dX2_boxBits_27 : decode cX2_boxBits 27 = .ok (.bipush 8, 2) := by decide +kernel
theorem dX2_boxBits_29 : decode cX2_boxBits 29 = .ok (.iload 8, 2) := by decide +kernel
theorem dX2_boxBits_31 : decode cX2_boxBits 31 = .ok (.imul, 1) := by decide +kernel
theorem dX2_boxBits_32 : decode cX2_boxBits 32 = .ok (.lshl, 1) := by decide +kernel
theorem dX2_boxBits_33 : decode cX2_boxBits 33 = .ok (.lor, 1) := by decide +kernel
theorem dX2_boxBits_34 : decode cX2_boxBits 34 = .ok (.lstore 6, 2) := by decide +kernel
theorem dX2_boxBits_36 : decode cX2_boxBits 36 = .ok (.iinc 8 1, 3) := by decide +kernel
theorem dX2_boxBits_39 : decode cX2_boxBits 39 = .ok (.goto (-24), 3) := by decide +kernel
theorem dX2_boxBits_42 : decode cX2_boxBits 42 = .ok (.lload 6, 2) := by decide +kernel
theorem dX2_boxBits_44 : decode cX2_boxBits 44 = .ok (.lreturn, 1) := by decide +kernel
def bX2_boxBits_15 (F : Nat) (x1 : Int32) (x3 : Int32) (x4 : Int64) (kc_15 : (Int64 × Int32) → Option (Int64)) (x6 : Int64) (x8 : Int32) : Option (Int64) := (if (x1 + x3) ≤ x8 then (some (x6)) else (zlet (x6 ||| (x4 <<< (((8 : Int32) * x8).toInt64 &&& 63))) (fun x6_2 : Int64 => (kc_15 (x6_2, (x8 + 1))))))
set_option maxRecDepth 20000 in
theorem vX2_boxBits_15 {X : zCx} {res : Int64} {F : Nat} {x1 : Int32} {x3 : Int32} {x4 : Int64} {kc_15 : (Int64 × Int32) → Option (Int64)} (C : zC X RX2 cX2_boxBits 9 0 0) (hR : zR X (some .long) (some (.long res)) []) (hk_15 : ∀ (y6 : Int64) (y8 : Int32), zJ X 9 res (kc_15 (y6, y8)) 15 [(1, (.int x1)), (3, (.int x3)), (4, (.long x4)), (6, (.long y6)), (8, (.int y8))] [] []) (x6 : Int64) (x8 : Int32) : zJ X 9 res (bX2_boxBits_15 F x1 x3 x4 kc_15 x6 x8) 15 [(1, (.int x1)), (3, (.int x3)), (4, (.long x4)), (6, (.long x6)), (8, (.int x8))] [] [] := by
  unfold bX2_boxBits_15
  refine z_iload (pc := 15) 4 rfl C dX2_boxBits_15 ?_
  refine z_iload_n (pc := 17) 0 rfl rfl C dX2_boxBits_17 ?_
  refine z_iload_n (pc := 18) 1 rfl rfl C dX2_boxBits_18 ?_
  refine z_iadd (pc := 19) C dX2_boxBits_19 ?_
  refine z_icmp_ge (pc := 20) 42 C dX2_boxBits_20 (by decide) ?_ ?_
  · refine z_lload (pc := 42) 3 rfl C dX2_boxBits_42 ?_
    exact z_lreturn (pc := 44) C hR dX2_boxBits_44 (fun h => by subst h; exact ⟨rfl, rfl⟩)
  · refine z_lload (pc := 23) 3 rfl C dX2_boxBits_23 ?_
    refine z_lload (pc := 25) 2 rfl C dX2_boxBits_25 ?_
    refine z_bipush (pc := 27) (8 : Int32) (by decide) C dX2_boxBits_27 ?_
    refine z_iload (pc := 29) 4 rfl C dX2_boxBits_29 ?_
    refine z_imul (pc := 31) C dX2_boxBits_31 ?_
    refine z_lshl (pc := 32) C dX2_boxBits_32 ?_
    refine z_lor (pc := 33) C dX2_boxBits_33 ?_
    refine z_letl (fun x6_2 => ?_)
    refine z_lstore (pc := 34) [(1, (.int x1)), (3, (.int x3)), (4, (.long x4)), (6, (.long x6_2)), (8, (.int x8))] [1, 2, 3, 0, 4] (by decide) rfl C dX2_boxBits_34 ?_
    refine z_iinc (pc := 36) (x8 + 1) 4 rfl rfl [(1, (.int x1)), (3, (.int x3)), (4, (.long x4)), (6, (.long x6_2)), (8, (.int (x8 + 1)))] [1, 2, 3, 4, 0] (by decide) rfl C dX2_boxBits_36 ?_
    refine z_goto (pc := 39) 15 C dX2_boxBits_39 (by decide) ?_
    exact hk_15 _ _
def fX2_boxBits (F : Nat) (x0 : Int32) (x1 : Int32) (x2 : Int32) (x3 : Int32) : Option (Int64) := (zlet ((((1 : Int64) <<< (x2.toInt64 &&& 63)) - (1 : Int64)) <<< (x0.toInt64 &&& 63)) (fun x4_1 : Int64 => (zit (P := Int64 × Int32) (R := Int64) (fun kc9 p9 => bX2_boxBits_15 F x1 x3 x4_1 kc9 p9.1 p9.2) F ((0 : Int64), x1))))
set_option maxRecDepth 20000 in
theorem wX2_boxBits {X : zCx} {res : Int64} {F : Nat}  {x0 : Int32} {x1 : Int32} {x2 : Int32} {x3 : Int32} (C : zC X RX2 cX2_boxBits 9 0 0) (hR : zR X (some .long) (some (.long res)) [])  : zJ X 9 res (fX2_boxBits F x0 x1 x2 x3) 0 [(0, (.int x0)), (1, (.int x1)), (2, (.int x2)), (3, (.int x3))] [] [] := by
  unfold fX2_boxBits
  refine z_lconst (pc := 0) (1 : Int64) (by decide) C dX2_boxBits_0 ?_
  refine z_iload_n (pc := 1) 2 rfl rfl C dX2_boxBits_1 ?_
  refine z_lshl (pc := 2) C dX2_boxBits_2 ?_
  refine z_lconst (pc := 3) (1 : Int64) (by decide) C dX2_boxBits_3 ?_
  refine z_lsub (pc := 4) C dX2_boxBits_4 ?_
  refine z_iload_n (pc := 5) 0 rfl rfl C dX2_boxBits_5 ?_
  refine z_lshl (pc := 6) C dX2_boxBits_6 ?_
  refine z_letl (fun x4_1 => ?_)
  refine z_lstore (pc := 7) [(0, (.int x0)), (1, (.int x1)), (2, (.int x2)), (3, (.int x3)), (4, (.long x4_1))] [1, 2, 3, 4, 0] (by decide) rfl C dX2_boxBits_7 ?_
  refine z_lconst (pc := 9) (0 : Int64) (by decide) C dX2_boxBits_9 ?_
  refine z_lstore (pc := 10) [(0, (.int x0)), (1, (.int x1)), (2, (.int x2)), (3, (.int x3)), (4, (.long x4_1)), (6, (.long (0 : Int64)))] [1, 2, 3, 4, 5, 0] (by decide) rfl C dX2_boxBits_10 ?_
  refine z_iload_n (pc := 12) 1 rfl rfl C dX2_boxBits_12 ?_
  refine z_istore (pc := 13) [(0, (.int x0)), (1, (.int x1)), (2, (.int x2)), (3, (.int x3)), (4, (.long x4_1)), (6, (.long (0 : Int64))), (8, (.int x1))] [1, 2, 3, 4, 5, 6, 0] (by decide) rfl C dX2_boxBits_13 ?_
  refine z_lv [(1, (.int x1)), (3, (.int x3)), (4, (.long x4_1)), (6, (.long (0 : Int64))), (8, (.int x1))] [1, 3, 4, 5, 6] rfl ?_
  exact zit_J (fun p9 => [(1, (.int x1)), (3, (.int x3)), (4, (.long x4_1)), (6, (.long p9.1)), (8, (.int p9.2))]) (fun p9 => []) (fun kc9 hk9 p9 => vX2_boxBits_15 C hR   (fun a0 a1 => hk9 (a0, a1)) _ _) F _
theorem mX2_boxBits {F : Nat}  {x0 : Int32} {x1 : Int32} {x2 : Int32} {x3 : Int32} {res : Int64}  (hf : fX2_boxBits F x0 x1 x2 x3 = some res) : zM yX2_boxBits cX2_boxBits 9 (some .long) 0 0 [(.int x0), (.int x1), (.int x2), (.int x3)] [] (some (.long res)) [] := zM_of (by decide +kernel) (Nat.le_of_ble_eq_true rfl) (fun X C hR => wX2_boxBits (F := F) C hR  hf)
theorem dX0_besideOf_0 : decode cX0_besideOf 0 = .ok (.lload_n 0, 1) := by decide +kernel
theorem dX0_besideOf_1 : decode cX0_besideOf 1 = .ok (.ldc2_w 182, 3) := by decide +kernel
theorem dX0_besideOf_4 : decode cX0_besideOf 4 = .ok (.land, 1) := by decide +kernel
theorem dX0_besideOf_5 : decode cX0_besideOf 5 = .ok (.iconst 1, 1) := by decide +kernel
theorem dX0_besideOf_6 : decode cX0_besideOf 6 = .ok (.lshl, 1) := by decide +kernel
theorem dX0_besideOf_7 : decode cX0_besideOf 7 = .ok (.lstore_n 2, 1) := by decide +kernel
theorem dX0_besideOf_8 : decode cX0_besideOf 8 = .ok (.lload_n 0, 1) := by decide +kernel
theorem dX0_besideOf_9 : decode cX0_besideOf 9 = .ok (.ldc2_w 184, 3) := by decide +kernel
theorem dX0_besideOf_12 : decode cX0_besideOf 12 = .ok (.land, 1) := by decide +kernel
theorem dX0_besideOf_13 : decode cX0_besideOf 13 = .ok (.iconst 1, 1) := by decide +kernel
theorem dX0_besideOf_14 : decode cX0_besideOf 14 = .ok (.lushr, 1) := by decide +kernel
theorem dX0_besideOf_15 : decode cX0_besideOf 15 = .ok (.lstore 4, 2) := by decide +kernel
theorem dX0_besideOf_17 : decode cX0_besideOf 17 = .ok (.lload_n 2, 1) := by decide +kernel
theorem dX0_besideOf_18 : decode cX0_besideOf 18 = .ok (.lload 4, 2) := by decide +kernel
theorem dX0_besideOf_20 : decode cX0_besideOf 20 = .ok (.lor, 1) := by decide +kernel
theorem dX0_besideOf_21 : decode cX0_besideOf 21 = .ok (.lload_n 0, 1) := by decide +kernel
theorem dX0_besideOf_22 : decode cX0_besideOf 22 = .ok (.bipush 8, 2) := by decide +kernel
theorem dX0_besideOf_24 : decode cX0_besideOf 24 = .ok (.lshl, 1) := by decide +kernel
theorem dX0_besideOf_25 : decode cX0_besideOf 25 = .ok (.lor, 1) := by decide +kernel
theorem dX0_besideOf_26 : decode cX0_besideOf 26 = .ok (.lload_n 0, 1) := by decide +kernel
theorem dX0_besideOf_27 : decode cX0_besideOf 27 = .ok (.bipush 8, 2) := by decide +kernel
theorem dX0_besideOf_29 : decode cX0_besideOf 29 = .ok (.lushr, 1) := by decide +kernel
theorem dX0_besideOf_30 : decode cX0_besideOf 30 = .ok (.lor, 1) := by decide +kernel
theorem dX0_besideOf_31 : decode cX0_besideOf 31 = .ok (.lreturn, 1) := by decide +kernel
def fX0_besideOf (x0 : Int64) : Option (Int64) := (zlet ((x0 &&& (9187201950435737471 : Int64)) <<< ((1 : Int32).toInt64 &&& 63)) (fun x2_1 : Int64 => (zlet (((x0 &&& (-72340172838076674 : Int64)).toUInt64 >>> ((1 : Int32).toInt64.toUInt64 &&& Int64.toUInt64 63)).toInt64) (fun x4_2 : Int64 => (some (((x2_1 ||| x4_2) ||| (x0 <<< ((8 : Int32).toInt64 &&& 63))) ||| ((x0.toUInt64 >>> ((8 : Int32).toInt64.toUInt64 &&& Int64.toUInt64 63)).toInt64)))))))
set_option maxRecDepth 20000 in
theorem wX0_besideOf {X : zCx} {res : Int64}   {x0 : Int64} (C : zC X RX0 cX0_besideOf 6 0 0) (hR : zR X (some .long) (some (.long res)) [])  : zJ X 6 res (fX0_besideOf x0) 0 [(0, (.long x0))] [] [] := by
  unfold fX0_besideOf
  refine z_lload_n (pc := 0) 0 rfl rfl C dX0_besideOf_0 ?_
  refine z_ldc2_w (pc := 1) (9187201950435737471 : Int64) zw_423 C dX0_besideOf_1 ?_
  refine z_land (pc := 4) C dX0_besideOf_4 ?_
  refine z_iconst (pc := 5) (1 : Int32) (by decide) C dX0_besideOf_5 ?_
  refine z_lshl (pc := 6) C dX0_besideOf_6 ?_
  refine z_letl (fun x2_1 => ?_)
  refine z_lstore_n (pc := 7) [(0, (.long x0)), (2, (.long x2_1))] [1, 0] (by decide) rfl rfl C dX0_besideOf_7 ?_
  refine z_lload_n (pc := 8) 0 rfl rfl C dX0_besideOf_8 ?_
  refine z_ldc2_w (pc := 9) (-72340172838076674 : Int64) zw_424 C dX0_besideOf_9 ?_
  refine z_land (pc := 12) C dX0_besideOf_12 ?_
  refine z_iconst (pc := 13) (1 : Int32) (by decide) C dX0_besideOf_13 ?_
  refine z_lushr (pc := 14) C dX0_besideOf_14 ?_
  refine z_letl (fun x4_2 => ?_)
  refine z_lstore (pc := 15) [(0, (.long x0)), (2, (.long x2_1)), (4, (.long x4_2))] [1, 2, 0] (by decide) rfl C dX0_besideOf_15 ?_
  refine z_lload_n (pc := 17) 1 rfl rfl C dX0_besideOf_17 ?_
  refine z_lload (pc := 18) 2 rfl C dX0_besideOf_18 ?_
  refine z_lor (pc := 20) C dX0_besideOf_20 ?_
  refine z_lload_n (pc := 21) 0 rfl rfl C dX0_besideOf_21 ?_
  refine z_bipush (pc := 22) (8 : Int32) (by decide) C dX0_besideOf_22 ?_
  refine z_lshl (pc := 24) C dX0_besideOf_24 ?_
  refine z_lor (pc := 25) C dX0_besideOf_25 ?_
  refine z_lload_n (pc := 26) 0 rfl rfl C dX0_besideOf_26 ?_
  refine z_bipush (pc := 27) (8 : Int32) (by decide) C dX0_besideOf_27 ?_
  refine z_lushr (pc := 29) C dX0_besideOf_29 ?_
  refine z_lor (pc := 30) C dX0_besideOf_30 ?_
  exact z_lreturn (pc := 31) C hR dX0_besideOf_31 (fun h => by subst h; exact ⟨rfl, rfl⟩)
theorem mX0_besideOf   {x0 : Int64} {res : Int64}  (hf : fX0_besideOf x0 = some res) : zM yX0_besideOf cX0_besideOf 6 (some .long) 0 0 [(.long x0)] [] (some (.long res)) [] := zM_of (by decide +kernel) (Nat.le_of_ble_eq_true rfl) (fun X C hR => wX0_besideOf C hR  hf)
theorem dX0_hangingTogether_0 : decode cX0_hangingTogether 0 = .ok (.lload_n 0, 1) := by decide +kernel
theorem dX0_hangingTogether_1 : decode cX0_hangingTogether 1 = .ok (.lload_n 0, 1) := by decide +kernel
theorem dX0_hangingTogether_2 : decode cX0_hangingTogether 2 = .ok (.lneg, 1) := by decide +kernel
theorem dX0_hangingTogether_3 : decode cX0_hangingTogether 3 = .ok (.land, 1) := by decide +kernel
theorem dX0_hangingTogether_4 : decode cX0_hangingTogether 4 = .ok (.lstore_n 2, 1) := by decide +kernel
theorem dX0_hangingTogether_5 : decode cX0_hangingTogether 5 = .ok (.iconst 0, 1) := by decide +kernel
theorem dX0_hangingTogether_6 : decode cX0_hangingTogether 6 = .ok (.istore 4, 2) := by decide +kernel
theorem dX0_hangingTogether_8 : decode cX0_hangingTogether 8 = .ok (.iload 4, 2) := by decide +kernel
theorem dX0_hangingTogether_10 : decode cX0_hangingTogether 10 = .ok (.bipush 64, 2) := by decide +kernel
theorem dX0_hangingTogether_12 : decode cX0_hangingTogether 12 = .ok (.if_icmp .ge 31, 3) := by decide +kernel
theorem dX0_hangingTogether_15 : decode cX0_hangingTogether 15 = .ok (.lload_n 2, 1) := by decide +kernel
theorem dX0_hangingTogether_16 : decode cX0_hangingTogether 16 = .ok (.lload_n 2, 1) := by decide +kernel
theorem dX0_hangingTogether_17 : decode cX0_hangingTogether 17 = .ok (.invokestatic 166, 3) := by decide +kernel
theorem dX0_hangingTogether_20 : decode cX0_hangingTogether 20 = .ok (.lor, 1) := by decide +kernel
theorem dX0_hangingTogether_21 : decode cX0_hangingTogether 21 = .ok (.lload_n 0, 1) := by decide +kernel
theorem dX0_hangingTogether_22 : decode cX0_hangingTogether 22 = .ok (.land, 1) := by decide +kernel
theorem dX0_hangingTogether_23 : decode cX0_hangingTogether 23 = .ok (.lstore 5, 2) := by decide +kernel
theorem dX0_hangingTogether_25 : decode cX0_hangingTogether 25 = .ok (.lload 5, 2) := by decide +kernel
theorem dX0_hangingTogether_27 : decode cX0_hangingTogether 27 = .ok (.lload_n 2, 1) := by decide +kernel
theorem dX0_hangingTogether_28 : decode cX0_hangingTogether 28 = .ok (.lcmp, 1) := by decide +kernel
theorem dX0_hangingTogether_29 : decode cX0_hangingTogether 29 = .ok (.ifCond .ne 5, 3) := by decide +kernel
theorem dX0_hangingTogether_32 : decode cX0_hangingTogether 32 = .ok (.lload_n 2, 1) := by decide +kernel
theorem dX0_hangingTogether_33 : decode cX0_hangingTogether 33 = .ok (.lreturn, 1) := by decide +kernel
theorem dX0_hangingTogether_34 : decode cX0_hangingTogether 34 = .ok (.lload 5, 2) := by decide +kernel
theorem dX0_hangingTogether_36 : decode cX0_hangingTogether 36 = .ok (.lstore_n 2, 1) := by decide +kernel
theorem dX0_hangingTogether_37 : decode cX0_hangingTogether 37 = .ok (.iinc 4 1, 3) := by decide +kernel
theorem dX0_hangingTogether_40 : decode cX0_hangingTogether 40 = .ok (.goto (-32), 3) := by decide +kernel
theorem dX0_hangingTogether_43 : decode cX0_hangingTogether 43 = .ok (.lload_n 2, 1) := by decide +kernel
theorem dX0_hangingTogether_44 : decode cX0_hangingTogether 44 = .ok (.lreturn, 1) := by decide +kernel
def bX0_hangingTogether_8 (F : Nat) (x0 : Int64) (kc_8 : (Int64 × Int32) → Option (Int64)) (x2 : Int64) (x4 : Int32) : Option (Int64) := (if (64 : Int32) ≤ x4 then (some (x2)) else (Option.bind (fX0_besideOf x2) (fun r_2 : Int64 => (zlet ((x2 ||| r_2) &&& x0) (fun x5_4 : Int64 => (if (lg_cmp x5_4 x2) = 0 then (some (x2)) else (kc_8 (x5_4, (x4 + 1)))))))))
set_option maxRecDepth 20000 in
theorem vX0_hangingTogether_8 {X : zCx} {res : Int64} {F : Nat} {x0 : Int64} {kc_8 : (Int64 × Int32) → Option (Int64)} (C : zC X RX0 cX0_hangingTogether 7 1 25) (hR : zR X (some .long) (some (.long res)) []) (hk_8 : ∀ (y2 : Int64) (y4 : Int32), zJ X 7 res (kc_8 (y2, y4)) 8 [(0, (.long x0)), (2, (.long y2)), (4, (.int y4))] [] []) (x2 : Int64) (x4 : Int32) : zJ X 7 res (bX0_hangingTogether_8 F x0 kc_8 x2 x4) 8 [(0, (.long x0)), (2, (.long x2)), (4, (.int x4))] [] [] := by
  unfold bX0_hangingTogether_8
  refine z_iload (pc := 8) 2 rfl C dX0_hangingTogether_8 ?_
  refine z_bipush (pc := 10) (64 : Int32) (by decide) C dX0_hangingTogether_10 ?_
  refine z_icmp_ge (pc := 12) 43 C dX0_hangingTogether_12 (by decide) ?_ ?_
  · refine z_lload_n (pc := 43) 1 rfl rfl C dX0_hangingTogether_43 ?_
    exact z_lreturn (pc := 44) C hR dX0_hangingTogether_44 (fun h => by subst h; exact ⟨rfl, rfl⟩)
  · refine z_lload_n (pc := 15) 1 rfl rfl C dX0_hangingTogether_15 ?_
    refine z_lload_n (pc := 16) 1 rfl rfl C dX0_hangingTogether_16 ?_
    refine z_callS (pc := 17) (rf' := 0) (rl' := 0) (fX0_besideOf x2) [(.long x2)] [(.long x2)] [] (fun r_2 => (some (.long r_2))) (fun r_2 => []) [] (fun r_2 => []) C dX0_hangingTogether_17 zy_X0_besideOf zw_420 (fun _ hr9 => mX0_besideOf  hr9) (by decide) rfl (Nat.le_of_ble_eq_true rfl) (List.Perm.refl _) (fun _ => List.Perm.refl _) rfl (fun r_2 hr_3 => ?_)
    show zJ X 7 res _ 20 [(0, (.long x0)), (2, (.long x2)), (4, (.int x4))] [(.long r_2), (.long x2)] []
    refine z_lor (pc := 20) C dX0_hangingTogether_20 ?_
    refine z_lload_n (pc := 21) 0 rfl rfl C dX0_hangingTogether_21 ?_
    refine z_land (pc := 22) C dX0_hangingTogether_22 ?_
    refine z_letl (fun x5_4 => ?_)
    refine z_lstore (pc := 23) [(0, (.long x0)), (2, (.long x2)), (4, (.int x4)), (5, (.long x5_4))] [1, 2, 3, 0] (by decide) rfl C dX0_hangingTogether_23 ?_
    refine z_lload (pc := 25) 3 rfl C dX0_hangingTogether_25 ?_
    refine z_lload_n (pc := 27) 1 rfl rfl C dX0_hangingTogether_27 ?_
    refine z_lcmp (pc := 28) C dX0_hangingTogether_28 ?_
    refine z_if_ne (pc := 29) 34 C dX0_hangingTogether_29 (by decide) ?_ ?_
    · refine z_lload_n (pc := 32) 1 rfl rfl C dX0_hangingTogether_32 ?_
      exact z_lreturn (pc := 33) C hR dX0_hangingTogether_33 (fun h => by subst h; exact ⟨rfl, rfl⟩)
    · refine z_lload (pc := 34) 3 rfl C dX0_hangingTogether_34 ?_
      refine z_lstore_n (pc := 36) [(0, (.long x0)), (2, (.long x5_4)), (4, (.int x4)), (5, (.long x5_4))] [1, 0, 2, 3] (by decide) rfl rfl C dX0_hangingTogether_36 ?_
      refine z_iinc (pc := 37) (x4 + 1) 2 rfl rfl [(0, (.long x0)), (2, (.long x5_4)), (4, (.int (x4 + 1))), (5, (.long x5_4))] [1, 2, 0, 3] (by decide) rfl C dX0_hangingTogether_37 ?_
      refine z_goto (pc := 40) 8 C dX0_hangingTogether_40 (by decide) ?_
      refine z_lv [(0, (.long x0)), (2, (.long x5_4)), (4, (.int (x4 + 1)))] [0, 1, 2] rfl ?_
      exact hk_8 _ _
def fX0_hangingTogether (F : Nat) (x0 : Int64) : Option (Int64) := (zlet (x0 &&& (-x0)) (fun x2_1 : Int64 => (zit (P := Int64 × Int32) (R := Int64) (fun kc9 p9 => bX0_hangingTogether_8 F x0 kc9 p9.1 p9.2) F (x2_1, (0 : Int32)))))
set_option maxRecDepth 20000 in
theorem wX0_hangingTogether {X : zCx} {res : Int64} {F : Nat}  {x0 : Int64} (C : zC X RX0 cX0_hangingTogether 7 1 25) (hR : zR X (some .long) (some (.long res)) [])  : zJ X 7 res (fX0_hangingTogether F x0) 0 [(0, (.long x0))] [] [] := by
  unfold fX0_hangingTogether
  refine z_lload_n (pc := 0) 0 rfl rfl C dX0_hangingTogether_0 ?_
  refine z_lload_n (pc := 1) 0 rfl rfl C dX0_hangingTogether_1 ?_
  refine z_lneg (pc := 2) C dX0_hangingTogether_2 ?_
  refine z_land (pc := 3) C dX0_hangingTogether_3 ?_
  refine z_letl (fun x2_1 => ?_)
  refine z_lstore_n (pc := 4) [(0, (.long x0)), (2, (.long x2_1))] [1, 0] (by decide) rfl rfl C dX0_hangingTogether_4 ?_
  refine z_iconst (pc := 5) (0 : Int32) (by decide) C dX0_hangingTogether_5 ?_
  refine z_istore (pc := 6) [(0, (.long x0)), (2, (.long x2_1)), (4, (.int (0 : Int32)))] [1, 2, 0] (by decide) rfl C dX0_hangingTogether_6 ?_
  exact zit_J (fun p9 => [(0, (.long x0)), (2, (.long p9.1)), (4, (.int p9.2))]) (fun p9 => []) (fun kc9 hk9 p9 => vX0_hangingTogether_8 C hR   (fun a0 a1 => hk9 (a0, a1)) _ _) F _
theorem mX0_hangingTogether {F : Nat}  {x0 : Int64} {res : Int64}  (hf : fX0_hangingTogether F x0 = some res) : zM yX0_hangingTogether cX0_hangingTogether 7 (some .long) 1 25 [(.long x0)] [] (some (.long res)) [] := zM_of (by decide +kernel) (Nat.le_of_ble_eq_true rfl) (fun X C hR => wX0_hangingTogether (F := F) C hR  hf)
theorem dX3_figuresOf_0 : decode cX3_figuresOf 0 = .ok (.iload_n 0, 1) := by decide +kernel
theorem dX3_figuresOf_1 : decode cX3_figuresOf 1 = .ok (.tableswitch 81 100 114 #[75, 81, 79, 81, 81, 81, 81, 81, 81, 77, 81, 81, 77, 81, 75], 75) := by decide +kernel
theorem dX3_figuresOf_76 : decode cX3_figuresOf 76 = .ok (.iconst 5, 1) := by decide +kernel
theorem dX3_figuresOf_77 : decode cX3_figuresOf 77 = .ok (.ireturn, 1) := by decide +kernel
theorem dX3_figuresOf_78 : decode cX3_figuresOf 78 = .ok (.iconst 3, 1) := by decide +kernel
theorem dX3_figuresOf_79 : decode cX3_figuresOf 79 = .ok (.ireturn, 1) := by decide +kernel
theorem dX3_figuresOf_80 : decode cX3_figuresOf 80 = .ok (.iconst 0, 1) := by decide +kernel
theorem dX3_figuresOf_81 : decode cX3_figuresOf 81 = .ok (.ireturn, 1) := by decide +kernel
theorem dX3_figuresOf_82 : decode cX3_figuresOf 82 = .ok (.iconst (-1), 1) := by decide +kernel
theorem dX3_figuresOf_83 : decode cX3_figuresOf 83 = .ok (.ireturn, 1) := by decide +kernel
def fX3_figuresOf (x0 : Int32) : Option (Int32) := (if x0 = (100 : Int32) then (some ((5 : Int32))) else (if x0 = (102 : Int32) then (some ((0 : Int32))) else (if x0 = (109 : Int32) then (some ((3 : Int32))) else (if x0 = (112 : Int32) then (some ((3 : Int32))) else (if x0 = (114 : Int32) then (some ((5 : Int32))) else (some ((-1 : Int32))))))))
set_option maxRecDepth 20000 in
theorem wX3_figuresOf {X : zCx} {res : Int32}   {x0 : Int32} (C : zC X RX3 cX3_figuresOf 1 0 0) (hR : zR X (some .int) (some (.int res)) [])  : zJ X 1 res (fX3_figuresOf x0) 0 [(0, (.int x0))] [] [] := by
  unfold fX3_figuresOf
  refine z_iload_n (pc := 0) 0 rfl rfl C dX3_figuresOf_0 ?_
  refine z_if (fun hx_1 => ?_) (fun hx_1 => ?_)
  · refine z_tin (pc := 1) (100 : Int32) 76 hx_1 C dX3_figuresOf_1 (by decide) (by decide) rfl (by decide) ?_
    refine z_iconst (pc := 76) (5 : Int32) (by decide) C dX3_figuresOf_76 ?_
    exact z_ireturn (pc := 77) C hR dX3_figuresOf_77 (fun h => by subst h; exact ⟨rfl, rfl⟩)
  · refine z_if (fun hx_2 => ?_) (fun hx_2 => ?_)
    · refine z_tin (pc := 1) (102 : Int32) 80 hx_2 C dX3_figuresOf_1 (by decide) (by decide) rfl (by decide) ?_
      refine z_iconst (pc := 80) (0 : Int32) (by decide) C dX3_figuresOf_80 ?_
      exact z_ireturn (pc := 81) C hR dX3_figuresOf_81 (fun h => by subst h; exact ⟨rfl, rfl⟩)
    · refine z_if (fun hx_3 => ?_) (fun hx_3 => ?_)
      · refine z_tin (pc := 1) (109 : Int32) 78 hx_3 C dX3_figuresOf_1 (by decide) (by decide) rfl (by decide) ?_
        refine z_iconst (pc := 78) (3 : Int32) (by decide) C dX3_figuresOf_78 ?_
        exact z_ireturn (pc := 79) C hR dX3_figuresOf_79 (fun h => by subst h; exact ⟨rfl, rfl⟩)
      · refine z_if (fun hx_4 => ?_) (fun hx_4 => ?_)
        · refine z_tin (pc := 1) (112 : Int32) 78 hx_4 C dX3_figuresOf_1 (by decide) (by decide) rfl (by decide) ?_
          refine z_iconst (pc := 78) (3 : Int32) (by decide) C dX3_figuresOf_78 ?_
          exact z_ireturn (pc := 79) C hR dX3_figuresOf_79 (fun h => by subst h; exact ⟨rfl, rfl⟩)
        · refine z_if (fun hx_5 => ?_) (fun hx_5 => ?_)
          · refine z_tin (pc := 1) (114 : Int32) 76 hx_5 C dX3_figuresOf_1 (by decide) (by decide) rfl (by decide) ?_
            refine z_iconst (pc := 76) (5 : Int32) (by decide) C dX3_figuresOf_76 ?_
            exact z_ireturn (pc := 77) C hR dX3_figuresOf_77 (fun h => by subst h; exact ⟨rfl, rfl⟩)
          · refine z_tdef (pc := 1) [(100 : Int32), (102 : Int32), (109 : Int32), (112 : Int32), (114 : Int32)] 82 (by intro v hv; simp only [List.mem_cons, List.not_mem_nil, or_false] at hv; rcases hv with rfl | rfl | rfl | rfl | rfl <;> assumption) C dX3_figuresOf_1 (by decide) (by decide) ?_
            refine z_iconst (pc := 82) (-1 : Int32) (by decide) C dX3_figuresOf_82 ?_
            exact z_ireturn (pc := 83) C hR dX3_figuresOf_83 (fun h => by subst h; exact ⟨rfl, rfl⟩)
theorem mX3_figuresOf   {x0 : Int32} {res : Int32}  (hf : fX3_figuresOf x0 = some res) : zM yX3_figuresOf cX3_figuresOf 1 (some .int) 0 0 [(.int x0)] [] (some (.int res)) [] := zM_of (by decide +kernel) (Nat.le_of_ble_eq_true rfl) (fun X C hR => wX3_figuresOf C hR  hf)
theorem dX3_canStand_0 : decode cX3_canStand 0 = .ok (.iload_n 1, 1) := by decide +kernel
theorem dX3_canStand_1 : decode cX3_canStand 1 = .ok (.iconst (-1), 1) := by decide +kernel
theorem dX3_canStand_2 : decode cX3_canStand 2 = .ok (.if_icmp .ne 17, 3) := by decide +kernel
theorem dX3_canStand_5 : decode cX3_canStand 5 = .ok (.iload_n 0, 1) := by decide +kernel
theorem dX3_canStand_6 : decode cX3_canStand 6 = .ok (.invokestatic 27, 3) := by decide +kernel
theorem dX3_canStand_9 : decode cX3_canStand 9 = .ok (.iconst (-1), 1) := by decide +kernel
theorem dX3_canStand_10 : decode cX3_canStand 10 = .ok (.if_icmp .eq 7, 3) := by decide +kernel
theorem dX3_canStand_13 : decode cX3_canStand 13 = .ok (.iconst 1, 1) := by decide +kernel
theorem dX3_canStand_14 : decode cX3_canStand 14 = .ok (.goto 4, 3) := by decide +kernel
theorem dX3_canStand_17 : decode cX3_canStand 17 = .ok (.iconst 0, 1) := by decide +kernel
theorem dX3_canStand_18 : decode cX3_canStand 18 = .ok (.ireturn, 1) := by decide +kernel
theorem dX3_canStand_19 : decode cX3_canStand 19 = .ok (.iload_n 1, 1) := by decide +kernel
theorem dX3_canStand_20 : decode cX3_canStand 20 = .ok (.ifCond .ne 17, 3) := by decide +kernel
theorem dX3_canStand_23 : decode cX3_canStand 23 = .ok (.iload_n 0, 1) := by decide +kernel
theorem dX3_canStand_24 : decode cX3_canStand 24 = .ok (.bipush 59, 2) := by decide +kernel
theorem dX3_canStand_26 : decode cX3_canStand 26 = .ok (.if_icmp .ne 7, 3) := by decide +kernel
theorem dX3_canStand_29 : decode cX3_canStand 29 = .ok (.iconst 1, 1) := by decide +kernel
theorem dX3_canStand_30 : decode cX3_canStand 30 = .ok (.goto 24, 3) := by decide +kernel
theorem dX3_canStand_33 : decode cX3_canStand 33 = .ok (.iconst 0, 1) := by decide +kernel
theorem dX3_canStand_34 : decode cX3_canStand 34 = .ok (.goto 20, 3) := by decide +kernel
theorem dX3_canStand_37 : decode cX3_canStand 37 = .ok (.iload_n 0, 1) := by decide +kernel
theorem dX3_canStand_38 : decode cX3_canStand 38 = .ok (.bipush 48, 2) := by decide +kernel
theorem dX3_canStand_40 : decode cX3_canStand 40 = .ok (.if_icmp .lt 13, 3) := by decide +kernel
theorem dX3_canStand_43 : decode cX3_canStand 43 = .ok (.iload_n 0, 1) := by decide +kernel
theorem dX3_canStand_44 : decode cX3_canStand 44 = .ok (.bipush 57, 2) := by decide +kernel
theorem dX3_canStand_46 : decode cX3_canStand 46 = .ok (.if_icmp .gt 7, 3) := by decide +kernel
theorem dX3_canStand_49 : decode cX3_canStand 49 = .ok (.iconst 1, 1) := by decide +kernel
theorem dX3_canStand_50 : decode cX3_canStand 50 = .ok (.goto 4, 3) := by decide +kernel
theorem dX3_canStand_53 : decode cX3_canStand 53 = .ok (.iconst 0, 1) := by decide +kernel
theorem dX3_canStand_54 : decode cX3_canStand 54 = .ok (.ireturn, 1) := by decide +kernel
def fX3_canStand (x0 : Int32) (x1 : Int32) : Option (Int32) := (if x1 = (-1 : Int32) then (Option.bind (fX3_figuresOf x0) (fun r_1 : Int32 => (if r_1 = (-1 : Int32) then (zbk (0 : Int32) (some ((0 : Int32)))) else (zbk (1 : Int32) (some ((1 : Int32))))))) else (if x1 = 0 then (if x0 = (59 : Int32) then (zbk (1 : Int32) (some ((1 : Int32)))) else (zbk (0 : Int32) (some ((0 : Int32))))) else (if x0 < (48 : Int32) then (zbk (0 : Int32) (some ((0 : Int32)))) else (if (57 : Int32) < x0 then (zbk (0 : Int32) (some ((0 : Int32)))) else (zbk (1 : Int32) (some ((1 : Int32))))))))
set_option maxRecDepth 20000 in
theorem wX3_canStand {X : zCx} {res : Int32}   {x0 : Int32} {x1 : Int32} (C : zC X RX3 cX3_canStand 2 1 20) (hR : zR X (some .boolean) (some (.int res)) [])  : zJ X 2 res (fX3_canStand x0 x1) 0 [(0, (.int x0)), (1, (.int x1))] [] [] := by
  unfold fX3_canStand
  refine z_iload_n (pc := 0) 1 rfl rfl C dX3_canStand_0 ?_
  refine z_iconst (pc := 1) (-1 : Int32) (by decide) C dX3_canStand_1 ?_
  refine z_icmp_ne (pc := 2) 19 C dX3_canStand_2 (by decide) ?_ ?_
  · refine z_iload_n (pc := 5) 0 rfl rfl C dX3_canStand_5 ?_
    refine z_callS (pc := 6) (rf' := 0) (rl' := 0) (fX3_figuresOf x0) [(.int x0)] [] [] (fun r_1 => (some (.int r_1))) (fun r_1 => []) [] (fun r_1 => []) C dX3_canStand_6 zy_X3_figuresOf zw_660 (fun _ hr9 => mX3_figuresOf  hr9) (by decide) rfl (Nat.le_of_ble_eq_true rfl) (List.Perm.refl _) (fun _ => List.Perm.refl _) rfl (fun r_1 hr_2 => ?_)
    show zJ X 2 res _ 9 [(0, (.int x0)), (1, (.int x1))] [(.int r_1)] []
    refine z_iconst (pc := 9) (-1 : Int32) (by decide) C dX3_canStand_9 ?_
    refine z_icmp_eq (pc := 10) 17 C dX3_canStand_10 (by decide) ?_ ?_
    · refine z_iconst (pc := 17) (0 : Int32) (by decide) C dX3_canStand_17 ?_
      exact z_zreturn (pc := 18) C hR dX3_canStand_18 (fun h => by subst h; exact ⟨rfl, rfl⟩)
    · refine z_iconst (pc := 13) (1 : Int32) (by decide) C dX3_canStand_13 ?_
      refine z_goto (pc := 14) 18 C dX3_canStand_14 (by decide) ?_
      exact z_zreturn (pc := 18) C hR dX3_canStand_18 (fun h => by subst h; exact ⟨rfl, rfl⟩)
  · refine z_iload_n (pc := 19) 1 rfl rfl C dX3_canStand_19 ?_
    refine z_if_ne (pc := 20) 37 C dX3_canStand_20 (by decide) ?_ ?_
    · refine z_iload_n (pc := 23) 0 rfl rfl C dX3_canStand_23 ?_
      refine z_bipush (pc := 24) (59 : Int32) (by decide) C dX3_canStand_24 ?_
      refine z_icmp_ne (pc := 26) 33 C dX3_canStand_26 (by decide) ?_ ?_
      · refine z_iconst (pc := 29) (1 : Int32) (by decide) C dX3_canStand_29 ?_
        refine z_goto (pc := 30) 54 C dX3_canStand_30 (by decide) ?_
        exact z_zreturn (pc := 54) C hR dX3_canStand_54 (fun h => by subst h; exact ⟨rfl, rfl⟩)
      · refine z_iconst (pc := 33) (0 : Int32) (by decide) C dX3_canStand_33 ?_
        refine z_goto (pc := 34) 54 C dX3_canStand_34 (by decide) ?_
        exact z_zreturn (pc := 54) C hR dX3_canStand_54 (fun h => by subst h; exact ⟨rfl, rfl⟩)
    · refine z_iload_n (pc := 37) 0 rfl rfl C dX3_canStand_37 ?_
      refine z_bipush (pc := 38) (48 : Int32) (by decide) C dX3_canStand_38 ?_
      refine z_icmp_lt (pc := 40) 53 C dX3_canStand_40 (by decide) ?_ ?_
      · refine z_iconst (pc := 53) (0 : Int32) (by decide) C dX3_canStand_53 ?_
        exact z_zreturn (pc := 54) C hR dX3_canStand_54 (fun h => by subst h; exact ⟨rfl, rfl⟩)
      · refine z_iload_n (pc := 43) 0 rfl rfl C dX3_canStand_43 ?_
        refine z_bipush (pc := 44) (57 : Int32) (by decide) C dX3_canStand_44 ?_
        refine z_icmp_gt (pc := 46) 53 C dX3_canStand_46 (by decide) ?_ ?_
        · refine z_iconst (pc := 53) (0 : Int32) (by decide) C dX3_canStand_53 ?_
          exact z_zreturn (pc := 54) C hR dX3_canStand_54 (fun h => by subst h; exact ⟨rfl, rfl⟩)
        · refine z_iconst (pc := 49) (1 : Int32) (by decide) C dX3_canStand_49 ?_
          refine z_goto (pc := 50) 54 C dX3_canStand_50 (by decide) ?_
          exact z_zreturn (pc := 54) C hR dX3_canStand_54 (fun h => by subst h; exact ⟨rfl, rfl⟩)
theorem mX3_canStand   {x0 : Int32} {x1 : Int32} {res : Int32}  (hf : fX3_canStand x0 x1 = some res) : zM yX3_canStand cX3_canStand 2 (some .boolean) 1 20 [(.int x0), (.int x1)] [] (some (.int res)) [] := zM_of (by decide +kernel) (Nat.le_of_ble_eq_true rfl) (fun X C hR => wX3_canStand C hR  hf)
theorem dJ13_bitCount_95d88_0 : decode cJ13_bitCount_95d88 0 = .ok (.lload_n 0, 1) := by decide +kernel
theorem dJ13_bitCount_95d88_1 : decode cJ13_bitCount_95d88 1 = .ok (.lload_n 0, 1) := by decide +kernel
theorem dJ13_bitCount_95d88_2 : decode cJ13_bitCount_95d88 2 = .ok (.iconst 1, 1) := by decide +kernel
theorem dJ13_bitCount_95d88_3 : decode cJ13_bitCount_95d88 3 = .ok (.lushr, 1) := by decide +kernel
theorem dJ13_bitCount_95d88_4 : decode cJ13_bitCount_95d88 4 = .ok (.ldc2_w 314, 3) := by decide +kernel
theorem dJ13_bitCount_95d88_7 : decode cJ13_bitCount_95d88 7 = .ok (.land, 1) := by decide +kernel
theorem dJ13_bitCount_95d88_8 : decode cJ13_bitCount_95d88 8 = .ok (.lsub, 1) := by decide +kernel
theorem dJ13_bitCount_95d88_9 : decode cJ13_bitCount_95d88 9 = .ok (.lstore_n 0, 1) := by decide +kernel
theorem dJ13_bitCount_95d88_10 : decode cJ13_bitCount_95d88 10 = .ok (.lload_n 0, 1) := by decide +kernel
theorem dJ13_bitCount_95d88_11 : decode cJ13_bitCount_95d88 11 = .ok (.ldc2_w 316, 3) := by decide +kernel
theorem dJ13_bitCount_95d88_14 : decode cJ13_bitCount_95d88 14 = .ok (.land, 1) := by decide +kernel
theorem dJ13_bitCount_95d88_15 : decode cJ13_bitCount_95d88 15 = .ok (.lload_n 0, 1) := by decide +kernel
theorem dJ13_bitCount_95d88_16 : decode cJ13_bitCount_95d88 16 = .ok (.iconst 2, 1) := by decide +kernel
theorem dJ13_bitCount_95d88_17 : decode cJ13_bitCount_95d88 17 = .ok (.lushr, 1) := by decide +kernel
theorem dJ13_bitCount_95d88_18 : decode cJ13_bitCount_95d88 18 = .ok (.ldc2_w 316, 3) := by decide +kernel
theorem dJ13_bitCount_95d88_21 : decode cJ13_bitCount_95d88 21 = .ok (.land, 1) := by decide +kernel
theorem dJ13_bitCount_95d88_22 : decode cJ13_bitCount_95d88 22 = .ok (.ladd, 1) := by decide +kernel
theorem dJ13_bitCount_95d88_23 : decode cJ13_bitCount_95d88 23 = .ok (.lstore_n 0, 1) := by decide +kernel
theorem dJ13_bitCount_95d88_24 : decode cJ13_bitCount_95d88 24 = .ok (.lload_n 0, 1) := by decide +kernel
theorem dJ13_bitCount_95d88_25 : decode cJ13_bitCount_95d88 25 = .ok (.lload_n 0, 1) := by decide +kernel
theorem dJ13_bitCount_95d88_26 : decode cJ13_bitCount_95d88 26 = .ok (.iconst 4, 1) := by decide +kernel
theorem dJ13_bitCount_95d88_27 : decode cJ13_bitCount_95d88 27 = .ok (.lushr, 1) := by decide +kernel
theorem dJ13_bitCount_95d88_28 : decode cJ13_bitCount_95d88 28 = .ok (.ladd, 1) := by decide +kernel
theorem dJ13_bitCount_95d88_29 : decode cJ13_bitCount_95d88 29 = .ok (.ldc2_w 318, 3) := by decide +kernel
theorem dJ13_bitCount_95d88_32 : decode cJ13_bitCount_95d88 32 = .ok (.land, 1) := by decide +kernel
theorem dJ13_bitCount_95d88_33 : decode cJ13_bitCount_95d88 33 = .ok (.lstore_n 0, 1) := by decide +kernel
theorem dJ13_bitCount_95d88_34 : decode cJ13_bitCount_95d88 34 = .ok (.lload_n 0, 1) := by decide +kernel
theorem dJ13_bitCount_95d88_35 : decode cJ13_bitCount_95d88 35 = .ok (.lload_n 0, 1) := by decide +kernel
theorem dJ13_bitCount_95d88_36 : decode cJ13_bitCount_95d88 36 = .ok (.bipush 8, 2) := by decide +kernel
theorem dJ13_bitCount_95d88_38 : decode cJ13_bitCount_95d88 38 = .ok (.lushr, 1) := by decide +kernel
theorem dJ13_bitCount_95d88_39 : decode cJ13_bitCount_95d88 39 = .ok (.ladd, 1) := by decide +kernel
theorem dJ13_bitCount_95d88_40 : decode cJ13_bitCount_95d88 40 = .ok (.lstore_n 0, 1) := by decide +kernel
theorem dJ13_bitCount_95d88_41 : decode cJ13_bitCount_95d88 41 = .ok (.lload_n 0, 1) := by decide +kernel
theorem dJ13_bitCount_95d88_42 : decode cJ13_bitCount_95d88 42 = .ok (.lload_n 0, 1) := by decide +kernel
theorem dJ13_bitCount_95d88_43 : decode cJ13_bitCount_95d88 43 = .ok (.bipush 16, 2) := by decide +kernel
theorem dJ13_bitCount_95d88_45 : decode cJ13_bitCount_95d88 45 = .ok (.lushr, 1) := by decide +kernel
theorem dJ13_bitCount_95d88_46 : decode cJ13_bitCount_95d88 46 = .ok (.ladd, 1) := by decide +kernel
theorem dJ13_bitCount_95d88_47 : decode cJ13_bitCount_95d88 47 = .ok (.lstore_n 0, 1) := by decide +kernel
theorem dJ13_bitCount_95d88_48 : decode cJ13_bitCount_95d88 48 = .ok (.lload_n 0, 1) := by decide +kernel
theorem dJ13_bitCount_95d88_49 : decode cJ13_bitCount_95d88 49 = .ok (.lload_n 0, 1) := by decide +kernel
theorem dJ13_bitCount_95d88_50 : decode cJ13_bitCount_95d88 50 = .ok (.bipush 32, 2) := by decide +kernel
theorem dJ13_bitCount_95d88_52 : decode cJ13_bitCount_95d88 52 = .ok (.lushr, 1) := by decide +kernel
theorem dJ13_bitCount_95d88_53 : decode cJ13_bitCount_95d88 53 = .ok (.ladd, 1) := by decide +kernel
theorem dJ13_bitCount_95d88_54 : decode cJ13_bitCount_95d88 54 = .ok (.lstore_n 0, 1) := by decide +kernel
theorem dJ13_bitCount_95d88_55 : decode cJ13_bitCount_95d88 55 = .ok (.lload_n 0, 1) := by decide +kernel
theorem dJ13_bitCount_95d88_56 : decode cJ13_bitCount_95d88 56 = .ok (.l2i, 1) := by decide +kernel
theorem dJ13_bitCount_95d88_57 : decode cJ13_bitCount_95d88 57 = .ok (.bipush 127, 2) := by decide +kernel
theorem dJ13_bitCount_95d88_59 : decode cJ13_bitCount_95d88 59 = .ok (.iand, 1) := by decide +kernel
theorem dJ13_bitCount_95d88_60 : decode cJ13_bitCount_95d88 60 = .ok (.ireturn, 1) := by decide +kernel
def fJ13_bitCount_95d88 (x0 : Int64) : Option (Int32) := (zlet (x0 - (((x0.toUInt64 >>> ((1 : Int32).toInt64.toUInt64 &&& Int64.toUInt64 63)).toInt64) &&& (6148914691236517205 : Int64))) (fun x0_1 : Int64 => (zlet ((x0_1 &&& (3689348814741910323 : Int64)) + (((x0_1.toUInt64 >>> ((2 : Int32).toInt64.toUInt64 &&& Int64.toUInt64 63)).toInt64) &&& (3689348814741910323 : Int64))) (fun x0_2 : Int64 => (zlet ((x0_2 + ((x0_2.toUInt64 >>> ((4 : Int32).toInt64.toUInt64 &&& Int64.toUInt64 63)).toInt64)) &&& (1085102592571150095 : Int64)) (fun x0_3 : Int64 => (zlet (x0_3 + ((x0_3.toUInt64 >>> ((8 : Int32).toInt64.toUInt64 &&& Int64.toUInt64 63)).toInt64)) (fun x0_4 : Int64 => (zlet (x0_4 + ((x0_4.toUInt64 >>> ((16 : Int32).toInt64.toUInt64 &&& Int64.toUInt64 63)).toInt64)) (fun x0_5 : Int64 => (zlet (x0_5 + ((x0_5.toUInt64 >>> ((32 : Int32).toInt64.toUInt64 &&& Int64.toUInt64 63)).toInt64)) (fun x0_6 : Int64 => (some (x0_6.toInt32 &&& (127 : Int32)))))))))))))))
set_option maxRecDepth 20000 in
theorem wJ13_bitCount_95d88 {X : zCx} {res : Int32}   {x0 : Int64} (C : zC X RJ13 cJ13_bitCount_95d88 2 0 0) (hR : zR X (some .int) (some (.int res)) [])  : zJ X 2 res (fJ13_bitCount_95d88 x0) 0 [(0, (.long x0))] [] [] := by
  unfold fJ13_bitCount_95d88
  refine z_lload_n (pc := 0) 0 rfl rfl C dJ13_bitCount_95d88_0 ?_
  refine z_lload_n (pc := 1) 0 rfl rfl C dJ13_bitCount_95d88_1 ?_
  refine z_iconst (pc := 2) (1 : Int32) (by decide) C dJ13_bitCount_95d88_2 ?_
  refine z_lushr (pc := 3) C dJ13_bitCount_95d88_3 ?_
  refine z_ldc2_w (pc := 4) (6148914691236517205 : Int64) zw_317 C dJ13_bitCount_95d88_4 ?_
  refine z_land (pc := 7) C dJ13_bitCount_95d88_7 ?_
  refine z_lsub (pc := 8) C dJ13_bitCount_95d88_8 ?_
  refine z_letl (fun x0_1 => ?_)
  refine z_lstore_n (pc := 9) [(0, (.long x0_1))] [0] (by decide) rfl rfl C dJ13_bitCount_95d88_9 ?_
  refine z_lload_n (pc := 10) 0 rfl rfl C dJ13_bitCount_95d88_10 ?_
  refine z_ldc2_w (pc := 11) (3689348814741910323 : Int64) zw_318 C dJ13_bitCount_95d88_11 ?_
  refine z_land (pc := 14) C dJ13_bitCount_95d88_14 ?_
  refine z_lload_n (pc := 15) 0 rfl rfl C dJ13_bitCount_95d88_15 ?_
  refine z_iconst (pc := 16) (2 : Int32) (by decide) C dJ13_bitCount_95d88_16 ?_
  refine z_lushr (pc := 17) C dJ13_bitCount_95d88_17 ?_
  refine z_ldc2_w (pc := 18) (3689348814741910323 : Int64) zw_318 C dJ13_bitCount_95d88_18 ?_
  refine z_land (pc := 21) C dJ13_bitCount_95d88_21 ?_
  refine z_ladd (pc := 22) C dJ13_bitCount_95d88_22 ?_
  refine z_letl (fun x0_2 => ?_)
  refine z_lstore_n (pc := 23) [(0, (.long x0_2))] [0] (by decide) rfl rfl C dJ13_bitCount_95d88_23 ?_
  refine z_lload_n (pc := 24) 0 rfl rfl C dJ13_bitCount_95d88_24 ?_
  refine z_lload_n (pc := 25) 0 rfl rfl C dJ13_bitCount_95d88_25 ?_
  refine z_iconst (pc := 26) (4 : Int32) (by decide) C dJ13_bitCount_95d88_26 ?_
  refine z_lushr (pc := 27) C dJ13_bitCount_95d88_27 ?_
  refine z_ladd (pc := 28) C dJ13_bitCount_95d88_28 ?_
  refine z_ldc2_w (pc := 29) (1085102592571150095 : Int64) zw_319 C dJ13_bitCount_95d88_29 ?_
  refine z_land (pc := 32) C dJ13_bitCount_95d88_32 ?_
  refine z_letl (fun x0_3 => ?_)
  refine z_lstore_n (pc := 33) [(0, (.long x0_3))] [0] (by decide) rfl rfl C dJ13_bitCount_95d88_33 ?_
  refine z_lload_n (pc := 34) 0 rfl rfl C dJ13_bitCount_95d88_34 ?_
  refine z_lload_n (pc := 35) 0 rfl rfl C dJ13_bitCount_95d88_35 ?_
  refine z_bipush (pc := 36) (8 : Int32) (by decide) C dJ13_bitCount_95d88_36 ?_
  refine z_lushr (pc := 38) C dJ13_bitCount_95d88_38 ?_
  refine z_ladd (pc := 39) C dJ13_bitCount_95d88_39 ?_
  refine z_letl (fun x0_4 => ?_)
  refine z_lstore_n (pc := 40) [(0, (.long x0_4))] [0] (by decide) rfl rfl C dJ13_bitCount_95d88_40 ?_
  refine z_lload_n (pc := 41) 0 rfl rfl C dJ13_bitCount_95d88_41 ?_
  refine z_lload_n (pc := 42) 0 rfl rfl C dJ13_bitCount_95d88_42 ?_
  refine z_bipush (pc := 43) (16 : Int32) (by decide) C dJ13_bitCount_95d88_43 ?_
  refine z_lushr (pc := 45) C dJ13_bitCount_95d88_45 ?_
  refine z_ladd (pc := 46) C dJ13_bitCount_95d88_46 ?_
  refine z_letl (fun x0_5 => ?_)
  refine z_lstore_n (pc := 47) [(0, (.long x0_5))] [0] (by decide) rfl rfl C dJ13_bitCount_95d88_47 ?_
  refine z_lload_n (pc := 48) 0 rfl rfl C dJ13_bitCount_95d88_48 ?_
  refine z_lload_n (pc := 49) 0 rfl rfl C dJ13_bitCount_95d88_49 ?_
  refine z_bipush (pc := 50) (32 : Int32) (by decide) C dJ13_bitCount_95d88_50 ?_
  refine z_lushr (pc := 52) C dJ13_bitCount_95d88_52 ?_
  refine z_ladd (pc := 53) C dJ13_bitCount_95d88_53 ?_
  refine z_letl (fun x0_6 => ?_)
  refine z_lstore_n (pc := 54) [(0, (.long x0_6))] [0] (by decide) rfl rfl C dJ13_bitCount_95d88_54 ?_
  refine z_lload_n (pc := 55) 0 rfl rfl C dJ13_bitCount_95d88_55 ?_
  refine z_l2i (pc := 56) C dJ13_bitCount_95d88_56 ?_
  refine z_bipush (pc := 57) (127 : Int32) (by decide) C dJ13_bitCount_95d88_57 ?_
  refine z_iand (pc := 59) C dJ13_bitCount_95d88_59 ?_
  exact z_ireturn (pc := 60) C hR dJ13_bitCount_95d88_60 (fun h => by subst h; exact ⟨rfl, rfl⟩)
theorem mJ13_bitCount_95d88   {x0 : Int64} {res : Int32}  (hf : fJ13_bitCount_95d88 x0 = some res) : zM yJ13_bitCount_95d88 cJ13_bitCount_95d88 2 (some .int) 0 0 [(.long x0)] [] (some (.int res)) [] := zM_of (by decide +kernel) (Nat.le_of_ble_eq_true rfl) (fun X C hR => wJ13_bitCount_95d88 C hR  hf)
theorem dJ6_numberOfTrailingZeros_0f7a4_0 : decode cJ6_numberOfTrailingZeros_0f7a4 0 = .ok (.iload_n 0, 1) := by decide +kernel
theorem dJ6_numberOfTrailingZeros_0f7a4_1 : decode cJ6_numberOfTrailingZeros_0f7a4 1 = .ok (.iconst (-1), 1) := by decide +kernel
theorem dJ6_numberOfTrailingZeros_0f7a4_2 : decode cJ6_numberOfTrailingZeros_0f7a4 2 = .ok (.ixor, 1) := by decide +kernel
theorem dJ6_numberOfTrailingZeros_0f7a4_3 : decode cJ6_numberOfTrailingZeros_0f7a4 3 = .ok (.iload_n 0, 1) := by decide +kernel
theorem dJ6_numberOfTrailingZeros_0f7a4_4 : decode cJ6_numberOfTrailingZeros_0f7a4 4 = .ok (.iconst 1, 1) := by decide +kernel
theorem dJ6_numberOfTrailingZeros_0f7a4_5 : decode cJ6_numberOfTrailingZeros_0f7a4 5 = .ok (.isub, 1) := by decide +kernel
theorem dJ6_numberOfTrailingZeros_0f7a4_6 : decode cJ6_numberOfTrailingZeros_0f7a4 6 = .ok (.iand, 1) := by decide +kernel
theorem dJ6_numberOfTrailingZeros_0f7a4_7 : decode cJ6_numberOfTrailingZeros_0f7a4 7 = .ok (.istore_n 0, 1) := by decide +kernel
theorem dJ6_numberOfTrailingZeros_0f7a4_8 : decode cJ6_numberOfTrailingZeros_0f7a4 8 = .ok (.iload_n 0, 1) := by decide +kernel
theorem dJ6_numberOfTrailingZeros_0f7a4_9 : decode cJ6_numberOfTrailingZeros_0f7a4 9 = .ok (.ifCond .gt 8, 3) := by decide +kernel
theorem dJ6_numberOfTrailingZeros_0f7a4_12 : decode cJ6_numberOfTrailingZeros_0f7a4 12 = .ok (.iload_n 0, 1) := by decide +kernel
theorem dJ6_numberOfTrailingZeros_0f7a4_13 : decode cJ6_numberOfTrailingZeros_0f7a4 13 = .ok (.bipush 32, 2) := by decide +kernel
theorem dJ6_numberOfTrailingZeros_0f7a4_15 : decode cJ6_numberOfTrailingZeros_0f7a4 15 = .ok (.iand, 1) := by decide +kernel
theorem dJ6_numberOfTrailingZeros_0f7a4_16 : decode cJ6_numberOfTrailingZeros_0f7a4 16 = .ok (.ireturn, 1) := by decide +kernel
theorem dJ6_numberOfTrailingZeros_0f7a4_17 : decode cJ6_numberOfTrailingZeros_0f7a4 17 = .ok (.iconst 1, 1) := by decide +kernel
theorem dJ6_numberOfTrailingZeros_0f7a4_18 : decode cJ6_numberOfTrailingZeros_0f7a4 18 = .ok (.istore_n 1, 1) := by decide +kernel
theorem dJ6_numberOfTrailingZeros_0f7a4_19 : decode cJ6_numberOfTrailingZeros_0f7a4 19 = .ok (.iload_n 0, 1) := by decide +kernel
theorem dJ6_numberOfTrailingZeros_0f7a4_20 : decode cJ6_numberOfTrailingZeros_0f7a4 20 = .ok (.ldc_w 264, 3) := by decide +kernel
theorem dJ6_numberOfTrailingZeros_0f7a4_23 : decode cJ6_numberOfTrailingZeros_0f7a4 23 = .ok (.if_icmp .le 11, 3) := by decide +kernel
theorem dJ6_numberOfTrailingZeros_0f7a4_26 : decode cJ6_numberOfTrailingZeros_0f7a4 26 = .ok (.iinc 1 16, 3) := by decide +kernel
theorem dJ6_numberOfTrailingZeros_0f7a4_29 : decode cJ6_numberOfTrailingZeros_0f7a4 29 = .ok (.iload_n 0, 1) := by decide +kernel
theorem dJ6_numberOfTrailingZeros_0f7a4_30 : decode cJ6_numberOfTrailingZeros_0f7a4 30 = .ok (.bipush 16, 2) := by decide +kernel
theorem dJ6_numberOfTrailingZeros_0f7a4_32 : decode cJ6_numberOfTrailingZeros_0f7a4 32 = .ok (.iushr, 1) := by decide +kernel
theorem dJ6_numberOfTrailingZeros_0f7a4_33 : decode cJ6_numberOfTrailingZeros_0f7a4 33 = .ok (.istore_n 0, 1) := by decide +kernel
theorem dJ6_numberOfTrailingZeros_0f7a4_34 : decode cJ6_numberOfTrailingZeros_0f7a4 34 = .ok (.iload_n 0, 1) := by decide +kernel
theorem dJ6_numberOfTrailingZeros_0f7a4_35 : decode cJ6_numberOfTrailingZeros_0f7a4 35 = .ok (.sipush 256, 3) := by decide +kernel
theorem dJ6_numberOfTrailingZeros_0f7a4_38 : decode cJ6_numberOfTrailingZeros_0f7a4 38 = .ok (.if_icmp .le 11, 3) := by decide +kernel
theorem dJ6_numberOfTrailingZeros_0f7a4_41 : decode cJ6_numberOfTrailingZeros_0f7a4 41 = .ok (.iinc 1 8, 3) := by decide +kernel
theorem dJ6_numberOfTrailingZeros_0f7a4_44 : decode cJ6_numberOfTrailingZeros_0f7a4 44 = .ok (.iload_n 0, 1) := by decide +kernel
theorem dJ6_numberOfTrailingZeros_0f7a4_45 : decode cJ6_numberOfTrailingZeros_0f7a4 45 = .ok (.bipush 8, 2) := by decide +kernel
theorem dJ6_numberOfTrailingZeros_0f7a4_47 : decode cJ6_numberOfTrailingZeros_0f7a4 47 = .ok (.iushr, 1) := by decide +kernel
theorem dJ6_numberOfTrailingZeros_0f7a4_48 : decode cJ6_numberOfTrailingZeros_0f7a4 48 = .ok (.istore_n 0, 1) := by decide +kernel
theorem dJ6_numberOfTrailingZeros_0f7a4_49 : decode cJ6_numberOfTrailingZeros_0f7a4 49 = .ok (.iload_n 0, 1) := by decide +kernel
theorem dJ6_numberOfTrailingZeros_0f7a4_50 : decode cJ6_numberOfTrailingZeros_0f7a4 50 = .ok (.bipush 16, 2) := by decide +kernel
theorem dJ6_numberOfTrailingZeros_0f7a4_52 : decode cJ6_numberOfTrailingZeros_0f7a4 52 = .ok (.if_icmp .le 10, 3) := by decide +kernel
theorem dJ6_numberOfTrailingZeros_0f7a4_55 : decode cJ6_numberOfTrailingZeros_0f7a4 55 = .ok (.iinc 1 4, 3) := by decide +kernel
theorem dJ6_numberOfTrailingZeros_0f7a4_58 : decode cJ6_numberOfTrailingZeros_0f7a4 58 = .ok (.iload_n 0, 1) := by decide +kernel
theorem dJ6_numberOfTrailingZeros_0f7a4_59 : decode cJ6_numberOfTrailingZeros_0f7a4 59 = .ok (.iconst 4, 1) := by decide +kernel
theorem dJ6_numberOfTrailingZeros_0f7a4_60 : decode cJ6_numberOfTrailingZeros_0f7a4 60 = .ok (.iushr, 1) := by decide +kernel
theorem dJ6_numberOfTrailingZeros_0f7a4_61 : decode cJ6_numberOfTrailingZeros_0f7a4 61 = .ok (.istore_n 0, 1) := by decide +kernel
theorem dJ6_numberOfTrailingZeros_0f7a4_62 : decode cJ6_numberOfTrailingZeros_0f7a4 62 = .ok (.iload_n 0, 1) := by decide +kernel
theorem dJ6_numberOfTrailingZeros_0f7a4_63 : decode cJ6_numberOfTrailingZeros_0f7a4 63 = .ok (.iconst 4, 1) := by decide +kernel
theorem dJ6_numberOfTrailingZeros_0f7a4_64 : decode cJ6_numberOfTrailingZeros_0f7a4 64 = .ok (.if_icmp .le 10, 3) := by decide +kernel
theorem dJ6_numberOfTrailingZeros_0f7a4_67 : decode cJ6_numberOfTrailingZeros_0f7a4 67 = .ok (.iinc 1 2, 3) := by decide +kernel
theorem dJ6_numberOfTrailingZeros_0f7a4_70 : decode cJ6_numberOfTrailingZeros_0f7a4 70 = .ok (.iload_n 0, 1) := by decide +kernel
theorem dJ6_numberOfTrailingZeros_0f7a4_71 : decode cJ6_numberOfTrailingZeros_0f7a4 71 = .ok (.iconst 2, 1) := by decide +kernel
theorem dJ6_numberOfTrailingZeros_0f7a4_72 : decode cJ6_numberOfTrailingZeros_0f7a4 72 = .ok (.iushr, 1) := by decide +kernel
theorem dJ6_numberOfTrailingZeros_0f7a4_73 : decode cJ6_numberOfTrailingZeros_0f7a4 73 = .ok (.istore_n 0, 1) := by decide +kernel
theorem dJ6_numberOfTrailingZeros_0f7a4_74 : decode cJ6_numberOfTrailingZeros_0f7a4 74 = .ok (.iload_n 1, 1) := by decide +kernel
theorem dJ6_numberOfTrailingZeros_0f7a4_75 : decode cJ6_numberOfTrailingZeros_0f7a4 75 = .ok (.iload_n 0, 1) := by decide +kernel
theorem dJ6_numberOfTrailingZeros_0f7a4_76 : decode cJ6_numberOfTrailingZeros_0f7a4 76 = .ok (.iconst 1, 1) := by decide +kernel
theorem dJ6_numberOfTrailingZeros_0f7a4_77 : decode cJ6_numberOfTrailingZeros_0f7a4 77 = .ok (.iushr, 1) := by decide +kernel
theorem dJ6_numberOfTrailingZeros_0f7a4_78 : decode cJ6_numberOfTrailingZeros_0f7a4 78 = .ok (.iadd, 1) := by decide +kernel
theorem dJ6_numberOfTrailingZeros_0f7a4_79 : decode cJ6_numberOfTrailingZeros_0f7a4 79 = .ok (.ireturn, 1) := by decide +kernel
def jJ6_numberOfTrailingZeros_0f7a4_62 (x0 : Int32) (x1 : Int32) : Option (Int32) := (if x0 ≤ (4 : Int32) then (some (x1 + ((x0.toUInt32 >>> ((1 : Int32).toUInt32 &&& Int32.toUInt32 31)).toInt32))) else (zlet ((x0.toUInt32 >>> ((2 : Int32).toUInt32 &&& Int32.toUInt32 31)).toInt32) (fun x0_2 : Int32 => (some ((x1 + 2) + ((x0_2.toUInt32 >>> ((1 : Int32).toUInt32 &&& Int32.toUInt32 31)).toInt32))))))
set_option maxRecDepth 20000 in
theorem wJ6_numberOfTrailingZeros_0f7a4_62 {X : zCx} {res : Int32} (C : zC X RJ6 cJ6_numberOfTrailingZeros_0f7a4 2 0 0) (hR : zR X (some .int) (some (.int res)) []) (x0 : Int32) (x1 : Int32) : zJ X 2 res (jJ6_numberOfTrailingZeros_0f7a4_62 x0 x1) 62 [(0, (.int x0)), (1, (.int x1))] [] [] := by
  unfold jJ6_numberOfTrailingZeros_0f7a4_62
  refine z_iload_n (pc := 62) 0 rfl rfl C dJ6_numberOfTrailingZeros_0f7a4_62 ?_
  refine z_iconst (pc := 63) (4 : Int32) (by decide) C dJ6_numberOfTrailingZeros_0f7a4_63 ?_
  refine z_icmp_le (pc := 64) 74 C dJ6_numberOfTrailingZeros_0f7a4_64 (by decide) ?_ ?_
  · refine z_iload_n (pc := 74) 1 rfl rfl C dJ6_numberOfTrailingZeros_0f7a4_74 ?_
    refine z_iload_n (pc := 75) 0 rfl rfl C dJ6_numberOfTrailingZeros_0f7a4_75 ?_
    refine z_iconst (pc := 76) (1 : Int32) (by decide) C dJ6_numberOfTrailingZeros_0f7a4_76 ?_
    refine z_iushr (pc := 77) C dJ6_numberOfTrailingZeros_0f7a4_77 ?_
    refine z_iadd (pc := 78) C dJ6_numberOfTrailingZeros_0f7a4_78 ?_
    exact z_ireturn (pc := 79) C hR dJ6_numberOfTrailingZeros_0f7a4_79 (fun h => by subst h; exact ⟨rfl, rfl⟩)
  · refine z_iinc (pc := 67) (x1 + 2) 1 rfl rfl [(0, (.int x0)), (1, (.int (x1 + 2)))] [1, 0] (by decide) rfl C dJ6_numberOfTrailingZeros_0f7a4_67 ?_
    refine z_iload_n (pc := 70) 0 rfl rfl C dJ6_numberOfTrailingZeros_0f7a4_70 ?_
    refine z_iconst (pc := 71) (2 : Int32) (by decide) C dJ6_numberOfTrailingZeros_0f7a4_71 ?_
    refine z_iushr (pc := 72) C dJ6_numberOfTrailingZeros_0f7a4_72 ?_
    refine z_leti (fun x0_2 => ?_)
    refine z_istore_n (pc := 73) [(0, (.int x0_2)), (1, (.int (x1 + 2)))] [0, 1] (by decide) rfl rfl C dJ6_numberOfTrailingZeros_0f7a4_73 ?_
    refine z_iload_n (pc := 74) 1 rfl rfl C dJ6_numberOfTrailingZeros_0f7a4_74 ?_
    refine z_iload_n (pc := 75) 0 rfl rfl C dJ6_numberOfTrailingZeros_0f7a4_75 ?_
    refine z_iconst (pc := 76) (1 : Int32) (by decide) C dJ6_numberOfTrailingZeros_0f7a4_76 ?_
    refine z_iushr (pc := 77) C dJ6_numberOfTrailingZeros_0f7a4_77 ?_
    refine z_iadd (pc := 78) C dJ6_numberOfTrailingZeros_0f7a4_78 ?_
    exact z_ireturn (pc := 79) C hR dJ6_numberOfTrailingZeros_0f7a4_79 (fun h => by subst h; exact ⟨rfl, rfl⟩)
def jJ6_numberOfTrailingZeros_0f7a4_49 (x0 : Int32) (x1 : Int32) : Option (Int32) := (if x0 ≤ (16 : Int32) then (jJ6_numberOfTrailingZeros_0f7a4_62 x0 x1) else (zlet ((x0.toUInt32 >>> ((4 : Int32).toUInt32 &&& Int32.toUInt32 31)).toInt32) (fun x0_3 : Int32 => (jJ6_numberOfTrailingZeros_0f7a4_62 x0_3 (x1 + 4)))))
set_option maxRecDepth 20000 in
theorem wJ6_numberOfTrailingZeros_0f7a4_49 {X : zCx} {res : Int32} (C : zC X RJ6 cJ6_numberOfTrailingZeros_0f7a4 2 0 0) (hR : zR X (some .int) (some (.int res)) []) (x0 : Int32) (x1 : Int32) : zJ X 2 res (jJ6_numberOfTrailingZeros_0f7a4_49 x0 x1) 49 [(0, (.int x0)), (1, (.int x1))] [] [] := by
  unfold jJ6_numberOfTrailingZeros_0f7a4_49
  refine z_iload_n (pc := 49) 0 rfl rfl C dJ6_numberOfTrailingZeros_0f7a4_49 ?_
  refine z_bipush (pc := 50) (16 : Int32) (by decide) C dJ6_numberOfTrailingZeros_0f7a4_50 ?_
  refine z_icmp_le (pc := 52) 62 C dJ6_numberOfTrailingZeros_0f7a4_52 (by decide) ?_ ?_
  · exact wJ6_numberOfTrailingZeros_0f7a4_62 C hR   _ _
  · refine z_iinc (pc := 55) (x1 + 4) 1 rfl rfl [(0, (.int x0)), (1, (.int (x1 + 4)))] [1, 0] (by decide) rfl C dJ6_numberOfTrailingZeros_0f7a4_55 ?_
    refine z_iload_n (pc := 58) 0 rfl rfl C dJ6_numberOfTrailingZeros_0f7a4_58 ?_
    refine z_iconst (pc := 59) (4 : Int32) (by decide) C dJ6_numberOfTrailingZeros_0f7a4_59 ?_
    refine z_iushr (pc := 60) C dJ6_numberOfTrailingZeros_0f7a4_60 ?_
    refine z_leti (fun x0_3 => ?_)
    refine z_istore_n (pc := 61) [(0, (.int x0_3)), (1, (.int (x1 + 4)))] [0, 1] (by decide) rfl rfl C dJ6_numberOfTrailingZeros_0f7a4_61 ?_
    exact wJ6_numberOfTrailingZeros_0f7a4_62 C hR   _ _
def jJ6_numberOfTrailingZeros_0f7a4_34 (x0 : Int32) (x1 : Int32) : Option (Int32) := (if x0 ≤ (256 : Int32) then (jJ6_numberOfTrailingZeros_0f7a4_49 x0 x1) else (zlet ((x0.toUInt32 >>> ((8 : Int32).toUInt32 &&& Int32.toUInt32 31)).toInt32) (fun x0_4 : Int32 => (jJ6_numberOfTrailingZeros_0f7a4_49 x0_4 (x1 + 8)))))
set_option maxRecDepth 20000 in
theorem wJ6_numberOfTrailingZeros_0f7a4_34 {X : zCx} {res : Int32} (C : zC X RJ6 cJ6_numberOfTrailingZeros_0f7a4 2 0 0) (hR : zR X (some .int) (some (.int res)) []) (x0 : Int32) (x1 : Int32) : zJ X 2 res (jJ6_numberOfTrailingZeros_0f7a4_34 x0 x1) 34 [(0, (.int x0)), (1, (.int x1))] [] [] := by
  unfold jJ6_numberOfTrailingZeros_0f7a4_34
  refine z_iload_n (pc := 34) 0 rfl rfl C dJ6_numberOfTrailingZeros_0f7a4_34 ?_
  refine z_sipush (pc := 35) (256 : Int32) (by decide) C dJ6_numberOfTrailingZeros_0f7a4_35 ?_
  refine z_icmp_le (pc := 38) 49 C dJ6_numberOfTrailingZeros_0f7a4_38 (by decide) ?_ ?_
  · exact wJ6_numberOfTrailingZeros_0f7a4_49 C hR   _ _
  · refine z_iinc (pc := 41) (x1 + 8) 1 rfl rfl [(0, (.int x0)), (1, (.int (x1 + 8)))] [1, 0] (by decide) rfl C dJ6_numberOfTrailingZeros_0f7a4_41 ?_
    refine z_iload_n (pc := 44) 0 rfl rfl C dJ6_numberOfTrailingZeros_0f7a4_44 ?_
    refine z_bipush (pc := 45) (8 : Int32) (by decide) C dJ6_numberOfTrailingZeros_0f7a4_45 ?_
    refine z_iushr (pc := 47) C dJ6_numberOfTrailingZeros_0f7a4_47 ?_
    refine z_leti (fun x0_4 => ?_)
    refine z_istore_n (pc := 48) [(0, (.int x0_4)), (1, (.int (x1 + 8)))] [0, 1] (by decide) rfl rfl C dJ6_numberOfTrailingZeros_0f7a4_48 ?_
    exact wJ6_numberOfTrailingZeros_0f7a4_49 C hR   _ _
def fJ6_numberOfTrailingZeros_0f7a4 (x0 : Int32) : Option (Int32) := (zlet ((x0 ^^^ (-1 : Int32)) &&& (x0 - (1 : Int32))) (fun x0_1 : Int32 => (if 0 < x0_1 then (if x0_1 ≤ (65536 : Int32) then (jJ6_numberOfTrailingZeros_0f7a4_34 x0_1 (1 : Int32)) else (zlet ((x0_1.toUInt32 >>> ((16 : Int32).toUInt32 &&& Int32.toUInt32 31)).toInt32) (fun x0_5 : Int32 => (jJ6_numberOfTrailingZeros_0f7a4_34 x0_5 ((1 : Int32) + 16))))) else (some (x0_1 &&& (32 : Int32))))))
set_option maxRecDepth 20000 in
theorem wJ6_numberOfTrailingZeros_0f7a4 {X : zCx} {res : Int32}   {x0 : Int32} (C : zC X RJ6 cJ6_numberOfTrailingZeros_0f7a4 2 0 0) (hR : zR X (some .int) (some (.int res)) [])  : zJ X 2 res (fJ6_numberOfTrailingZeros_0f7a4 x0) 0 [(0, (.int x0))] [] [] := by
  unfold fJ6_numberOfTrailingZeros_0f7a4
  refine z_iload_n (pc := 0) 0 rfl rfl C dJ6_numberOfTrailingZeros_0f7a4_0 ?_
  refine z_iconst (pc := 1) (-1 : Int32) (by decide) C dJ6_numberOfTrailingZeros_0f7a4_1 ?_
  refine z_ixor (pc := 2) C dJ6_numberOfTrailingZeros_0f7a4_2 ?_
  refine z_iload_n (pc := 3) 0 rfl rfl C dJ6_numberOfTrailingZeros_0f7a4_3 ?_
  refine z_iconst (pc := 4) (1 : Int32) (by decide) C dJ6_numberOfTrailingZeros_0f7a4_4 ?_
  refine z_isub (pc := 5) C dJ6_numberOfTrailingZeros_0f7a4_5 ?_
  refine z_iand (pc := 6) C dJ6_numberOfTrailingZeros_0f7a4_6 ?_
  refine z_leti (fun x0_1 => ?_)
  refine z_istore_n (pc := 7) [(0, (.int x0_1))] [0] (by decide) rfl rfl C dJ6_numberOfTrailingZeros_0f7a4_7 ?_
  refine z_iload_n (pc := 8) 0 rfl rfl C dJ6_numberOfTrailingZeros_0f7a4_8 ?_
  refine z_if_gt (pc := 9) 17 C dJ6_numberOfTrailingZeros_0f7a4_9 (by decide) ?_ ?_
  · refine z_iconst (pc := 17) (1 : Int32) (by decide) C dJ6_numberOfTrailingZeros_0f7a4_17 ?_
    refine z_istore_n (pc := 18) [(0, (.int x0_1)), (1, (.int (1 : Int32)))] [1, 0] (by decide) rfl rfl C dJ6_numberOfTrailingZeros_0f7a4_18 ?_
    refine z_iload_n (pc := 19) 0 rfl rfl C dJ6_numberOfTrailingZeros_0f7a4_19 ?_
    refine z_ldc_w (pc := 20) (65536 : Int32) zw_601 C dJ6_numberOfTrailingZeros_0f7a4_20 ?_
    refine z_icmp_le (pc := 23) 34 C dJ6_numberOfTrailingZeros_0f7a4_23 (by decide) ?_ ?_
    · exact wJ6_numberOfTrailingZeros_0f7a4_34 C hR   _ _
    · refine z_iinc (pc := 26) ((1 : Int32) + 16) 1 rfl rfl [(0, (.int x0_1)), (1, (.int ((1 : Int32) + 16)))] [1, 0] (by decide) rfl C dJ6_numberOfTrailingZeros_0f7a4_26 ?_
      refine z_iload_n (pc := 29) 0 rfl rfl C dJ6_numberOfTrailingZeros_0f7a4_29 ?_
      refine z_bipush (pc := 30) (16 : Int32) (by decide) C dJ6_numberOfTrailingZeros_0f7a4_30 ?_
      refine z_iushr (pc := 32) C dJ6_numberOfTrailingZeros_0f7a4_32 ?_
      refine z_leti (fun x0_5 => ?_)
      refine z_istore_n (pc := 33) [(0, (.int x0_5)), (1, (.int ((1 : Int32) + 16)))] [0, 1] (by decide) rfl rfl C dJ6_numberOfTrailingZeros_0f7a4_33 ?_
      exact wJ6_numberOfTrailingZeros_0f7a4_34 C hR   _ _
  · refine z_iload_n (pc := 12) 0 rfl rfl C dJ6_numberOfTrailingZeros_0f7a4_12 ?_
    refine z_bipush (pc := 13) (32 : Int32) (by decide) C dJ6_numberOfTrailingZeros_0f7a4_13 ?_
    refine z_iand (pc := 15) C dJ6_numberOfTrailingZeros_0f7a4_15 ?_
    exact z_ireturn (pc := 16) C hR dJ6_numberOfTrailingZeros_0f7a4_16 (fun h => by subst h; exact ⟨rfl, rfl⟩)
theorem mJ6_numberOfTrailingZeros_0f7a4   {x0 : Int32} {res : Int32}  (hf : fJ6_numberOfTrailingZeros_0f7a4 x0 = some res) : zM yJ6_numberOfTrailingZeros_0f7a4 cJ6_numberOfTrailingZeros_0f7a4 2 (some .int) 0 0 [(.int x0)] [] (some (.int res)) [] := zM_of (by decide +kernel) (Nat.le_of_ble_eq_true rfl) (fun X C hR => wJ6_numberOfTrailingZeros_0f7a4 C hR  hf)
theorem dJ13_numberOfTrailingZeros_95d88_0 : decode cJ13_numberOfTrailingZeros_95d88 0 = .ok (.lload_n 0, 1) := by decide +kernel
theorem dJ13_numberOfTrailingZeros_95d88_1 : decode cJ13_numberOfTrailingZeros_95d88 1 = .ok (.l2i, 1) := by decide +kernel
theorem dJ13_numberOfTrailingZeros_95d88_2 : decode cJ13_numberOfTrailingZeros_95d88 2 = .ok (.istore_n 2, 1) := by decide +kernel
theorem dJ13_numberOfTrailingZeros_95d88_3 : decode cJ13_numberOfTrailingZeros_95d88 3 = .ok (.iload_n 2, 1) := by decide +kernel
theorem dJ13_numberOfTrailingZeros_95d88_4 : decode cJ13_numberOfTrailingZeros_95d88 4 = .ok (.ifCond .ne 17, 3) := by decide +kernel
theorem dJ13_numberOfTrailingZeros_95d88_7 : decode cJ13_numberOfTrailingZeros_95d88 7 = .ok (.bipush 32, 2) := by decide +kernel
theorem dJ13_numberOfTrailingZeros_95d88_9 : decode cJ13_numberOfTrailingZeros_95d88 9 = .ok (.lload_n 0, 1) := by decide +kernel
theorem dJ13_numberOfTrailingZeros_95d88_10 : decode cJ13_numberOfTrailingZeros_95d88 10 = .ok (.bipush 32, 2) := by decide +kernel
theorem dJ13_numberOfTrailingZeros_95d88_12 : decode cJ13_numberOfTrailingZeros_95d88 12 = .ok (.lushr, 1) := by decide +kernel
theorem dJ13_numberOfTrailingZeros_95d88_13 : decode cJ13_numberOfTrailingZeros_95d88 13 = .ok (.l2i, 1) := by decide +kernel
theorem dJ13_numberOfTrailingZeros_95d88_14 : decode cJ13_numberOfTrailingZeros_95d88 14 = .ok (.invokestatic 311, 3) := by decide +kernel
theorem dJ13_numberOfTrailingZeros_95d88_17 : decode cJ13_numberOfTrailingZeros_95d88 17 = .ok (.iadd, 1) := by decide +kernel
theorem dJ13_numberOfTrailingZeros_95d88_18 : decode cJ13_numberOfTrailingZeros_95d88 18 = .ok (.goto 7, 3) := by decide +kernel
theorem dJ13_numberOfTrailingZeros_95d88_21 : decode cJ13_numberOfTrailingZeros_95d88 21 = .ok (.iload_n 2, 1) := by decide +kernel
theorem dJ13_numberOfTrailingZeros_95d88_22 : decode cJ13_numberOfTrailingZeros_95d88 22 = .ok (.invokestatic 311, 3) := by decide +kernel
theorem dJ13_numberOfTrailingZeros_95d88_25 : decode cJ13_numberOfTrailingZeros_95d88 25 = .ok (.ireturn, 1) := by decide +kernel
def fJ13_numberOfTrailingZeros_95d88 (x0 : Int64) : Option (Int32) := (zlet x0.toInt32 (fun x2_1 : Int32 => (if x2_1 = 0 then (Option.bind (fJ6_numberOfTrailingZeros_0f7a4 (((x0.toUInt64 >>> ((32 : Int32).toInt64.toUInt64 &&& Int64.toUInt64 63)).toInt64).toInt32)) (fun r_2 : Int32 => (some ((32 : Int32) + r_2)))) else (Option.bind (fJ6_numberOfTrailingZeros_0f7a4 x2_1) (fun r_4 : Int32 => (some (r_4)))))))
set_option maxRecDepth 20000 in
theorem wJ13_numberOfTrailingZeros_95d88 {X : zCx} {res : Int32}   {x0 : Int64} (C : zC X RJ13 cJ13_numberOfTrailingZeros_95d88 3 1 21) (hR : zR X (some .int) (some (.int res)) [])  : zJ X 3 res (fJ13_numberOfTrailingZeros_95d88 x0) 0 [(0, (.long x0))] [] [] := by
  unfold fJ13_numberOfTrailingZeros_95d88
  refine z_lload_n (pc := 0) 0 rfl rfl C dJ13_numberOfTrailingZeros_95d88_0 ?_
  refine z_l2i (pc := 1) C dJ13_numberOfTrailingZeros_95d88_1 ?_
  refine z_leti (fun x2_1 => ?_)
  refine z_istore_n (pc := 2) [(0, (.long x0)), (2, (.int x2_1))] [1, 0] (by decide) rfl rfl C dJ13_numberOfTrailingZeros_95d88_2 ?_
  refine z_iload_n (pc := 3) 1 rfl rfl C dJ13_numberOfTrailingZeros_95d88_3 ?_
  refine z_if_ne (pc := 4) 21 C dJ13_numberOfTrailingZeros_95d88_4 (by decide) ?_ ?_
  · refine z_bipush (pc := 7) (32 : Int32) (by decide) C dJ13_numberOfTrailingZeros_95d88_7 ?_
    refine z_lload_n (pc := 9) 0 rfl rfl C dJ13_numberOfTrailingZeros_95d88_9 ?_
    refine z_bipush (pc := 10) (32 : Int32) (by decide) C dJ13_numberOfTrailingZeros_95d88_10 ?_
    refine z_lushr (pc := 12) C dJ13_numberOfTrailingZeros_95d88_12 ?_
    refine z_l2i (pc := 13) C dJ13_numberOfTrailingZeros_95d88_13 ?_
    refine z_callS (pc := 14) (rf' := 0) (rl' := 0) (fJ6_numberOfTrailingZeros_0f7a4 (((x0.toUInt64 >>> ((32 : Int32).toInt64.toUInt64 &&& Int64.toUInt64 63)).toInt64).toInt32)) [(.int (((x0.toUInt64 >>> ((32 : Int32).toInt64.toUInt64 &&& Int64.toUInt64 63)).toInt64).toInt32))] [(.int (32 : Int32))] [] (fun r_2 => (some (.int r_2))) (fun r_2 => []) [] (fun r_2 => []) C dJ13_numberOfTrailingZeros_95d88_14 zy_J6_numberOfTrailingZeros_0f7a4 zw_598 (fun _ hr9 => mJ6_numberOfTrailingZeros_0f7a4  hr9) (by decide) rfl (Nat.le_of_ble_eq_true rfl) (List.Perm.refl _) (fun _ => List.Perm.refl _) rfl (fun r_2 hr_3 => ?_)
    show zJ X 3 res _ 17 [(0, (.long x0)), (2, (.int x2_1))] [(.int r_2), (.int (32 : Int32))] []
    refine z_iadd (pc := 17) C dJ13_numberOfTrailingZeros_95d88_17 ?_
    refine z_goto (pc := 18) 25 C dJ13_numberOfTrailingZeros_95d88_18 (by decide) ?_
    exact z_ireturn (pc := 25) C hR dJ13_numberOfTrailingZeros_95d88_25 (fun h => by subst h; exact ⟨rfl, rfl⟩)
  · refine z_iload_n (pc := 21) 1 rfl rfl C dJ13_numberOfTrailingZeros_95d88_21 ?_
    refine z_callS (pc := 22) (rf' := 0) (rl' := 0) (fJ6_numberOfTrailingZeros_0f7a4 x2_1) [(.int x2_1)] [] [] (fun r_4 => (some (.int r_4))) (fun r_4 => []) [] (fun r_4 => []) C dJ13_numberOfTrailingZeros_95d88_22 zy_J6_numberOfTrailingZeros_0f7a4 zw_598 (fun _ hr9 => mJ6_numberOfTrailingZeros_0f7a4  hr9) (by decide) rfl (Nat.le_of_ble_eq_true rfl) (List.Perm.refl _) (fun _ => List.Perm.refl _) rfl (fun r_4 hr_5 => ?_)
    show zJ X 3 res _ 25 [(0, (.long x0)), (2, (.int x2_1))] [(.int r_4)] []
    exact z_ireturn (pc := 25) C hR dJ13_numberOfTrailingZeros_95d88_25 (fun h => by subst h; exact ⟨rfl, rfl⟩)
theorem mJ13_numberOfTrailingZeros_95d88   {x0 : Int64} {res : Int32}  (hf : fJ13_numberOfTrailingZeros_95d88 x0 = some res) : zM yJ13_numberOfTrailingZeros_95d88 cJ13_numberOfTrailingZeros_95d88 3 (some .int) 1 21 [(.long x0)] [] (some (.int res)) [] := zM_of (by decide +kernel) (Nat.le_of_ble_eq_true rfl) (fun X C hR => wJ13_numberOfTrailingZeros_95d88 C hR  hf)
theorem dJ7_fill_53178_0 : decode cJ7_fill_53178 0 = .ok (.iconst 0, 1) := by decide +kernel
theorem dJ7_fill_53178_1 : decode cJ7_fill_53178 1 = .ok (.istore_n 2, 1) := by decide +kernel
theorem dJ7_fill_53178_2 : decode cJ7_fill_53178 2 = .ok (.aload_n 0, 1) := by decide +kernel
theorem dJ7_fill_53178_3 : decode cJ7_fill_53178 3 = .ok (.arraylength, 1) := by decide +kernel
theorem dJ7_fill_53178_4 : decode cJ7_fill_53178 4 = .ok (.istore_n 3, 1) := by decide +kernel
theorem dJ7_fill_53178_5 : decode cJ7_fill_53178 5 = .ok (.iload_n 2, 1) := by decide +kernel
theorem dJ7_fill_53178_6 : decode cJ7_fill_53178 6 = .ok (.iload_n 3, 1) := by decide +kernel
theorem dJ7_fill_53178_7 : decode cJ7_fill_53178 7 = .ok (.if_icmp .ge 13, 3) := by decide +kernel
theorem dJ7_fill_53178_10 : decode cJ7_fill_53178 10 = .ok (.aload_n 0, 1) := by decide +kernel
theorem dJ7_fill_53178_11 : decode cJ7_fill_53178 11 = .ok (.iload_n 2, 1) := by decide +kernel
theorem dJ7_fill_53178_12 : decode cJ7_fill_53178 12 = .ok (.iload_n 1, 1) := by decide +kernel
theorem dJ7_fill_53178_13 : decode cJ7_fill_53178 13 = .ok (.iastore, 1) := by decide +kernel
theorem dJ7_fill_53178_14 : decode cJ7_fill_53178 14 = .ok (.iinc 2 1, 3) := by decide +kernel
theorem dJ7_fill_53178_17 : decode cJ7_fill_53178 17 = .ok (.goto (-12), 3) := by decide +kernel
theorem dJ7_fill_53178_20 : decode cJ7_fill_53178 20 = .ok (.return_, 1) := by decide +kernel
def bJ7_fill_53178_5 (F : Nat) (nZ : Nat) (k0 : Nat) (x1 : Int32) (x3 : Int32) (kc_5 : (Int32 × zOS) → Option (zOS)) (x2 : Int32) (sZ : zOS) : Option (zOS) := (if x3 ≤ x2 then (some (sZ)) else (zchk x2 nZ (zlet (zsI sZ k0 (upd (zI sZ k0) x2.toNatClampNeg x1)) (fun sZ_2 : zOS => (kc_5 ((x2 + 1), sZ_2))))))
set_option maxRecDepth 20000 in
theorem vJ7_fill_53178_5 {X : zCx} {res : zOS} {F : Nat} {qZ : Nat → Nat} {cZ nZ : Nat} {k0 : Nat} {x1 : Int32} {x3 : Int32} {kc_5 : (Int32 × zOS) → Option (zOS)} (C : zC X RJ7 cJ7_fill_53178 4 0 0) (hR : zR X none none [(cZ, qZ, res)]) (ha0 : zAr cZ k0 0 nZ) (hk_5 : ∀ (y2 : Int32) (tZ : zOS), zJ X 4 res (kc_5 (y2, tZ)) 5 [(0, (.ref (qZ k0))), (1, (.int x1)), (2, (.int y2)), (3, (.int x3))] [] [(cZ, qZ, tZ)]) (x2 : Int32) (sZ : zOS) : zJ X 4 res (bJ7_fill_53178_5 F nZ k0 x1 x3 kc_5 x2 sZ) 5 [(0, (.ref (qZ k0))), (1, (.int x1)), (2, (.int x2)), (3, (.int x3))] [] [(cZ, qZ, sZ)] := by
  unfold bJ7_fill_53178_5
  refine z_iload_n (pc := 5) 2 rfl rfl C dJ7_fill_53178_5 ?_
  refine z_iload_n (pc := 6) 3 rfl rfl C dJ7_fill_53178_6 ?_
  refine z_icmp_ge (pc := 7) 20 C dJ7_fill_53178_7 (by decide) ?_ ?_
  · exact z_return (pc := 20) C hR dJ7_fill_53178_20 (fun h => by subst h; exact ⟨rfl, rfl⟩)
  · refine z_aload_n (pc := 10) 0 rfl rfl C dJ7_fill_53178_10 ?_
    refine z_iload_n (pc := 11) 2 rfl rfl C dJ7_fill_53178_11 ?_
    refine z_iload_n (pc := 12) 1 rfl rfl C dJ7_fill_53178_12 ?_
    refine z_iast (pc := 13) 0 C dJ7_fill_53178_13 rfl ha0 [(cZ, qZ, (zsI sZ k0 (upd (zI sZ k0) x2.toNatClampNeg x1)))] rfl ?_
    refine z_letc (fun z9 => [(cZ, qZ, z9)]) (fun sZ_2 => ?_)
    refine z_iinc (pc := 14) (x2 + 1) 2 rfl rfl [(0, (.ref (qZ k0))), (1, (.int x1)), (2, (.int (x2 + 1))), (3, (.int x3))] [1, 2, 0, 3] (by decide) rfl C dJ7_fill_53178_14 ?_
    refine z_goto (pc := 17) 5 C dJ7_fill_53178_17 (by decide) ?_
    exact hk_5 _ _
def fJ7_fill_53178 (F : Nat) (nZ : Nat) (k0 : Nat) (x1 : Int32) (sZ : zOS) : Option (zOS) := (zlet (nI nZ) (fun x3_1 : Int32 => (zit (P := Int32 × zOS) (R := zOS) (fun kc9 p9 => bJ7_fill_53178_5 F nZ k0 x1 x3_1 kc9 p9.1 p9.2) F ((0 : Int32), sZ))))
set_option maxRecDepth 20000 in
theorem wJ7_fill_53178 {X : zCx} {res : zOS} {F : Nat} {qZ : Nat → Nat} {cZ nZ : Nat} {k0 : Nat} {x1 : Int32} {sZ : zOS} (C : zC X RJ7 cJ7_fill_53178 4 0 0) (hR : zR X none none [(cZ, qZ, res)]) (ha0 : zAr cZ k0 0 nZ) : zJ X 4 res (fJ7_fill_53178 F nZ k0 x1 sZ) 0 [(0, (.ref (qZ k0))), (1, (.int x1))] [] [(cZ, qZ, sZ)] := by
  unfold fJ7_fill_53178
  refine z_iconst (pc := 0) (0 : Int32) (by decide) C dJ7_fill_53178_0 ?_
  refine z_istore_n (pc := 1) [(0, (.ref (qZ k0))), (1, (.int x1)), (2, (.int (0 : Int32)))] [1, 2, 0] (by decide) rfl rfl C dJ7_fill_53178_1 ?_
  refine z_aload_n (pc := 2) 0 rfl rfl C dJ7_fill_53178_2 ?_
  refine z_alen (n := nZ) (pc := 3) 0 0 (nI nZ) C dJ7_fill_53178_3 rfl ha0 (by decide) rfl ?_
  refine z_leti (fun x3_1 => ?_)
  refine z_istore_n (pc := 4) [(0, (.ref (qZ k0))), (1, (.int x1)), (2, (.int (0 : Int32))), (3, (.int x3_1))] [1, 2, 3, 0] (by decide) rfl rfl C dJ7_fill_53178_4 ?_
  exact zit_J (fun p9 => [(0, (.ref (qZ k0))), (1, (.int x1)), (2, (.int p9.1)), (3, (.int x3_1))]) (fun p9 => [(cZ, qZ, p9.2)]) (fun kc9 hk9 p9 => vJ7_fill_53178_5 C hR ha0  (fun a0 a1 => hk9 (a0, a1)) _ _) F _
theorem mJ7_fill_53178 {F : Nat} {qZ : Nat → Nat} {cZ nZ : Nat} {k0 : Nat} {x1 : Int32} {sZ : zOS} {res : zOS} (ha0 : zAr cZ k0 0 nZ) (hf : fJ7_fill_53178 F nZ k0 x1 sZ = some res) : zM yJ7_fill_53178 cJ7_fill_53178 4 none 0 0 [(.ref (qZ k0)), (.int x1)] [(cZ, qZ, sZ)] none [(cZ, qZ, res)] := zM_of (by decide +kernel) (Nat.le_of_ble_eq_true rfl) (fun X C hR => wJ7_fill_53178 (F := F) C hR ha0 hf)
end
section
theorem dX2_take_0 : decode cX2_take 0 = .ok (.aload_n 1, 1) := by decide +kernel
theorem dX2_take_1 : decode cX2_take 1 = .ok (.getfield 9, 3) := by decide +kernel
theorem dX2_take_4 : decode cX2_take 4 = .ok (.iconst 0, 1) := by decide +kernel
theorem dX2_take_5 : decode cX2_take 5 = .ok (.aload_n 0, 1) := by decide +kernel
theorem dX2_take_6 : decode cX2_take 6 = .ok (.getfield 9, 3) := by decide +kernel
theorem dX2_take_9 : decode cX2_take 9 = .ok (.iconst 0, 1) := by decide +kernel
theorem dX2_take_10 : decode cX2_take 10 = .ok (.iconst 4, 1) := by decide +kernel
theorem dX2_take_11 : decode cX2_take 11 = .ok (.invokestatic 29, 3) := by decide +kernel
theorem dX2_take_14 : decode cX2_take 14 = .ok (.aload_n 1, 1) := by decide +kernel
theorem dX2_take_15 : decode cX2_take 15 = .ok (.getfield 15, 3) := by decide +kernel
theorem dX2_take_18 : decode cX2_take 18 = .ok (.iconst 0, 1) := by decide +kernel
theorem dX2_take_19 : decode cX2_take 19 = .ok (.aload_n 0, 1) := by decide +kernel
theorem dX2_take_20 : decode cX2_take 20 = .ok (.getfield 15, 3) := by decide +kernel
theorem dX2_take_23 : decode cX2_take 23 = .ok (.iconst 0, 1) := by decide +kernel
theorem dX2_take_24 : decode cX2_take 24 = .ok (.aload_n 0, 1) := by decide +kernel
theorem dX2_take_25 : decode cX2_take 25 = .ok (.getfield 15, 3) := by decide +kernel
theorem dX2_take_28 : decode cX2_take 28 = .ok (.arraylength, 1) := by decide +kernel
theorem dX2_take_29 : decode cX2_take 29 = .ok (.invokestatic 29, 3) := by decide +kernel
theorem dX2_take_32 : decode cX2_take 32 = .ok (.aload_n 1, 1) := by decide +kernel
theorem dX2_take_33 : decode cX2_take 33 = .ok (.getfield 19, 3) := by decide +kernel
theorem dX2_take_36 : decode cX2_take 36 = .ok (.iconst 0, 1) := by decide +kernel
theorem dX2_take_37 : decode cX2_take 37 = .ok (.aload_n 0, 1) := by decide +kernel
theorem dX2_take_38 : decode cX2_take 38 = .ok (.getfield 19, 3) := by decide +kernel
theorem dX2_take_41 : decode cX2_take 41 = .ok (.iconst 0, 1) := by decide +kernel
theorem dX2_take_42 : decode cX2_take 42 = .ok (.aload_n 0, 1) := by decide +kernel
theorem dX2_take_43 : decode cX2_take 43 = .ok (.getfield 19, 3) := by decide +kernel
theorem dX2_take_46 : decode cX2_take 46 = .ok (.arraylength, 1) := by decide +kernel
theorem dX2_take_47 : decode cX2_take 47 = .ok (.invokestatic 29, 3) := by decide +kernel
theorem dX2_take_50 : decode cX2_take 50 = .ok (.aload_n 0, 1) := by decide +kernel
theorem dX2_take_51 : decode cX2_take 51 = .ok (.aload_n 1, 1) := by decide +kernel
theorem dX2_take_52 : decode cX2_take 52 = .ok (.getfield 22, 3) := by decide +kernel
theorem dX2_take_55 : decode cX2_take 55 = .ok (.putfield 22, 3) := by decide +kernel
theorem dX2_take_58 : decode cX2_take 58 = .ok (.aload_n 0, 1) := by decide +kernel
theorem dX2_take_59 : decode cX2_take 59 = .ok (.aload_n 1, 1) := by decide +kernel
theorem dX2_take_60 : decode cX2_take 60 = .ok (.getfield 26, 3) := by decide +kernel
theorem dX2_take_63 : decode cX2_take 63 = .ok (.putfield 26, 3) := by decide +kernel
theorem dX2_take_66 : decode cX2_take 66 = .ok (.return_, 1) := by decide +kernel
def fX2_take (sP : zOS) (sO : zOS) : Option (zOS) := (zlet (zsL sP 1 (va_cpy (zL sO 1) (zL sP 1) (0 : Int32).toNatClampNeg (0 : Int32).toNatClampNeg (4 : Int32).toNatClampNeg)) (fun sP_1 : zOS => (zlet (zsI sP_1 2 (va_cpy (zI sO 2) (zI sP_1 2) (0 : Int32).toNatClampNeg (0 : Int32).toNatClampNeg (18 : Int32).toNatClampNeg)) (fun sP_2 : zOS => (zlet (zsI sP_2 3 (va_cpy (zI sO 3) (zI sP_2 3) (0 : Int32).toNatClampNeg (0 : Int32).toNatClampNeg (18 : Int32).toNatClampNeg)) (fun sP_3 : zOS => (zlet (zsF sP_3 3 (zF sO 3)) (fun sP_4 : zOS => (zlet (zsF sP_4 4 (zF sO 4)) (fun sP_5 : zOS => (some (sP_5))))))))))))
set_option maxRecDepth 20000 in
theorem wX2_take {X : zCx} {res : zOS}  {qP : Nat → Nat} {qO : Nat → Nat} {sP : zOS} {sO : zOS} (C : zC X RX2 cX2_take 2 1 26) (hR : zR X none none [(2, qP, res), (2, qO, sO)])  : zJ X 2 res (fX2_take sP sO) 0 [(0, (.ref (qP 0))), (1, (.ref (qO 0)))] [] [(2, qP, sP), (2, qO, sO)] := by
  unfold fX2_take
  refine z_aload_n (pc := 0) 1 rfl rfl C dX2_take_0 ?_
  refine z_getR (pc := 1) 1 0 1 C dX2_take_1 rfl (by decide) (by decide) rfl zw_103 ?_
  refine z_iconst (pc := 4) (0 : Int32) (by decide) C dX2_take_4 ?_
  refine z_aload_n (pc := 5) 0 rfl rfl C dX2_take_5 ?_
  refine z_getR (pc := 6) 0 0 1 C dX2_take_6 rfl (by decide) (by decide) rfl zw_103 ?_
  refine z_iconst (pc := 9) (0 : Int32) (by decide) C dX2_take_9 ?_
  refine z_iconst (pc := 10) (4 : Int32) (by decide) C dX2_take_10 ?_
  refine z_copyl (n0 := 4) (n1 := 4) (pc := 11) 1 0 C dX2_take_11 zw_293 zw_295 zw_294 zw_83 rfl rfl (by unfold zAr; decide) (by unfold zAr; decide) (by decide) (by decide) (by decide) (by decide) (by decide) (by decide) (Nat.le_of_ble_eq_true rfl) [(2, qP, (zsL sP 1 (va_cpy (zL sO 1) (zL sP 1) (0 : Int32).toNatClampNeg (0 : Int32).toNatClampNeg (4 : Int32).toNatClampNeg))), (2, qO, sO)] rfl ?_
  refine z_letc (fun z9 => [(2, qP, z9), (2, qO, sO)]) (fun sP_1 => ?_)
  refine z_aload_n (pc := 14) 1 rfl rfl C dX2_take_14 ?_
  refine z_getR (pc := 15) 1 1 2 C dX2_take_15 rfl (by decide) (by decide) rfl zw_105 ?_
  refine z_iconst (pc := 18) (0 : Int32) (by decide) C dX2_take_18 ?_
  refine z_aload_n (pc := 19) 0 rfl rfl C dX2_take_19 ?_
  refine z_getR (pc := 20) 0 1 2 C dX2_take_20 rfl (by decide) (by decide) rfl zw_105 ?_
  refine z_iconst (pc := 23) (0 : Int32) (by decide) C dX2_take_23 ?_
  refine z_aload_n (pc := 24) 0 rfl rfl C dX2_take_24 ?_
  refine z_getR (pc := 25) 0 1 2 C dX2_take_25 rfl (by decide) (by decide) rfl zw_105 ?_
  refine z_alen (n := 18) (pc := 28) 0 0 (18 : Int32) C dX2_take_28 rfl (by unfold zAr; decide) (by decide) (by decide) ?_
  refine z_copyi (n0 := 18) (n1 := 18) (pc := 29) 1 0 C dX2_take_29 zw_293 zw_295 zw_294 zw_83 rfl rfl (by unfold zAr; decide) (by unfold zAr; decide) (by decide) (by decide) (by decide) (by decide) (by decide) (by decide) (Nat.le_of_ble_eq_true rfl) [(2, qP, (zsI sP_1 2 (va_cpy (zI sO 2) (zI sP_1 2) (0 : Int32).toNatClampNeg (0 : Int32).toNatClampNeg (18 : Int32).toNatClampNeg))), (2, qO, sO)] rfl ?_
  refine z_letc (fun z9 => [(2, qP, z9), (2, qO, sO)]) (fun sP_2 => ?_)
  refine z_aload_n (pc := 32) 1 rfl rfl C dX2_take_32 ?_
  refine z_getR (pc := 33) 1 2 3 C dX2_take_33 rfl (by decide) (by decide) rfl zw_107 ?_
  refine z_iconst (pc := 36) (0 : Int32) (by decide) C dX2_take_36 ?_
  refine z_aload_n (pc := 37) 0 rfl rfl C dX2_take_37 ?_
  refine z_getR (pc := 38) 0 2 3 C dX2_take_38 rfl (by decide) (by decide) rfl zw_107 ?_
  refine z_iconst (pc := 41) (0 : Int32) (by decide) C dX2_take_41 ?_
  refine z_aload_n (pc := 42) 0 rfl rfl C dX2_take_42 ?_
  refine z_getR (pc := 43) 0 2 3 C dX2_take_43 rfl (by decide) (by decide) rfl zw_107 ?_
  refine z_alen (n := 18) (pc := 46) 0 0 (18 : Int32) C dX2_take_46 rfl (by unfold zAr; decide) (by decide) (by decide) ?_
  refine z_copyi (n0 := 18) (n1 := 18) (pc := 47) 1 0 C dX2_take_47 zw_293 zw_295 zw_294 zw_83 rfl rfl (by unfold zAr; decide) (by unfold zAr; decide) (by decide) (by decide) (by decide) (by decide) (by decide) (by decide) (Nat.le_of_ble_eq_true rfl) [(2, qP, (zsI sP_2 3 (va_cpy (zI sO 3) (zI sP_2 3) (0 : Int32).toNatClampNeg (0 : Int32).toNatClampNeg (18 : Int32).toNatClampNeg))), (2, qO, sO)] rfl ?_
  refine z_letc (fun z9 => [(2, qP, z9), (2, qO, sO)]) (fun sP_3 => ?_)
  refine z_aload_n (pc := 50) 0 rfl rfl C dX2_take_50 ?_
  refine z_aload_n (pc := 51) 1 rfl rfl C dX2_take_51 ?_
  refine z_getI (pc := 52) 1 3 C dX2_take_52 rfl (by decide) (by decide) rfl zw_109 ?_
  refine z_putI (pc := 55) 0 3 C dX2_take_55 rfl (by decide) (by decide) rfl zw_109 rfl rfl rfl [(2, qP, (zsF sP_3 3 (zF sO 3))), (2, qO, sO)] rfl ?_
  refine z_letc (fun z9 => [(2, qP, z9), (2, qO, sO)]) (fun sP_4 => ?_)
  refine z_aload_n (pc := 58) 0 rfl rfl C dX2_take_58 ?_
  refine z_aload_n (pc := 59) 1 rfl rfl C dX2_take_59 ?_
  refine z_getI (pc := 60) 1 4 C dX2_take_60 rfl (by decide) (by decide) rfl zw_112 ?_
  refine z_putI (pc := 63) 0 4 C dX2_take_63 rfl (by decide) (by decide) rfl zw_112 rfl rfl rfl [(2, qP, (zsF sP_4 4 (zF sO 4))), (2, qO, sO)] rfl ?_
  refine z_letc (fun z9 => [(2, qP, z9), (2, qO, sO)]) (fun sP_5 => ?_)
  exact z_return (pc := 66) C hR dX2_take_66 (fun h => by subst h; exact ⟨rfl, rfl⟩)
theorem mX2_take  {qP : Nat → Nat} {qO : Nat → Nat} {sP : zOS} {sO : zOS} {res : zOS}  (hf : fX2_take sP sO = some res) : zM yX2_take cX2_take 2 none 1 26 [(.ref (qP 0)), (.ref (qO 0))] [(2, qP, sP), (2, qO, sO)] none [(2, qP, res), (2, qO, sO)] := zM_of (by decide +kernel) (Nat.le_of_ble_eq_true rfl) (fun X C hR => wX2_take C hR  hf)
theorem dX2_paint_0 : decode cX2_paint 0 = .ok (.iload_n 1, 1) := by decide +kernel
theorem dX2_paint_1 : decode cX2_paint 1 = .ok (.iconst 4, 1) := by decide +kernel
theorem dX2_paint_2 : decode cX2_paint 2 = .ok (.invokestatic 35, 3) := by decide +kernel
theorem dX2_paint_5 : decode cX2_paint 5 = .ok (.ifCond .eq 15, 3) := by decide +kernel
theorem dX2_paint_8 : decode cX2_paint 8 = .ok (.iload_n 2, 1) := by decide +kernel
theorem dX2_paint_9 : decode cX2_paint 9 = .ok (.iload_n 3, 1) := by decide +kernel
theorem dX2_paint_10 : decode cX2_paint 10 = .ok (.iload 4, 2) := by decide +kernel
theorem dX2_paint_12 : decode cX2_paint 12 = .ok (.iload 5, 2) := by decide +kernel
theorem dX2_paint_14 : decode cX2_paint 14 = .ok (.invokestatic 39, 3) := by decide +kernel
theorem dX2_paint_17 : decode cX2_paint 17 = .ok (.ifCond .ne 6, 3) := by decide +kernel
theorem dX2_paint_20 : decode cX2_paint 20 = .ok (.bipush (-2), 2) := by decide +kernel
theorem dX2_paint_22 : decode cX2_paint 22 = .ok (.ireturn, 1) := by decide +kernel
theorem dX2_paint_23 : decode cX2_paint 23 = .ok (.iload_n 2, 1) := by decide +kernel
theorem dX2_paint_24 : decode cX2_paint 24 = .ok (.iload_n 3, 1) := by decide +kernel
theorem dX2_paint_25 : decode cX2_paint 25 = .ok (.iload 4, 2) := by decide +kernel
theorem dX2_paint_27 : decode cX2_paint 27 = .ok (.iload 5, 2) := by decide +kernel
theorem dX2_paint_29 : decode cX2_paint 29 = .ok (.invokestatic 43, 3) := by decide +kernel
theorem dX2_paint_32 : decode cX2_paint 32 = .ok (.aload_n 0, 1) := by decide +kernel
theorem dX2_paint_33 : decode cX2_paint 33 = .ok (.getfield 9, 3) := by decide +kernel
theorem dX2_paint_36 : decode cX2_paint 36 = .ok (.iload_n 1, 1) := by decide +kernel
theorem dX2_paint_37 : decode cX2_paint 37 = .ok (.laload, 1) := by decide +kernel
theorem dX2_paint_38 : decode cX2_paint 38 = .ok (.ldc2_w 47, 3) := by decide +kernel
theorem dX2_paint_41 : decode cX2_paint 41 = .ok (.lxor, 1) := by decide +kernel
theorem dX2_paint_42 : decode cX2_paint 42 = .ok (.land, 1) := by decide +kernel
theorem dX2_paint_43 : decode cX2_paint 43 = .ok (.lstore 6, 2) := by decide +kernel
theorem dX2_paint_45 : decode cX2_paint 45 = .ok (.aload_n 0, 1) := by decide +kernel
theorem dX2_paint_46 : decode cX2_paint 46 = .ok (.getfield 9, 3) := by decide +kernel
theorem dX2_paint_49 : decode cX2_paint 49 = .ok (.iload_n 1, 1) := by decide +kernel
theorem dX2_paint_50 : decode cX2_paint 50 = .ok (.dup2, 1) := by decide +kernel
theorem dX2_paint_51 : decode cX2_paint 51 = .ok (.laload, 1) := by decide +kernel
theorem dX2_paint_52 : decode cX2_paint 52 = .ok (.lload 6, 2) := by decide +kernel
theorem dX2_paint_54 : decode cX2_paint 54 = .ok (.lor, 1) := by decide +kernel
theorem dX2_paint_55 : decode cX2_paint 55 = .ok (.lastore, 1) := by decide +kernel
theorem dX2_paint_56 : decode cX2_paint 56 = .ok (.lload 6, 2) := by decide +kernel
theorem dX2_paint_58 : decode cX2_paint 58 = .ok (.invokestatic 49, 3) := by decide +kernel
theorem dX2_paint_61 : decode cX2_paint 61 = .ok (.ireturn, 1) := by decide +kernel
def fX2_paint (F : Nat) (x1 : Int32) (x2 : Int32) (x3 : Int32) (x4 : Int32) (x5 : Int32) (sP : zOS) : Option (Int32 × zOS) := (Option.bind (fX4_isWithin x1 (4 : Int32)) (fun r_1 : Int32 => (if r_1 = 0 then (some ((-2 : Int32), sP)) else (Option.bind (fX2_isBox x2 x3 x4 x5) (fun r_3 : Int32 => (if r_3 = 0 then (some ((-2 : Int32), sP)) else (Option.bind (fX2_boxBits F x2 x3 x4 x5) (fun r_5 : Int64 => (zchk x1 4 (zlet (r_5 &&& ((zL sP 1 x1.toNatClampNeg) ^^^ (-1 : Int64))) (fun x6_7 : Int64 => (zchk x1 4 (zchk x1 4 (zlet (zsL sP 1 (vp_updL (zL sP 1) x1.toNatClampNeg ((zL sP 1 x1.toNatClampNeg) ||| x6_7))) (fun sP_8 : zOS => (Option.bind (fJ13_bitCount_95d88 x6_7) (fun r_9 : Int32 => (some (r_9, sP_8)))))))))))))))))))
set_option maxRecDepth 20000 in
theorem wX2_paint {X : zCx} {res : Int32 × zOS} {F : Nat} {qP : Nat → Nat} {x1 : Int32} {x2 : Int32} {x3 : Int32} {x4 : Int32} {x5 : Int32} {sP : zOS} (C : zC X RX2 cX2_paint 8 3 65) (hR : zR X (some .int) (some (.int res.1)) [(2, qP, res.2)])  : zJ X 8 res (fX2_paint F x1 x2 x3 x4 x5 sP) 0 [(0, (.ref (qP 0))), (1, (.int x1)), (2, (.int x2)), (3, (.int x3)), (4, (.int x4)), (5, (.int x5))] [] [(2, qP, sP)] := by
  unfold fX2_paint
  refine z_iload_n (pc := 0) 1 rfl rfl C dX2_paint_0 ?_
  refine z_iconst (pc := 1) (4 : Int32) (by decide) C dX2_paint_1 ?_
  refine z_callN (pc := 2) (rf' := 0) (rl' := 0) (fX4_isWithin x1 (4 : Int32)) [(.int x1), (.int (4 : Int32))] [] (fun r_1 => (some (.int r_1))) C dX2_paint_2 zy_X4_isWithin (fun U h => h.1) (fun _ hr9 => mX4_isWithin  hr9) (by decide) rfl (Nat.le_of_ble_eq_true rfl) rfl (fun r_1 hr_2 => ?_)
  show zJ X 8 res _ 5 [(0, (.ref (qP 0))), (1, (.int x1)), (2, (.int x2)), (3, (.int x3)), (4, (.int x4)), (5, (.int x5))] [(.int r_1)] [(2, qP, sP)]
  refine z_if_eq (pc := 5) 20 C dX2_paint_5 (by decide) ?_ ?_
  · refine z_bipush (pc := 20) (-2 : Int32) (by decide) C dX2_paint_20 ?_
    exact z_ireturn (pc := 22) C hR dX2_paint_22 (fun h => by subst h; exact ⟨rfl, rfl⟩)
  · refine z_iload_n (pc := 8) 2 rfl rfl C dX2_paint_8 ?_
    refine z_iload_n (pc := 9) 3 rfl rfl C dX2_paint_9 ?_
    refine z_iload (pc := 10) 4 rfl C dX2_paint_10 ?_
    refine z_iload (pc := 12) 5 rfl C dX2_paint_12 ?_
    refine z_callS (pc := 14) (rf' := 2) (rl' := 42) (fX2_isBox x2 x3 x4 x5) [(.int x2), (.int x3), (.int x4), (.int x5)] [] [] (fun r_3 => (some (.int r_3))) (fun r_3 => []) [(2, qP, sP)] (fun r_3 => [(2, qP, sP)]) C dX2_paint_14 zy_X2_isBox zw_303 (fun _ hr9 => mX2_isBox  hr9) (by decide) rfl (Nat.le_of_ble_eq_true rfl) (List.Perm.refl _) (fun _ => List.Perm.refl _) rfl (fun r_3 hr_4 => ?_)
    show zJ X 8 res _ 17 [(0, (.ref (qP 0))), (1, (.int x1)), (2, (.int x2)), (3, (.int x3)), (4, (.int x4)), (5, (.int x5))] [(.int r_3)] [(2, qP, sP)]
    refine z_if_ne (pc := 17) 23 C dX2_paint_17 (by decide) ?_ ?_
    · refine z_bipush (pc := 20) (-2 : Int32) (by decide) C dX2_paint_20 ?_
      exact z_ireturn (pc := 22) C hR dX2_paint_22 (fun h => by subst h; exact ⟨rfl, rfl⟩)
    · refine z_iload_n (pc := 23) 2 rfl rfl C dX2_paint_23 ?_
      refine z_iload_n (pc := 24) 3 rfl rfl C dX2_paint_24 ?_
      refine z_iload (pc := 25) 4 rfl C dX2_paint_25 ?_
      refine z_iload (pc := 27) 5 rfl C dX2_paint_27 ?_
      refine z_callS (pc := 29) (rf' := 0) (rl' := 0) (fX2_boxBits F x2 x3 x4 x5) [(.int x2), (.int x3), (.int x4), (.int x5)] [] [] (fun r_5 => (some (.long r_5))) (fun r_5 => []) [(2, qP, sP)] (fun r_5 => [(2, qP, sP)]) C dX2_paint_29 zy_X2_boxBits zw_310 (fun _ hr9 => mX2_boxBits  hr9) (by decide) rfl (Nat.le_of_ble_eq_true rfl) (List.Perm.refl _) (fun _ => List.Perm.refl _) rfl (fun r_5 hr_6 => ?_)
      show zJ X 8 res _ 32 [(0, (.ref (qP 0))), (1, (.int x1)), (2, (.int x2)), (3, (.int x3)), (4, (.int x4)), (5, (.int x5))] [(.long r_5)] [(2, qP, sP)]
      refine z_aload_n (pc := 32) 0 rfl rfl C dX2_paint_32 ?_
      refine z_getR (pc := 33) 0 0 1 C dX2_paint_33 rfl (by decide) (by decide) rfl zw_103 ?_
      refine z_iload_n (pc := 36) 1 rfl rfl C dX2_paint_36 ?_
      refine z_lald (pc := 37) 0 C dX2_paint_37 rfl (by unfold zAr; decide) ?_
      refine z_ldc2_w (pc := 38) (-1 : Int64) zw_313 C dX2_paint_38 ?_
      refine z_lxor (pc := 41) C dX2_paint_41 ?_
      refine z_land (pc := 42) C dX2_paint_42 ?_
      refine z_letl (fun x6_7 => ?_)
      refine z_lstore (pc := 43) [(0, (.ref (qP 0))), (1, (.int x1)), (2, (.int x2)), (3, (.int x3)), (4, (.int x4)), (5, (.int x5)), (6, (.long x6_7))] [1, 2, 3, 4, 5, 6, 0] (by decide) rfl C dX2_paint_43 ?_
      refine z_aload_n (pc := 45) 0 rfl rfl C dX2_paint_45 ?_
      refine z_getR (pc := 46) 0 0 1 C dX2_paint_46 rfl (by decide) (by decide) rfl zw_103 ?_
      refine z_iload_n (pc := 49) 1 rfl rfl C dX2_paint_49 ?_
      refine z_dup2 (pc := 50) rfl rfl C dX2_paint_50 ?_
      refine z_lald (pc := 51) 0 C dX2_paint_51 rfl (by unfold zAr; decide) ?_
      refine z_lload (pc := 52) 6 rfl C dX2_paint_52 ?_
      refine z_lor (pc := 54) C dX2_paint_54 ?_
      refine z_last (pc := 55) 0 C dX2_paint_55 rfl (by unfold zAr; decide) [(2, qP, (zsL sP 1 (vp_updL (zL sP 1) x1.toNatClampNeg ((zL sP 1 x1.toNatClampNeg) ||| x6_7))))] rfl ?_
      refine z_letc (fun z9 => [(2, qP, z9)]) (fun sP_8 => ?_)
      refine z_lload (pc := 56) 6 rfl C dX2_paint_56 ?_
      refine z_callS (pc := 58) (rf' := 0) (rl' := 0) (fJ13_bitCount_95d88 x6_7) [(.long x6_7)] [] [] (fun r_9 => (some (.int r_9))) (fun r_9 => []) [(2, qP, sP_8)] (fun r_9 => [(2, qP, sP_8)]) C dX2_paint_58 zy_J13_bitCount_95d88 zw_314 (fun _ hr9 => mJ13_bitCount_95d88  hr9) (by decide) rfl (Nat.le_of_ble_eq_true rfl) (List.Perm.refl _) (fun _ => List.Perm.refl _) rfl (fun r_9 hr_10 => ?_)
      show zJ X 8 res _ 61 [(0, (.ref (qP 0))), (1, (.int x1)), (2, (.int x2)), (3, (.int x3)), (4, (.int x4)), (5, (.int x5)), (6, (.long x6_7))] [(.int r_9)] [(2, qP, sP_8)]
      exact z_ireturn (pc := 61) C hR dX2_paint_61 (fun h => by subst h; exact ⟨rfl, rfl⟩)
theorem mX2_paint {F : Nat} {qP : Nat → Nat} {x1 : Int32} {x2 : Int32} {x3 : Int32} {x4 : Int32} {x5 : Int32} {sP : zOS} {res : Int32 × zOS}  (hf : fX2_paint F x1 x2 x3 x4 x5 sP = some res) : zM yX2_paint cX2_paint 8 (some .int) 3 65 [(.ref (qP 0)), (.int x1), (.int x2), (.int x3), (.int x4), (.int x5)] [(2, qP, sP)] (some (.int res.1)) [(2, qP, res.2)] := zM_of (by decide +kernel) (Nat.le_of_ble_eq_true rfl) (fun X C hR => wX2_paint (F := F) C hR  hf)
theorem dX2_erase_0 : decode cX2_erase 0 = .ok (.iload_n 1, 1) := by decide +kernel
theorem dX2_erase_1 : decode cX2_erase 1 = .ok (.iconst 4, 1) := by decide +kernel
theorem dX2_erase_2 : decode cX2_erase 2 = .ok (.invokestatic 35, 3) := by decide +kernel
theorem dX2_erase_5 : decode cX2_erase 5 = .ok (.ifCond .eq 15, 3) := by decide +kernel
theorem dX2_erase_8 : decode cX2_erase 8 = .ok (.iload_n 2, 1) := by decide +kernel
theorem dX2_erase_9 : decode cX2_erase 9 = .ok (.iload_n 3, 1) := by decide +kernel
theorem dX2_erase_10 : decode cX2_erase 10 = .ok (.iload 4, 2) := by decide +kernel
theorem dX2_erase_12 : decode cX2_erase 12 = .ok (.iload 5, 2) := by decide +kernel
theorem dX2_erase_14 : decode cX2_erase 14 = .ok (.invokestatic 39, 3) := by decide +kernel
theorem dX2_erase_17 : decode cX2_erase 17 = .ok (.ifCond .ne 6, 3) := by decide +kernel
theorem dX2_erase_20 : decode cX2_erase 20 = .ok (.bipush (-2), 2) := by decide +kernel
theorem dX2_erase_22 : decode cX2_erase 22 = .ok (.ireturn, 1) := by decide +kernel
theorem dX2_erase_23 : decode cX2_erase 23 = .ok (.iload_n 2, 1) := by decide +kernel
theorem dX2_erase_24 : decode cX2_erase 24 = .ok (.iload_n 3, 1) := by decide +kernel
theorem dX2_erase_25 : decode cX2_erase 25 = .ok (.iload 4, 2) := by decide +kernel
theorem dX2_erase_27 : decode cX2_erase 27 = .ok (.iload 5, 2) := by decide +kernel
theorem dX2_erase_29 : decode cX2_erase 29 = .ok (.invokestatic 43, 3) := by decide +kernel
theorem dX2_erase_32 : decode cX2_erase 32 = .ok (.aload_n 0, 1) := by decide +kernel
theorem dX2_erase_33 : decode cX2_erase 33 = .ok (.getfield 9, 3) := by decide +kernel
theorem dX2_erase_36 : decode cX2_erase 36 = .ok (.iload_n 1, 1) := by decide +kernel
theorem dX2_erase_37 : decode cX2_erase 37 = .ok (.laload, 1) := by decide +kernel
theorem dX2_erase_38 : decode cX2_erase 38 = .ok (.land, 1) := by decide +kernel
theorem dX2_erase_39 : decode cX2_erase 39 = .ok (.lstore 6, 2) := by decide +kernel
theorem dX2_erase_41 : decode cX2_erase 41 = .ok (.aload_n 0, 1) := by decide +kernel
theorem dX2_erase_42 : decode cX2_erase 42 = .ok (.getfield 9, 3) := by decide +kernel
theorem dX2_erase_45 : decode cX2_erase 45 = .ok (.iload_n 1, 1) := by decide +kernel
theorem dX2_erase_46 : decode cX2_erase 46 = .ok (.dup2, 1) := by decide +kernel
theorem dX2_erase_47 : decode cX2_erase 47 = .ok (.laload, 1) := by decide +kernel
theorem dX2_erase_48 : decode cX2_erase 48 = .ok (.lload 6, 2) := by decide +kernel
theorem dX2_erase_50 : decode cX2_erase 50 = .ok (.ldc2_w 47, 3) := by decide +kernel
theorem dX2_erase_53 : decode cX2_erase 53 = .ok (.lxor, 1) := by decide +kernel
theorem dX2_erase_54 : decode cX2_erase 54 = .ok (.land, 1) := by decide +kernel
theorem dX2_erase_55 : decode cX2_erase 55 = .ok (.lastore, 1) := by decide +kernel
theorem dX2_erase_56 : decode cX2_erase 56 = .ok (.lload 6, 2) := by decide +kernel
theorem dX2_erase_58 : decode cX2_erase 58 = .ok (.invokestatic 49, 3) := by decide +kernel
theorem dX2_erase_61 : decode cX2_erase 61 = .ok (.ireturn, 1) := by decide +kernel
def fX2_erase (F : Nat) (x1 : Int32) (x2 : Int32) (x3 : Int32) (x4 : Int32) (x5 : Int32) (sP : zOS) : Option (Int32 × zOS) := (Option.bind (fX4_isWithin x1 (4 : Int32)) (fun r_1 : Int32 => (if r_1 = 0 then (some ((-2 : Int32), sP)) else (Option.bind (fX2_isBox x2 x3 x4 x5) (fun r_3 : Int32 => (if r_3 = 0 then (some ((-2 : Int32), sP)) else (Option.bind (fX2_boxBits F x2 x3 x4 x5) (fun r_5 : Int64 => (zchk x1 4 (zlet (r_5 &&& (zL sP 1 x1.toNatClampNeg)) (fun x6_7 : Int64 => (zchk x1 4 (zchk x1 4 (zlet (zsL sP 1 (vp_updL (zL sP 1) x1.toNatClampNeg ((zL sP 1 x1.toNatClampNeg) &&& (x6_7 ^^^ (-1 : Int64))))) (fun sP_8 : zOS => (Option.bind (fJ13_bitCount_95d88 x6_7) (fun r_9 : Int32 => (some (r_9, sP_8)))))))))))))))))))
set_option maxRecDepth 20000 in
theorem wX2_erase {X : zCx} {res : Int32 × zOS} {F : Nat} {qP : Nat → Nat} {x1 : Int32} {x2 : Int32} {x3 : Int32} {x4 : Int32} {x5 : Int32} {sP : zOS} (C : zC X RX2 cX2_erase 8 3 65) (hR : zR X (some .int) (some (.int res.1)) [(2, qP, res.2)])  : zJ X 8 res (fX2_erase F x1 x2 x3 x4 x5 sP) 0 [(0, (.ref (qP 0))), (1, (.int x1)), (2, (.int x2)), (3, (.int x3)), (4, (.int x4)), (5, (.int x5))] [] [(2, qP, sP)] := by
  unfold fX2_erase
  refine z_iload_n (pc := 0) 1 rfl rfl C dX2_erase_0 ?_
  refine z_iconst (pc := 1) (4 : Int32) (by decide) C dX2_erase_1 ?_
  refine z_callN (pc := 2) (rf' := 0) (rl' := 0) (fX4_isWithin x1 (4 : Int32)) [(.int x1), (.int (4 : Int32))] [] (fun r_1 => (some (.int r_1))) C dX2_erase_2 zy_X4_isWithin (fun U h => h.1) (fun _ hr9 => mX4_isWithin  hr9) (by decide) rfl (Nat.le_of_ble_eq_true rfl) rfl (fun r_1 hr_2 => ?_)
  show zJ X 8 res _ 5 [(0, (.ref (qP 0))), (1, (.int x1)), (2, (.int x2)), (3, (.int x3)), (4, (.int x4)), (5, (.int x5))] [(.int r_1)] [(2, qP, sP)]
  refine z_if_eq (pc := 5) 20 C dX2_erase_5 (by decide) ?_ ?_
  · refine z_bipush (pc := 20) (-2 : Int32) (by decide) C dX2_erase_20 ?_
    exact z_ireturn (pc := 22) C hR dX2_erase_22 (fun h => by subst h; exact ⟨rfl, rfl⟩)
  · refine z_iload_n (pc := 8) 2 rfl rfl C dX2_erase_8 ?_
    refine z_iload_n (pc := 9) 3 rfl rfl C dX2_erase_9 ?_
    refine z_iload (pc := 10) 4 rfl C dX2_erase_10 ?_
    refine z_iload (pc := 12) 5 rfl C dX2_erase_12 ?_
    refine z_callS (pc := 14) (rf' := 2) (rl' := 42) (fX2_isBox x2 x3 x4 x5) [(.int x2), (.int x3), (.int x4), (.int x5)] [] [] (fun r_3 => (some (.int r_3))) (fun r_3 => []) [(2, qP, sP)] (fun r_3 => [(2, qP, sP)]) C dX2_erase_14 zy_X2_isBox zw_303 (fun _ hr9 => mX2_isBox  hr9) (by decide) rfl (Nat.le_of_ble_eq_true rfl) (List.Perm.refl _) (fun _ => List.Perm.refl _) rfl (fun r_3 hr_4 => ?_)
    show zJ X 8 res _ 17 [(0, (.ref (qP 0))), (1, (.int x1)), (2, (.int x2)), (3, (.int x3)), (4, (.int x4)), (5, (.int x5))] [(.int r_3)] [(2, qP, sP)]
    refine z_if_ne (pc := 17) 23 C dX2_erase_17 (by decide) ?_ ?_
    · refine z_bipush (pc := 20) (-2 : Int32) (by decide) C dX2_erase_20 ?_
      exact z_ireturn (pc := 22) C hR dX2_erase_22 (fun h => by subst h; exact ⟨rfl, rfl⟩)
    · refine z_iload_n (pc := 23) 2 rfl rfl C dX2_erase_23 ?_
      refine z_iload_n (pc := 24) 3 rfl rfl C dX2_erase_24 ?_
      refine z_iload (pc := 25) 4 rfl C dX2_erase_25 ?_
      refine z_iload (pc := 27) 5 rfl C dX2_erase_27 ?_
      refine z_callS (pc := 29) (rf' := 0) (rl' := 0) (fX2_boxBits F x2 x3 x4 x5) [(.int x2), (.int x3), (.int x4), (.int x5)] [] [] (fun r_5 => (some (.long r_5))) (fun r_5 => []) [(2, qP, sP)] (fun r_5 => [(2, qP, sP)]) C dX2_erase_29 zy_X2_boxBits zw_310 (fun _ hr9 => mX2_boxBits  hr9) (by decide) rfl (Nat.le_of_ble_eq_true rfl) (List.Perm.refl _) (fun _ => List.Perm.refl _) rfl (fun r_5 hr_6 => ?_)
      show zJ X 8 res _ 32 [(0, (.ref (qP 0))), (1, (.int x1)), (2, (.int x2)), (3, (.int x3)), (4, (.int x4)), (5, (.int x5))] [(.long r_5)] [(2, qP, sP)]
      refine z_aload_n (pc := 32) 0 rfl rfl C dX2_erase_32 ?_
      refine z_getR (pc := 33) 0 0 1 C dX2_erase_33 rfl (by decide) (by decide) rfl zw_103 ?_
      refine z_iload_n (pc := 36) 1 rfl rfl C dX2_erase_36 ?_
      refine z_lald (pc := 37) 0 C dX2_erase_37 rfl (by unfold zAr; decide) ?_
      refine z_land (pc := 38) C dX2_erase_38 ?_
      refine z_letl (fun x6_7 => ?_)
      refine z_lstore (pc := 39) [(0, (.ref (qP 0))), (1, (.int x1)), (2, (.int x2)), (3, (.int x3)), (4, (.int x4)), (5, (.int x5)), (6, (.long x6_7))] [1, 2, 3, 4, 5, 6, 0] (by decide) rfl C dX2_erase_39 ?_
      refine z_aload_n (pc := 41) 0 rfl rfl C dX2_erase_41 ?_
      refine z_getR (pc := 42) 0 0 1 C dX2_erase_42 rfl (by decide) (by decide) rfl zw_103 ?_
      refine z_iload_n (pc := 45) 1 rfl rfl C dX2_erase_45 ?_
      refine z_dup2 (pc := 46) rfl rfl C dX2_erase_46 ?_
      refine z_lald (pc := 47) 0 C dX2_erase_47 rfl (by unfold zAr; decide) ?_
      refine z_lload (pc := 48) 6 rfl C dX2_erase_48 ?_
      refine z_ldc2_w (pc := 50) (-1 : Int64) zw_313 C dX2_erase_50 ?_
      refine z_lxor (pc := 53) C dX2_erase_53 ?_
      refine z_land (pc := 54) C dX2_erase_54 ?_
      refine z_last (pc := 55) 0 C dX2_erase_55 rfl (by unfold zAr; decide) [(2, qP, (zsL sP 1 (vp_updL (zL sP 1) x1.toNatClampNeg ((zL sP 1 x1.toNatClampNeg) &&& (x6_7 ^^^ (-1 : Int64))))))] rfl ?_
      refine z_letc (fun z9 => [(2, qP, z9)]) (fun sP_8 => ?_)
      refine z_lload (pc := 56) 6 rfl C dX2_erase_56 ?_
      refine z_callS (pc := 58) (rf' := 0) (rl' := 0) (fJ13_bitCount_95d88 x6_7) [(.long x6_7)] [] [] (fun r_9 => (some (.int r_9))) (fun r_9 => []) [(2, qP, sP_8)] (fun r_9 => [(2, qP, sP_8)]) C dX2_erase_58 zy_J13_bitCount_95d88 zw_314 (fun _ hr9 => mJ13_bitCount_95d88  hr9) (by decide) rfl (Nat.le_of_ble_eq_true rfl) (List.Perm.refl _) (fun _ => List.Perm.refl _) rfl (fun r_9 hr_10 => ?_)
      show zJ X 8 res _ 61 [(0, (.ref (qP 0))), (1, (.int x1)), (2, (.int x2)), (3, (.int x3)), (4, (.int x4)), (5, (.int x5)), (6, (.long x6_7))] [(.int r_9)] [(2, qP, sP_8)]
      exact z_ireturn (pc := 61) C hR dX2_erase_61 (fun h => by subst h; exact ⟨rfl, rfl⟩)
theorem mX2_erase {F : Nat} {qP : Nat → Nat} {x1 : Int32} {x2 : Int32} {x3 : Int32} {x4 : Int32} {x5 : Int32} {sP : zOS} {res : Int32 × zOS}  (hf : fX2_erase F x1 x2 x3 x4 x5 sP = some res) : zM yX2_erase cX2_erase 8 (some .int) 3 65 [(.ref (qP 0)), (.int x1), (.int x2), (.int x3), (.int x4), (.int x5)] [(2, qP, sP)] (some (.int res.1)) [(2, qP, res.2)] := zM_of (by decide +kernel) (Nat.le_of_ble_eq_true rfl) (fun X C hR => wX2_erase (F := F) C hR  hf)
theorem dX2_shift_0 : decode cX2_shift 0 = .ok (.iload_n 1, 1) := by decide +kernel
theorem dX2_shift_1 : decode cX2_shift 1 = .ok (.iconst 4, 1) := by decide +kernel
theorem dX2_shift_2 : decode cX2_shift 2 = .ok (.invokestatic 35, 3) := by decide +kernel
theorem dX2_shift_5 : decode cX2_shift 5 = .ok (.ifCond .eq 17, 3) := by decide +kernel
theorem dX2_shift_8 : decode cX2_shift 8 = .ok (.iload_n 2, 1) := by decide +kernel
theorem dX2_shift_9 : decode cX2_shift 9 = .ok (.invokestatic 55, 3) := by decide +kernel
theorem dX2_shift_12 : decode cX2_shift 12 = .ok (.ifCond .eq 10, 3) := by decide +kernel
theorem dX2_shift_15 : decode cX2_shift 15 = .ok (.iload_n 3, 1) := by decide +kernel
theorem dX2_shift_16 : decode cX2_shift 16 = .ok (.invokestatic 55, 3) := by decide +kernel
theorem dX2_shift_19 : decode cX2_shift 19 = .ok (.ifCond .ne 6, 3) := by decide +kernel
theorem dX2_shift_22 : decode cX2_shift 22 = .ok (.bipush (-2), 2) := by decide +kernel
theorem dX2_shift_24 : decode cX2_shift 24 = .ok (.ireturn, 1) := by decide +kernel
theorem dX2_shift_25 : decode cX2_shift 25 = .ok (.lconst 0, 1) := by decide +kernel
theorem dX2_shift_26 : decode cX2_shift 26 = .ok (.lstore 4, 2) := by decide +kernel
theorem dX2_shift_28 : decode cX2_shift 28 = .ok (.iconst 0, 1) := by decide +kernel
theorem dX2_shift_29 : decode cX2_shift 29 = .ok (.istore 6, 2) := by decide +kernel
theorem dX2_shift_31 : decode cX2_shift 31 = .ok (.iload 6, 2) := by decide +kernel
theorem dX2_shift_33 : decode cX2_shift 33 = .ok (.bipush 8, 2) := by decide +kernel
theorem dX2_shift_35 : decode cX2_shift 35 = .ok (.if_icmp .ge 74, 3) := by decide +kernel
theorem dX2_shift_38 : decode cX2_shift 38 = .ok (.iconst 0, 1) := by decide +kernel
theorem dX2_shift_39 : decode cX2_shift 39 = .ok (.istore 7, 2) := by decide +kernel
theorem dX2_shift_41 : decode cX2_shift 41 = .ok (.iload 7, 2) := by decide +kernel
theorem dX2_shift_43 : decode cX2_shift 43 = .ok (.bipush 8, 2) := by decide +kernel
theorem dX2_shift_45 : decode cX2_shift 45 = .ok (.if_icmp .ge 58, 3) := by decide +kernel
theorem dX2_shift_48 : decode cX2_shift 48 = .ok (.aload_n 0, 1) := by decide +kernel
theorem dX2_shift_49 : decode cX2_shift 49 = .ok (.getfield 9, 3) := by decide +kernel
theorem dX2_shift_52 : decode cX2_shift 52 = .ok (.iload_n 1, 1) := by decide +kernel
theorem dX2_shift_53 : decode cX2_shift 53 = .ok (.laload, 1) := by decide +kernel
theorem dX2_shift_54 : decode cX2_shift 54 = .ok (.iload 7, 2) := by decide +kernel
theorem dX2_shift_56 : decode cX2_shift 56 = .ok (.iload 6, 2) := by decide +kernel
theorem dX2_shift_58 : decode cX2_shift 58 = .ok (.invokestatic 59, 3) := by decide +kernel
theorem dX2_shift_61 : decode cX2_shift 61 = .ok (.land, 1) := by decide +kernel
theorem dX2_shift_62 : decode cX2_shift 62 = .ok (.lconst 0, 1) := by decide +kernel
theorem dX2_shift_63 : decode cX2_shift 63 = .ok (.lcmp, 1) := by decide +kernel
theorem dX2_shift_64 : decode cX2_shift 64 = .ok (.ifCond .eq 33, 3) := by decide +kernel
theorem dX2_shift_67 : decode cX2_shift 67 = .ok (.iload 7, 2) := by decide +kernel
theorem dX2_shift_69 : decode cX2_shift 69 = .ok (.iload_n 2, 1) := by decide +kernel
theorem dX2_shift_70 : decode cX2_shift 70 = .ok (.iadd, 1) := by decide +kernel
theorem dX2_shift_71 : decode cX2_shift 71 = .ok (.iload 6, 2) := by decide +kernel
theorem dX2_shift_73 : decode cX2_shift 73 = .ok (.iload_n 3, 1) := by decide +kernel
theorem dX2_shift_74 : decode cX2_shift 74 = .ok (.iadd, 1) := by decide +kernel
theorem dX2_shift_75 : decode cX2_shift 75 = .ok (.invokestatic 63, 3) := by decide +kernel
theorem dX2_shift_78 : decode cX2_shift 78 = .ok (.ifCond .eq 19, 3) := by decide +kernel
theorem dX2_shift_81 : decode cX2_shift 81 = .ok (.lload 4, 2) := by decide +kernel
theorem dX2_shift_83 : decode cX2_shift 83 = .ok (.iload 7, 2) := by decide +kernel
theorem dX2_shift_85 : decode cX2_shift 85 = .ok (.iload_n 2, 1) := by decide +kernel
theorem dX2_shift_86 : decode cX2_shift 86 = .ok (.iadd, 1) := by decide +kernel
theorem dX2_shift_87 : decode cX2_shift 87 = .ok (.iload 6, 2) := by decide +kernel
theorem dX2_shift_89 : decode cX2_shift 89 = .ok (.iload_n 3, 1) := by decide +kernel
theorem dX2_shift_90 : decode cX2_shift 90 = .ok (.iadd, 1) := by decide +kernel
theorem dX2_shift_91 : decode cX2_shift 91 = .ok (.invokestatic 59, 3) := by decide +kernel
theorem dX2_shift_94 : decode cX2_shift 94 = .ok (.lor, 1) := by decide +kernel
theorem dX2_shift_95 : decode cX2_shift 95 = .ok (.lstore 4, 2) := by decide +kernel
theorem dX2_shift_97 : decode cX2_shift 97 = .ok (.iinc 7 1, 3) := by decide +kernel
theorem dX2_shift_100 : decode cX2_shift 100 = .ok (.goto (-59), 3) := by decide +kernel
theorem dX2_shift_103 : decode cX2_shift 103 = .ok (.iinc 6 1, 3) := by decide +kernel
theorem dX2_shift_106 : decode cX2_shift 106 = .ok (.goto (-75), 3) := by decide +kernel
theorem dX2_shift_109 : decode cX2_shift 109 = .ok (.aload_n 0, 1) := by decide +kernel
theorem dX2_shift_110 : decode cX2_shift 110 = .ok (.getfield 9, 3) := by decide +kernel
theorem dX2_shift_113 : decode cX2_shift 113 = .ok (.iload_n 1, 1) := by decide +kernel
theorem dX2_shift_114 : decode cX2_shift 114 = .ok (.lload 4, 2) := by decide +kernel
theorem dX2_shift_116 : decode cX2_shift 116 = .ok (.lastore, 1) := by decide +kernel
theorem dX2_shift_117 : decode cX2_shift 117 = .ok (.lload 4, 2) := by decide +kernel
theorem dX2_shift_119 : decode cX2_shift 119 = .ok (.invokestatic 49, 3) := by decide +kernel
theorem dX2_shift_122 : decode cX2_shift 122 = .ok (.ireturn, 1) := by decide +kernel
def bX2_shift_41 (F : Nat) (kc_31 : (Int64 × Int32) → Option (Int32 × zOS)) (x1 : Int32) (x2 : Int32) (x3 : Int32) (x6 : Int32) (sP : zOS) (kc_41 : (Int64 × Int32) → Option (Int32 × zOS)) (x4 : Int64) (x7 : Int32) : Option (Int32 × zOS) := (if (8 : Int32) ≤ x7 then (kc_31 (x4, (x6 + 1))) else (zchk x1 4 (Option.bind (fX4_cellBit x7 x6) (fun r_10 : Int64 => (if (lg_cmp ((zL sP 1 x1.toNatClampNeg) &&& r_10) (0 : Int64)) = 0 then (kc_41 (x4, (x7 + 1))) else (Option.bind (fX4_isCell (x7 + x2) (x6 + x3)) (fun r_12 : Int32 => (if r_12 = 0 then (kc_41 (x4, (x7 + 1))) else (Option.bind (fX4_cellBit (x7 + x2) (x6 + x3)) (fun r_14 : Int64 => (zlet (x4 ||| r_14) (fun x4_16 : Int64 => (kc_41 (x4_16, (x7 + 1)))))))))))))))
set_option maxRecDepth 20000 in
theorem vX2_shift_41 {X : zCx} {res : Int32 × zOS} {F : Nat} {qP : Nat → Nat} {sP : zOS} {x1 : Int32} {x2 : Int32} {x3 : Int32} {x6 : Int32} {kc_31 : (Int64 × Int32) → Option (Int32 × zOS)} {kc_41 : (Int64 × Int32) → Option (Int32 × zOS)} (C : zC X RX2 cX2_shift 8 2 42) (hR : zR X (some .int) (some (.int res.1)) [(2, qP, res.2)]) (hk_31 : ∀ (y4 : Int64) (y6 : Int32), zJ X 8 res (kc_31 (y4, y6)) 31 [(0, (.ref (qP 0))), (1, (.int x1)), (2, (.int x2)), (3, (.int x3)), (4, (.long y4)), (6, (.int y6))] [] [(2, qP, sP)]) (hk_41 : ∀ (y4 : Int64) (y7 : Int32), zJ X 8 res (kc_41 (y4, y7)) 41 [(0, (.ref (qP 0))), (1, (.int x1)), (2, (.int x2)), (3, (.int x3)), (4, (.long y4)), (6, (.int x6)), (7, (.int y7))] [] [(2, qP, sP)]) (x4 : Int64) (x7 : Int32) : zJ X 8 res (bX2_shift_41 F kc_31 x1 x2 x3 x6 sP kc_41 x4 x7) 41 [(0, (.ref (qP 0))), (1, (.int x1)), (2, (.int x2)), (3, (.int x3)), (4, (.long x4)), (6, (.int x6)), (7, (.int x7))] [] [(2, qP, sP)] := by
  unfold bX2_shift_41
  refine z_iload (pc := 41) 6 rfl C dX2_shift_41 ?_
  refine z_bipush (pc := 43) (8 : Int32) (by decide) C dX2_shift_43 ?_
  refine z_icmp_ge (pc := 45) 103 C dX2_shift_45 (by decide) ?_ ?_
  · refine z_iinc (pc := 103) (x6 + 1) 5 rfl rfl [(0, (.ref (qP 0))), (1, (.int x1)), (2, (.int x2)), (3, (.int x3)), (4, (.long x4)), (6, (.int (x6 + 1))), (7, (.int x7))] [1, 2, 3, 4, 5, 0, 6] (by decide) rfl C dX2_shift_103 ?_
    refine z_goto (pc := 106) 31 C dX2_shift_106 (by decide) ?_
    refine z_lv [(0, (.ref (qP 0))), (1, (.int x1)), (2, (.int x2)), (3, (.int x3)), (4, (.long x4)), (6, (.int (x6 + 1)))] [0, 1, 2, 3, 4, 5] rfl ?_
    exact hk_31 _ _
  · refine z_aload_n (pc := 48) 0 rfl rfl C dX2_shift_48 ?_
    refine z_getR (pc := 49) 0 0 1 C dX2_shift_49 rfl (by decide) (by decide) rfl zw_103 ?_
    refine z_iload_n (pc := 52) 1 rfl rfl C dX2_shift_52 ?_
    refine z_lald (pc := 53) 0 C dX2_shift_53 rfl (by unfold zAr; decide) ?_
    refine z_iload (pc := 54) 6 rfl C dX2_shift_54 ?_
    refine z_iload (pc := 56) 5 rfl C dX2_shift_56 ?_
    refine z_callN (pc := 58) (rf' := 0) (rl' := 0) (fX4_cellBit x7 x6) [(.int x7), (.int x6)] [(.long (zL sP 1 x1.toNatClampNeg))] (fun r_10 => (some (.long r_10))) C dX2_shift_58 zy_X4_cellBit (fun U h => h.2.2.1) (fun _ hr9 => mX4_cellBit  hr9) (by decide) rfl (Nat.le_of_ble_eq_true rfl) rfl (fun r_10 hr_11 => ?_)
    show zJ X 8 res _ 61 [(0, (.ref (qP 0))), (1, (.int x1)), (2, (.int x2)), (3, (.int x3)), (4, (.long x4)), (6, (.int x6)), (7, (.int x7))] [(.long r_10), (.long (zL sP 1 x1.toNatClampNeg))] [(2, qP, sP)]
    refine z_land (pc := 61) C dX2_shift_61 ?_
    refine z_lconst (pc := 62) (0 : Int64) (by decide) C dX2_shift_62 ?_
    refine z_lcmp (pc := 63) C dX2_shift_63 ?_
    refine z_if_eq (pc := 64) 97 C dX2_shift_64 (by decide) ?_ ?_
    · refine z_iinc (pc := 97) (x7 + 1) 6 rfl rfl [(0, (.ref (qP 0))), (1, (.int x1)), (2, (.int x2)), (3, (.int x3)), (4, (.long x4)), (6, (.int x6)), (7, (.int (x7 + 1)))] [1, 2, 3, 4, 5, 6, 0] (by decide) rfl C dX2_shift_97 ?_
      refine z_goto (pc := 100) 41 C dX2_shift_100 (by decide) ?_
      exact hk_41 _ _
    · refine z_iload (pc := 67) 6 rfl C dX2_shift_67 ?_
      refine z_iload_n (pc := 69) 2 rfl rfl C dX2_shift_69 ?_
      refine z_iadd (pc := 70) C dX2_shift_70 ?_
      refine z_iload (pc := 71) 5 rfl C dX2_shift_71 ?_
      refine z_iload_n (pc := 73) 3 rfl rfl C dX2_shift_73 ?_
      refine z_iadd (pc := 74) C dX2_shift_74 ?_
      refine z_callN (pc := 75) (rf' := 1) (rl' := 21) (fX4_isCell (x7 + x2) (x6 + x3)) [(.int (x7 + x2)), (.int (x6 + x3))] [] (fun r_12 => (some (.int r_12))) C dX2_shift_75 zy_X4_isCell (fun U h => h.2.1) (fun _ hr9 => mX4_isCell  hr9) (by decide) rfl (Nat.le_of_ble_eq_true rfl) rfl (fun r_12 hr_13 => ?_)
      show zJ X 8 res _ 78 [(0, (.ref (qP 0))), (1, (.int x1)), (2, (.int x2)), (3, (.int x3)), (4, (.long x4)), (6, (.int x6)), (7, (.int x7))] [(.int r_12)] [(2, qP, sP)]
      refine z_if_eq (pc := 78) 97 C dX2_shift_78 (by decide) ?_ ?_
      · refine z_iinc (pc := 97) (x7 + 1) 6 rfl rfl [(0, (.ref (qP 0))), (1, (.int x1)), (2, (.int x2)), (3, (.int x3)), (4, (.long x4)), (6, (.int x6)), (7, (.int (x7 + 1)))] [1, 2, 3, 4, 5, 6, 0] (by decide) rfl C dX2_shift_97 ?_
        refine z_goto (pc := 100) 41 C dX2_shift_100 (by decide) ?_
        exact hk_41 _ _
      · refine z_lload (pc := 81) 4 rfl C dX2_shift_81 ?_
        refine z_iload (pc := 83) 6 rfl C dX2_shift_83 ?_
        refine z_iload_n (pc := 85) 2 rfl rfl C dX2_shift_85 ?_
        refine z_iadd (pc := 86) C dX2_shift_86 ?_
        refine z_iload (pc := 87) 5 rfl C dX2_shift_87 ?_
        refine z_iload_n (pc := 89) 3 rfl rfl C dX2_shift_89 ?_
        refine z_iadd (pc := 90) C dX2_shift_90 ?_
        refine z_callN (pc := 91) (rf' := 0) (rl' := 0) (fX4_cellBit (x7 + x2) (x6 + x3)) [(.int (x7 + x2)), (.int (x6 + x3))] [(.long x4)] (fun r_14 => (some (.long r_14))) C dX2_shift_91 zy_X4_cellBit (fun U h => h.2.2.1) (fun _ hr9 => mX4_cellBit  hr9) (by decide) rfl (Nat.le_of_ble_eq_true rfl) rfl (fun r_14 hr_15 => ?_)
        show zJ X 8 res _ 94 [(0, (.ref (qP 0))), (1, (.int x1)), (2, (.int x2)), (3, (.int x3)), (4, (.long x4)), (6, (.int x6)), (7, (.int x7))] [(.long r_14), (.long x4)] [(2, qP, sP)]
        refine z_lor (pc := 94) C dX2_shift_94 ?_
        refine z_letl (fun x4_16 => ?_)
        refine z_lstore (pc := 95) [(0, (.ref (qP 0))), (1, (.int x1)), (2, (.int x2)), (3, (.int x3)), (4, (.long x4_16)), (6, (.int x6)), (7, (.int x7))] [1, 2, 3, 4, 0, 5, 6] (by decide) rfl C dX2_shift_95 ?_
        refine z_iinc (pc := 97) (x7 + 1) 6 rfl rfl [(0, (.ref (qP 0))), (1, (.int x1)), (2, (.int x2)), (3, (.int x3)), (4, (.long x4_16)), (6, (.int x6)), (7, (.int (x7 + 1)))] [1, 2, 3, 4, 5, 6, 0] (by decide) rfl C dX2_shift_97 ?_
        refine z_goto (pc := 100) 41 C dX2_shift_100 (by decide) ?_
        exact hk_41 _ _
def bX2_shift_31 (F : Nat) (x1 : Int32) (x2 : Int32) (x3 : Int32) (sP : zOS) (kc_31 : (Int64 × Int32) → Option (Int32 × zOS)) (x4 : Int64) (x6 : Int32) : Option (Int32 × zOS) := (if (8 : Int32) ≤ x6 then (zchk x1 4 (zlet (zsL sP 1 (vp_updL (zL sP 1) x1.toNatClampNeg x4)) (fun sP_7 : zOS => (Option.bind (fJ13_bitCount_95d88 x4) (fun r_8 : Int32 => (some (r_8, sP_7))))))) else (zit (P := Int64 × Int32) (R := Int32 × zOS) (fun kc9 p9 => bX2_shift_41 F kc_31 x1 x2 x3 x6 sP kc9 p9.1 p9.2) F (x4, (0 : Int32))))
set_option maxRecDepth 20000 in
theorem vX2_shift_31 {X : zCx} {res : Int32 × zOS} {F : Nat} {qP : Nat → Nat} {sP : zOS} {x1 : Int32} {x2 : Int32} {x3 : Int32} {kc_31 : (Int64 × Int32) → Option (Int32 × zOS)} (C : zC X RX2 cX2_shift 8 2 42) (hR : zR X (some .int) (some (.int res.1)) [(2, qP, res.2)]) (hk_31 : ∀ (y4 : Int64) (y6 : Int32), zJ X 8 res (kc_31 (y4, y6)) 31 [(0, (.ref (qP 0))), (1, (.int x1)), (2, (.int x2)), (3, (.int x3)), (4, (.long y4)), (6, (.int y6))] [] [(2, qP, sP)]) (x4 : Int64) (x6 : Int32) : zJ X 8 res (bX2_shift_31 F x1 x2 x3 sP kc_31 x4 x6) 31 [(0, (.ref (qP 0))), (1, (.int x1)), (2, (.int x2)), (3, (.int x3)), (4, (.long x4)), (6, (.int x6))] [] [(2, qP, sP)] := by
  unfold bX2_shift_31
  refine z_iload (pc := 31) 5 rfl C dX2_shift_31 ?_
  refine z_bipush (pc := 33) (8 : Int32) (by decide) C dX2_shift_33 ?_
  refine z_icmp_ge (pc := 35) 109 C dX2_shift_35 (by decide) ?_ ?_
  · refine z_aload_n (pc := 109) 0 rfl rfl C dX2_shift_109 ?_
    refine z_getR (pc := 110) 0 0 1 C dX2_shift_110 rfl (by decide) (by decide) rfl zw_103 ?_
    refine z_iload_n (pc := 113) 1 rfl rfl C dX2_shift_113 ?_
    refine z_lload (pc := 114) 4 rfl C dX2_shift_114 ?_
    refine z_last (pc := 116) 0 C dX2_shift_116 rfl (by unfold zAr; decide) [(2, qP, (zsL sP 1 (vp_updL (zL sP 1) x1.toNatClampNeg x4)))] rfl ?_
    refine z_letc (fun z9 => [(2, qP, z9)]) (fun sP_7 => ?_)
    refine z_lload (pc := 117) 4 rfl C dX2_shift_117 ?_
    refine z_callS (pc := 119) (rf' := 0) (rl' := 0) (fJ13_bitCount_95d88 x4) [(.long x4)] [] [] (fun r_8 => (some (.int r_8))) (fun r_8 => []) [(2, qP, sP_7)] (fun r_8 => [(2, qP, sP_7)]) C dX2_shift_119 zy_J13_bitCount_95d88 zw_314 (fun _ hr9 => mJ13_bitCount_95d88  hr9) (by decide) rfl (Nat.le_of_ble_eq_true rfl) (List.Perm.refl _) (fun _ => List.Perm.refl _) rfl (fun r_8 hr_9 => ?_)
    show zJ X 8 res _ 122 [(0, (.ref (qP 0))), (1, (.int x1)), (2, (.int x2)), (3, (.int x3)), (4, (.long x4)), (6, (.int x6))] [(.int r_8)] [(2, qP, sP_7)]
    exact z_ireturn (pc := 122) C hR dX2_shift_122 (fun h => by subst h; exact ⟨rfl, rfl⟩)
  · refine z_iconst (pc := 38) (0 : Int32) (by decide) C dX2_shift_38 ?_
    refine z_istore (pc := 39) [(0, (.ref (qP 0))), (1, (.int x1)), (2, (.int x2)), (3, (.int x3)), (4, (.long x4)), (6, (.int x6)), (7, (.int (0 : Int32)))] [1, 2, 3, 4, 5, 6, 0] (by decide) rfl C dX2_shift_39 ?_
    exact zit_J (fun p9 => [(0, (.ref (qP 0))), (1, (.int x1)), (2, (.int x2)), (3, (.int x3)), (4, (.long p9.1)), (6, (.int x6)), (7, (.int p9.2))]) (fun p9 => [(2, qP, sP)]) (fun kc9 hk9 p9 => vX2_shift_41 C hR  hk_31 (fun a0 a1 => hk9 (a0, a1)) _ _) F _
def fX2_shift (F : Nat) (x1 : Int32) (x2 : Int32) (x3 : Int32) (sP : zOS) : Option (Int32 × zOS) := (Option.bind (fX4_isWithin x1 (4 : Int32)) (fun r_1 : Int32 => (if r_1 = 0 then (some ((-2 : Int32), sP)) else (Option.bind (fX2_isStep x2) (fun r_3 : Int32 => (if r_3 = 0 then (some ((-2 : Int32), sP)) else (Option.bind (fX2_isStep x3) (fun r_5 : Int32 => (if r_5 = 0 then (some ((-2 : Int32), sP)) else (zit (P := Int64 × Int32) (R := Int32 × zOS) (fun kc9 p9 => bX2_shift_31 F x1 x2 x3 sP kc9 p9.1 p9.2) F ((0 : Int64), (0 : Int32))))))))))))
set_option maxRecDepth 20000 in
theorem wX2_shift {X : zCx} {res : Int32 × zOS} {F : Nat} {qP : Nat → Nat} {x1 : Int32} {x2 : Int32} {x3 : Int32} {sP : zOS} (C : zC X RX2 cX2_shift 8 2 42) (hR : zR X (some .int) (some (.int res.1)) [(2, qP, res.2)])  : zJ X 8 res (fX2_shift F x1 x2 x3 sP) 0 [(0, (.ref (qP 0))), (1, (.int x1)), (2, (.int x2)), (3, (.int x3))] [] [(2, qP, sP)] := by
  unfold fX2_shift
  refine z_iload_n (pc := 0) 1 rfl rfl C dX2_shift_0 ?_
  refine z_iconst (pc := 1) (4 : Int32) (by decide) C dX2_shift_1 ?_
  refine z_callN (pc := 2) (rf' := 0) (rl' := 0) (fX4_isWithin x1 (4 : Int32)) [(.int x1), (.int (4 : Int32))] [] (fun r_1 => (some (.int r_1))) C dX2_shift_2 zy_X4_isWithin (fun U h => h.1) (fun _ hr9 => mX4_isWithin  hr9) (by decide) rfl (Nat.le_of_ble_eq_true rfl) rfl (fun r_1 hr_2 => ?_)
  show zJ X 8 res _ 5 [(0, (.ref (qP 0))), (1, (.int x1)), (2, (.int x2)), (3, (.int x3))] [(.int r_1)] [(2, qP, sP)]
  refine z_if_eq (pc := 5) 22 C dX2_shift_5 (by decide) ?_ ?_
  · refine z_bipush (pc := 22) (-2 : Int32) (by decide) C dX2_shift_22 ?_
    exact z_ireturn (pc := 24) C hR dX2_shift_24 (fun h => by subst h; exact ⟨rfl, rfl⟩)
  · refine z_iload_n (pc := 8) 2 rfl rfl C dX2_shift_8 ?_
    refine z_callS (pc := 9) (rf' := 0) (rl' := 0) (fX2_isStep x2) [(.int x2)] [] [] (fun r_3 => (some (.int r_3))) (fun r_3 => []) [(2, qP, sP)] (fun r_3 => [(2, qP, sP)]) C dX2_shift_9 zy_X2_isStep zw_352 (fun _ hr9 => mX2_isStep  hr9) (by decide) rfl (Nat.le_of_ble_eq_true rfl) (List.Perm.refl _) (fun _ => List.Perm.refl _) rfl (fun r_3 hr_4 => ?_)
    show zJ X 8 res _ 12 [(0, (.ref (qP 0))), (1, (.int x1)), (2, (.int x2)), (3, (.int x3))] [(.int r_3)] [(2, qP, sP)]
    refine z_if_eq (pc := 12) 22 C dX2_shift_12 (by decide) ?_ ?_
    · refine z_bipush (pc := 22) (-2 : Int32) (by decide) C dX2_shift_22 ?_
      exact z_ireturn (pc := 24) C hR dX2_shift_24 (fun h => by subst h; exact ⟨rfl, rfl⟩)
    · refine z_iload_n (pc := 15) 3 rfl rfl C dX2_shift_15 ?_
      refine z_callS (pc := 16) (rf' := 0) (rl' := 0) (fX2_isStep x3) [(.int x3)] [] [] (fun r_5 => (some (.int r_5))) (fun r_5 => []) [(2, qP, sP)] (fun r_5 => [(2, qP, sP)]) C dX2_shift_16 zy_X2_isStep zw_352 (fun _ hr9 => mX2_isStep  hr9) (by decide) rfl (Nat.le_of_ble_eq_true rfl) (List.Perm.refl _) (fun _ => List.Perm.refl _) rfl (fun r_5 hr_6 => ?_)
      show zJ X 8 res _ 19 [(0, (.ref (qP 0))), (1, (.int x1)), (2, (.int x2)), (3, (.int x3))] [(.int r_5)] [(2, qP, sP)]
      refine z_if_ne (pc := 19) 25 C dX2_shift_19 (by decide) ?_ ?_
      · refine z_bipush (pc := 22) (-2 : Int32) (by decide) C dX2_shift_22 ?_
        exact z_ireturn (pc := 24) C hR dX2_shift_24 (fun h => by subst h; exact ⟨rfl, rfl⟩)
      · refine z_lconst (pc := 25) (0 : Int64) (by decide) C dX2_shift_25 ?_
        refine z_lstore (pc := 26) [(0, (.ref (qP 0))), (1, (.int x1)), (2, (.int x2)), (3, (.int x3)), (4, (.long (0 : Int64)))] [1, 2, 3, 4, 0] (by decide) rfl C dX2_shift_26 ?_
        refine z_iconst (pc := 28) (0 : Int32) (by decide) C dX2_shift_28 ?_
        refine z_istore (pc := 29) [(0, (.ref (qP 0))), (1, (.int x1)), (2, (.int x2)), (3, (.int x3)), (4, (.long (0 : Int64))), (6, (.int (0 : Int32)))] [1, 2, 3, 4, 5, 0] (by decide) rfl C dX2_shift_29 ?_
        exact zit_J (fun p9 => [(0, (.ref (qP 0))), (1, (.int x1)), (2, (.int x2)), (3, (.int x3)), (4, (.long p9.1)), (6, (.int p9.2))]) (fun p9 => [(2, qP, sP)]) (fun kc9 hk9 p9 => vX2_shift_31 C hR   (fun a0 a1 => hk9 (a0, a1)) _ _) F _
theorem mX2_shift {F : Nat} {qP : Nat → Nat} {x1 : Int32} {x2 : Int32} {x3 : Int32} {sP : zOS} {res : Int32 × zOS}  (hf : fX2_shift F x1 x2 x3 sP = some res) : zM yX2_shift cX2_shift 8 (some .int) 2 42 [(.ref (qP 0)), (.int x1), (.int x2), (.int x3)] [(2, qP, sP)] (some (.int res.1)) [(2, qP, res.2)] := zM_of (by decide +kernel) (Nat.le_of_ble_eq_true rfl) (fun X C hR => wX2_shift (F := F) C hR  hf)
theorem dX2_putThree_0 : decode cX2_putThree 0 = .ok (.aload_n 0, 1) := by decide +kernel
theorem dX2_putThree_1 : decode cX2_putThree 1 = .ok (.iconst 3, 1) := by decide +kernel
theorem dX2_putThree_2 : decode cX2_putThree 2 = .ok (.iload_n 1, 1) := by decide +kernel
theorem dX2_putThree_3 : decode cX2_putThree 3 = .ok (.imul, 1) := by decide +kernel
theorem dX2_putThree_4 : decode cX2_putThree 4 = .ok (.iload_n 2, 1) := by decide +kernel
theorem dX2_putThree_5 : decode cX2_putThree 5 = .ok (.iastore, 1) := by decide +kernel
theorem dX2_putThree_6 : decode cX2_putThree 6 = .ok (.aload_n 0, 1) := by decide +kernel
theorem dX2_putThree_7 : decode cX2_putThree 7 = .ok (.iconst 3, 1) := by decide +kernel
theorem dX2_putThree_8 : decode cX2_putThree 8 = .ok (.iload_n 1, 1) := by decide +kernel
theorem dX2_putThree_9 : decode cX2_putThree 9 = .ok (.imul, 1) := by decide +kernel
theorem dX2_putThree_10 : decode cX2_putThree 10 = .ok (.iconst 1, 1) := by decide +kernel
theorem dX2_putThree_11 : decode cX2_putThree 11 = .ok (.iadd, 1) := by decide +kernel
theorem dX2_putThree_12 : decode cX2_putThree 12 = .ok (.iload_n 3, 1) := by decide +kernel
theorem dX2_putThree_13 : decode cX2_putThree 13 = .ok (.iastore, 1) := by decide +kernel
theorem dX2_putThree_14 : decode cX2_putThree 14 = .ok (.aload_n 0, 1) := by decide +kernel
theorem dX2_putThree_15 : decode cX2_putThree 15 = .ok (.iconst 3, 1) := by decide +kernel
theorem dX2_putThree_16 : decode cX2_putThree 16 = .ok (.iload_n 1, 1) := by decide +kernel
theorem dX2_putThree_17 : decode cX2_putThree 17 = .ok (.imul, 1) := by decide +kernel
theorem dX2_putThree_18 : decode cX2_putThree 18 = .ok (.iconst 2, 1) := by decide +kernel
theorem dX2_putThree_19 : decode cX2_putThree 19 = .ok (.iadd, 1) := by decide +kernel
theorem dX2_putThree_20 : decode cX2_putThree 20 = .ok (.iload 4, 2) := by decide +kernel
theorem dX2_putThree_22 : decode cX2_putThree 22 = .ok (.iastore, 1) := by decide +kernel
theorem dX2_putThree_23 : decode cX2_putThree 23 = .ok (.return_, 1) := by decide +kernel
def fX2_putThree (k0 : Nat) (x1 : Int32) (x2 : Int32) (x3 : Int32) (x4 : Int32) (sP : zOS) : Option (zOS) := (zchk ((3 : Int32) * x1) 18 (zlet (zsI sP k0 (upd (zI sP k0) ((3 : Int32) * x1).toNatClampNeg x2)) (fun sP_1 : zOS => (zchk (((3 : Int32) * x1) + (1 : Int32)) 18 (zlet (zsI sP_1 k0 (upd (zI sP_1 k0) (((3 : Int32) * x1) + (1 : Int32)).toNatClampNeg x3)) (fun sP_2 : zOS => (zchk (((3 : Int32) * x1) + (2 : Int32)) 18 (zlet (zsI sP_2 k0 (upd (zI sP_2 k0) (((3 : Int32) * x1) + (2 : Int32)).toNatClampNeg x4)) (fun sP_3 : zOS => (some (sP_3)))))))))))
set_option maxRecDepth 20000 in
theorem wX2_putThree {X : zCx} {res : zOS}  {qP : Nat → Nat} {k0 : Nat} {x1 : Int32} {x2 : Int32} {x3 : Int32} {x4 : Int32} {sP : zOS} (C : zC X RX2 cX2_putThree 5 0 0) (hR : zR X none none [(2, qP, res)]) (ha0 : zAr 2 k0 0 18) : zJ X 5 res (fX2_putThree k0 x1 x2 x3 x4 sP) 0 [(0, (.ref (qP k0))), (1, (.int x1)), (2, (.int x2)), (3, (.int x3)), (4, (.int x4))] [] [(2, qP, sP)] := by
  unfold fX2_putThree
  refine z_aload_n (pc := 0) 0 rfl rfl C dX2_putThree_0 ?_
  refine z_iconst (pc := 1) (3 : Int32) (by decide) C dX2_putThree_1 ?_
  refine z_iload_n (pc := 2) 1 rfl rfl C dX2_putThree_2 ?_
  refine z_imul (pc := 3) C dX2_putThree_3 ?_
  refine z_iload_n (pc := 4) 2 rfl rfl C dX2_putThree_4 ?_
  refine z_iast (pc := 5) 0 C dX2_putThree_5 rfl ha0 [(2, qP, (zsI sP k0 (upd (zI sP k0) ((3 : Int32) * x1).toNatClampNeg x2)))] rfl ?_
  refine z_letc (fun z9 => [(2, qP, z9)]) (fun sP_1 => ?_)
  refine z_aload_n (pc := 6) 0 rfl rfl C dX2_putThree_6 ?_
  refine z_iconst (pc := 7) (3 : Int32) (by decide) C dX2_putThree_7 ?_
  refine z_iload_n (pc := 8) 1 rfl rfl C dX2_putThree_8 ?_
  refine z_imul (pc := 9) C dX2_putThree_9 ?_
  refine z_iconst (pc := 10) (1 : Int32) (by decide) C dX2_putThree_10 ?_
  refine z_iadd (pc := 11) C dX2_putThree_11 ?_
  refine z_iload_n (pc := 12) 3 rfl rfl C dX2_putThree_12 ?_
  refine z_iast (pc := 13) 0 C dX2_putThree_13 rfl ha0 [(2, qP, (zsI sP_1 k0 (upd (zI sP_1 k0) (((3 : Int32) * x1) + (1 : Int32)).toNatClampNeg x3)))] rfl ?_
  refine z_letc (fun z9 => [(2, qP, z9)]) (fun sP_2 => ?_)
  refine z_aload_n (pc := 14) 0 rfl rfl C dX2_putThree_14 ?_
  refine z_iconst (pc := 15) (3 : Int32) (by decide) C dX2_putThree_15 ?_
  refine z_iload_n (pc := 16) 1 rfl rfl C dX2_putThree_16 ?_
  refine z_imul (pc := 17) C dX2_putThree_17 ?_
  refine z_iconst (pc := 18) (2 : Int32) (by decide) C dX2_putThree_18 ?_
  refine z_iadd (pc := 19) C dX2_putThree_19 ?_
  refine z_iload (pc := 20) 4 rfl C dX2_putThree_20 ?_
  refine z_iast (pc := 22) 0 C dX2_putThree_22 rfl ha0 [(2, qP, (zsI sP_2 k0 (upd (zI sP_2 k0) (((3 : Int32) * x1) + (2 : Int32)).toNatClampNeg x4)))] rfl ?_
  refine z_letc (fun z9 => [(2, qP, z9)]) (fun sP_3 => ?_)
  exact z_return (pc := 23) C hR dX2_putThree_23 (fun h => by subst h; exact ⟨rfl, rfl⟩)
theorem mX2_putThree  {qP : Nat → Nat} {k0 : Nat} {x1 : Int32} {x2 : Int32} {x3 : Int32} {x4 : Int32} {sP : zOS} {res : zOS} (ha0 : zAr 2 k0 0 18) (hf : fX2_putThree k0 x1 x2 x3 x4 sP = some res) : zM yX2_putThree cX2_putThree 5 none 0 0 [(.ref (qP k0)), (.int x1), (.int x2), (.int x3), (.int x4)] [(2, qP, sP)] none [(2, qP, res)] := zM_of (by decide +kernel) (Nat.le_of_ble_eq_true rfl) (fun X C hR => wX2_putThree C hR ha0 hf)
theorem dX2_addDevice_0 : decode cX2_addDevice 0 = .ok (.iload_n 1, 1) := by decide +kernel
theorem dX2_addDevice_1 : decode cX2_addDevice 1 = .ok (.bipush 10, 2) := by decide +kernel
theorem dX2_addDevice_3 : decode cX2_addDevice 3 = .ok (.invokestatic 35, 3) := by decide +kernel
theorem dX2_addDevice_6 : decode cX2_addDevice 6 = .ok (.ifCond .eq 21, 3) := by decide +kernel
theorem dX2_addDevice_9 : decode cX2_addDevice 9 = .ok (.iload_n 2, 1) := by decide +kernel
theorem dX2_addDevice_10 : decode cX2_addDevice 10 = .ok (.bipush 10, 2) := by decide +kernel
theorem dX2_addDevice_12 : decode cX2_addDevice 12 = .ok (.invokestatic 35, 3) := by decide +kernel
theorem dX2_addDevice_15 : decode cX2_addDevice 15 = .ok (.ifCond .eq 12, 3) := by decide +kernel
theorem dX2_addDevice_18 : decode cX2_addDevice 18 = .ok (.iload_n 3, 1) := by decide +kernel
theorem dX2_addDevice_19 : decode cX2_addDevice 19 = .ok (.bipush 10, 2) := by decide +kernel
theorem dX2_addDevice_21 : decode cX2_addDevice 21 = .ok (.invokestatic 35, 3) := by decide +kernel
theorem dX2_addDevice_24 : decode cX2_addDevice 24 = .ok (.ifCond .ne 6, 3) := by decide +kernel
theorem dX2_addDevice_27 : decode cX2_addDevice 27 = .ok (.bipush (-2), 2) := by decide +kernel
theorem dX2_addDevice_29 : decode cX2_addDevice 29 = .ok (.ireturn, 1) := by decide +kernel
theorem dX2_addDevice_30 : decode cX2_addDevice 30 = .ok (.aload_n 0, 1) := by decide +kernel
theorem dX2_addDevice_31 : decode cX2_addDevice 31 = .ok (.getfield 22, 3) := by decide +kernel
theorem dX2_addDevice_34 : decode cX2_addDevice 34 = .ok (.bipush 6, 2) := by decide +kernel
theorem dX2_addDevice_36 : decode cX2_addDevice 36 = .ok (.if_icmp .lt 6, 3) := by decide +kernel
theorem dX2_addDevice_39 : decode cX2_addDevice 39 = .ok (.bipush (-4), 2) := by decide +kernel
theorem dX2_addDevice_41 : decode cX2_addDevice 41 = .ok (.ireturn, 1) := by decide +kernel
theorem dX2_addDevice_42 : decode cX2_addDevice 42 = .ok (.aload_n 0, 1) := by decide +kernel
theorem dX2_addDevice_43 : decode cX2_addDevice 43 = .ok (.getfield 15, 3) := by decide +kernel
theorem dX2_addDevice_46 : decode cX2_addDevice 46 = .ok (.aload_n 0, 1) := by decide +kernel
theorem dX2_addDevice_47 : decode cX2_addDevice 47 = .ok (.getfield 22, 3) := by decide +kernel
theorem dX2_addDevice_50 : decode cX2_addDevice 50 = .ok (.iload_n 1, 1) := by decide +kernel
theorem dX2_addDevice_51 : decode cX2_addDevice 51 = .ok (.iload_n 2, 1) := by decide +kernel
theorem dX2_addDevice_52 : decode cX2_addDevice 52 = .ok (.iload_n 3, 1) := by decide +kernel
theorem dX2_addDevice_53 : decode cX2_addDevice 53 = .ok (.invokestatic 66, 3) := by decide +kernel
theorem dX2_addDevice_56 : decode cX2_addDevice 56 = .ok (.aload_n 0, 1) := by decide +kernel
theorem dX2_addDevice_57 : decode cX2_addDevice 57 = .ok (.dup, 1) := by decide +kernel
theorem dX2_addDevice_58 : decode cX2_addDevice 58 = .ok (.getfield 22, 3) := by decide +kernel
theorem dX2_addDevice_61 : decode cX2_addDevice 61 = .ok (.iconst 1, 1) := by decide +kernel
theorem dX2_addDevice_62 : decode cX2_addDevice 62 = .ok (.iadd, 1) := by decide +kernel
theorem dX2_addDevice_63 : decode cX2_addDevice 63 = .ok (.putfield 22, 3) := by decide +kernel
theorem dX2_addDevice_66 : decode cX2_addDevice 66 = .ok (.aload_n 0, 1) := by decide +kernel
theorem dX2_addDevice_67 : decode cX2_addDevice 67 = .ok (.getfield 22, 3) := by decide +kernel
theorem dX2_addDevice_70 : decode cX2_addDevice 70 = .ok (.iconst 1, 1) := by decide +kernel
theorem dX2_addDevice_71 : decode cX2_addDevice 71 = .ok (.isub, 1) := by decide +kernel
theorem dX2_addDevice_72 : decode cX2_addDevice 72 = .ok (.ireturn, 1) := by decide +kernel
def fX2_addDevice (x1 : Int32) (x2 : Int32) (x3 : Int32) (sP : zOS) : Option (Int32 × zOS) := (Option.bind (fX4_isWithin x1 (10 : Int32)) (fun r_1 : Int32 => (if r_1 = 0 then (some ((-2 : Int32), sP)) else (Option.bind (fX4_isWithin x2 (10 : Int32)) (fun r_3 : Int32 => (if r_3 = 0 then (some ((-2 : Int32), sP)) else (Option.bind (fX4_isWithin x3 (10 : Int32)) (fun r_5 : Int32 => (if r_5 = 0 then (some ((-2 : Int32), sP)) else (if (zF sP 3) < (6 : Int32) then (Option.bind (fX2_putThree 2 (zF sP 3) x1 x2 x3 sP) (fun r_7 : zOS => (zlet (zsF r_7 3 ((zF r_7 3) + (1 : Int32))) (fun sP_9 : zOS => (some ((zF sP_9 3) - (1 : Int32), sP_9)))))) else (some ((-4 : Int32), sP))))))))))))
set_option maxRecDepth 20000 in
theorem wX2_addDevice {X : zCx} {res : Int32 × zOS}  {qP : Nat → Nat} {x1 : Int32} {x2 : Int32} {x3 : Int32} {sP : zOS} (C : zC X RX2 cX2_addDevice 4 1 24) (hR : zR X (some .int) (some (.int res.1)) [(2, qP, res.2)])  : zJ X 4 res (fX2_addDevice x1 x2 x3 sP) 0 [(0, (.ref (qP 0))), (1, (.int x1)), (2, (.int x2)), (3, (.int x3))] [] [(2, qP, sP)] := by
  unfold fX2_addDevice
  refine z_iload_n (pc := 0) 1 rfl rfl C dX2_addDevice_0 ?_
  refine z_bipush (pc := 1) (10 : Int32) (by decide) C dX2_addDevice_1 ?_
  refine z_callN (pc := 3) (rf' := 0) (rl' := 0) (fX4_isWithin x1 (10 : Int32)) [(.int x1), (.int (10 : Int32))] [] (fun r_1 => (some (.int r_1))) C dX2_addDevice_3 zy_X4_isWithin (fun U h => h.1) (fun _ hr9 => mX4_isWithin  hr9) (by decide) rfl (Nat.le_of_ble_eq_true rfl) rfl (fun r_1 hr_2 => ?_)
  show zJ X 4 res _ 6 [(0, (.ref (qP 0))), (1, (.int x1)), (2, (.int x2)), (3, (.int x3))] [(.int r_1)] [(2, qP, sP)]
  refine z_if_eq (pc := 6) 27 C dX2_addDevice_6 (by decide) ?_ ?_
  · refine z_bipush (pc := 27) (-2 : Int32) (by decide) C dX2_addDevice_27 ?_
    exact z_ireturn (pc := 29) C hR dX2_addDevice_29 (fun h => by subst h; exact ⟨rfl, rfl⟩)
  · refine z_iload_n (pc := 9) 2 rfl rfl C dX2_addDevice_9 ?_
    refine z_bipush (pc := 10) (10 : Int32) (by decide) C dX2_addDevice_10 ?_
    refine z_callN (pc := 12) (rf' := 0) (rl' := 0) (fX4_isWithin x2 (10 : Int32)) [(.int x2), (.int (10 : Int32))] [] (fun r_3 => (some (.int r_3))) C dX2_addDevice_12 zy_X4_isWithin (fun U h => h.1) (fun _ hr9 => mX4_isWithin  hr9) (by decide) rfl (Nat.le_of_ble_eq_true rfl) rfl (fun r_3 hr_4 => ?_)
    show zJ X 4 res _ 15 [(0, (.ref (qP 0))), (1, (.int x1)), (2, (.int x2)), (3, (.int x3))] [(.int r_3)] [(2, qP, sP)]
    refine z_if_eq (pc := 15) 27 C dX2_addDevice_15 (by decide) ?_ ?_
    · refine z_bipush (pc := 27) (-2 : Int32) (by decide) C dX2_addDevice_27 ?_
      exact z_ireturn (pc := 29) C hR dX2_addDevice_29 (fun h => by subst h; exact ⟨rfl, rfl⟩)
    · refine z_iload_n (pc := 18) 3 rfl rfl C dX2_addDevice_18 ?_
      refine z_bipush (pc := 19) (10 : Int32) (by decide) C dX2_addDevice_19 ?_
      refine z_callN (pc := 21) (rf' := 0) (rl' := 0) (fX4_isWithin x3 (10 : Int32)) [(.int x3), (.int (10 : Int32))] [] (fun r_5 => (some (.int r_5))) C dX2_addDevice_21 zy_X4_isWithin (fun U h => h.1) (fun _ hr9 => mX4_isWithin  hr9) (by decide) rfl (Nat.le_of_ble_eq_true rfl) rfl (fun r_5 hr_6 => ?_)
      show zJ X 4 res _ 24 [(0, (.ref (qP 0))), (1, (.int x1)), (2, (.int x2)), (3, (.int x3))] [(.int r_5)] [(2, qP, sP)]
      refine z_if_ne (pc := 24) 30 C dX2_addDevice_24 (by decide) ?_ ?_
      · refine z_bipush (pc := 27) (-2 : Int32) (by decide) C dX2_addDevice_27 ?_
        exact z_ireturn (pc := 29) C hR dX2_addDevice_29 (fun h => by subst h; exact ⟨rfl, rfl⟩)
      · refine z_aload_n (pc := 30) 0 rfl rfl C dX2_addDevice_30 ?_
        refine z_getI (pc := 31) 0 3 C dX2_addDevice_31 rfl (by decide) (by decide) rfl zw_109 ?_
        refine z_bipush (pc := 34) (6 : Int32) (by decide) C dX2_addDevice_34 ?_
        refine z_icmp_lt (pc := 36) 42 C dX2_addDevice_36 (by decide) ?_ ?_
        · refine z_aload_n (pc := 42) 0 rfl rfl C dX2_addDevice_42 ?_
          refine z_getR (pc := 43) 0 1 2 C dX2_addDevice_43 rfl (by decide) (by decide) rfl zw_105 ?_
          refine z_aload_n (pc := 46) 0 rfl rfl C dX2_addDevice_46 ?_
          refine z_getI (pc := 47) 0 3 C dX2_addDevice_47 rfl (by decide) (by decide) rfl zw_109 ?_
          refine z_iload_n (pc := 50) 1 rfl rfl C dX2_addDevice_50 ?_
          refine z_iload_n (pc := 51) 2 rfl rfl C dX2_addDevice_51 ?_
          refine z_iload_n (pc := 52) 3 rfl rfl C dX2_addDevice_52 ?_
          refine z_callS (pc := 53) (rf' := 0) (rl' := 0) (fX2_putThree 2 (zF sP 3) x1 x2 x3 sP) [(.ref (qP 2)), (.int (zF sP 3)), (.int x1), (.int x2), (.int x3)] [] [(2, qP, sP)] (fun r_7 => none) (fun r_7 => [(2, qP, r_7)]) [] (fun r_7 => [(2, qP, r_7)]) C dX2_addDevice_53 zy_X2_putThree zw_366 (fun _ hr9 => mX2_putThree (by unfold zAr; decide) hr9) (by decide) rfl (Nat.le_of_ble_eq_true rfl) (List.Perm.refl _) (fun _ => List.Perm.refl _) rfl (fun r_7 hr_8 => ?_)
          show zJ X 4 res _ 56 [(0, (.ref (qP 0))), (1, (.int x1)), (2, (.int x2)), (3, (.int x3))] [] [(2, qP, r_7)]
          refine z_aload_n (pc := 56) 0 rfl rfl C dX2_addDevice_56 ?_
          refine z_dup (pc := 57) rfl C dX2_addDevice_57 ?_
          refine z_getI (pc := 58) 0 3 C dX2_addDevice_58 rfl (by decide) (by decide) rfl zw_109 ?_
          refine z_iconst (pc := 61) (1 : Int32) (by decide) C dX2_addDevice_61 ?_
          refine z_iadd (pc := 62) C dX2_addDevice_62 ?_
          refine z_putI (pc := 63) 0 3 C dX2_addDevice_63 rfl (by decide) (by decide) rfl zw_109 rfl rfl rfl [(2, qP, (zsF r_7 3 ((zF r_7 3) + (1 : Int32))))] rfl ?_
          refine z_letc (fun z9 => [(2, qP, z9)]) (fun sP_9 => ?_)
          refine z_aload_n (pc := 66) 0 rfl rfl C dX2_addDevice_66 ?_
          refine z_getI (pc := 67) 0 3 C dX2_addDevice_67 rfl (by decide) (by decide) rfl zw_109 ?_
          refine z_iconst (pc := 70) (1 : Int32) (by decide) C dX2_addDevice_70 ?_
          refine z_isub (pc := 71) C dX2_addDevice_71 ?_
          exact z_ireturn (pc := 72) C hR dX2_addDevice_72 (fun h => by subst h; exact ⟨rfl, rfl⟩)
        · refine z_bipush (pc := 39) (-4 : Int32) (by decide) C dX2_addDevice_39 ?_
          exact z_ireturn (pc := 41) C hR dX2_addDevice_41 (fun h => by subst h; exact ⟨rfl, rfl⟩)
theorem mX2_addDevice  {qP : Nat → Nat} {x1 : Int32} {x2 : Int32} {x3 : Int32} {sP : zOS} {res : Int32 × zOS}  (hf : fX2_addDevice x1 x2 x3 sP = some res) : zM yX2_addDevice cX2_addDevice 4 (some .int) 1 24 [(.ref (qP 0)), (.int x1), (.int x2), (.int x3)] [(2, qP, sP)] (some (.int res.1)) [(2, qP, res.2)] := zM_of (by decide +kernel) (Nat.le_of_ble_eq_true rfl) (fun X C hR => wX2_addDevice C hR  hf)
theorem dX2_addPin_0 : decode cX2_addPin 0 = .ok (.iload_n 1, 1) := by decide +kernel
theorem dX2_addPin_1 : decode cX2_addPin 1 = .ok (.iload_n 2, 1) := by decide +kernel
theorem dX2_addPin_2 : decode cX2_addPin 2 = .ok (.invokestatic 63, 3) := by decide +kernel
theorem dX2_addPin_5 : decode cX2_addPin 5 = .ok (.ifCond .eq 12, 3) := by decide +kernel
theorem dX2_addPin_8 : decode cX2_addPin 8 = .ok (.iload_n 3, 1) := by decide +kernel
theorem dX2_addPin_9 : decode cX2_addPin 9 = .ok (.bipush 10, 2) := by decide +kernel
theorem dX2_addPin_11 : decode cX2_addPin 11 = .ok (.invokestatic 35, 3) := by decide +kernel
theorem dX2_addPin_14 : decode cX2_addPin 14 = .ok (.ifCond .ne 6, 3) := by decide +kernel
theorem dX2_addPin_17 : decode cX2_addPin 17 = .ok (.bipush (-2), 2) := by decide +kernel
theorem dX2_addPin_19 : decode cX2_addPin 19 = .ok (.ireturn, 1) := by decide +kernel
theorem dX2_addPin_20 : decode cX2_addPin 20 = .ok (.aload_n 0, 1) := by decide +kernel
theorem dX2_addPin_21 : decode cX2_addPin 21 = .ok (.getfield 26, 3) := by decide +kernel
theorem dX2_addPin_24 : decode cX2_addPin 24 = .ok (.bipush 6, 2) := by decide +kernel
theorem dX2_addPin_26 : decode cX2_addPin 26 = .ok (.if_icmp .lt 6, 3) := by decide +kernel
theorem dX2_addPin_29 : decode cX2_addPin 29 = .ok (.bipush (-4), 2) := by decide +kernel
theorem dX2_addPin_31 : decode cX2_addPin 31 = .ok (.ireturn, 1) := by decide +kernel
theorem dX2_addPin_32 : decode cX2_addPin 32 = .ok (.aload_n 0, 1) := by decide +kernel
theorem dX2_addPin_33 : decode cX2_addPin 33 = .ok (.getfield 19, 3) := by decide +kernel
theorem dX2_addPin_36 : decode cX2_addPin 36 = .ok (.aload_n 0, 1) := by decide +kernel
theorem dX2_addPin_37 : decode cX2_addPin 37 = .ok (.getfield 26, 3) := by decide +kernel
theorem dX2_addPin_40 : decode cX2_addPin 40 = .ok (.iload_n 1, 1) := by decide +kernel
theorem dX2_addPin_41 : decode cX2_addPin 41 = .ok (.iload_n 2, 1) := by decide +kernel
theorem dX2_addPin_42 : decode cX2_addPin 42 = .ok (.iload_n 3, 1) := by decide +kernel
theorem dX2_addPin_43 : decode cX2_addPin 43 = .ok (.invokestatic 66, 3) := by decide +kernel
theorem dX2_addPin_46 : decode cX2_addPin 46 = .ok (.aload_n 0, 1) := by decide +kernel
theorem dX2_addPin_47 : decode cX2_addPin 47 = .ok (.dup, 1) := by decide +kernel
theorem dX2_addPin_48 : decode cX2_addPin 48 = .ok (.getfield 26, 3) := by decide +kernel
theorem dX2_addPin_51 : decode cX2_addPin 51 = .ok (.iconst 1, 1) := by decide +kernel
theorem dX2_addPin_52 : decode cX2_addPin 52 = .ok (.iadd, 1) := by decide +kernel
theorem dX2_addPin_53 : decode cX2_addPin 53 = .ok (.putfield 26, 3) := by decide +kernel
theorem dX2_addPin_56 : decode cX2_addPin 56 = .ok (.aload_n 0, 1) := by decide +kernel
theorem dX2_addPin_57 : decode cX2_addPin 57 = .ok (.getfield 26, 3) := by decide +kernel
theorem dX2_addPin_60 : decode cX2_addPin 60 = .ok (.iconst 1, 1) := by decide +kernel
theorem dX2_addPin_61 : decode cX2_addPin 61 = .ok (.isub, 1) := by decide +kernel
theorem dX2_addPin_62 : decode cX2_addPin 62 = .ok (.ireturn, 1) := by decide +kernel
def fX2_addPin (x1 : Int32) (x2 : Int32) (x3 : Int32) (sP : zOS) : Option (Int32 × zOS) := (Option.bind (fX4_isCell x1 x2) (fun r_1 : Int32 => (if r_1 = 0 then (some ((-2 : Int32), sP)) else (Option.bind (fX4_isWithin x3 (10 : Int32)) (fun r_3 : Int32 => (if r_3 = 0 then (some ((-2 : Int32), sP)) else (if (zF sP 4) < (6 : Int32) then (Option.bind (fX2_putThree 3 (zF sP 4) x1 x2 x3 sP) (fun r_5 : zOS => (zlet (zsF r_5 4 ((zF r_5 4) + (1 : Int32))) (fun sP_7 : zOS => (some ((zF sP_7 4) - (1 : Int32), sP_7)))))) else (some ((-4 : Int32), sP)))))))))
set_option maxRecDepth 20000 in
theorem wX2_addPin {X : zCx} {res : Int32 × zOS}  {qP : Nat → Nat} {x1 : Int32} {x2 : Int32} {x3 : Int32} {sP : zOS} (C : zC X RX2 cX2_addPin 4 2 42) (hR : zR X (some .int) (some (.int res.1)) [(2, qP, res.2)])  : zJ X 4 res (fX2_addPin x1 x2 x3 sP) 0 [(0, (.ref (qP 0))), (1, (.int x1)), (2, (.int x2)), (3, (.int x3))] [] [(2, qP, sP)] := by
  unfold fX2_addPin
  refine z_iload_n (pc := 0) 1 rfl rfl C dX2_addPin_0 ?_
  refine z_iload_n (pc := 1) 2 rfl rfl C dX2_addPin_1 ?_
  refine z_callN (pc := 2) (rf' := 1) (rl' := 21) (fX4_isCell x1 x2) [(.int x1), (.int x2)] [] (fun r_1 => (some (.int r_1))) C dX2_addPin_2 zy_X4_isCell (fun U h => h.2.1) (fun _ hr9 => mX4_isCell  hr9) (by decide) rfl (Nat.le_of_ble_eq_true rfl) rfl (fun r_1 hr_2 => ?_)
  show zJ X 4 res _ 5 [(0, (.ref (qP 0))), (1, (.int x1)), (2, (.int x2)), (3, (.int x3))] [(.int r_1)] [(2, qP, sP)]
  refine z_if_eq (pc := 5) 17 C dX2_addPin_5 (by decide) ?_ ?_
  · refine z_bipush (pc := 17) (-2 : Int32) (by decide) C dX2_addPin_17 ?_
    exact z_ireturn (pc := 19) C hR dX2_addPin_19 (fun h => by subst h; exact ⟨rfl, rfl⟩)
  · refine z_iload_n (pc := 8) 3 rfl rfl C dX2_addPin_8 ?_
    refine z_bipush (pc := 9) (10 : Int32) (by decide) C dX2_addPin_9 ?_
    refine z_callN (pc := 11) (rf' := 0) (rl' := 0) (fX4_isWithin x3 (10 : Int32)) [(.int x3), (.int (10 : Int32))] [] (fun r_3 => (some (.int r_3))) C dX2_addPin_11 zy_X4_isWithin (fun U h => h.1) (fun _ hr9 => mX4_isWithin  hr9) (by decide) rfl (Nat.le_of_ble_eq_true rfl) rfl (fun r_3 hr_4 => ?_)
    show zJ X 4 res _ 14 [(0, (.ref (qP 0))), (1, (.int x1)), (2, (.int x2)), (3, (.int x3))] [(.int r_3)] [(2, qP, sP)]
    refine z_if_ne (pc := 14) 20 C dX2_addPin_14 (by decide) ?_ ?_
    · refine z_bipush (pc := 17) (-2 : Int32) (by decide) C dX2_addPin_17 ?_
      exact z_ireturn (pc := 19) C hR dX2_addPin_19 (fun h => by subst h; exact ⟨rfl, rfl⟩)
    · refine z_aload_n (pc := 20) 0 rfl rfl C dX2_addPin_20 ?_
      refine z_getI (pc := 21) 0 4 C dX2_addPin_21 rfl (by decide) (by decide) rfl zw_112 ?_
      refine z_bipush (pc := 24) (6 : Int32) (by decide) C dX2_addPin_24 ?_
      refine z_icmp_lt (pc := 26) 32 C dX2_addPin_26 (by decide) ?_ ?_
      · refine z_aload_n (pc := 32) 0 rfl rfl C dX2_addPin_32 ?_
        refine z_getR (pc := 33) 0 2 3 C dX2_addPin_33 rfl (by decide) (by decide) rfl zw_107 ?_
        refine z_aload_n (pc := 36) 0 rfl rfl C dX2_addPin_36 ?_
        refine z_getI (pc := 37) 0 4 C dX2_addPin_37 rfl (by decide) (by decide) rfl zw_112 ?_
        refine z_iload_n (pc := 40) 1 rfl rfl C dX2_addPin_40 ?_
        refine z_iload_n (pc := 41) 2 rfl rfl C dX2_addPin_41 ?_
        refine z_iload_n (pc := 42) 3 rfl rfl C dX2_addPin_42 ?_
        refine z_callS (pc := 43) (rf' := 0) (rl' := 0) (fX2_putThree 3 (zF sP 4) x1 x2 x3 sP) [(.ref (qP 3)), (.int (zF sP 4)), (.int x1), (.int x2), (.int x3)] [] [(2, qP, sP)] (fun r_5 => none) (fun r_5 => [(2, qP, r_5)]) [] (fun r_5 => [(2, qP, r_5)]) C dX2_addPin_43 zy_X2_putThree zw_366 (fun _ hr9 => mX2_putThree (by unfold zAr; decide) hr9) (by decide) rfl (Nat.le_of_ble_eq_true rfl) (List.Perm.refl _) (fun _ => List.Perm.refl _) rfl (fun r_5 hr_6 => ?_)
        show zJ X 4 res _ 46 [(0, (.ref (qP 0))), (1, (.int x1)), (2, (.int x2)), (3, (.int x3))] [] [(2, qP, r_5)]
        refine z_aload_n (pc := 46) 0 rfl rfl C dX2_addPin_46 ?_
        refine z_dup (pc := 47) rfl C dX2_addPin_47 ?_
        refine z_getI (pc := 48) 0 4 C dX2_addPin_48 rfl (by decide) (by decide) rfl zw_112 ?_
        refine z_iconst (pc := 51) (1 : Int32) (by decide) C dX2_addPin_51 ?_
        refine z_iadd (pc := 52) C dX2_addPin_52 ?_
        refine z_putI (pc := 53) 0 4 C dX2_addPin_53 rfl (by decide) (by decide) rfl zw_112 rfl rfl rfl [(2, qP, (zsF r_5 4 ((zF r_5 4) + (1 : Int32))))] rfl ?_
        refine z_letc (fun z9 => [(2, qP, z9)]) (fun sP_7 => ?_)
        refine z_aload_n (pc := 56) 0 rfl rfl C dX2_addPin_56 ?_
        refine z_getI (pc := 57) 0 4 C dX2_addPin_57 rfl (by decide) (by decide) rfl zw_112 ?_
        refine z_iconst (pc := 60) (1 : Int32) (by decide) C dX2_addPin_60 ?_
        refine z_isub (pc := 61) C dX2_addPin_61 ?_
        exact z_ireturn (pc := 62) C hR dX2_addPin_62 (fun h => by subst h; exact ⟨rfl, rfl⟩)
      · refine z_bipush (pc := 29) (-4 : Int32) (by decide) C dX2_addPin_29 ?_
        exact z_ireturn (pc := 31) C hR dX2_addPin_31 (fun h => by subst h; exact ⟨rfl, rfl⟩)
theorem mX2_addPin  {qP : Nat → Nat} {x1 : Int32} {x2 : Int32} {x3 : Int32} {sP : zOS} {res : Int32 × zOS}  (hf : fX2_addPin x1 x2 x3 sP = some res) : zM yX2_addPin cX2_addPin 4 (some .int) 2 42 [(.ref (qP 0)), (.int x1), (.int x2), (.int x3)] [(2, qP, sP)] (some (.int res.1)) [(2, qP, res.2)] := zM_of (by decide +kernel) (Nat.le_of_ble_eq_true rfl) (fun X C hR => wX2_addPin C hR  hf)
theorem dX2_dropMeant_0 : decode cX2_dropMeant 0 = .ok (.aload_n 0, 1) := by decide +kernel
theorem dX2_dropMeant_1 : decode cX2_dropMeant 1 = .ok (.getfield 22, 3) := by decide +kernel
theorem dX2_dropMeant_4 : decode cX2_dropMeant 4 = .ok (.aload_n 0, 1) := by decide +kernel
theorem dX2_dropMeant_5 : decode cX2_dropMeant 5 = .ok (.getfield 26, 3) := by decide +kernel
theorem dX2_dropMeant_8 : decode cX2_dropMeant 8 = .ok (.iadd, 1) := by decide +kernel
theorem dX2_dropMeant_9 : decode cX2_dropMeant 9 = .ok (.istore_n 1, 1) := by decide +kernel
theorem dX2_dropMeant_10 : decode cX2_dropMeant 10 = .ok (.aload_n 0, 1) := by decide +kernel
theorem dX2_dropMeant_11 : decode cX2_dropMeant 11 = .ok (.iconst 0, 1) := by decide +kernel
theorem dX2_dropMeant_12 : decode cX2_dropMeant 12 = .ok (.putfield 22, 3) := by decide +kernel
theorem dX2_dropMeant_15 : decode cX2_dropMeant 15 = .ok (.aload_n 0, 1) := by decide +kernel
theorem dX2_dropMeant_16 : decode cX2_dropMeant 16 = .ok (.iconst 0, 1) := by decide +kernel
theorem dX2_dropMeant_17 : decode cX2_dropMeant 17 = .ok (.putfield 26, 3) := by decide +kernel
theorem dX2_dropMeant_20 : decode cX2_dropMeant 20 = .ok (.iload_n 1, 1) := by decide +kernel
theorem dX2_dropMeant_21 : decode cX2_dropMeant 21 = .ok (.ireturn, 1) := by decide +kernel
def fX2_dropMeant (sP : zOS) : Option (Int32 × zOS) := (zlet ((zF sP 3) + (zF sP 4)) (fun x1_1 : Int32 => (zlet (zsF sP 3 (0 : Int32)) (fun sP_2 : zOS => (zlet (zsF sP_2 4 (0 : Int32)) (fun sP_3 : zOS => (some (x1_1, sP_3))))))))
set_option maxRecDepth 20000 in
theorem wX2_dropMeant {X : zCx} {res : Int32 × zOS}  {qP : Nat → Nat} {sP : zOS} (C : zC X RX2 cX2_dropMeant 2 0 0) (hR : zR X (some .int) (some (.int res.1)) [(2, qP, res.2)])  : zJ X 2 res (fX2_dropMeant sP) 0 [(0, (.ref (qP 0)))] [] [(2, qP, sP)] := by
  unfold fX2_dropMeant
  refine z_aload_n (pc := 0) 0 rfl rfl C dX2_dropMeant_0 ?_
  refine z_getI (pc := 1) 0 3 C dX2_dropMeant_1 rfl (by decide) (by decide) rfl zw_109 ?_
  refine z_aload_n (pc := 4) 0 rfl rfl C dX2_dropMeant_4 ?_
  refine z_getI (pc := 5) 0 4 C dX2_dropMeant_5 rfl (by decide) (by decide) rfl zw_112 ?_
  refine z_iadd (pc := 8) C dX2_dropMeant_8 ?_
  refine z_leti (fun x1_1 => ?_)
  refine z_istore_n (pc := 9) [(0, (.ref (qP 0))), (1, (.int x1_1))] [1, 0] (by decide) rfl rfl C dX2_dropMeant_9 ?_
  refine z_aload_n (pc := 10) 0 rfl rfl C dX2_dropMeant_10 ?_
  refine z_iconst (pc := 11) (0 : Int32) (by decide) C dX2_dropMeant_11 ?_
  refine z_putI (pc := 12) 0 3 C dX2_dropMeant_12 rfl (by decide) (by decide) rfl zw_109 rfl rfl rfl [(2, qP, (zsF sP 3 (0 : Int32)))] rfl ?_
  refine z_letc (fun z9 => [(2, qP, z9)]) (fun sP_2 => ?_)
  refine z_aload_n (pc := 15) 0 rfl rfl C dX2_dropMeant_15 ?_
  refine z_iconst (pc := 16) (0 : Int32) (by decide) C dX2_dropMeant_16 ?_
  refine z_putI (pc := 17) 0 4 C dX2_dropMeant_17 rfl (by decide) (by decide) rfl zw_112 rfl rfl rfl [(2, qP, (zsF sP_2 4 (0 : Int32)))] rfl ?_
  refine z_letc (fun z9 => [(2, qP, z9)]) (fun sP_3 => ?_)
  refine z_iload_n (pc := 20) 1 rfl rfl C dX2_dropMeant_20 ?_
  exact z_ireturn (pc := 21) C hR dX2_dropMeant_21 (fun h => by subst h; exact ⟨rfl, rfl⟩)
theorem mX2_dropMeant  {qP : Nat → Nat} {sP : zOS} {res : Int32 × zOS}  (hf : fX2_dropMeant sP = some res) : zM yX2_dropMeant cX2_dropMeant 2 (some .int) 0 0 [(.ref (qP 0))] [(2, qP, sP)] (some (.int res.1)) [(2, qP, res.2)] := zM_of (by decide +kernel) (Nat.le_of_ble_eq_true rfl) (fun X C hR => wX2_dropMeant C hR  hf)
theorem dX2_gateNet_0 : decode cX2_gateNet 0 = .ok (.aload_n 0, 1) := by decide +kernel
theorem dX2_gateNet_1 : decode cX2_gateNet 1 = .ok (.getfield 15, 3) := by decide +kernel
theorem dX2_gateNet_4 : decode cX2_gateNet 4 = .ok (.iconst 3, 1) := by decide +kernel
theorem dX2_gateNet_5 : decode cX2_gateNet 5 = .ok (.iload_n 1, 1) := by decide +kernel
theorem dX2_gateNet_6 : decode cX2_gateNet 6 = .ok (.imul, 1) := by decide +kernel
theorem dX2_gateNet_7 : decode cX2_gateNet 7 = .ok (.iaload, 1) := by decide +kernel
theorem dX2_gateNet_8 : decode cX2_gateNet 8 = .ok (.ireturn, 1) := by decide +kernel
def fX2_gateNet (x1 : Int32) (sP : zOS) : Option (Int32) := (zchk ((3 : Int32) * x1) 18 (some (zI sP 2 ((3 : Int32) * x1).toNatClampNeg)))
set_option maxRecDepth 20000 in
theorem wX2_gateNet {X : zCx} {res : Int32}  {qP : Nat → Nat} {x1 : Int32} {sP : zOS} (C : zC X RX2 cX2_gateNet 2 0 0) (hR : zR X (some .int) (some (.int res)) [(2, qP, sP)])  : zJ X 2 res (fX2_gateNet x1 sP) 0 [(0, (.ref (qP 0))), (1, (.int x1))] [] [(2, qP, sP)] := by
  unfold fX2_gateNet
  refine z_aload_n (pc := 0) 0 rfl rfl C dX2_gateNet_0 ?_
  refine z_getR (pc := 1) 0 1 2 C dX2_gateNet_1 rfl (by decide) (by decide) rfl zw_105 ?_
  refine z_iconst (pc := 4) (3 : Int32) (by decide) C dX2_gateNet_4 ?_
  refine z_iload_n (pc := 5) 1 rfl rfl C dX2_gateNet_5 ?_
  refine z_imul (pc := 6) C dX2_gateNet_6 ?_
  refine z_iald (pc := 7) 0 C dX2_gateNet_7 rfl (by unfold zAr; decide) ?_
  exact z_ireturn (pc := 8) C hR dX2_gateNet_8 (fun h => by subst h; exact ⟨rfl, rfl⟩)
theorem mX2_gateNet  {qP : Nat → Nat} {x1 : Int32} {sP : zOS} {res : Int32}  (hf : fX2_gateNet x1 sP = some res) : zM yX2_gateNet cX2_gateNet 2 (some .int) 0 0 [(.ref (qP 0)), (.int x1)] [(2, qP, sP)] (some (.int res)) [(2, qP, sP)] := zM_of (by decide +kernel) (Nat.le_of_ble_eq_true rfl) (fun X C hR => wX2_gateNet C hR  hf)
theorem dX2_sideA_0 : decode cX2_sideA 0 = .ok (.aload_n 0, 1) := by decide +kernel
theorem dX2_sideA_1 : decode cX2_sideA 1 = .ok (.getfield 15, 3) := by decide +kernel
theorem dX2_sideA_4 : decode cX2_sideA 4 = .ok (.iconst 3, 1) := by decide +kernel
theorem dX2_sideA_5 : decode cX2_sideA 5 = .ok (.iload_n 1, 1) := by decide +kernel
theorem dX2_sideA_6 : decode cX2_sideA 6 = .ok (.imul, 1) := by decide +kernel
theorem dX2_sideA_7 : decode cX2_sideA 7 = .ok (.iconst 1, 1) := by decide +kernel
theorem dX2_sideA_8 : decode cX2_sideA 8 = .ok (.iadd, 1) := by decide +kernel
theorem dX2_sideA_9 : decode cX2_sideA 9 = .ok (.iaload, 1) := by decide +kernel
theorem dX2_sideA_10 : decode cX2_sideA 10 = .ok (.ireturn, 1) := by decide +kernel
def fX2_sideA (x1 : Int32) (sP : zOS) : Option (Int32) := (zchk (((3 : Int32) * x1) + (1 : Int32)) 18 (some (zI sP 2 (((3 : Int32) * x1) + (1 : Int32)).toNatClampNeg)))
set_option maxRecDepth 20000 in
theorem wX2_sideA {X : zCx} {res : Int32}  {qP : Nat → Nat} {x1 : Int32} {sP : zOS} (C : zC X RX2 cX2_sideA 2 0 0) (hR : zR X (some .int) (some (.int res)) [(2, qP, sP)])  : zJ X 2 res (fX2_sideA x1 sP) 0 [(0, (.ref (qP 0))), (1, (.int x1))] [] [(2, qP, sP)] := by
  unfold fX2_sideA
  refine z_aload_n (pc := 0) 0 rfl rfl C dX2_sideA_0 ?_
  refine z_getR (pc := 1) 0 1 2 C dX2_sideA_1 rfl (by decide) (by decide) rfl zw_105 ?_
  refine z_iconst (pc := 4) (3 : Int32) (by decide) C dX2_sideA_4 ?_
  refine z_iload_n (pc := 5) 1 rfl rfl C dX2_sideA_5 ?_
  refine z_imul (pc := 6) C dX2_sideA_6 ?_
  refine z_iconst (pc := 7) (1 : Int32) (by decide) C dX2_sideA_7 ?_
  refine z_iadd (pc := 8) C dX2_sideA_8 ?_
  refine z_iald (pc := 9) 0 C dX2_sideA_9 rfl (by unfold zAr; decide) ?_
  exact z_ireturn (pc := 10) C hR dX2_sideA_10 (fun h => by subst h; exact ⟨rfl, rfl⟩)
theorem mX2_sideA  {qP : Nat → Nat} {x1 : Int32} {sP : zOS} {res : Int32}  (hf : fX2_sideA x1 sP = some res) : zM yX2_sideA cX2_sideA 2 (some .int) 0 0 [(.ref (qP 0)), (.int x1)] [(2, qP, sP)] (some (.int res)) [(2, qP, sP)] := zM_of (by decide +kernel) (Nat.le_of_ble_eq_true rfl) (fun X C hR => wX2_sideA C hR  hf)
theorem dX2_sideB_0 : decode cX2_sideB 0 = .ok (.aload_n 0, 1) := by decide +kernel
theorem dX2_sideB_1 : decode cX2_sideB 1 = .ok (.getfield 15, 3) := by decide +kernel
theorem dX2_sideB_4 : decode cX2_sideB 4 = .ok (.iconst 3, 1) := by decide +kernel
theorem dX2_sideB_5 : decode cX2_sideB 5 = .ok (.iload_n 1, 1) := by decide +kernel
theorem dX2_sideB_6 : decode cX2_sideB 6 = .ok (.imul, 1) := by decide +kernel
theorem dX2_sideB_7 : decode cX2_sideB 7 = .ok (.iconst 2, 1) := by decide +kernel
theorem dX2_sideB_8 : decode cX2_sideB 8 = .ok (.iadd, 1) := by decide +kernel
theorem dX2_sideB_9 : decode cX2_sideB 9 = .ok (.iaload, 1) := by decide +kernel
theorem dX2_sideB_10 : decode cX2_sideB 10 = .ok (.ireturn, 1) := by decide +kernel
def fX2_sideB (x1 : Int32) (sP : zOS) : Option (Int32) := (zchk (((3 : Int32) * x1) + (2 : Int32)) 18 (some (zI sP 2 (((3 : Int32) * x1) + (2 : Int32)).toNatClampNeg)))
set_option maxRecDepth 20000 in
theorem wX2_sideB {X : zCx} {res : Int32}  {qP : Nat → Nat} {x1 : Int32} {sP : zOS} (C : zC X RX2 cX2_sideB 2 0 0) (hR : zR X (some .int) (some (.int res)) [(2, qP, sP)])  : zJ X 2 res (fX2_sideB x1 sP) 0 [(0, (.ref (qP 0))), (1, (.int x1))] [] [(2, qP, sP)] := by
  unfold fX2_sideB
  refine z_aload_n (pc := 0) 0 rfl rfl C dX2_sideB_0 ?_
  refine z_getR (pc := 1) 0 1 2 C dX2_sideB_1 rfl (by decide) (by decide) rfl zw_105 ?_
  refine z_iconst (pc := 4) (3 : Int32) (by decide) C dX2_sideB_4 ?_
  refine z_iload_n (pc := 5) 1 rfl rfl C dX2_sideB_5 ?_
  refine z_imul (pc := 6) C dX2_sideB_6 ?_
  refine z_iconst (pc := 7) (2 : Int32) (by decide) C dX2_sideB_7 ?_
  refine z_iadd (pc := 8) C dX2_sideB_8 ?_
  refine z_iald (pc := 9) 0 C dX2_sideB_9 rfl (by unfold zAr; decide) ?_
  exact z_ireturn (pc := 10) C hR dX2_sideB_10 (fun h => by subst h; exact ⟨rfl, rfl⟩)
theorem mX2_sideB  {qP : Nat → Nat} {x1 : Int32} {sP : zOS} {res : Int32}  (hf : fX2_sideB x1 sP = some res) : zM yX2_sideB cX2_sideB 2 (some .int) 0 0 [(.ref (qP 0)), (.int x1)] [(2, qP, sP)] (some (.int res)) [(2, qP, sP)] := zM_of (by decide +kernel) (Nat.le_of_ble_eq_true rfl) (fun X C hR => wX2_sideB C hR  hf)
theorem dX2_pinBit_0 : decode cX2_pinBit 0 = .ok (.aload_n 0, 1) := by decide +kernel
theorem dX2_pinBit_1 : decode cX2_pinBit 1 = .ok (.getfield 19, 3) := by decide +kernel
theorem dX2_pinBit_4 : decode cX2_pinBit 4 = .ok (.iconst 3, 1) := by decide +kernel
theorem dX2_pinBit_5 : decode cX2_pinBit 5 = .ok (.iload_n 1, 1) := by decide +kernel
theorem dX2_pinBit_6 : decode cX2_pinBit 6 = .ok (.imul, 1) := by decide +kernel
theorem dX2_pinBit_7 : decode cX2_pinBit 7 = .ok (.iaload, 1) := by decide +kernel
theorem dX2_pinBit_8 : decode cX2_pinBit 8 = .ok (.aload_n 0, 1) := by decide +kernel
theorem dX2_pinBit_9 : decode cX2_pinBit 9 = .ok (.getfield 19, 3) := by decide +kernel
theorem dX2_pinBit_12 : decode cX2_pinBit 12 = .ok (.iconst 3, 1) := by decide +kernel
theorem dX2_pinBit_13 : decode cX2_pinBit 13 = .ok (.iload_n 1, 1) := by decide +kernel
theorem dX2_pinBit_14 : decode cX2_pinBit 14 = .ok (.imul, 1) := by decide +kernel
theorem dX2_pinBit_15 : decode cX2_pinBit 15 = .ok (.iconst 1, 1) := by decide +kernel
theorem dX2_pinBit_16 : decode cX2_pinBit 16 = .ok (.iadd, 1) := by decide +kernel
theorem dX2_pinBit_17 : decode cX2_pinBit 17 = .ok (.iaload, 1) := by decide +kernel
theorem dX2_pinBit_18 : decode cX2_pinBit 18 = .ok (.invokestatic 59, 3) := by decide +kernel
theorem dX2_pinBit_21 : decode cX2_pinBit 21 = .ok (.lreturn, 1) := by decide +kernel
def fX2_pinBit (x1 : Int32) (sP : zOS) : Option (Int64) := (zchk ((3 : Int32) * x1) 18 (zchk (((3 : Int32) * x1) + (1 : Int32)) 18 (Option.bind (fX4_cellBit (zI sP 3 ((3 : Int32) * x1).toNatClampNeg) (zI sP 3 (((3 : Int32) * x1) + (1 : Int32)).toNatClampNeg)) (fun r_1 : Int64 => (some (r_1))))))
set_option maxRecDepth 20000 in
theorem wX2_pinBit {X : zCx} {res : Int64}  {qP : Nat → Nat} {x1 : Int32} {sP : zOS} (C : zC X RX2 cX2_pinBit 2 1 21) (hR : zR X (some .long) (some (.long res)) [(2, qP, sP)])  : zJ X 2 res (fX2_pinBit x1 sP) 0 [(0, (.ref (qP 0))), (1, (.int x1))] [] [(2, qP, sP)] := by
  unfold fX2_pinBit
  refine z_aload_n (pc := 0) 0 rfl rfl C dX2_pinBit_0 ?_
  refine z_getR (pc := 1) 0 2 3 C dX2_pinBit_1 rfl (by decide) (by decide) rfl zw_107 ?_
  refine z_iconst (pc := 4) (3 : Int32) (by decide) C dX2_pinBit_4 ?_
  refine z_iload_n (pc := 5) 1 rfl rfl C dX2_pinBit_5 ?_
  refine z_imul (pc := 6) C dX2_pinBit_6 ?_
  refine z_iald (pc := 7) 0 C dX2_pinBit_7 rfl (by unfold zAr; decide) ?_
  refine z_aload_n (pc := 8) 0 rfl rfl C dX2_pinBit_8 ?_
  refine z_getR (pc := 9) 0 2 3 C dX2_pinBit_9 rfl (by decide) (by decide) rfl zw_107 ?_
  refine z_iconst (pc := 12) (3 : Int32) (by decide) C dX2_pinBit_12 ?_
  refine z_iload_n (pc := 13) 1 rfl rfl C dX2_pinBit_13 ?_
  refine z_imul (pc := 14) C dX2_pinBit_14 ?_
  refine z_iconst (pc := 15) (1 : Int32) (by decide) C dX2_pinBit_15 ?_
  refine z_iadd (pc := 16) C dX2_pinBit_16 ?_
  refine z_iald (pc := 17) 0 C dX2_pinBit_17 rfl (by unfold zAr; decide) ?_
  refine z_callN (pc := 18) (rf' := 0) (rl' := 0) (fX4_cellBit (zI sP 3 ((3 : Int32) * x1).toNatClampNeg) (zI sP 3 (((3 : Int32) * x1) + (1 : Int32)).toNatClampNeg)) [(.int (zI sP 3 ((3 : Int32) * x1).toNatClampNeg)), (.int (zI sP 3 (((3 : Int32) * x1) + (1 : Int32)).toNatClampNeg))] [] (fun r_1 => (some (.long r_1))) C dX2_pinBit_18 zy_X4_cellBit (fun U h => h.2.2.1) (fun _ hr9 => mX4_cellBit  hr9) (by decide) rfl (Nat.le_of_ble_eq_true rfl) rfl (fun r_1 hr_2 => ?_)
  show zJ X 2 res _ 21 [(0, (.ref (qP 0))), (1, (.int x1))] [(.long r_1)] [(2, qP, sP)]
  exact z_lreturn (pc := 21) C hR dX2_pinBit_21 (fun h => by subst h; exact ⟨rfl, rfl⟩)
theorem mX2_pinBit  {qP : Nat → Nat} {x1 : Int32} {sP : zOS} {res : Int64}  (hf : fX2_pinBit x1 sP = some res) : zM yX2_pinBit cX2_pinBit 2 (some .long) 1 21 [(.ref (qP 0)), (.int x1)] [(2, qP, sP)] (some (.long res)) [(2, qP, sP)] := zM_of (by decide +kernel) (Nat.le_of_ble_eq_true rfl) (fun X C hR => wX2_pinBit C hR  hf)
theorem dX2_pinNet_0 : decode cX2_pinNet 0 = .ok (.aload_n 0, 1) := by decide +kernel
theorem dX2_pinNet_1 : decode cX2_pinNet 1 = .ok (.getfield 19, 3) := by decide +kernel
theorem dX2_pinNet_4 : decode cX2_pinNet 4 = .ok (.iconst 3, 1) := by decide +kernel
theorem dX2_pinNet_5 : decode cX2_pinNet 5 = .ok (.iload_n 1, 1) := by decide +kernel
theorem dX2_pinNet_6 : decode cX2_pinNet 6 = .ok (.imul, 1) := by decide +kernel
theorem dX2_pinNet_7 : decode cX2_pinNet 7 = .ok (.iconst 2, 1) := by decide +kernel
theorem dX2_pinNet_8 : decode cX2_pinNet 8 = .ok (.iadd, 1) := by decide +kernel
theorem dX2_pinNet_9 : decode cX2_pinNet 9 = .ok (.iaload, 1) := by decide +kernel
theorem dX2_pinNet_10 : decode cX2_pinNet 10 = .ok (.ireturn, 1) := by decide +kernel
def fX2_pinNet (x1 : Int32) (sP : zOS) : Option (Int32) := (zchk (((3 : Int32) * x1) + (2 : Int32)) 18 (some (zI sP 3 (((3 : Int32) * x1) + (2 : Int32)).toNatClampNeg)))
set_option maxRecDepth 20000 in
theorem wX2_pinNet {X : zCx} {res : Int32}  {qP : Nat → Nat} {x1 : Int32} {sP : zOS} (C : zC X RX2 cX2_pinNet 2 0 0) (hR : zR X (some .int) (some (.int res)) [(2, qP, sP)])  : zJ X 2 res (fX2_pinNet x1 sP) 0 [(0, (.ref (qP 0))), (1, (.int x1))] [] [(2, qP, sP)] := by
  unfold fX2_pinNet
  refine z_aload_n (pc := 0) 0 rfl rfl C dX2_pinNet_0 ?_
  refine z_getR (pc := 1) 0 2 3 C dX2_pinNet_1 rfl (by decide) (by decide) rfl zw_107 ?_
  refine z_iconst (pc := 4) (3 : Int32) (by decide) C dX2_pinNet_4 ?_
  refine z_iload_n (pc := 5) 1 rfl rfl C dX2_pinNet_5 ?_
  refine z_imul (pc := 6) C dX2_pinNet_6 ?_
  refine z_iconst (pc := 7) (2 : Int32) (by decide) C dX2_pinNet_7 ?_
  refine z_iadd (pc := 8) C dX2_pinNet_8 ?_
  refine z_iald (pc := 9) 0 C dX2_pinNet_9 rfl (by unfold zAr; decide) ?_
  exact z_ireturn (pc := 10) C hR dX2_pinNet_10 (fun h => by subst h; exact ⟨rfl, rfl⟩)
theorem mX2_pinNet  {qP : Nat → Nat} {x1 : Int32} {sP : zOS} {res : Int32}  (hf : fX2_pinNet x1 sP = some res) : zM yX2_pinNet cX2_pinNet 2 (some .int) 0 0 [(.ref (qP 0)), (.int x1)] [(2, qP, sP)] (some (.int res)) [(2, qP, sP)] := zM_of (by decide +kernel) (Nat.le_of_ble_eq_true rfl) (fun X C hR => wX2_pinNet C hR  hf)
theorem dX2_hangOf_0 : decode cX2_hangOf 0 = .ok (.iconst 0, 1) := by decide +kernel
theorem dX2_hangOf_1 : decode cX2_hangOf 1 = .ok (.istore_n 2, 1) := by decide +kernel
theorem dX2_hangOf_2 : decode cX2_hangOf 2 = .ok (.iconst 0, 1) := by decide +kernel
theorem dX2_hangOf_3 : decode cX2_hangOf 3 = .ok (.istore_n 3, 1) := by decide +kernel
theorem dX2_hangOf_4 : decode cX2_hangOf 4 = .ok (.iload_n 3, 1) := by decide +kernel
theorem dX2_hangOf_5 : decode cX2_hangOf 5 = .ok (.aload_n 0, 1) := by decide +kernel
theorem dX2_hangOf_6 : decode cX2_hangOf 6 = .ok (.getfield 22, 3) := by decide +kernel
theorem dX2_hangOf_9 : decode cX2_hangOf 9 = .ok (.if_icmp .ge 61, 3) := by decide +kernel
theorem dX2_hangOf_12 : decode cX2_hangOf 12 = .ok (.iload_n 2, 1) := by decide +kernel
theorem dX2_hangOf_13 : decode cX2_hangOf 13 = .ok (.aload_n 0, 1) := by decide +kernel
theorem dX2_hangOf_14 : decode cX2_hangOf 14 = .ok (.iload_n 3, 1) := by decide +kernel
theorem dX2_hangOf_15 : decode cX2_hangOf 15 = .ok (.invokevirtual 70, 3) := by decide +kernel
theorem dX2_hangOf_18 : decode cX2_hangOf 18 = .ok (.iload_n 1, 1) := by decide +kernel
theorem dX2_hangOf_19 : decode cX2_hangOf 19 = .ok (.if_icmp .ne 8, 3) := by decide +kernel
theorem dX2_hangOf_22 : decode cX2_hangOf 22 = .ok (.bipush 10, 2) := by decide +kernel
theorem dX2_hangOf_24 : decode cX2_hangOf 24 = .ok (.goto 4, 3) := by decide +kernel
theorem dX2_hangOf_27 : decode cX2_hangOf 27 = .ok (.iconst 0, 1) := by decide +kernel
theorem dX2_hangOf_28 : decode cX2_hangOf 28 = .ok (.iadd, 1) := by decide +kernel
theorem dX2_hangOf_29 : decode cX2_hangOf 29 = .ok (.istore_n 2, 1) := by decide +kernel
theorem dX2_hangOf_30 : decode cX2_hangOf 30 = .ok (.iload_n 2, 1) := by decide +kernel
theorem dX2_hangOf_31 : decode cX2_hangOf 31 = .ok (.aload_n 0, 1) := by decide +kernel
theorem dX2_hangOf_32 : decode cX2_hangOf 32 = .ok (.iload_n 3, 1) := by decide +kernel
theorem dX2_hangOf_33 : decode cX2_hangOf 33 = .ok (.invokevirtual 74, 3) := by decide +kernel
theorem dX2_hangOf_36 : decode cX2_hangOf 36 = .ok (.iload_n 1, 1) := by decide +kernel
theorem dX2_hangOf_37 : decode cX2_hangOf 37 = .ok (.if_icmp .ne 7, 3) := by decide +kernel
theorem dX2_hangOf_40 : decode cX2_hangOf 40 = .ok (.iconst 1, 1) := by decide +kernel
theorem dX2_hangOf_41 : decode cX2_hangOf 41 = .ok (.goto 4, 3) := by decide +kernel
theorem dX2_hangOf_44 : decode cX2_hangOf 44 = .ok (.iconst 0, 1) := by decide +kernel
theorem dX2_hangOf_45 : decode cX2_hangOf 45 = .ok (.iadd, 1) := by decide +kernel
theorem dX2_hangOf_46 : decode cX2_hangOf 46 = .ok (.istore_n 2, 1) := by decide +kernel
theorem dX2_hangOf_47 : decode cX2_hangOf 47 = .ok (.iload_n 2, 1) := by decide +kernel
theorem dX2_hangOf_48 : decode cX2_hangOf 48 = .ok (.aload_n 0, 1) := by decide +kernel
theorem dX2_hangOf_49 : decode cX2_hangOf 49 = .ok (.iload_n 3, 1) := by decide +kernel
theorem dX2_hangOf_50 : decode cX2_hangOf 50 = .ok (.invokevirtual 77, 3) := by decide +kernel
theorem dX2_hangOf_53 : decode cX2_hangOf 53 = .ok (.iload_n 1, 1) := by decide +kernel
theorem dX2_hangOf_54 : decode cX2_hangOf 54 = .ok (.if_icmp .ne 7, 3) := by decide +kernel
theorem dX2_hangOf_57 : decode cX2_hangOf 57 = .ok (.iconst 1, 1) := by decide +kernel
theorem dX2_hangOf_58 : decode cX2_hangOf 58 = .ok (.goto 4, 3) := by decide +kernel
theorem dX2_hangOf_61 : decode cX2_hangOf 61 = .ok (.iconst 0, 1) := by decide +kernel
theorem dX2_hangOf_62 : decode cX2_hangOf 62 = .ok (.iadd, 1) := by decide +kernel
theorem dX2_hangOf_63 : decode cX2_hangOf 63 = .ok (.istore_n 2, 1) := by decide +kernel
theorem dX2_hangOf_64 : decode cX2_hangOf 64 = .ok (.iinc 3 1, 3) := by decide +kernel
theorem dX2_hangOf_67 : decode cX2_hangOf 67 = .ok (.goto (-63), 3) := by decide +kernel
theorem dX2_hangOf_70 : decode cX2_hangOf 70 = .ok (.iload_n 2, 1) := by decide +kernel
theorem dX2_hangOf_71 : decode cX2_hangOf 71 = .ok (.ireturn, 1) := by decide +kernel
def jX2_hangOf_45 (F : Nat) (kc_4 : (Int32 × Int32) → Option (Int32)) (x1 : Int32) (x3 : Int32) (v0 : Int32) (v1 : Int32) (sP : zOS) : Option (Int32) := (zlet (v1 + v0) (fun x2_6 : Int32 => (Option.bind (fX2_sideB x3 sP) (fun r_7 : Int32 => (if r_7 = x1 then (zlet (x2_6 + (1 : Int32)) (fun x2_9 : Int32 => (kc_4 (x2_9, (x3 + 1))))) else (zlet (x2_6 + (0 : Int32)) (fun x2_10 : Int32 => (kc_4 (x2_10, (x3 + 1))))))))))
set_option maxRecDepth 20000 in
theorem wX2_hangOf_45 {X : zCx} {res : Int32} {F : Nat} {qP : Nat → Nat} {sP : zOS} {x1 : Int32} {kc_4 : (Int32 × Int32) → Option (Int32)} (C : zC X RX2 cX2_hangOf 4 1 21) (hR : zR X (some .int) (some (.int res)) [(2, qP, sP)]) (hk_4 : ∀ (y2 : Int32) (y3 : Int32), zJ X 4 res (kc_4 (y2, y3)) 4 [(0, (.ref (qP 0))), (1, (.int x1)), (2, (.int y2)), (3, (.int y3))] [] [(2, qP, sP)]) (x3 : Int32) (v0 : Int32) (v1 : Int32) : zJ X 4 res (jX2_hangOf_45 F kc_4 x1 x3 v0 v1 sP) 45 [(0, (.ref (qP 0))), (1, (.int x1)), (3, (.int x3))] [(.int v0), (.int v1)] [(2, qP, sP)] := by
  unfold jX2_hangOf_45
  refine z_iadd (pc := 45) C dX2_hangOf_45 ?_
  refine z_leti (fun x2_6 => ?_)
  refine z_istore_n (pc := 46) [(0, (.ref (qP 0))), (1, (.int x1)), (2, (.int x2_6)), (3, (.int x3))] [1, 2, 0, 3] (by decide) rfl rfl C dX2_hangOf_46 ?_
  refine z_iload_n (pc := 47) 2 rfl rfl C dX2_hangOf_47 ?_
  refine z_aload_n (pc := 48) 0 rfl rfl C dX2_hangOf_48 ?_
  refine z_iload_n (pc := 49) 3 rfl rfl C dX2_hangOf_49 ?_
  refine z_callV (pc := 50) (rf' := 0) (rl' := 0) (fX2_sideB x3 sP) [(.int x3)] [(.int x2_6)] [(2, qP, sP)] (fun r_7 => (some (.int r_7))) (fun r_7 => [(2, qP, sP)]) [] (fun r_7 => [(2, qP, sP)]) C dX2_hangOf_50 zy_X2_sideB zw_534 (fun _ hr9 => mX2_sideB  hr9) (by decide) rfl rfl (by decide) rfl (Nat.le_of_ble_eq_true rfl) (List.Perm.refl _) (fun _ => List.Perm.refl _) rfl (fun r_7 hr_8 => ?_)
  show zJ X 4 res _ 53 [(0, (.ref (qP 0))), (1, (.int x1)), (2, (.int x2_6)), (3, (.int x3))] [(.int r_7), (.int x2_6)] [(2, qP, sP)]
  refine z_iload_n (pc := 53) 1 rfl rfl C dX2_hangOf_53 ?_
  refine z_icmp_ne (pc := 54) 61 C dX2_hangOf_54 (by decide) ?_ ?_
  · refine z_iconst (pc := 57) (1 : Int32) (by decide) C dX2_hangOf_57 ?_
    refine z_goto (pc := 58) 62 C dX2_hangOf_58 (by decide) ?_
    refine z_iadd (pc := 62) C dX2_hangOf_62 ?_
    refine z_leti (fun x2_9 => ?_)
    refine z_istore_n (pc := 63) [(0, (.ref (qP 0))), (1, (.int x1)), (2, (.int x2_9)), (3, (.int x3))] [1, 2, 0, 3] (by decide) rfl rfl C dX2_hangOf_63 ?_
    refine z_iinc (pc := 64) (x3 + 1) 3 rfl rfl [(0, (.ref (qP 0))), (1, (.int x1)), (2, (.int x2_9)), (3, (.int (x3 + 1)))] [1, 2, 3, 0] (by decide) rfl C dX2_hangOf_64 ?_
    refine z_goto (pc := 67) 4 C dX2_hangOf_67 (by decide) ?_
    exact hk_4 _ _
  · refine z_iconst (pc := 61) (0 : Int32) (by decide) C dX2_hangOf_61 ?_
    refine z_iadd (pc := 62) C dX2_hangOf_62 ?_
    refine z_leti (fun x2_10 => ?_)
    refine z_istore_n (pc := 63) [(0, (.ref (qP 0))), (1, (.int x1)), (2, (.int x2_10)), (3, (.int x3))] [1, 2, 0, 3] (by decide) rfl rfl C dX2_hangOf_63 ?_
    refine z_iinc (pc := 64) (x3 + 1) 3 rfl rfl [(0, (.ref (qP 0))), (1, (.int x1)), (2, (.int x2_10)), (3, (.int (x3 + 1)))] [1, 2, 3, 0] (by decide) rfl C dX2_hangOf_64 ?_
    refine z_goto (pc := 67) 4 C dX2_hangOf_67 (by decide) ?_
    exact hk_4 _ _
def jX2_hangOf_28 (F : Nat) (kc_4 : (Int32 × Int32) → Option (Int32)) (x1 : Int32) (x3 : Int32) (v0 : Int32) (v1 : Int32) (sP : zOS) : Option (Int32) := (zlet (v1 + v0) (fun x2_3 : Int32 => (Option.bind (fX2_sideA x3 sP) (fun r_4 : Int32 => (if r_4 = x1 then (jX2_hangOf_45 F kc_4 x1 x3 (1 : Int32) x2_3 sP) else (jX2_hangOf_45 F kc_4 x1 x3 (0 : Int32) x2_3 sP))))))
set_option maxRecDepth 20000 in
theorem wX2_hangOf_28 {X : zCx} {res : Int32} {F : Nat} {qP : Nat → Nat} {sP : zOS} {x1 : Int32} {kc_4 : (Int32 × Int32) → Option (Int32)} (C : zC X RX2 cX2_hangOf 4 1 21) (hR : zR X (some .int) (some (.int res)) [(2, qP, sP)]) (hk_4 : ∀ (y2 : Int32) (y3 : Int32), zJ X 4 res (kc_4 (y2, y3)) 4 [(0, (.ref (qP 0))), (1, (.int x1)), (2, (.int y2)), (3, (.int y3))] [] [(2, qP, sP)]) (x3 : Int32) (v0 : Int32) (v1 : Int32) : zJ X 4 res (jX2_hangOf_28 F kc_4 x1 x3 v0 v1 sP) 28 [(0, (.ref (qP 0))), (1, (.int x1)), (3, (.int x3))] [(.int v0), (.int v1)] [(2, qP, sP)] := by
  unfold jX2_hangOf_28
  refine z_iadd (pc := 28) C dX2_hangOf_28 ?_
  refine z_leti (fun x2_3 => ?_)
  refine z_istore_n (pc := 29) [(0, (.ref (qP 0))), (1, (.int x1)), (2, (.int x2_3)), (3, (.int x3))] [1, 2, 0, 3] (by decide) rfl rfl C dX2_hangOf_29 ?_
  refine z_iload_n (pc := 30) 2 rfl rfl C dX2_hangOf_30 ?_
  refine z_aload_n (pc := 31) 0 rfl rfl C dX2_hangOf_31 ?_
  refine z_iload_n (pc := 32) 3 rfl rfl C dX2_hangOf_32 ?_
  refine z_callV (pc := 33) (rf' := 0) (rl' := 0) (fX2_sideA x3 sP) [(.int x3)] [(.int x2_3)] [(2, qP, sP)] (fun r_4 => (some (.int r_4))) (fun r_4 => [(2, qP, sP)]) [] (fun r_4 => [(2, qP, sP)]) C dX2_hangOf_33 zy_X2_sideA zw_530 (fun _ hr9 => mX2_sideA  hr9) (by decide) rfl rfl (by decide) rfl (Nat.le_of_ble_eq_true rfl) (List.Perm.refl _) (fun _ => List.Perm.refl _) rfl (fun r_4 hr_5 => ?_)
  show zJ X 4 res _ 36 [(0, (.ref (qP 0))), (1, (.int x1)), (2, (.int x2_3)), (3, (.int x3))] [(.int r_4), (.int x2_3)] [(2, qP, sP)]
  refine z_iload_n (pc := 36) 1 rfl rfl C dX2_hangOf_36 ?_
  refine z_icmp_ne (pc := 37) 44 C dX2_hangOf_37 (by decide) ?_ ?_
  · refine z_iconst (pc := 40) (1 : Int32) (by decide) C dX2_hangOf_40 ?_
    refine z_goto (pc := 41) 45 C dX2_hangOf_41 (by decide) ?_
    refine z_lv [(0, (.ref (qP 0))), (1, (.int x1)), (3, (.int x3))] [0, 1, 3] rfl ?_
    exact wX2_hangOf_45 C hR  hk_4 _ _ _
  · refine z_iconst (pc := 44) (0 : Int32) (by decide) C dX2_hangOf_44 ?_
    refine z_lv [(0, (.ref (qP 0))), (1, (.int x1)), (3, (.int x3))] [0, 1, 3] rfl ?_
    exact wX2_hangOf_45 C hR  hk_4 _ _ _
def bX2_hangOf_4 (F : Nat) (x1 : Int32) (sP : zOS) (kc_4 : (Int32 × Int32) → Option (Int32)) (x2 : Int32) (x3 : Int32) : Option (Int32) := (if (zF sP 3) ≤ x3 then (some (x2)) else (Option.bind (fX2_gateNet x3 sP) (fun r_1 : Int32 => (if r_1 = x1 then (jX2_hangOf_28 F kc_4 x1 x3 (10 : Int32) x2 sP) else (jX2_hangOf_28 F kc_4 x1 x3 (0 : Int32) x2 sP)))))
set_option maxRecDepth 20000 in
theorem vX2_hangOf_4 {X : zCx} {res : Int32} {F : Nat} {qP : Nat → Nat} {sP : zOS} {x1 : Int32} {kc_4 : (Int32 × Int32) → Option (Int32)} (C : zC X RX2 cX2_hangOf 4 1 21) (hR : zR X (some .int) (some (.int res)) [(2, qP, sP)]) (hk_4 : ∀ (y2 : Int32) (y3 : Int32), zJ X 4 res (kc_4 (y2, y3)) 4 [(0, (.ref (qP 0))), (1, (.int x1)), (2, (.int y2)), (3, (.int y3))] [] [(2, qP, sP)]) (x2 : Int32) (x3 : Int32) : zJ X 4 res (bX2_hangOf_4 F x1 sP kc_4 x2 x3) 4 [(0, (.ref (qP 0))), (1, (.int x1)), (2, (.int x2)), (3, (.int x3))] [] [(2, qP, sP)] := by
  unfold bX2_hangOf_4
  refine z_iload_n (pc := 4) 3 rfl rfl C dX2_hangOf_4 ?_
  refine z_aload_n (pc := 5) 0 rfl rfl C dX2_hangOf_5 ?_
  refine z_getI (pc := 6) 0 3 C dX2_hangOf_6 rfl (by decide) (by decide) rfl zw_109 ?_
  refine z_icmp_ge (pc := 9) 70 C dX2_hangOf_9 (by decide) ?_ ?_
  · refine z_iload_n (pc := 70) 2 rfl rfl C dX2_hangOf_70 ?_
    exact z_ireturn (pc := 71) C hR dX2_hangOf_71 (fun h => by subst h; exact ⟨rfl, rfl⟩)
  · refine z_iload_n (pc := 12) 2 rfl rfl C dX2_hangOf_12 ?_
    refine z_aload_n (pc := 13) 0 rfl rfl C dX2_hangOf_13 ?_
    refine z_iload_n (pc := 14) 3 rfl rfl C dX2_hangOf_14 ?_
    refine z_callV (pc := 15) (rf' := 0) (rl' := 0) (fX2_gateNet x3 sP) [(.int x3)] [(.int x2)] [(2, qP, sP)] (fun r_1 => (some (.int r_1))) (fun r_1 => [(2, qP, sP)]) [] (fun r_1 => [(2, qP, sP)]) C dX2_hangOf_15 zy_X2_gateNet zw_529 (fun _ hr9 => mX2_gateNet  hr9) (by decide) rfl rfl (by decide) rfl (Nat.le_of_ble_eq_true rfl) (List.Perm.refl _) (fun _ => List.Perm.refl _) rfl (fun r_1 hr_2 => ?_)
    show zJ X 4 res _ 18 [(0, (.ref (qP 0))), (1, (.int x1)), (2, (.int x2)), (3, (.int x3))] [(.int r_1), (.int x2)] [(2, qP, sP)]
    refine z_iload_n (pc := 18) 1 rfl rfl C dX2_hangOf_18 ?_
    refine z_icmp_ne (pc := 19) 27 C dX2_hangOf_19 (by decide) ?_ ?_
    · refine z_bipush (pc := 22) (10 : Int32) (by decide) C dX2_hangOf_22 ?_
      refine z_goto (pc := 24) 28 C dX2_hangOf_24 (by decide) ?_
      refine z_lv [(0, (.ref (qP 0))), (1, (.int x1)), (3, (.int x3))] [0, 1, 3] rfl ?_
      exact wX2_hangOf_28 C hR  hk_4 _ _ _
    · refine z_iconst (pc := 27) (0 : Int32) (by decide) C dX2_hangOf_27 ?_
      refine z_lv [(0, (.ref (qP 0))), (1, (.int x1)), (3, (.int x3))] [0, 1, 3] rfl ?_
      exact wX2_hangOf_28 C hR  hk_4 _ _ _
def fX2_hangOf (F : Nat) (x1 : Int32) (sP : zOS) : Option (Int32) := (zit (P := Int32 × Int32) (R := Int32) (fun kc9 p9 => bX2_hangOf_4 F x1 sP kc9 p9.1 p9.2) F ((0 : Int32), (0 : Int32)))
set_option maxRecDepth 20000 in
theorem wX2_hangOf {X : zCx} {res : Int32} {F : Nat} {qP : Nat → Nat} {x1 : Int32} {sP : zOS} (C : zC X RX2 cX2_hangOf 4 1 21) (hR : zR X (some .int) (some (.int res)) [(2, qP, sP)])  : zJ X 4 res (fX2_hangOf F x1 sP) 0 [(0, (.ref (qP 0))), (1, (.int x1))] [] [(2, qP, sP)] := by
  unfold fX2_hangOf
  refine z_iconst (pc := 0) (0 : Int32) (by decide) C dX2_hangOf_0 ?_
  refine z_istore_n (pc := 1) [(0, (.ref (qP 0))), (1, (.int x1)), (2, (.int (0 : Int32)))] [1, 2, 0] (by decide) rfl rfl C dX2_hangOf_1 ?_
  refine z_iconst (pc := 2) (0 : Int32) (by decide) C dX2_hangOf_2 ?_
  refine z_istore_n (pc := 3) [(0, (.ref (qP 0))), (1, (.int x1)), (2, (.int (0 : Int32))), (3, (.int (0 : Int32)))] [1, 2, 3, 0] (by decide) rfl rfl C dX2_hangOf_3 ?_
  exact zit_J (fun p9 => [(0, (.ref (qP 0))), (1, (.int x1)), (2, (.int p9.1)), (3, (.int p9.2))]) (fun p9 => [(2, qP, sP)]) (fun kc9 hk9 p9 => vX2_hangOf_4 C hR   (fun a0 a1 => hk9 (a0, a1)) _ _) F _
theorem mX2_hangOf {F : Nat} {qP : Nat → Nat} {x1 : Int32} {sP : zOS} {res : Int32}  (hf : fX2_hangOf F x1 sP = some res) : zM yX2_hangOf cX2_hangOf 4 (some .int) 1 21 [(.ref (qP 0)), (.int x1)] [(2, qP, sP)] (some (.int res)) [(2, qP, sP)] := zM_of (by decide +kernel) (Nat.le_of_ble_eq_true rfl) (fun X C hR => wX2_hangOf (F := F) C hR  hf)
end
section
theorem dX0_nodeWith_0 : decode cX0_nodeWith 0 = .ok (.iconst 0, 1) := by decide +kernel
theorem dX0_nodeWith_1 : decode cX0_nodeWith 1 = .ok (.istore 4, 2) := by decide +kernel
theorem dX0_nodeWith_3 : decode cX0_nodeWith 3 = .ok (.iload 4, 2) := by decide +kernel
theorem dX0_nodeWith_5 : decode cX0_nodeWith 5 = .ok (.aload_n 0, 1) := by decide +kernel
theorem dX0_nodeWith_6 : decode cX0_nodeWith 6 = .ok (.getfield 55, 3) := by decide +kernel
theorem dX0_nodeWith_9 : decode cX0_nodeWith 9 = .ok (.if_icmp .ge 28, 3) := by decide +kernel
theorem dX0_nodeWith_12 : decode cX0_nodeWith 12 = .ok (.aload_n 0, 1) := by decide +kernel
theorem dX0_nodeWith_13 : decode cX0_nodeWith 13 = .ok (.getfield 30, 3) := by decide +kernel
theorem dX0_nodeWith_16 : decode cX0_nodeWith 16 = .ok (.iload_n 1, 1) := by decide +kernel
theorem dX0_nodeWith_17 : decode cX0_nodeWith 17 = .ok (.aaload, 1) := by decide +kernel
theorem dX0_nodeWith_18 : decode cX0_nodeWith 18 = .ok (.iload 4, 2) := by decide +kernel
theorem dX0_nodeWith_20 : decode cX0_nodeWith 20 = .ok (.laload, 1) := by decide +kernel
theorem dX0_nodeWith_21 : decode cX0_nodeWith 21 = .ok (.lload_n 2, 1) := by decide +kernel
theorem dX0_nodeWith_22 : decode cX0_nodeWith 22 = .ok (.land, 1) := by decide +kernel
theorem dX0_nodeWith_23 : decode cX0_nodeWith 23 = .ok (.lconst 0, 1) := by decide +kernel
theorem dX0_nodeWith_24 : decode cX0_nodeWith 24 = .ok (.lcmp, 1) := by decide +kernel
theorem dX0_nodeWith_25 : decode cX0_nodeWith 25 = .ok (.ifCond .eq 6, 3) := by decide +kernel
theorem dX0_nodeWith_28 : decode cX0_nodeWith 28 = .ok (.iload 4, 2) := by decide +kernel
theorem dX0_nodeWith_30 : decode cX0_nodeWith 30 = .ok (.ireturn, 1) := by decide +kernel
theorem dX0_nodeWith_31 : decode cX0_nodeWith 31 = .ok (.iinc 4 1, 3) := by decide +kernel
theorem dX0_nodeWith_34 : decode cX0_nodeWith 34 = .ok (.goto (-31), 3) := by decide +kernel
theorem dX0_nodeWith_37 : decode cX0_nodeWith 37 = .ok (.iconst (-1), 1) := by decide +kernel
theorem dX0_nodeWith_38 : decode cX0_nodeWith 38 = .ok (.ireturn, 1) := by decide +kernel
def bX0_nodeWith_3 (F : Nat) (x1 : Int32) (x2 : Int64) (sL : zOS) (kc_3 : Int32 → Option (Int32)) (x4 : Int32) : Option (Int32) := (if (zF sL 13) ≤ x4 then (some ((-1 : Int32))) else (zchk x1 3 (zchk x4 96 (if (lg_cmp ((zL sL (zbs 0 + x1.toNatClampNeg) x4.toNatClampNeg) &&& x2) (0 : Int64)) = 0 then (kc_3 (x4 + 1)) else (some (x4))))))
set_option maxRecDepth 20000 in
theorem vX0_nodeWith_3 {X : zCx} {res : Int32} {F : Nat} {qL : Nat → Nat} {sL : zOS} {x1 : Int32} {x2 : Int64} {kc_3 : Int32 → Option (Int32)} (C : zC X RX0 cX0_nodeWith 5 0 0) (hR : zR X (some .int) (some (.int res)) [(0, qL, sL)]) (hk_3 : ∀ (y4 : Int32), zJ X 5 res (kc_3 y4) 3 [(0, (.ref (qL 0))), (1, (.int x1)), (2, (.long x2)), (4, (.int y4))] [] [(0, qL, sL)]) (x4 : Int32) : zJ X 5 res (bX0_nodeWith_3 F x1 x2 sL kc_3 x4) 3 [(0, (.ref (qL 0))), (1, (.int x1)), (2, (.long x2)), (4, (.int x4))] [] [(0, qL, sL)] := by
  unfold bX0_nodeWith_3
  refine z_iload (pc := 3) 3 rfl C dX0_nodeWith_3 ?_
  refine z_aload_n (pc := 5) 0 rfl rfl C dX0_nodeWith_5 ?_
  refine z_getI (pc := 6) 0 13 C dX0_nodeWith_6 rfl (by decide) (by decide) rfl zw_155 ?_
  refine z_icmp_ge (pc := 9) 37 C dX0_nodeWith_9 (by decide) ?_ ?_
  · refine z_iconst (pc := 37) (-1 : Int32) (by decide) C dX0_nodeWith_37 ?_
    exact z_ireturn (pc := 38) C hR dX0_nodeWith_38 (fun h => by subst h; exact ⟨rfl, rfl⟩)
  · refine z_aload_n (pc := 12) 0 rfl rfl C dX0_nodeWith_12 ?_
    refine z_getR (pc := 13) 0 5 6 C dX0_nodeWith_13 rfl (by decide) (by decide) rfl zw_143 ?_
    refine z_iload_n (pc := 16) 1 rfl rfl C dX0_nodeWith_16 ?_
    refine z_aal (pc := 17) 0 C dX0_nodeWith_17 rfl (by unfold zAr; decide) (by decide) (fun hi_1 => ?_)
    refine z_iload (pc := 18) 3 rfl C dX0_nodeWith_18 ?_
    refine z_lald (pc := 20) 0 C dX0_nodeWith_20 rfl (zAr_w hi_1) ?_
    refine z_lload_n (pc := 21) 2 rfl rfl C dX0_nodeWith_21 ?_
    refine z_land (pc := 22) C dX0_nodeWith_22 ?_
    refine z_lconst (pc := 23) (0 : Int64) (by decide) C dX0_nodeWith_23 ?_
    refine z_lcmp (pc := 24) C dX0_nodeWith_24 ?_
    refine z_if_eq (pc := 25) 31 C dX0_nodeWith_25 (by decide) ?_ ?_
    · refine z_iinc (pc := 31) (x4 + 1) 3 rfl rfl [(0, (.ref (qL 0))), (1, (.int x1)), (2, (.long x2)), (4, (.int (x4 + 1)))] [1, 2, 3, 0] (by decide) rfl C dX0_nodeWith_31 ?_
      refine z_goto (pc := 34) 3 C dX0_nodeWith_34 (by decide) ?_
      exact hk_3 _
    · refine z_iload (pc := 28) 3 rfl C dX0_nodeWith_28 ?_
      exact z_ireturn (pc := 30) C hR dX0_nodeWith_30 (fun h => by subst h; exact ⟨rfl, rfl⟩)
def fX0_nodeWith (F : Nat) (x1 : Int32) (x2 : Int64) (sL : zOS) : Option (Int32) := (zit (P := Int32) (R := Int32) (fun kc9 p9 => bX0_nodeWith_3 F x1 x2 sL kc9 p9) F (0 : Int32))
set_option maxRecDepth 20000 in
theorem wX0_nodeWith {X : zCx} {res : Int32} {F : Nat} {qL : Nat → Nat} {x1 : Int32} {x2 : Int64} {sL : zOS} (C : zC X RX0 cX0_nodeWith 5 0 0) (hR : zR X (some .int) (some (.int res)) [(0, qL, sL)])  : zJ X 5 res (fX0_nodeWith F x1 x2 sL) 0 [(0, (.ref (qL 0))), (1, (.int x1)), (2, (.long x2))] [] [(0, qL, sL)] := by
  unfold fX0_nodeWith
  refine z_iconst (pc := 0) (0 : Int32) (by decide) C dX0_nodeWith_0 ?_
  refine z_istore (pc := 1) [(0, (.ref (qL 0))), (1, (.int x1)), (2, (.long x2)), (4, (.int (0 : Int32)))] [1, 2, 3, 0] (by decide) rfl C dX0_nodeWith_1 ?_
  exact zit_J (fun p9 => [(0, (.ref (qL 0))), (1, (.int x1)), (2, (.long x2)), (4, (.int p9))]) (fun p9 => [(0, qL, sL)]) (fun kc9 hk9 p9 => vX0_nodeWith_3 C hR   (fun a0 => hk9 a0) _) F _
theorem mX0_nodeWith {F : Nat} {qL : Nat → Nat} {x1 : Int32} {x2 : Int64} {sL : zOS} {res : Int32}  (hf : fX0_nodeWith F x1 x2 sL = some res) : zM yX0_nodeWith cX0_nodeWith 5 (some .int) 0 0 [(.ref (qL 0)), (.int x1), (.long x2)] [(0, qL, sL)] (some (.int res)) [(0, qL, sL)] := zM_of (by decide +kernel) (Nat.le_of_ble_eq_true rfl) (fun X C hR => wX0_nodeWith (F := F) C hR  hf)
theorem dX0_gateWith_0 : decode cX0_gateWith 0 = .ok (.iconst 0, 1) := by decide +kernel
theorem dX0_gateWith_1 : decode cX0_gateWith 1 = .ok (.istore_n 3, 1) := by decide +kernel
theorem dX0_gateWith_2 : decode cX0_gateWith 2 = .ok (.iload_n 3, 1) := by decide +kernel
theorem dX0_gateWith_3 : decode cX0_gateWith 3 = .ok (.aload_n 0, 1) := by decide +kernel
theorem dX0_gateWith_4 : decode cX0_gateWith 4 = .ok (.getfield 58, 3) := by decide +kernel
theorem dX0_gateWith_7 : decode cX0_gateWith 7 = .ok (.if_icmp .ge 24, 3) := by decide +kernel
theorem dX0_gateWith_10 : decode cX0_gateWith 10 = .ok (.aload_n 0, 1) := by decide +kernel
theorem dX0_gateWith_11 : decode cX0_gateWith 11 = .ok (.getfield 36, 3) := by decide +kernel
theorem dX0_gateWith_14 : decode cX0_gateWith 14 = .ok (.iload_n 3, 1) := by decide +kernel
theorem dX0_gateWith_15 : decode cX0_gateWith 15 = .ok (.laload, 1) := by decide +kernel
theorem dX0_gateWith_16 : decode cX0_gateWith 16 = .ok (.lload_n 1, 1) := by decide +kernel
theorem dX0_gateWith_17 : decode cX0_gateWith 17 = .ok (.land, 1) := by decide +kernel
theorem dX0_gateWith_18 : decode cX0_gateWith 18 = .ok (.lconst 0, 1) := by decide +kernel
theorem dX0_gateWith_19 : decode cX0_gateWith 19 = .ok (.lcmp, 1) := by decide +kernel
theorem dX0_gateWith_20 : decode cX0_gateWith 20 = .ok (.ifCond .eq 5, 3) := by decide +kernel
theorem dX0_gateWith_23 : decode cX0_gateWith 23 = .ok (.iload_n 3, 1) := by decide +kernel
theorem dX0_gateWith_24 : decode cX0_gateWith 24 = .ok (.ireturn, 1) := by decide +kernel
theorem dX0_gateWith_25 : decode cX0_gateWith 25 = .ok (.iinc 3 1, 3) := by decide +kernel
theorem dX0_gateWith_28 : decode cX0_gateWith 28 = .ok (.goto (-26), 3) := by decide +kernel
theorem dX0_gateWith_31 : decode cX0_gateWith 31 = .ok (.iconst (-1), 1) := by decide +kernel
theorem dX0_gateWith_32 : decode cX0_gateWith 32 = .ok (.ireturn, 1) := by decide +kernel
def bX0_gateWith_2 (F : Nat) (x1 : Int64) (sL : zOS) (kc_2 : Int32 → Option (Int32)) (x3 : Int32) : Option (Int32) := (if (zF sL 14) ≤ x3 then (some ((-1 : Int32))) else (zchk x3 32 (if (lg_cmp ((zL sL 8 x3.toNatClampNeg) &&& x1) (0 : Int64)) = 0 then (kc_2 (x3 + 1)) else (some (x3)))))
set_option maxRecDepth 20000 in
theorem vX0_gateWith_2 {X : zCx} {res : Int32} {F : Nat} {qL : Nat → Nat} {sL : zOS} {x1 : Int64} {kc_2 : Int32 → Option (Int32)} (C : zC X RX0 cX0_gateWith 4 0 0) (hR : zR X (some .int) (some (.int res)) [(0, qL, sL)]) (hk_2 : ∀ (y3 : Int32), zJ X 4 res (kc_2 y3) 2 [(0, (.ref (qL 0))), (1, (.long x1)), (3, (.int y3))] [] [(0, qL, sL)]) (x3 : Int32) : zJ X 4 res (bX0_gateWith_2 F x1 sL kc_2 x3) 2 [(0, (.ref (qL 0))), (1, (.long x1)), (3, (.int x3))] [] [(0, qL, sL)] := by
  unfold bX0_gateWith_2
  refine z_iload_n (pc := 2) 2 rfl rfl C dX0_gateWith_2 ?_
  refine z_aload_n (pc := 3) 0 rfl rfl C dX0_gateWith_3 ?_
  refine z_getI (pc := 4) 0 14 C dX0_gateWith_4 rfl (by decide) (by decide) rfl zw_157 ?_
  refine z_icmp_ge (pc := 7) 31 C dX0_gateWith_7 (by decide) ?_ ?_
  · refine z_iconst (pc := 31) (-1 : Int32) (by decide) C dX0_gateWith_31 ?_
    exact z_ireturn (pc := 32) C hR dX0_gateWith_32 (fun h => by subst h; exact ⟨rfl, rfl⟩)
  · refine z_aload_n (pc := 10) 0 rfl rfl C dX0_gateWith_10 ?_
    refine z_getR (pc := 11) 0 7 8 C dX0_gateWith_11 rfl (by decide) (by decide) rfl zw_145 ?_
    refine z_iload_n (pc := 14) 2 rfl rfl C dX0_gateWith_14 ?_
    refine z_lald (pc := 15) 0 C dX0_gateWith_15 rfl (by unfold zAr; decide) ?_
    refine z_lload_n (pc := 16) 1 rfl rfl C dX0_gateWith_16 ?_
    refine z_land (pc := 17) C dX0_gateWith_17 ?_
    refine z_lconst (pc := 18) (0 : Int64) (by decide) C dX0_gateWith_18 ?_
    refine z_lcmp (pc := 19) C dX0_gateWith_19 ?_
    refine z_if_eq (pc := 20) 25 C dX0_gateWith_20 (by decide) ?_ ?_
    · refine z_iinc (pc := 25) (x3 + 1) 2 rfl rfl [(0, (.ref (qL 0))), (1, (.long x1)), (3, (.int (x3 + 1)))] [1, 2, 0] (by decide) rfl C dX0_gateWith_25 ?_
      refine z_goto (pc := 28) 2 C dX0_gateWith_28 (by decide) ?_
      exact hk_2 _
    · refine z_iload_n (pc := 23) 2 rfl rfl C dX0_gateWith_23 ?_
      exact z_ireturn (pc := 24) C hR dX0_gateWith_24 (fun h => by subst h; exact ⟨rfl, rfl⟩)
def fX0_gateWith (F : Nat) (x1 : Int64) (sL : zOS) : Option (Int32) := (zit (P := Int32) (R := Int32) (fun kc9 p9 => bX0_gateWith_2 F x1 sL kc9 p9) F (0 : Int32))
set_option maxRecDepth 20000 in
theorem wX0_gateWith {X : zCx} {res : Int32} {F : Nat} {qL : Nat → Nat} {x1 : Int64} {sL : zOS} (C : zC X RX0 cX0_gateWith 4 0 0) (hR : zR X (some .int) (some (.int res)) [(0, qL, sL)])  : zJ X 4 res (fX0_gateWith F x1 sL) 0 [(0, (.ref (qL 0))), (1, (.long x1))] [] [(0, qL, sL)] := by
  unfold fX0_gateWith
  refine z_iconst (pc := 0) (0 : Int32) (by decide) C dX0_gateWith_0 ?_
  refine z_istore_n (pc := 1) [(0, (.ref (qL 0))), (1, (.long x1)), (3, (.int (0 : Int32)))] [1, 2, 0] (by decide) rfl rfl C dX0_gateWith_1 ?_
  exact zit_J (fun p9 => [(0, (.ref (qL 0))), (1, (.long x1)), (3, (.int p9))]) (fun p9 => [(0, qL, sL)]) (fun kc9 hk9 p9 => vX0_gateWith_2 C hR   (fun a0 => hk9 a0) _) F _
theorem mX0_gateWith {F : Nat} {qL : Nat → Nat} {x1 : Int64} {sL : zOS} {res : Int32}  (hf : fX0_gateWith F x1 sL = some res) : zM yX0_gateWith cX0_gateWith 4 (some .int) 0 0 [(.ref (qL 0)), (.long x1)] [(0, qL, sL)] (some (.int res)) [(0, qL, sL)] := zM_of (by decide +kernel) (Nat.le_of_ble_eq_true rfl) (fun X C hR => wX0_gateWith (F := F) C hR  hf)
theorem dX0_pinNode_0 : decode cX0_pinNode 0 = .ok (.aload_n 0, 1) := by decide +kernel
theorem dX0_pinNode_1 : decode cX0_pinNode 1 = .ok (.iconst 2, 1) := by decide +kernel
theorem dX0_pinNode_2 : decode cX0_pinNode 2 = .ok (.aload_n 1, 1) := by decide +kernel
theorem dX0_pinNode_3 : decode cX0_pinNode 3 = .ok (.iload_n 2, 1) := by decide +kernel
theorem dX0_pinNode_4 : decode cX0_pinNode 4 = .ok (.invokevirtual 89, 3) := by decide +kernel
theorem dX0_pinNode_7 : decode cX0_pinNode 7 = .ok (.invokevirtual 95, 3) := by decide +kernel
theorem dX0_pinNode_10 : decode cX0_pinNode 10 = .ok (.ireturn, 1) := by decide +kernel
def fX0_pinNode (F : Nat) (x2 : Int32) (sL : zOS) (sP : zOS) : Option (Int32) := (Option.bind (fX2_pinBit x2 sP) (fun r_1 : Int64 => (Option.bind (fX0_nodeWith F (2 : Int32) r_1 sL) (fun r_3 : Int32 => (some (r_3))))))
set_option maxRecDepth 20000 in
theorem wX0_pinNode {X : zCx} {res : Int32} {F : Nat} {qL : Nat → Nat} {qP : Nat → Nat} {x2 : Int32} {sL : zOS} {sP : zOS} (C : zC X RX0 cX0_pinNode 3 2 42) (hR : zR X (some .int) (some (.int res)) [(0, qL, sL), (2, qP, sP)])  : zJ X 3 res (fX0_pinNode F x2 sL sP) 0 [(0, (.ref (qL 0))), (1, (.ref (qP 0))), (2, (.int x2))] [] [(0, qL, sL), (2, qP, sP)] := by
  unfold fX0_pinNode
  refine z_aload_n (pc := 0) 0 rfl rfl C dX0_pinNode_0 ?_
  refine z_iconst (pc := 1) (2 : Int32) (by decide) C dX0_pinNode_1 ?_
  refine z_aload_n (pc := 2) 1 rfl rfl C dX0_pinNode_2 ?_
  refine z_iload_n (pc := 3) 2 rfl rfl C dX0_pinNode_3 ?_
  refine z_callV (pc := 4) (rf' := 1) (rl' := 21) (fX2_pinBit x2 sP) [(.int x2)] [(.int (2 : Int32)), (.ref (qL 0))] [(2, qP, sP)] (fun r_1 => (some (.long r_1))) (fun r_1 => [(2, qP, sP)]) [(0, qL, sL)] (fun r_1 => [(0, qL, sL), (2, qP, sP)]) C dX0_pinNode_4 zy_X2_pinBit zw_492 (fun _ hr9 => mX2_pinBit  hr9) (by decide) rfl rfl (by decide) rfl (Nat.le_of_ble_eq_true rfl) (z_pm _ [1, 0] (by decide)).symm (fun _ => (z_pm _ [1, 0] (by decide)).symm) rfl (fun r_1 hr_2 => ?_)
  show zJ X 3 res _ 7 [(0, (.ref (qL 0))), (1, (.ref (qP 0))), (2, (.int x2))] [(.long r_1), (.int (2 : Int32)), (.ref (qL 0))] [(0, qL, sL), (2, qP, sP)]
  refine z_callV (pc := 7) (rf' := 0) (rl' := 0) (fX0_nodeWith F (2 : Int32) r_1 sL) [(.int (2 : Int32)), (.long r_1)] [] [(0, qL, sL)] (fun r_3 => (some (.int r_3))) (fun r_3 => [(0, qL, sL)]) [(2, qP, sP)] (fun r_3 => [(0, qL, sL), (2, qP, sP)]) C dX0_pinNode_7 zy_X0_nodeWith zw_455 (fun _ hr9 => mX0_nodeWith  hr9) (by decide) rfl rfl (by decide) rfl (Nat.le_of_ble_eq_true rfl) (List.Perm.refl _) (fun _ => List.Perm.refl _) rfl (fun r_3 hr_4 => ?_)
  show zJ X 3 res _ 10 [(0, (.ref (qL 0))), (1, (.ref (qP 0))), (2, (.int x2))] [(.int r_3)] [(0, qL, sL), (2, qP, sP)]
  exact z_ireturn (pc := 10) C hR dX0_pinNode_10 (fun h => by subst h; exact ⟨rfl, rfl⟩)
theorem mX0_pinNode {F : Nat} {qL : Nat → Nat} {qP : Nat → Nat} {x2 : Int32} {sL : zOS} {sP : zOS} {res : Int32}  (hf : fX0_pinNode F x2 sL sP = some res) : zM yX0_pinNode cX0_pinNode 3 (some .int) 2 42 [(.ref (qL 0)), (.ref (qP 0)), (.int x2)] [(0, qL, sL), (2, qP, sP)] (some (.int res)) [(0, qL, sL), (2, qP, sP)] := zM_of (by decide +kernel) (Nat.le_of_ble_eq_true rfl) (fun X C hR => wX0_pinNode (F := F) C hR  hf)
theorem dX0_countShorts_0 : decode cX0_countShorts 0 = .ok (.iconst 0, 1) := by decide +kernel
theorem dX0_countShorts_1 : decode cX0_countShorts 1 = .ok (.istore_n 2, 1) := by decide +kernel
theorem dX0_countShorts_2 : decode cX0_countShorts 2 = .ok (.iconst 1, 1) := by decide +kernel
theorem dX0_countShorts_3 : decode cX0_countShorts 3 = .ok (.istore_n 3, 1) := by decide +kernel
theorem dX0_countShorts_4 : decode cX0_countShorts 4 = .ok (.iload_n 3, 1) := by decide +kernel
theorem dX0_countShorts_5 : decode cX0_countShorts 5 = .ok (.aload_n 1, 1) := by decide +kernel
theorem dX0_countShorts_6 : decode cX0_countShorts 6 = .ok (.getfield 99, 3) := by decide +kernel
theorem dX0_countShorts_9 : decode cX0_countShorts 9 = .ok (.if_icmp .ge 67, 3) := by decide +kernel
theorem dX0_countShorts_12 : decode cX0_countShorts 12 = .ok (.aload_n 0, 1) := by decide +kernel
theorem dX0_countShorts_13 : decode cX0_countShorts 13 = .ok (.aload_n 1, 1) := by decide +kernel
theorem dX0_countShorts_14 : decode cX0_countShorts 14 = .ok (.iload_n 3, 1) := by decide +kernel
theorem dX0_countShorts_15 : decode cX0_countShorts 15 = .ok (.invokevirtual 102, 3) := by decide +kernel
theorem dX0_countShorts_18 : decode cX0_countShorts 18 = .ok (.istore 4, 2) := by decide +kernel
theorem dX0_countShorts_20 : decode cX0_countShorts 20 = .ok (.iconst 0, 1) := by decide +kernel
theorem dX0_countShorts_21 : decode cX0_countShorts 21 = .ok (.istore 5, 2) := by decide +kernel
theorem dX0_countShorts_23 : decode cX0_countShorts 23 = .ok (.iload 5, 2) := by decide +kernel
theorem dX0_countShorts_25 : decode cX0_countShorts 25 = .ok (.iload_n 3, 1) := by decide +kernel
theorem dX0_countShorts_26 : decode cX0_countShorts 26 = .ok (.if_icmp .ge 44, 3) := by decide +kernel
theorem dX0_countShorts_29 : decode cX0_countShorts 29 = .ok (.iload 4, 2) := by decide +kernel
theorem dX0_countShorts_31 : decode cX0_countShorts 31 = .ok (.iconst (-1), 1) := by decide +kernel
theorem dX0_countShorts_32 : decode cX0_countShorts 32 = .ok (.if_icmp .eq 38, 3) := by decide +kernel
theorem dX0_countShorts_35 : decode cX0_countShorts 35 = .ok (.iload 4, 2) := by decide +kernel
theorem dX0_countShorts_37 : decode cX0_countShorts 37 = .ok (.aload_n 0, 1) := by decide +kernel
theorem dX0_countShorts_38 : decode cX0_countShorts 38 = .ok (.aload_n 1, 1) := by decide +kernel
theorem dX0_countShorts_39 : decode cX0_countShorts 39 = .ok (.iload 5, 2) := by decide +kernel
theorem dX0_countShorts_41 : decode cX0_countShorts 41 = .ok (.invokevirtual 102, 3) := by decide +kernel
theorem dX0_countShorts_44 : decode cX0_countShorts 44 = .ok (.if_icmp .ne 20, 3) := by decide +kernel
theorem dX0_countShorts_47 : decode cX0_countShorts 47 = .ok (.aload_n 1, 1) := by decide +kernel
theorem dX0_countShorts_48 : decode cX0_countShorts 48 = .ok (.iload_n 3, 1) := by decide +kernel
theorem dX0_countShorts_49 : decode cX0_countShorts 49 = .ok (.invokevirtual 106, 3) := by decide +kernel
theorem dX0_countShorts_52 : decode cX0_countShorts 52 = .ok (.aload_n 1, 1) := by decide +kernel
theorem dX0_countShorts_53 : decode cX0_countShorts 53 = .ok (.iload 5, 2) := by decide +kernel
theorem dX0_countShorts_55 : decode cX0_countShorts 55 = .ok (.invokevirtual 106, 3) := by decide +kernel
theorem dX0_countShorts_58 : decode cX0_countShorts 58 = .ok (.if_icmp .eq 6, 3) := by decide +kernel
theorem dX0_countShorts_61 : decode cX0_countShorts 61 = .ok (.iinc 2 1, 3) := by decide +kernel
theorem dX0_countShorts_64 : decode cX0_countShorts 64 = .ok (.iinc 5 1, 3) := by decide +kernel
theorem dX0_countShorts_67 : decode cX0_countShorts 67 = .ok (.goto (-44), 3) := by decide +kernel
theorem dX0_countShorts_70 : decode cX0_countShorts 70 = .ok (.iinc 3 1, 3) := by decide +kernel
theorem dX0_countShorts_73 : decode cX0_countShorts 73 = .ok (.goto (-69), 3) := by decide +kernel
theorem dX0_countShorts_76 : decode cX0_countShorts 76 = .ok (.iload_n 2, 1) := by decide +kernel
theorem dX0_countShorts_77 : decode cX0_countShorts 77 = .ok (.ireturn, 1) := by decide +kernel
def bX0_countShorts_23 (F : Nat) (kc_4 : (Int32 × Int32) → Option (Int32)) (x3 : Int32) (x4 : Int32) (sL : zOS) (sP : zOS) (kc_23 : (Int32 × Int32) → Option (Int32)) (x2 : Int32) (x5 : Int32) : Option (Int32) := (if x3 ≤ x5 then (kc_4 (x2, (x3 + 1))) else (if x4 = (-1 : Int32) then (kc_4 (x2, (x3 + 1))) else (Option.bind (fX0_pinNode F x5 sL sP) (fun r_3 : Int32 => (if x4 = r_3 then (Option.bind (fX2_pinNet x3 sP) (fun r_5 : Int32 => (Option.bind (fX2_pinNet x5 sP) (fun r_7 : Int32 => (if r_5 = r_7 then (kc_23 (x2, (x5 + 1))) else (kc_23 ((x2 + 1), (x5 + 1)))))))) else (kc_23 (x2, (x5 + 1))))))))
set_option maxRecDepth 20000 in
theorem vX0_countShorts_23 {X : zCx} {res : Int32} {F : Nat} {qL : Nat → Nat} {qP : Nat → Nat} {sL : zOS} {sP : zOS} {x3 : Int32} {x4 : Int32} {kc_4 : (Int32 × Int32) → Option (Int32)} {kc_23 : (Int32 × Int32) → Option (Int32)} (C : zC X RX0 cX0_countShorts 6 3 64) (hR : zR X (some .int) (some (.int res)) [(0, qL, sL), (2, qP, sP)]) (hk_4 : ∀ (y2 : Int32) (y3 : Int32), zJ X 6 res (kc_4 (y2, y3)) 4 [(0, (.ref (qL 0))), (1, (.ref (qP 0))), (2, (.int y2)), (3, (.int y3))] [] [(0, qL, sL), (2, qP, sP)]) (hk_23 : ∀ (y2 : Int32) (y5 : Int32), zJ X 6 res (kc_23 (y2, y5)) 23 [(0, (.ref (qL 0))), (1, (.ref (qP 0))), (2, (.int y2)), (3, (.int x3)), (4, (.int x4)), (5, (.int y5))] [] [(0, qL, sL), (2, qP, sP)]) (x2 : Int32) (x5 : Int32) : zJ X 6 res (bX0_countShorts_23 F kc_4 x3 x4 sL sP kc_23 x2 x5) 23 [(0, (.ref (qL 0))), (1, (.ref (qP 0))), (2, (.int x2)), (3, (.int x3)), (4, (.int x4)), (5, (.int x5))] [] [(0, qL, sL), (2, qP, sP)] := by
  unfold bX0_countShorts_23
  refine z_iload (pc := 23) 5 rfl C dX0_countShorts_23 ?_
  refine z_iload_n (pc := 25) 3 rfl rfl C dX0_countShorts_25 ?_
  refine z_icmp_ge (pc := 26) 70 C dX0_countShorts_26 (by decide) ?_ ?_
  · refine z_iinc (pc := 70) (x3 + 1) 3 rfl rfl [(0, (.ref (qL 0))), (1, (.ref (qP 0))), (2, (.int x2)), (3, (.int (x3 + 1))), (4, (.int x4)), (5, (.int x5))] [1, 2, 3, 0, 4, 5] (by decide) rfl C dX0_countShorts_70 ?_
    refine z_goto (pc := 73) 4 C dX0_countShorts_73 (by decide) ?_
    refine z_lv [(0, (.ref (qL 0))), (1, (.ref (qP 0))), (2, (.int x2)), (3, (.int (x3 + 1)))] [0, 1, 2, 3] rfl ?_
    exact hk_4 _ _
  · refine z_iload (pc := 29) 4 rfl C dX0_countShorts_29 ?_
    refine z_iconst (pc := 31) (-1 : Int32) (by decide) C dX0_countShorts_31 ?_
    refine z_icmp_eq (pc := 32) 70 C dX0_countShorts_32 (by decide) ?_ ?_
    · refine z_iinc (pc := 70) (x3 + 1) 3 rfl rfl [(0, (.ref (qL 0))), (1, (.ref (qP 0))), (2, (.int x2)), (3, (.int (x3 + 1))), (4, (.int x4)), (5, (.int x5))] [1, 2, 3, 0, 4, 5] (by decide) rfl C dX0_countShorts_70 ?_
      refine z_goto (pc := 73) 4 C dX0_countShorts_73 (by decide) ?_
      refine z_lv [(0, (.ref (qL 0))), (1, (.ref (qP 0))), (2, (.int x2)), (3, (.int (x3 + 1)))] [0, 1, 2, 3] rfl ?_
      exact hk_4 _ _
    · refine z_iload (pc := 35) 4 rfl C dX0_countShorts_35 ?_
      refine z_aload_n (pc := 37) 0 rfl rfl C dX0_countShorts_37 ?_
      refine z_aload_n (pc := 38) 1 rfl rfl C dX0_countShorts_38 ?_
      refine z_iload (pc := 39) 5 rfl C dX0_countShorts_39 ?_
      refine z_callV (pc := 41) (rf' := 2) (rl' := 42) (fX0_pinNode F x5 sL sP) [(.ref (qP 0)), (.int x5)] [(.int x4)] [(0, qL, sL), (2, qP, sP)] (fun r_3 => (some (.int r_3))) (fun r_3 => [(0, qL, sL), (2, qP, sP)]) [] (fun r_3 => [(0, qL, sL), (2, qP, sP)]) C dX0_countShorts_41 zy_X0_pinNode zw_488 (fun _ hr9 => mX0_pinNode  hr9) (by decide) rfl rfl (by decide) rfl (Nat.le_of_ble_eq_true rfl) (List.Perm.refl _) (fun _ => List.Perm.refl _) rfl (fun r_3 hr_4 => ?_)
      show zJ X 6 res _ 44 [(0, (.ref (qL 0))), (1, (.ref (qP 0))), (2, (.int x2)), (3, (.int x3)), (4, (.int x4)), (5, (.int x5))] [(.int r_3), (.int x4)] [(0, qL, sL), (2, qP, sP)]
      refine z_icmp_ne (pc := 44) 64 C dX0_countShorts_44 (by decide) ?_ ?_
      · refine z_aload_n (pc := 47) 1 rfl rfl C dX0_countShorts_47 ?_
        refine z_iload_n (pc := 48) 3 rfl rfl C dX0_countShorts_48 ?_
        refine z_callV (pc := 49) (rf' := 0) (rl' := 0) (fX2_pinNet x3 sP) [(.int x3)] [] [(2, qP, sP)] (fun r_5 => (some (.int r_5))) (fun r_5 => [(2, qP, sP)]) [(0, qL, sL)] (fun r_5 => [(0, qL, sL), (2, qP, sP)]) C dX0_countShorts_49 zy_X2_pinNet zw_496 (fun _ hr9 => mX2_pinNet  hr9) (by decide) rfl rfl (by decide) rfl (Nat.le_of_ble_eq_true rfl) (z_pm _ [1, 0] (by decide)).symm (fun _ => (z_pm _ [1, 0] (by decide)).symm) rfl (fun r_5 hr_6 => ?_)
        show zJ X 6 res _ 52 [(0, (.ref (qL 0))), (1, (.ref (qP 0))), (2, (.int x2)), (3, (.int x3)), (4, (.int x4)), (5, (.int x5))] [(.int r_5)] [(0, qL, sL), (2, qP, sP)]
        refine z_aload_n (pc := 52) 1 rfl rfl C dX0_countShorts_52 ?_
        refine z_iload (pc := 53) 5 rfl C dX0_countShorts_53 ?_
        refine z_callV (pc := 55) (rf' := 0) (rl' := 0) (fX2_pinNet x5 sP) [(.int x5)] [(.int r_5)] [(2, qP, sP)] (fun r_7 => (some (.int r_7))) (fun r_7 => [(2, qP, sP)]) [(0, qL, sL)] (fun r_7 => [(0, qL, sL), (2, qP, sP)]) C dX0_countShorts_55 zy_X2_pinNet zw_496 (fun _ hr9 => mX2_pinNet  hr9) (by decide) rfl rfl (by decide) rfl (Nat.le_of_ble_eq_true rfl) (z_pm _ [1, 0] (by decide)).symm (fun _ => (z_pm _ [1, 0] (by decide)).symm) rfl (fun r_7 hr_8 => ?_)
        show zJ X 6 res _ 58 [(0, (.ref (qL 0))), (1, (.ref (qP 0))), (2, (.int x2)), (3, (.int x3)), (4, (.int x4)), (5, (.int x5))] [(.int r_7), (.int r_5)] [(0, qL, sL), (2, qP, sP)]
        refine z_icmp_eq (pc := 58) 64 C dX0_countShorts_58 (by decide) ?_ ?_
        · refine z_iinc (pc := 64) (x5 + 1) 5 rfl rfl [(0, (.ref (qL 0))), (1, (.ref (qP 0))), (2, (.int x2)), (3, (.int x3)), (4, (.int x4)), (5, (.int (x5 + 1)))] [1, 2, 3, 4, 5, 0] (by decide) rfl C dX0_countShorts_64 ?_
          refine z_goto (pc := 67) 23 C dX0_countShorts_67 (by decide) ?_
          exact hk_23 _ _
        · refine z_iinc (pc := 61) (x2 + 1) 2 rfl rfl [(0, (.ref (qL 0))), (1, (.ref (qP 0))), (2, (.int (x2 + 1))), (3, (.int x3)), (4, (.int x4)), (5, (.int x5))] [1, 2, 0, 3, 4, 5] (by decide) rfl C dX0_countShorts_61 ?_
          refine z_iinc (pc := 64) (x5 + 1) 5 rfl rfl [(0, (.ref (qL 0))), (1, (.ref (qP 0))), (2, (.int (x2 + 1))), (3, (.int x3)), (4, (.int x4)), (5, (.int (x5 + 1)))] [1, 2, 3, 4, 5, 0] (by decide) rfl C dX0_countShorts_64 ?_
          refine z_goto (pc := 67) 23 C dX0_countShorts_67 (by decide) ?_
          exact hk_23 _ _
      · refine z_iinc (pc := 64) (x5 + 1) 5 rfl rfl [(0, (.ref (qL 0))), (1, (.ref (qP 0))), (2, (.int x2)), (3, (.int x3)), (4, (.int x4)), (5, (.int (x5 + 1)))] [1, 2, 3, 4, 5, 0] (by decide) rfl C dX0_countShorts_64 ?_
        refine z_goto (pc := 67) 23 C dX0_countShorts_67 (by decide) ?_
        exact hk_23 _ _
def bX0_countShorts_4 (F : Nat) (sL : zOS) (sP : zOS) (kc_4 : (Int32 × Int32) → Option (Int32)) (x2 : Int32) (x3 : Int32) : Option (Int32) := (if (zF sP 4) ≤ x3 then (some (x2)) else (Option.bind (fX0_pinNode F x3 sL sP) (fun r_1 : Int32 => (zit (P := Int32 × Int32) (R := Int32) (fun kc9 p9 => bX0_countShorts_23 F kc_4 x3 r_1 sL sP kc9 p9.1 p9.2) F (x2, (0 : Int32))))))
set_option maxRecDepth 20000 in
theorem vX0_countShorts_4 {X : zCx} {res : Int32} {F : Nat} {qL : Nat → Nat} {qP : Nat → Nat} {sL : zOS} {sP : zOS} {kc_4 : (Int32 × Int32) → Option (Int32)} (C : zC X RX0 cX0_countShorts 6 3 64) (hR : zR X (some .int) (some (.int res)) [(0, qL, sL), (2, qP, sP)]) (hk_4 : ∀ (y2 : Int32) (y3 : Int32), zJ X 6 res (kc_4 (y2, y3)) 4 [(0, (.ref (qL 0))), (1, (.ref (qP 0))), (2, (.int y2)), (3, (.int y3))] [] [(0, qL, sL), (2, qP, sP)]) (x2 : Int32) (x3 : Int32) : zJ X 6 res (bX0_countShorts_4 F sL sP kc_4 x2 x3) 4 [(0, (.ref (qL 0))), (1, (.ref (qP 0))), (2, (.int x2)), (3, (.int x3))] [] [(0, qL, sL), (2, qP, sP)] := by
  unfold bX0_countShorts_4
  refine z_iload_n (pc := 4) 3 rfl rfl C dX0_countShorts_4 ?_
  refine z_aload_n (pc := 5) 1 rfl rfl C dX0_countShorts_5 ?_
  refine z_getI (pc := 6) 1 4 C dX0_countShorts_6 rfl (by decide) (by decide) rfl zw_113 ?_
  refine z_icmp_ge (pc := 9) 76 C dX0_countShorts_9 (by decide) ?_ ?_
  · refine z_iload_n (pc := 76) 2 rfl rfl C dX0_countShorts_76 ?_
    exact z_ireturn (pc := 77) C hR dX0_countShorts_77 (fun h => by subst h; exact ⟨rfl, rfl⟩)
  · refine z_aload_n (pc := 12) 0 rfl rfl C dX0_countShorts_12 ?_
    refine z_aload_n (pc := 13) 1 rfl rfl C dX0_countShorts_13 ?_
    refine z_iload_n (pc := 14) 3 rfl rfl C dX0_countShorts_14 ?_
    refine z_callV (pc := 15) (rf' := 2) (rl' := 42) (fX0_pinNode F x3 sL sP) [(.ref (qP 0)), (.int x3)] [] [(0, qL, sL), (2, qP, sP)] (fun r_1 => (some (.int r_1))) (fun r_1 => [(0, qL, sL), (2, qP, sP)]) [] (fun r_1 => [(0, qL, sL), (2, qP, sP)]) C dX0_countShorts_15 zy_X0_pinNode zw_488 (fun _ hr9 => mX0_pinNode  hr9) (by decide) rfl rfl (by decide) rfl (Nat.le_of_ble_eq_true rfl) (List.Perm.refl _) (fun _ => List.Perm.refl _) rfl (fun r_1 hr_2 => ?_)
    show zJ X 6 res _ 18 [(0, (.ref (qL 0))), (1, (.ref (qP 0))), (2, (.int x2)), (3, (.int x3))] [(.int r_1)] [(0, qL, sL), (2, qP, sP)]
    refine z_istore (pc := 18) [(0, (.ref (qL 0))), (1, (.ref (qP 0))), (2, (.int x2)), (3, (.int x3)), (4, (.int r_1))] [1, 2, 3, 4, 0] (by decide) rfl C dX0_countShorts_18 ?_
    refine z_iconst (pc := 20) (0 : Int32) (by decide) C dX0_countShorts_20 ?_
    refine z_istore (pc := 21) [(0, (.ref (qL 0))), (1, (.ref (qP 0))), (2, (.int x2)), (3, (.int x3)), (4, (.int r_1)), (5, (.int (0 : Int32)))] [1, 2, 3, 4, 5, 0] (by decide) rfl C dX0_countShorts_21 ?_
    exact zit_J (fun p9 => [(0, (.ref (qL 0))), (1, (.ref (qP 0))), (2, (.int p9.1)), (3, (.int x3)), (4, (.int r_1)), (5, (.int p9.2))]) (fun p9 => [(0, qL, sL), (2, qP, sP)]) (fun kc9 hk9 p9 => vX0_countShorts_23 C hR  hk_4 (fun a0 a1 => hk9 (a0, a1)) _ _) F _
def fX0_countShorts (F : Nat) (sL : zOS) (sP : zOS) : Option (Int32) := (zit (P := Int32 × Int32) (R := Int32) (fun kc9 p9 => bX0_countShorts_4 F sL sP kc9 p9.1 p9.2) F ((0 : Int32), (1 : Int32)))
set_option maxRecDepth 20000 in
theorem wX0_countShorts {X : zCx} {res : Int32} {F : Nat} {qL : Nat → Nat} {qP : Nat → Nat} {sL : zOS} {sP : zOS} (C : zC X RX0 cX0_countShorts 6 3 64) (hR : zR X (some .int) (some (.int res)) [(0, qL, sL), (2, qP, sP)])  : zJ X 6 res (fX0_countShorts F sL sP) 0 [(0, (.ref (qL 0))), (1, (.ref (qP 0)))] [] [(0, qL, sL), (2, qP, sP)] := by
  unfold fX0_countShorts
  refine z_iconst (pc := 0) (0 : Int32) (by decide) C dX0_countShorts_0 ?_
  refine z_istore_n (pc := 1) [(0, (.ref (qL 0))), (1, (.ref (qP 0))), (2, (.int (0 : Int32)))] [1, 2, 0] (by decide) rfl rfl C dX0_countShorts_1 ?_
  refine z_iconst (pc := 2) (1 : Int32) (by decide) C dX0_countShorts_2 ?_
  refine z_istore_n (pc := 3) [(0, (.ref (qL 0))), (1, (.ref (qP 0))), (2, (.int (0 : Int32))), (3, (.int (1 : Int32)))] [1, 2, 3, 0] (by decide) rfl rfl C dX0_countShorts_3 ?_
  exact zit_J (fun p9 => [(0, (.ref (qL 0))), (1, (.ref (qP 0))), (2, (.int p9.1)), (3, (.int p9.2))]) (fun p9 => [(0, qL, sL), (2, qP, sP)]) (fun kc9 hk9 p9 => vX0_countShorts_4 C hR   (fun a0 a1 => hk9 (a0, a1)) _ _) F _
theorem mX0_countShorts {F : Nat} {qL : Nat → Nat} {qP : Nat → Nat} {sL : zOS} {sP : zOS} {res : Int32}  (hf : fX0_countShorts F sL sP = some res) : zM yX0_countShorts cX0_countShorts 6 (some .int) 3 64 [(.ref (qL 0)), (.ref (qP 0))] [(0, qL, sL), (2, qP, sP)] (some (.int res)) [(0, qL, sL), (2, qP, sP)] := zM_of (by decide +kernel) (Nat.le_of_ble_eq_true rfl) (fun X C hR => wX0_countShorts (F := F) C hR  hf)
theorem dX0_countOpens_0 : decode cX0_countOpens 0 = .ok (.iconst 0, 1) := by decide +kernel
theorem dX0_countOpens_1 : decode cX0_countOpens 1 = .ok (.istore_n 2, 1) := by decide +kernel
theorem dX0_countOpens_2 : decode cX0_countOpens 2 = .ok (.iconst 1, 1) := by decide +kernel
theorem dX0_countOpens_3 : decode cX0_countOpens 3 = .ok (.istore_n 3, 1) := by decide +kernel
theorem dX0_countOpens_4 : decode cX0_countOpens 4 = .ok (.iload_n 3, 1) := by decide +kernel
theorem dX0_countOpens_5 : decode cX0_countOpens 5 = .ok (.aload_n 1, 1) := by decide +kernel
theorem dX0_countOpens_6 : decode cX0_countOpens 6 = .ok (.getfield 99, 3) := by decide +kernel
theorem dX0_countOpens_9 : decode cX0_countOpens 9 = .ok (.if_icmp .ge 77, 3) := by decide +kernel
theorem dX0_countOpens_12 : decode cX0_countOpens 12 = .ok (.aload_n 0, 1) := by decide +kernel
theorem dX0_countOpens_13 : decode cX0_countOpens 13 = .ok (.aload_n 1, 1) := by decide +kernel
theorem dX0_countOpens_14 : decode cX0_countOpens 14 = .ok (.iload_n 3, 1) := by decide +kernel
theorem dX0_countOpens_15 : decode cX0_countOpens 15 = .ok (.invokevirtual 102, 3) := by decide +kernel
theorem dX0_countOpens_18 : decode cX0_countOpens 18 = .ok (.istore 4, 2) := by decide +kernel
theorem dX0_countOpens_20 : decode cX0_countOpens 20 = .ok (.iconst 0, 1) := by decide +kernel
theorem dX0_countOpens_21 : decode cX0_countOpens 21 = .ok (.istore 5, 2) := by decide +kernel
theorem dX0_countOpens_23 : decode cX0_countOpens 23 = .ok (.iload 5, 2) := by decide +kernel
theorem dX0_countOpens_25 : decode cX0_countOpens 25 = .ok (.iload_n 3, 1) := by decide +kernel
theorem dX0_countOpens_26 : decode cX0_countOpens 26 = .ok (.if_icmp .ge 54, 3) := by decide +kernel
theorem dX0_countOpens_29 : decode cX0_countOpens 29 = .ok (.iload 4, 2) := by decide +kernel
theorem dX0_countOpens_31 : decode cX0_countOpens 31 = .ok (.iconst (-1), 1) := by decide +kernel
theorem dX0_countOpens_32 : decode cX0_countOpens 32 = .ok (.if_icmp .eq 48, 3) := by decide +kernel
theorem dX0_countOpens_35 : decode cX0_countOpens 35 = .ok (.aload_n 0, 1) := by decide +kernel
theorem dX0_countOpens_36 : decode cX0_countOpens 36 = .ok (.aload_n 1, 1) := by decide +kernel
theorem dX0_countOpens_37 : decode cX0_countOpens 37 = .ok (.iload 5, 2) := by decide +kernel
theorem dX0_countOpens_39 : decode cX0_countOpens 39 = .ok (.invokevirtual 102, 3) := by decide +kernel
theorem dX0_countOpens_42 : decode cX0_countOpens 42 = .ok (.istore 6, 2) := by decide +kernel
theorem dX0_countOpens_44 : decode cX0_countOpens 44 = .ok (.iload 6, 2) := by decide +kernel
theorem dX0_countOpens_46 : decode cX0_countOpens 46 = .ok (.iconst (-1), 1) := by decide +kernel
theorem dX0_countOpens_47 : decode cX0_countOpens 47 = .ok (.if_icmp .eq 27, 3) := by decide +kernel
theorem dX0_countOpens_50 : decode cX0_countOpens 50 = .ok (.iload 6, 2) := by decide +kernel
theorem dX0_countOpens_52 : decode cX0_countOpens 52 = .ok (.iload 4, 2) := by decide +kernel
theorem dX0_countOpens_54 : decode cX0_countOpens 54 = .ok (.if_icmp .eq 20, 3) := by decide +kernel
theorem dX0_countOpens_57 : decode cX0_countOpens 57 = .ok (.aload_n 1, 1) := by decide +kernel
theorem dX0_countOpens_58 : decode cX0_countOpens 58 = .ok (.iload_n 3, 1) := by decide +kernel
theorem dX0_countOpens_59 : decode cX0_countOpens 59 = .ok (.invokevirtual 106, 3) := by decide +kernel
theorem dX0_countOpens_62 : decode cX0_countOpens 62 = .ok (.aload_n 1, 1) := by decide +kernel
theorem dX0_countOpens_63 : decode cX0_countOpens 63 = .ok (.iload 5, 2) := by decide +kernel
theorem dX0_countOpens_65 : decode cX0_countOpens 65 = .ok (.invokevirtual 106, 3) := by decide +kernel
theorem dX0_countOpens_68 : decode cX0_countOpens 68 = .ok (.if_icmp .ne 6, 3) := by decide +kernel
theorem dX0_countOpens_71 : decode cX0_countOpens 71 = .ok (.iinc 2 1, 3) := by decide +kernel
theorem dX0_countOpens_74 : decode cX0_countOpens 74 = .ok (.iinc 5 1, 3) := by decide +kernel
theorem dX0_countOpens_77 : decode cX0_countOpens 77 = .ok (.goto (-54), 3) := by decide +kernel
theorem dX0_countOpens_80 : decode cX0_countOpens 80 = .ok (.iinc 3 1, 3) := by decide +kernel
theorem dX0_countOpens_83 : decode cX0_countOpens 83 = .ok (.goto (-79), 3) := by decide +kernel
theorem dX0_countOpens_86 : decode cX0_countOpens 86 = .ok (.iload_n 2, 1) := by decide +kernel
theorem dX0_countOpens_87 : decode cX0_countOpens 87 = .ok (.ireturn, 1) := by decide +kernel
def bX0_countOpens_23 (F : Nat) (kc_4 : (Int32 × Int32) → Option (Int32)) (x3 : Int32) (x4 : Int32) (sL : zOS) (sP : zOS) (kc_23 : (Int32 × Int32) → Option (Int32)) (x2 : Int32) (x5 : Int32) : Option (Int32) := (if x3 ≤ x5 then (kc_4 (x2, (x3 + 1))) else (if x4 = (-1 : Int32) then (kc_4 (x2, (x3 + 1))) else (Option.bind (fX0_pinNode F x5 sL sP) (fun r_3 : Int32 => (if r_3 = (-1 : Int32) then (kc_23 (x2, (x5 + 1))) else (if r_3 = x4 then (kc_23 (x2, (x5 + 1))) else (Option.bind (fX2_pinNet x3 sP) (fun r_5 : Int32 => (Option.bind (fX2_pinNet x5 sP) (fun r_7 : Int32 => (if r_5 = r_7 then (kc_23 ((x2 + 1), (x5 + 1))) else (kc_23 (x2, (x5 + 1))))))))))))))
set_option maxRecDepth 20000 in
theorem vX0_countOpens_23 {X : zCx} {res : Int32} {F : Nat} {qL : Nat → Nat} {qP : Nat → Nat} {sL : zOS} {sP : zOS} {x3 : Int32} {x4 : Int32} {kc_4 : (Int32 × Int32) → Option (Int32)} {kc_23 : (Int32 × Int32) → Option (Int32)} (C : zC X RX0 cX0_countOpens 7 3 64) (hR : zR X (some .int) (some (.int res)) [(0, qL, sL), (2, qP, sP)]) (hk_4 : ∀ (y2 : Int32) (y3 : Int32), zJ X 7 res (kc_4 (y2, y3)) 4 [(0, (.ref (qL 0))), (1, (.ref (qP 0))), (2, (.int y2)), (3, (.int y3))] [] [(0, qL, sL), (2, qP, sP)]) (hk_23 : ∀ (y2 : Int32) (y5 : Int32), zJ X 7 res (kc_23 (y2, y5)) 23 [(0, (.ref (qL 0))), (1, (.ref (qP 0))), (2, (.int y2)), (3, (.int x3)), (4, (.int x4)), (5, (.int y5))] [] [(0, qL, sL), (2, qP, sP)]) (x2 : Int32) (x5 : Int32) : zJ X 7 res (bX0_countOpens_23 F kc_4 x3 x4 sL sP kc_23 x2 x5) 23 [(0, (.ref (qL 0))), (1, (.ref (qP 0))), (2, (.int x2)), (3, (.int x3)), (4, (.int x4)), (5, (.int x5))] [] [(0, qL, sL), (2, qP, sP)] := by
  unfold bX0_countOpens_23
  refine z_iload (pc := 23) 5 rfl C dX0_countOpens_23 ?_
  refine z_iload_n (pc := 25) 3 rfl rfl C dX0_countOpens_25 ?_
  refine z_icmp_ge (pc := 26) 80 C dX0_countOpens_26 (by decide) ?_ ?_
  · refine z_iinc (pc := 80) (x3 + 1) 3 rfl rfl [(0, (.ref (qL 0))), (1, (.ref (qP 0))), (2, (.int x2)), (3, (.int (x3 + 1))), (4, (.int x4)), (5, (.int x5))] [1, 2, 3, 0, 4, 5] (by decide) rfl C dX0_countOpens_80 ?_
    refine z_goto (pc := 83) 4 C dX0_countOpens_83 (by decide) ?_
    refine z_lv [(0, (.ref (qL 0))), (1, (.ref (qP 0))), (2, (.int x2)), (3, (.int (x3 + 1)))] [0, 1, 2, 3] rfl ?_
    exact hk_4 _ _
  · refine z_iload (pc := 29) 4 rfl C dX0_countOpens_29 ?_
    refine z_iconst (pc := 31) (-1 : Int32) (by decide) C dX0_countOpens_31 ?_
    refine z_icmp_eq (pc := 32) 80 C dX0_countOpens_32 (by decide) ?_ ?_
    · refine z_iinc (pc := 80) (x3 + 1) 3 rfl rfl [(0, (.ref (qL 0))), (1, (.ref (qP 0))), (2, (.int x2)), (3, (.int (x3 + 1))), (4, (.int x4)), (5, (.int x5))] [1, 2, 3, 0, 4, 5] (by decide) rfl C dX0_countOpens_80 ?_
      refine z_goto (pc := 83) 4 C dX0_countOpens_83 (by decide) ?_
      refine z_lv [(0, (.ref (qL 0))), (1, (.ref (qP 0))), (2, (.int x2)), (3, (.int (x3 + 1)))] [0, 1, 2, 3] rfl ?_
      exact hk_4 _ _
    · refine z_aload_n (pc := 35) 0 rfl rfl C dX0_countOpens_35 ?_
      refine z_aload_n (pc := 36) 1 rfl rfl C dX0_countOpens_36 ?_
      refine z_iload (pc := 37) 5 rfl C dX0_countOpens_37 ?_
      refine z_callV (pc := 39) (rf' := 2) (rl' := 42) (fX0_pinNode F x5 sL sP) [(.ref (qP 0)), (.int x5)] [] [(0, qL, sL), (2, qP, sP)] (fun r_3 => (some (.int r_3))) (fun r_3 => [(0, qL, sL), (2, qP, sP)]) [] (fun r_3 => [(0, qL, sL), (2, qP, sP)]) C dX0_countOpens_39 zy_X0_pinNode zw_488 (fun _ hr9 => mX0_pinNode  hr9) (by decide) rfl rfl (by decide) rfl (Nat.le_of_ble_eq_true rfl) (List.Perm.refl _) (fun _ => List.Perm.refl _) rfl (fun r_3 hr_4 => ?_)
      show zJ X 7 res _ 42 [(0, (.ref (qL 0))), (1, (.ref (qP 0))), (2, (.int x2)), (3, (.int x3)), (4, (.int x4)), (5, (.int x5))] [(.int r_3)] [(0, qL, sL), (2, qP, sP)]
      refine z_istore (pc := 42) [(0, (.ref (qL 0))), (1, (.ref (qP 0))), (2, (.int x2)), (3, (.int x3)), (4, (.int x4)), (5, (.int x5)), (6, (.int r_3))] [1, 2, 3, 4, 5, 6, 0] (by decide) rfl C dX0_countOpens_42 ?_
      refine z_iload (pc := 44) 6 rfl C dX0_countOpens_44 ?_
      refine z_iconst (pc := 46) (-1 : Int32) (by decide) C dX0_countOpens_46 ?_
      refine z_icmp_eq (pc := 47) 74 C dX0_countOpens_47 (by decide) ?_ ?_
      · refine z_iinc (pc := 74) (x5 + 1) 5 rfl rfl [(0, (.ref (qL 0))), (1, (.ref (qP 0))), (2, (.int x2)), (3, (.int x3)), (4, (.int x4)), (5, (.int (x5 + 1))), (6, (.int r_3))] [1, 2, 3, 4, 5, 0, 6] (by decide) rfl C dX0_countOpens_74 ?_
        refine z_goto (pc := 77) 23 C dX0_countOpens_77 (by decide) ?_
        refine z_lv [(0, (.ref (qL 0))), (1, (.ref (qP 0))), (2, (.int x2)), (3, (.int x3)), (4, (.int x4)), (5, (.int (x5 + 1)))] [0, 1, 2, 3, 4, 5] rfl ?_
        exact hk_23 _ _
      · refine z_iload (pc := 50) 6 rfl C dX0_countOpens_50 ?_
        refine z_iload (pc := 52) 4 rfl C dX0_countOpens_52 ?_
        refine z_icmp_eq (pc := 54) 74 C dX0_countOpens_54 (by decide) ?_ ?_
        · refine z_iinc (pc := 74) (x5 + 1) 5 rfl rfl [(0, (.ref (qL 0))), (1, (.ref (qP 0))), (2, (.int x2)), (3, (.int x3)), (4, (.int x4)), (5, (.int (x5 + 1))), (6, (.int r_3))] [1, 2, 3, 4, 5, 0, 6] (by decide) rfl C dX0_countOpens_74 ?_
          refine z_goto (pc := 77) 23 C dX0_countOpens_77 (by decide) ?_
          refine z_lv [(0, (.ref (qL 0))), (1, (.ref (qP 0))), (2, (.int x2)), (3, (.int x3)), (4, (.int x4)), (5, (.int (x5 + 1)))] [0, 1, 2, 3, 4, 5] rfl ?_
          exact hk_23 _ _
        · refine z_aload_n (pc := 57) 1 rfl rfl C dX0_countOpens_57 ?_
          refine z_iload_n (pc := 58) 3 rfl rfl C dX0_countOpens_58 ?_
          refine z_callV (pc := 59) (rf' := 0) (rl' := 0) (fX2_pinNet x3 sP) [(.int x3)] [] [(2, qP, sP)] (fun r_5 => (some (.int r_5))) (fun r_5 => [(2, qP, sP)]) [(0, qL, sL)] (fun r_5 => [(0, qL, sL), (2, qP, sP)]) C dX0_countOpens_59 zy_X2_pinNet zw_496 (fun _ hr9 => mX2_pinNet  hr9) (by decide) rfl rfl (by decide) rfl (Nat.le_of_ble_eq_true rfl) (z_pm _ [1, 0] (by decide)).symm (fun _ => (z_pm _ [1, 0] (by decide)).symm) rfl (fun r_5 hr_6 => ?_)
          show zJ X 7 res _ 62 [(0, (.ref (qL 0))), (1, (.ref (qP 0))), (2, (.int x2)), (3, (.int x3)), (4, (.int x4)), (5, (.int x5)), (6, (.int r_3))] [(.int r_5)] [(0, qL, sL), (2, qP, sP)]
          refine z_aload_n (pc := 62) 1 rfl rfl C dX0_countOpens_62 ?_
          refine z_iload (pc := 63) 5 rfl C dX0_countOpens_63 ?_
          refine z_callV (pc := 65) (rf' := 0) (rl' := 0) (fX2_pinNet x5 sP) [(.int x5)] [(.int r_5)] [(2, qP, sP)] (fun r_7 => (some (.int r_7))) (fun r_7 => [(2, qP, sP)]) [(0, qL, sL)] (fun r_7 => [(0, qL, sL), (2, qP, sP)]) C dX0_countOpens_65 zy_X2_pinNet zw_496 (fun _ hr9 => mX2_pinNet  hr9) (by decide) rfl rfl (by decide) rfl (Nat.le_of_ble_eq_true rfl) (z_pm _ [1, 0] (by decide)).symm (fun _ => (z_pm _ [1, 0] (by decide)).symm) rfl (fun r_7 hr_8 => ?_)
          show zJ X 7 res _ 68 [(0, (.ref (qL 0))), (1, (.ref (qP 0))), (2, (.int x2)), (3, (.int x3)), (4, (.int x4)), (5, (.int x5)), (6, (.int r_3))] [(.int r_7), (.int r_5)] [(0, qL, sL), (2, qP, sP)]
          refine z_icmp_ne (pc := 68) 74 C dX0_countOpens_68 (by decide) ?_ ?_
          · refine z_iinc (pc := 71) (x2 + 1) 2 rfl rfl [(0, (.ref (qL 0))), (1, (.ref (qP 0))), (2, (.int (x2 + 1))), (3, (.int x3)), (4, (.int x4)), (5, (.int x5)), (6, (.int r_3))] [1, 2, 0, 3, 4, 5, 6] (by decide) rfl C dX0_countOpens_71 ?_
            refine z_iinc (pc := 74) (x5 + 1) 5 rfl rfl [(0, (.ref (qL 0))), (1, (.ref (qP 0))), (2, (.int (x2 + 1))), (3, (.int x3)), (4, (.int x4)), (5, (.int (x5 + 1))), (6, (.int r_3))] [1, 2, 3, 4, 5, 0, 6] (by decide) rfl C dX0_countOpens_74 ?_
            refine z_goto (pc := 77) 23 C dX0_countOpens_77 (by decide) ?_
            refine z_lv [(0, (.ref (qL 0))), (1, (.ref (qP 0))), (2, (.int (x2 + 1))), (3, (.int x3)), (4, (.int x4)), (5, (.int (x5 + 1)))] [0, 1, 2, 3, 4, 5] rfl ?_
            exact hk_23 _ _
          · refine z_iinc (pc := 74) (x5 + 1) 5 rfl rfl [(0, (.ref (qL 0))), (1, (.ref (qP 0))), (2, (.int x2)), (3, (.int x3)), (4, (.int x4)), (5, (.int (x5 + 1))), (6, (.int r_3))] [1, 2, 3, 4, 5, 0, 6] (by decide) rfl C dX0_countOpens_74 ?_
            refine z_goto (pc := 77) 23 C dX0_countOpens_77 (by decide) ?_
            refine z_lv [(0, (.ref (qL 0))), (1, (.ref (qP 0))), (2, (.int x2)), (3, (.int x3)), (4, (.int x4)), (5, (.int (x5 + 1)))] [0, 1, 2, 3, 4, 5] rfl ?_
            exact hk_23 _ _
def bX0_countOpens_4 (F : Nat) (sL : zOS) (sP : zOS) (kc_4 : (Int32 × Int32) → Option (Int32)) (x2 : Int32) (x3 : Int32) : Option (Int32) := (if (zF sP 4) ≤ x3 then (some (x2)) else (Option.bind (fX0_pinNode F x3 sL sP) (fun r_1 : Int32 => (zit (P := Int32 × Int32) (R := Int32) (fun kc9 p9 => bX0_countOpens_23 F kc_4 x3 r_1 sL sP kc9 p9.1 p9.2) F (x2, (0 : Int32))))))
set_option maxRecDepth 20000 in
theorem vX0_countOpens_4 {X : zCx} {res : Int32} {F : Nat} {qL : Nat → Nat} {qP : Nat → Nat} {sL : zOS} {sP : zOS} {kc_4 : (Int32 × Int32) → Option (Int32)} (C : zC X RX0 cX0_countOpens 7 3 64) (hR : zR X (some .int) (some (.int res)) [(0, qL, sL), (2, qP, sP)]) (hk_4 : ∀ (y2 : Int32) (y3 : Int32), zJ X 7 res (kc_4 (y2, y3)) 4 [(0, (.ref (qL 0))), (1, (.ref (qP 0))), (2, (.int y2)), (3, (.int y3))] [] [(0, qL, sL), (2, qP, sP)]) (x2 : Int32) (x3 : Int32) : zJ X 7 res (bX0_countOpens_4 F sL sP kc_4 x2 x3) 4 [(0, (.ref (qL 0))), (1, (.ref (qP 0))), (2, (.int x2)), (3, (.int x3))] [] [(0, qL, sL), (2, qP, sP)] := by
  unfold bX0_countOpens_4
  refine z_iload_n (pc := 4) 3 rfl rfl C dX0_countOpens_4 ?_
  refine z_aload_n (pc := 5) 1 rfl rfl C dX0_countOpens_5 ?_
  refine z_getI (pc := 6) 1 4 C dX0_countOpens_6 rfl (by decide) (by decide) rfl zw_113 ?_
  refine z_icmp_ge (pc := 9) 86 C dX0_countOpens_9 (by decide) ?_ ?_
  · refine z_iload_n (pc := 86) 2 rfl rfl C dX0_countOpens_86 ?_
    exact z_ireturn (pc := 87) C hR dX0_countOpens_87 (fun h => by subst h; exact ⟨rfl, rfl⟩)
  · refine z_aload_n (pc := 12) 0 rfl rfl C dX0_countOpens_12 ?_
    refine z_aload_n (pc := 13) 1 rfl rfl C dX0_countOpens_13 ?_
    refine z_iload_n (pc := 14) 3 rfl rfl C dX0_countOpens_14 ?_
    refine z_callV (pc := 15) (rf' := 2) (rl' := 42) (fX0_pinNode F x3 sL sP) [(.ref (qP 0)), (.int x3)] [] [(0, qL, sL), (2, qP, sP)] (fun r_1 => (some (.int r_1))) (fun r_1 => [(0, qL, sL), (2, qP, sP)]) [] (fun r_1 => [(0, qL, sL), (2, qP, sP)]) C dX0_countOpens_15 zy_X0_pinNode zw_488 (fun _ hr9 => mX0_pinNode  hr9) (by decide) rfl rfl (by decide) rfl (Nat.le_of_ble_eq_true rfl) (List.Perm.refl _) (fun _ => List.Perm.refl _) rfl (fun r_1 hr_2 => ?_)
    show zJ X 7 res _ 18 [(0, (.ref (qL 0))), (1, (.ref (qP 0))), (2, (.int x2)), (3, (.int x3))] [(.int r_1)] [(0, qL, sL), (2, qP, sP)]
    refine z_istore (pc := 18) [(0, (.ref (qL 0))), (1, (.ref (qP 0))), (2, (.int x2)), (3, (.int x3)), (4, (.int r_1))] [1, 2, 3, 4, 0] (by decide) rfl C dX0_countOpens_18 ?_
    refine z_iconst (pc := 20) (0 : Int32) (by decide) C dX0_countOpens_20 ?_
    refine z_istore (pc := 21) [(0, (.ref (qL 0))), (1, (.ref (qP 0))), (2, (.int x2)), (3, (.int x3)), (4, (.int r_1)), (5, (.int (0 : Int32)))] [1, 2, 3, 4, 5, 0] (by decide) rfl C dX0_countOpens_21 ?_
    exact zit_J (fun p9 => [(0, (.ref (qL 0))), (1, (.ref (qP 0))), (2, (.int p9.1)), (3, (.int x3)), (4, (.int r_1)), (5, (.int p9.2))]) (fun p9 => [(0, qL, sL), (2, qP, sP)]) (fun kc9 hk9 p9 => vX0_countOpens_23 C hR  hk_4 (fun a0 a1 => hk9 (a0, a1)) _ _) F _
def fX0_countOpens (F : Nat) (sL : zOS) (sP : zOS) : Option (Int32) := (zit (P := Int32 × Int32) (R := Int32) (fun kc9 p9 => bX0_countOpens_4 F sL sP kc9 p9.1 p9.2) F ((0 : Int32), (1 : Int32)))
set_option maxRecDepth 20000 in
theorem wX0_countOpens {X : zCx} {res : Int32} {F : Nat} {qL : Nat → Nat} {qP : Nat → Nat} {sL : zOS} {sP : zOS} (C : zC X RX0 cX0_countOpens 7 3 64) (hR : zR X (some .int) (some (.int res)) [(0, qL, sL), (2, qP, sP)])  : zJ X 7 res (fX0_countOpens F sL sP) 0 [(0, (.ref (qL 0))), (1, (.ref (qP 0)))] [] [(0, qL, sL), (2, qP, sP)] := by
  unfold fX0_countOpens
  refine z_iconst (pc := 0) (0 : Int32) (by decide) C dX0_countOpens_0 ?_
  refine z_istore_n (pc := 1) [(0, (.ref (qL 0))), (1, (.ref (qP 0))), (2, (.int (0 : Int32)))] [1, 2, 0] (by decide) rfl rfl C dX0_countOpens_1 ?_
  refine z_iconst (pc := 2) (1 : Int32) (by decide) C dX0_countOpens_2 ?_
  refine z_istore_n (pc := 3) [(0, (.ref (qL 0))), (1, (.ref (qP 0))), (2, (.int (0 : Int32))), (3, (.int (1 : Int32)))] [1, 2, 3, 0] (by decide) rfl rfl C dX0_countOpens_3 ?_
  exact zit_J (fun p9 => [(0, (.ref (qL 0))), (1, (.ref (qP 0))), (2, (.int p9.1)), (3, (.int p9.2))]) (fun p9 => [(0, qL, sL), (2, qP, sP)]) (fun kc9 hk9 p9 => vX0_countOpens_4 C hR   (fun a0 a1 => hk9 (a0, a1)) _ _) F _
theorem mX0_countOpens {F : Nat} {qL : Nat → Nat} {qP : Nat → Nat} {sL : zOS} {sP : zOS} {res : Int32}  (hf : fX0_countOpens F sL sP = some res) : zM yX0_countOpens cX0_countOpens 7 (some .int) 3 64 [(.ref (qL 0)), (.ref (qP 0))] [(0, qL, sL), (2, qP, sP)] (some (.int res)) [(0, qL, sL), (2, qP, sP)] := zM_of (by decide +kernel) (Nat.le_of_ble_eq_true rfl) (fun X C hR => wX0_countOpens (F := F) C hR  hf)
theorem dX0_tellGate_0 : decode cX0_tellGate 0 = .ok (.iload_n 2, 1) := by decide +kernel
theorem dX0_tellGate_1 : decode cX0_tellGate 1 = .ok (.tableswitch 73 0 4 #[35, 42, 49, 56, 66], 35) := by decide +kernel
theorem dX0_tellGate_36 : decode cX0_tellGate 36 = .ok (.aload_n 0, 1) := by decide +kernel
theorem dX0_tellGate_37 : decode cX0_tellGate 37 = .ok (.getfield 39, 3) := by decide +kernel
theorem dX0_tellGate_40 : decode cX0_tellGate 40 = .ok (.iload_n 1, 1) := by decide +kernel
theorem dX0_tellGate_41 : decode cX0_tellGate 41 = .ok (.iaload, 1) := by decide +kernel
theorem dX0_tellGate_42 : decode cX0_tellGate 42 = .ok (.ireturn, 1) := by decide +kernel
theorem dX0_tellGate_43 : decode cX0_tellGate 43 = .ok (.aload_n 0, 1) := by decide +kernel
theorem dX0_tellGate_44 : decode cX0_tellGate 44 = .ok (.getfield 42, 3) := by decide +kernel
theorem dX0_tellGate_47 : decode cX0_tellGate 47 = .ok (.iload_n 1, 1) := by decide +kernel
theorem dX0_tellGate_48 : decode cX0_tellGate 48 = .ok (.iaload, 1) := by decide +kernel
theorem dX0_tellGate_49 : decode cX0_tellGate 49 = .ok (.ireturn, 1) := by decide +kernel
theorem dX0_tellGate_50 : decode cX0_tellGate 50 = .ok (.aload_n 0, 1) := by decide +kernel
theorem dX0_tellGate_51 : decode cX0_tellGate 51 = .ok (.getfield 45, 3) := by decide +kernel
theorem dX0_tellGate_54 : decode cX0_tellGate 54 = .ok (.iload_n 1, 1) := by decide +kernel
theorem dX0_tellGate_55 : decode cX0_tellGate 55 = .ok (.iaload, 1) := by decide +kernel
theorem dX0_tellGate_56 : decode cX0_tellGate 56 = .ok (.ireturn, 1) := by decide +kernel
theorem dX0_tellGate_57 : decode cX0_tellGate 57 = .ok (.aload_n 0, 1) := by decide +kernel
theorem dX0_tellGate_58 : decode cX0_tellGate 58 = .ok (.getfield 36, 3) := by decide +kernel
theorem dX0_tellGate_61 : decode cX0_tellGate 61 = .ok (.iload_n 1, 1) := by decide +kernel
theorem dX0_tellGate_62 : decode cX0_tellGate 62 = .ok (.laload, 1) := by decide +kernel
theorem dX0_tellGate_63 : decode cX0_tellGate 63 = .ok (.invokestatic 110, 3) := by decide +kernel
theorem dX0_tellGate_66 : decode cX0_tellGate 66 = .ok (.ireturn, 1) := by decide +kernel
theorem dX0_tellGate_67 : decode cX0_tellGate 67 = .ok (.aload_n 0, 1) := by decide +kernel
theorem dX0_tellGate_68 : decode cX0_tellGate 68 = .ok (.getfield 48, 3) := by decide +kernel
theorem dX0_tellGate_71 : decode cX0_tellGate 71 = .ok (.iload_n 1, 1) := by decide +kernel
theorem dX0_tellGate_72 : decode cX0_tellGate 72 = .ok (.iaload, 1) := by decide +kernel
theorem dX0_tellGate_73 : decode cX0_tellGate 73 = .ok (.ireturn, 1) := by decide +kernel
theorem dX0_tellGate_74 : decode cX0_tellGate 74 = .ok (.aload_n 0, 1) := by decide +kernel
theorem dX0_tellGate_75 : decode cX0_tellGate 75 = .ok (.getfield 36, 3) := by decide +kernel
theorem dX0_tellGate_78 : decode cX0_tellGate 78 = .ok (.iload_n 1, 1) := by decide +kernel
theorem dX0_tellGate_79 : decode cX0_tellGate 79 = .ok (.laload, 1) := by decide +kernel
theorem dX0_tellGate_80 : decode cX0_tellGate 80 = .ok (.invokestatic 116, 3) := by decide +kernel
theorem dX0_tellGate_83 : decode cX0_tellGate 83 = .ok (.ireturn, 1) := by decide +kernel
def fX0_tellGate (x1 : Int32) (x2 : Int32) (sL : zOS) : Option (Int32) := (if x2 = (0 : Int32) then (zchk x1 32 (some (zI sL 9 x1.toNatClampNeg))) else (if x2 = (1 : Int32) then (zchk x1 32 (some (zI sL 10 x1.toNatClampNeg))) else (if x2 = (2 : Int32) then (zchk x1 32 (some (zI sL 11 x1.toNatClampNeg))) else (if x2 = (3 : Int32) then (zchk x1 32 (Option.bind (fJ13_bitCount_95d88 (zL sL 8 x1.toNatClampNeg)) (fun r_5 : Int32 => (some (r_5))))) else (if x2 = (4 : Int32) then (zchk x1 32 (some (zI sL 12 x1.toNatClampNeg))) else (zchk x1 32 (Option.bind (fJ13_numberOfTrailingZeros_95d88 (zL sL 8 x1.toNatClampNeg)) (fun r_8 : Int32 => (some (r_8))))))))))
set_option maxRecDepth 20000 in
theorem wX0_tellGate {X : zCx} {res : Int32}  {qL : Nat → Nat} {x1 : Int32} {x2 : Int32} {sL : zOS} (C : zC X RX0 cX0_tellGate 3 2 43) (hR : zR X (some .int) (some (.int res)) [(0, qL, sL)])  : zJ X 3 res (fX0_tellGate x1 x2 sL) 0 [(0, (.ref (qL 0))), (1, (.int x1)), (2, (.int x2))] [] [(0, qL, sL)] := by
  unfold fX0_tellGate
  refine z_iload_n (pc := 0) 2 rfl rfl C dX0_tellGate_0 ?_
  refine z_if (fun hx_1 => ?_) (fun hx_1 => ?_)
  · refine z_tin (pc := 1) (0 : Int32) 36 hx_1 C dX0_tellGate_1 (by decide) (by decide) rfl (by decide) ?_
    refine z_aload_n (pc := 36) 0 rfl rfl C dX0_tellGate_36 ?_
    refine z_getR (pc := 37) 0 8 9 C dX0_tellGate_37 rfl (by decide) (by decide) rfl zw_146 ?_
    refine z_iload_n (pc := 40) 1 rfl rfl C dX0_tellGate_40 ?_
    refine z_iald (pc := 41) 0 C dX0_tellGate_41 rfl (by unfold zAr; decide) ?_
    exact z_ireturn (pc := 42) C hR dX0_tellGate_42 (fun h => by subst h; exact ⟨rfl, rfl⟩)
  · refine z_if (fun hx_2 => ?_) (fun hx_2 => ?_)
    · refine z_tin (pc := 1) (1 : Int32) 43 hx_2 C dX0_tellGate_1 (by decide) (by decide) rfl (by decide) ?_
      refine z_aload_n (pc := 43) 0 rfl rfl C dX0_tellGate_43 ?_
      refine z_getR (pc := 44) 0 9 10 C dX0_tellGate_44 rfl (by decide) (by decide) rfl zw_148 ?_
      refine z_iload_n (pc := 47) 1 rfl rfl C dX0_tellGate_47 ?_
      refine z_iald (pc := 48) 0 C dX0_tellGate_48 rfl (by unfold zAr; decide) ?_
      exact z_ireturn (pc := 49) C hR dX0_tellGate_49 (fun h => by subst h; exact ⟨rfl, rfl⟩)
    · refine z_if (fun hx_3 => ?_) (fun hx_3 => ?_)
      · refine z_tin (pc := 1) (2 : Int32) 50 hx_3 C dX0_tellGate_1 (by decide) (by decide) rfl (by decide) ?_
        refine z_aload_n (pc := 50) 0 rfl rfl C dX0_tellGate_50 ?_
        refine z_getR (pc := 51) 0 10 11 C dX0_tellGate_51 rfl (by decide) (by decide) rfl zw_150 ?_
        refine z_iload_n (pc := 54) 1 rfl rfl C dX0_tellGate_54 ?_
        refine z_iald (pc := 55) 0 C dX0_tellGate_55 rfl (by unfold zAr; decide) ?_
        exact z_ireturn (pc := 56) C hR dX0_tellGate_56 (fun h => by subst h; exact ⟨rfl, rfl⟩)
      · refine z_if (fun hx_4 => ?_) (fun hx_4 => ?_)
        · refine z_tin (pc := 1) (3 : Int32) 57 hx_4 C dX0_tellGate_1 (by decide) (by decide) rfl (by decide) ?_
          refine z_aload_n (pc := 57) 0 rfl rfl C dX0_tellGate_57 ?_
          refine z_getR (pc := 58) 0 7 8 C dX0_tellGate_58 rfl (by decide) (by decide) rfl zw_145 ?_
          refine z_iload_n (pc := 61) 1 rfl rfl C dX0_tellGate_61 ?_
          refine z_lald (pc := 62) 0 C dX0_tellGate_62 rfl (by unfold zAr; decide) ?_
          refine z_callS (pc := 63) (rf' := 0) (rl' := 0) (fJ13_bitCount_95d88 (zL sL 8 x1.toNatClampNeg)) [(.long (zL sL 8 x1.toNatClampNeg))] [] [] (fun r_5 => (some (.int r_5))) (fun r_5 => []) [(0, qL, sL)] (fun r_5 => [(0, qL, sL)]) C dX0_tellGate_63 zy_J13_bitCount_95d88 zw_594 (fun _ hr9 => mJ13_bitCount_95d88  hr9) (by decide) rfl (Nat.le_of_ble_eq_true rfl) (List.Perm.refl _) (fun _ => List.Perm.refl _) rfl (fun r_5 hr_6 => ?_)
          show zJ X 3 res _ 66 [(0, (.ref (qL 0))), (1, (.int x1)), (2, (.int x2))] [(.int r_5)] [(0, qL, sL)]
          exact z_ireturn (pc := 66) C hR dX0_tellGate_66 (fun h => by subst h; exact ⟨rfl, rfl⟩)
        · refine z_if (fun hx_7 => ?_) (fun hx_7 => ?_)
          · refine z_tin (pc := 1) (4 : Int32) 67 hx_7 C dX0_tellGate_1 (by decide) (by decide) rfl (by decide) ?_
            refine z_aload_n (pc := 67) 0 rfl rfl C dX0_tellGate_67 ?_
            refine z_getR (pc := 68) 0 11 12 C dX0_tellGate_68 rfl (by decide) (by decide) rfl zw_152 ?_
            refine z_iload_n (pc := 71) 1 rfl rfl C dX0_tellGate_71 ?_
            refine z_iald (pc := 72) 0 C dX0_tellGate_72 rfl (by unfold zAr; decide) ?_
            exact z_ireturn (pc := 73) C hR dX0_tellGate_73 (fun h => by subst h; exact ⟨rfl, rfl⟩)
          · refine z_tdef (pc := 1) [(0 : Int32), (1 : Int32), (2 : Int32), (3 : Int32), (4 : Int32)] 74 (by intro v hv; simp only [List.mem_cons, List.not_mem_nil, or_false] at hv; rcases hv with rfl | rfl | rfl | rfl | rfl <;> assumption) C dX0_tellGate_1 (by decide) (by decide) ?_
            refine z_aload_n (pc := 74) 0 rfl rfl C dX0_tellGate_74 ?_
            refine z_getR (pc := 75) 0 7 8 C dX0_tellGate_75 rfl (by decide) (by decide) rfl zw_145 ?_
            refine z_iload_n (pc := 78) 1 rfl rfl C dX0_tellGate_78 ?_
            refine z_lald (pc := 79) 0 C dX0_tellGate_79 rfl (by unfold zAr; decide) ?_
            refine z_callS (pc := 80) (rf' := 1) (rl' := 21) (fJ13_numberOfTrailingZeros_95d88 (zL sL 8 x1.toNatClampNeg)) [(.long (zL sL 8 x1.toNatClampNeg))] [] [] (fun r_8 => (some (.int r_8))) (fun r_8 => []) [(0, qL, sL)] (fun r_8 => [(0, qL, sL)]) C dX0_tellGate_80 zy_J13_numberOfTrailingZeros_95d88 zw_595 (fun _ hr9 => mJ13_numberOfTrailingZeros_95d88  hr9) (by decide) rfl (Nat.le_of_ble_eq_true rfl) (List.Perm.refl _) (fun _ => List.Perm.refl _) rfl (fun r_8 hr_9 => ?_)
            show zJ X 3 res _ 83 [(0, (.ref (qL 0))), (1, (.int x1)), (2, (.int x2))] [(.int r_8)] [(0, qL, sL)]
            exact z_ireturn (pc := 83) C hR dX0_tellGate_83 (fun h => by subst h; exact ⟨rfl, rfl⟩)
theorem mX0_tellGate  {qL : Nat → Nat} {x1 : Int32} {x2 : Int32} {sL : zOS} {res : Int32}  (hf : fX0_tellGate x1 x2 sL = some res) : zM yX0_tellGate cX0_tellGate 3 (some .int) 2 43 [(.ref (qL 0)), (.int x1), (.int x2)] [(0, qL, sL)] (some (.int res)) [(0, qL, sL)] := zM_of (by decide +kernel) (Nat.le_of_ble_eq_true rfl) (fun X C hR => wX0_tellGate C hR  hf)
theorem dX0_sizeOf_0 : decode cX0_sizeOf 0 = .ok (.iconst 0, 1) := by decide +kernel
theorem dX0_sizeOf_1 : decode cX0_sizeOf 1 = .ok (.istore_n 2, 1) := by decide +kernel
theorem dX0_sizeOf_2 : decode cX0_sizeOf 2 = .ok (.iconst 0, 1) := by decide +kernel
theorem dX0_sizeOf_3 : decode cX0_sizeOf 3 = .ok (.istore_n 3, 1) := by decide +kernel
theorem dX0_sizeOf_4 : decode cX0_sizeOf 4 = .ok (.iload_n 3, 1) := by decide +kernel
theorem dX0_sizeOf_5 : decode cX0_sizeOf 5 = .ok (.iconst 3, 1) := by decide +kernel
theorem dX0_sizeOf_6 : decode cX0_sizeOf 6 = .ok (.if_icmp .ge 23, 3) := by decide +kernel
theorem dX0_sizeOf_9 : decode cX0_sizeOf 9 = .ok (.iload_n 2, 1) := by decide +kernel
theorem dX0_sizeOf_10 : decode cX0_sizeOf 10 = .ok (.aload_n 0, 1) := by decide +kernel
theorem dX0_sizeOf_11 : decode cX0_sizeOf 11 = .ok (.getfield 30, 3) := by decide +kernel
theorem dX0_sizeOf_14 : decode cX0_sizeOf 14 = .ok (.iload_n 3, 1) := by decide +kernel
theorem dX0_sizeOf_15 : decode cX0_sizeOf 15 = .ok (.aaload, 1) := by decide +kernel
theorem dX0_sizeOf_16 : decode cX0_sizeOf 16 = .ok (.iload_n 1, 1) := by decide +kernel
theorem dX0_sizeOf_17 : decode cX0_sizeOf 17 = .ok (.laload, 1) := by decide +kernel
theorem dX0_sizeOf_18 : decode cX0_sizeOf 18 = .ok (.invokestatic 110, 3) := by decide +kernel
theorem dX0_sizeOf_21 : decode cX0_sizeOf 21 = .ok (.iadd, 1) := by decide +kernel
theorem dX0_sizeOf_22 : decode cX0_sizeOf 22 = .ok (.istore_n 2, 1) := by decide +kernel
theorem dX0_sizeOf_23 : decode cX0_sizeOf 23 = .ok (.iinc 3 1, 3) := by decide +kernel
theorem dX0_sizeOf_26 : decode cX0_sizeOf 26 = .ok (.goto (-22), 3) := by decide +kernel
theorem dX0_sizeOf_29 : decode cX0_sizeOf 29 = .ok (.iload_n 2, 1) := by decide +kernel
theorem dX0_sizeOf_30 : decode cX0_sizeOf 30 = .ok (.ireturn, 1) := by decide +kernel
def bX0_sizeOf_4 (F : Nat) (x1 : Int32) (sL : zOS) (kc_4 : (Int32 × Int32) → Option (Int32)) (x2 : Int32) (x3 : Int32) : Option (Int32) := (if (3 : Int32) ≤ x3 then (some (x2)) else (zchk x3 3 (zchk x1 96 (Option.bind (fJ13_bitCount_95d88 (zL sL (zbs 0 + x3.toNatClampNeg) x1.toNatClampNeg)) (fun r_2 : Int32 => (zlet (x2 + r_2) (fun x2_4 : Int32 => (kc_4 (x2_4, (x3 + 1))))))))))
set_option maxRecDepth 20000 in
theorem vX0_sizeOf_4 {X : zCx} {res : Int32} {F : Nat} {qL : Nat → Nat} {sL : zOS} {x1 : Int32} {kc_4 : (Int32 × Int32) → Option (Int32)} (C : zC X RX0 cX0_sizeOf 4 1 21) (hR : zR X (some .int) (some (.int res)) [(0, qL, sL)]) (hk_4 : ∀ (y2 : Int32) (y3 : Int32), zJ X 4 res (kc_4 (y2, y3)) 4 [(0, (.ref (qL 0))), (1, (.int x1)), (2, (.int y2)), (3, (.int y3))] [] [(0, qL, sL)]) (x2 : Int32) (x3 : Int32) : zJ X 4 res (bX0_sizeOf_4 F x1 sL kc_4 x2 x3) 4 [(0, (.ref (qL 0))), (1, (.int x1)), (2, (.int x2)), (3, (.int x3))] [] [(0, qL, sL)] := by
  unfold bX0_sizeOf_4
  refine z_iload_n (pc := 4) 3 rfl rfl C dX0_sizeOf_4 ?_
  refine z_iconst (pc := 5) (3 : Int32) (by decide) C dX0_sizeOf_5 ?_
  refine z_icmp_ge (pc := 6) 29 C dX0_sizeOf_6 (by decide) ?_ ?_
  · refine z_iload_n (pc := 29) 2 rfl rfl C dX0_sizeOf_29 ?_
    exact z_ireturn (pc := 30) C hR dX0_sizeOf_30 (fun h => by subst h; exact ⟨rfl, rfl⟩)
  · refine z_iload_n (pc := 9) 2 rfl rfl C dX0_sizeOf_9 ?_
    refine z_aload_n (pc := 10) 0 rfl rfl C dX0_sizeOf_10 ?_
    refine z_getR (pc := 11) 0 5 6 C dX0_sizeOf_11 rfl (by decide) (by decide) rfl zw_143 ?_
    refine z_iload_n (pc := 14) 3 rfl rfl C dX0_sizeOf_14 ?_
    refine z_aal (pc := 15) 0 C dX0_sizeOf_15 rfl (by unfold zAr; decide) (by decide) (fun hi_1 => ?_)
    refine z_iload_n (pc := 16) 1 rfl rfl C dX0_sizeOf_16 ?_
    refine z_lald (pc := 17) 0 C dX0_sizeOf_17 rfl (zAr_w hi_1) ?_
    refine z_callS (pc := 18) (rf' := 0) (rl' := 0) (fJ13_bitCount_95d88 (zL sL (zbs 0 + x3.toNatClampNeg) x1.toNatClampNeg)) [(.long (zL sL (zbs 0 + x3.toNatClampNeg) x1.toNatClampNeg))] [(.int x2)] [] (fun r_2 => (some (.int r_2))) (fun r_2 => []) [(0, qL, sL)] (fun r_2 => [(0, qL, sL)]) C dX0_sizeOf_18 zy_J13_bitCount_95d88 zw_594 (fun _ hr9 => mJ13_bitCount_95d88  hr9) (by decide) rfl (Nat.le_of_ble_eq_true rfl) (List.Perm.refl _) (fun _ => List.Perm.refl _) rfl (fun r_2 hr_3 => ?_)
    show zJ X 4 res _ 21 [(0, (.ref (qL 0))), (1, (.int x1)), (2, (.int x2)), (3, (.int x3))] [(.int r_2), (.int x2)] [(0, qL, sL)]
    refine z_iadd (pc := 21) C dX0_sizeOf_21 ?_
    refine z_leti (fun x2_4 => ?_)
    refine z_istore_n (pc := 22) [(0, (.ref (qL 0))), (1, (.int x1)), (2, (.int x2_4)), (3, (.int x3))] [1, 2, 0, 3] (by decide) rfl rfl C dX0_sizeOf_22 ?_
    refine z_iinc (pc := 23) (x3 + 1) 3 rfl rfl [(0, (.ref (qL 0))), (1, (.int x1)), (2, (.int x2_4)), (3, (.int (x3 + 1)))] [1, 2, 3, 0] (by decide) rfl C dX0_sizeOf_23 ?_
    refine z_goto (pc := 26) 4 C dX0_sizeOf_26 (by decide) ?_
    exact hk_4 _ _
def fX0_sizeOf (F : Nat) (x1 : Int32) (sL : zOS) : Option (Int32) := (zit (P := Int32 × Int32) (R := Int32) (fun kc9 p9 => bX0_sizeOf_4 F x1 sL kc9 p9.1 p9.2) F ((0 : Int32), (0 : Int32)))
set_option maxRecDepth 20000 in
theorem wX0_sizeOf {X : zCx} {res : Int32} {F : Nat} {qL : Nat → Nat} {x1 : Int32} {sL : zOS} (C : zC X RX0 cX0_sizeOf 4 1 21) (hR : zR X (some .int) (some (.int res)) [(0, qL, sL)])  : zJ X 4 res (fX0_sizeOf F x1 sL) 0 [(0, (.ref (qL 0))), (1, (.int x1))] [] [(0, qL, sL)] := by
  unfold fX0_sizeOf
  refine z_iconst (pc := 0) (0 : Int32) (by decide) C dX0_sizeOf_0 ?_
  refine z_istore_n (pc := 1) [(0, (.ref (qL 0))), (1, (.int x1)), (2, (.int (0 : Int32)))] [1, 2, 0] (by decide) rfl rfl C dX0_sizeOf_1 ?_
  refine z_iconst (pc := 2) (0 : Int32) (by decide) C dX0_sizeOf_2 ?_
  refine z_istore_n (pc := 3) [(0, (.ref (qL 0))), (1, (.int x1)), (2, (.int (0 : Int32))), (3, (.int (0 : Int32)))] [1, 2, 3, 0] (by decide) rfl rfl C dX0_sizeOf_3 ?_
  exact zit_J (fun p9 => [(0, (.ref (qL 0))), (1, (.int x1)), (2, (.int p9.1)), (3, (.int p9.2))]) (fun p9 => [(0, qL, sL)]) (fun kc9 hk9 p9 => vX0_sizeOf_4 C hR   (fun a0 a1 => hk9 (a0, a1)) _ _) F _
theorem mX0_sizeOf {F : Nat} {qL : Nat → Nat} {x1 : Int32} {sL : zOS} {res : Int32}  (hf : fX0_sizeOf F x1 sL = some res) : zM yX0_sizeOf cX0_sizeOf 4 (some .int) 1 21 [(.ref (qL 0)), (.int x1)] [(0, qL, sL)] (some (.int res)) [(0, qL, sL)] := zM_of (by decide +kernel) (Nat.le_of_ble_eq_true rfl) (fun X C hR => wX0_sizeOf (F := F) C hR  hf)
theorem dX0_hangOf_0 : decode cX0_hangOf 0 = .ok (.iload_n 1, 1) := by decide +kernel
theorem dX0_hangOf_1 : decode cX0_hangOf 1 = .ok (.aload_n 0, 1) := by decide +kernel
theorem dX0_hangOf_2 : decode cX0_hangOf 2 = .ok (.getfield 55, 3) := by decide +kernel
theorem dX0_hangOf_5 : decode cX0_hangOf 5 = .ok (.invokestatic 131, 3) := by decide +kernel
theorem dX0_hangOf_8 : decode cX0_hangOf 8 = .ok (.ifCond .eq 12, 3) := by decide +kernel
theorem dX0_hangOf_11 : decode cX0_hangOf 11 = .ok (.aload_n 0, 1) := by decide +kernel
theorem dX0_hangOf_12 : decode cX0_hangOf 12 = .ok (.getfield 33, 3) := by decide +kernel
theorem dX0_hangOf_15 : decode cX0_hangOf 15 = .ok (.iload_n 1, 1) := by decide +kernel
theorem dX0_hangOf_16 : decode cX0_hangOf 16 = .ok (.iaload, 1) := by decide +kernel
theorem dX0_hangOf_17 : decode cX0_hangOf 17 = .ok (.goto 4, 3) := by decide +kernel
theorem dX0_hangOf_20 : decode cX0_hangOf 20 = .ok (.iconst 0, 1) := by decide +kernel
theorem dX0_hangOf_21 : decode cX0_hangOf 21 = .ok (.ireturn, 1) := by decide +kernel
def fX0_hangOf (x1 : Int32) (sL : zOS) : Option (Int32) := (Option.bind (fX4_isWithin x1 (zF sL 13)) (fun r_1 : Int32 => (if r_1 = 0 then (some ((0 : Int32))) else (zchk x1 96 (some (zI sL 7 x1.toNatClampNeg))))))
set_option maxRecDepth 20000 in
theorem wX0_hangOf {X : zCx} {res : Int32}  {qL : Nat → Nat} {x1 : Int32} {sL : zOS} (C : zC X RX0 cX0_hangOf 2 1 21) (hR : zR X (some .int) (some (.int res)) [(0, qL, sL)])  : zJ X 2 res (fX0_hangOf x1 sL) 0 [(0, (.ref (qL 0))), (1, (.int x1))] [] [(0, qL, sL)] := by
  unfold fX0_hangOf
  refine z_iload_n (pc := 0) 1 rfl rfl C dX0_hangOf_0 ?_
  refine z_aload_n (pc := 1) 0 rfl rfl C dX0_hangOf_1 ?_
  refine z_getI (pc := 2) 0 13 C dX0_hangOf_2 rfl (by decide) (by decide) rfl zw_155 ?_
  refine z_callN (pc := 5) (rf' := 0) (rl' := 0) (fX4_isWithin x1 (zF sL 13)) [(.int x1), (.int (zF sL 13))] [] (fun r_1 => (some (.int r_1))) C dX0_hangOf_5 zy_X4_isWithin (fun U h => h.2.2.2) (fun _ hr9 => mX4_isWithin  hr9) (by decide) rfl (Nat.le_of_ble_eq_true rfl) rfl (fun r_1 hr_2 => ?_)
  show zJ X 2 res _ 8 [(0, (.ref (qL 0))), (1, (.int x1))] [(.int r_1)] [(0, qL, sL)]
  refine z_if_eq (pc := 8) 20 C dX0_hangOf_8 (by decide) ?_ ?_
  · refine z_iconst (pc := 20) (0 : Int32) (by decide) C dX0_hangOf_20 ?_
    exact z_ireturn (pc := 21) C hR dX0_hangOf_21 (fun h => by subst h; exact ⟨rfl, rfl⟩)
  · refine z_aload_n (pc := 11) 0 rfl rfl C dX0_hangOf_11 ?_
    refine z_getR (pc := 12) 0 6 7 C dX0_hangOf_12 rfl (by decide) (by decide) rfl zw_144 ?_
    refine z_iload_n (pc := 15) 1 rfl rfl C dX0_hangOf_15 ?_
    refine z_iald (pc := 16) 0 C dX0_hangOf_16 rfl (by unfold zAr; decide) ?_
    refine z_goto (pc := 17) 21 C dX0_hangOf_17 (by decide) ?_
    exact z_ireturn (pc := 21) C hR dX0_hangOf_21 (fun h => by subst h; exact ⟨rfl, rfl⟩)
theorem mX0_hangOf  {qL : Nat → Nat} {x1 : Int32} {sL : zOS} {res : Int32}  (hf : fX0_hangOf x1 sL = some res) : zM yX0_hangOf cX0_hangOf 2 (some .int) 1 21 [(.ref (qL 0)), (.int x1)] [(0, qL, sL)] (some (.int res)) [(0, qL, sL)] := zM_of (by decide +kernel) (Nat.le_of_ble_eq_true rfl) (fun X C hR => wX0_hangOf C hR  hf)
theorem dX0_mixInto_0 : decode cX0_mixInto 0 = .ok (.lload_n 1, 1) := by decide +kernel
theorem dX0_mixInto_1 : decode cX0_mixInto 1 = .ok (.lstore_n 3, 1) := by decide +kernel
theorem dX0_mixInto_2 : decode cX0_mixInto 2 = .ok (.iconst 0, 1) := by decide +kernel
theorem dX0_mixInto_3 : decode cX0_mixInto 3 = .ok (.istore 5, 2) := by decide +kernel
theorem dX0_mixInto_5 : decode cX0_mixInto 5 = .ok (.iload 5, 2) := by decide +kernel
theorem dX0_mixInto_7 : decode cX0_mixInto 7 = .ok (.aload_n 0, 1) := by decide +kernel
theorem dX0_mixInto_8 : decode cX0_mixInto 8 = .ok (.getfield 58, 3) := by decide +kernel
theorem dX0_mixInto_11 : decode cX0_mixInto 11 = .ok (.if_icmp .ge 40, 3) := by decide +kernel
theorem dX0_mixInto_14 : decode cX0_mixInto 14 = .ok (.iconst 0, 1) := by decide +kernel
theorem dX0_mixInto_15 : decode cX0_mixInto 15 = .ok (.istore 6, 2) := by decide +kernel
theorem dX0_mixInto_17 : decode cX0_mixInto 17 = .ok (.iload 6, 2) := by decide +kernel
theorem dX0_mixInto_19 : decode cX0_mixInto 19 = .ok (.iconst 5, 1) := by decide +kernel
theorem dX0_mixInto_20 : decode cX0_mixInto 20 = .ok (.if_icmp .gt 25, 3) := by decide +kernel
theorem dX0_mixInto_23 : decode cX0_mixInto 23 = .ok (.ldc2_w 119, 3) := by decide +kernel
theorem dX0_mixInto_26 : decode cX0_mixInto 26 = .ok (.lload_n 3, 1) := by decide +kernel
theorem dX0_mixInto_27 : decode cX0_mixInto 27 = .ok (.lmul, 1) := by decide +kernel
theorem dX0_mixInto_28 : decode cX0_mixInto 28 = .ok (.aload_n 0, 1) := by decide +kernel
theorem dX0_mixInto_29 : decode cX0_mixInto 29 = .ok (.iload 5, 2) := by decide +kernel
theorem dX0_mixInto_31 : decode cX0_mixInto 31 = .ok (.iload 6, 2) := by decide +kernel
theorem dX0_mixInto_33 : decode cX0_mixInto 33 = .ok (.invokevirtual 121, 3) := by decide +kernel
theorem dX0_mixInto_36 : decode cX0_mixInto 36 = .ok (.i2l, 1) := by decide +kernel
theorem dX0_mixInto_37 : decode cX0_mixInto 37 = .ok (.ladd, 1) := by decide +kernel
theorem dX0_mixInto_38 : decode cX0_mixInto 38 = .ok (.lstore_n 3, 1) := by decide +kernel
theorem dX0_mixInto_39 : decode cX0_mixInto 39 = .ok (.iinc 6 1, 3) := by decide +kernel
theorem dX0_mixInto_42 : decode cX0_mixInto 42 = .ok (.goto (-25), 3) := by decide +kernel
theorem dX0_mixInto_45 : decode cX0_mixInto 45 = .ok (.iinc 5 1, 3) := by decide +kernel
theorem dX0_mixInto_48 : decode cX0_mixInto 48 = .ok (.goto (-43), 3) := by decide +kernel
theorem dX0_mixInto_51 : decode cX0_mixInto 51 = .ok (.iconst 0, 1) := by decide +kernel
theorem dX0_mixInto_52 : decode cX0_mixInto 52 = .ok (.istore 5, 2) := by decide +kernel
theorem dX0_mixInto_54 : decode cX0_mixInto 54 = .ok (.iload 5, 2) := by decide +kernel
theorem dX0_mixInto_56 : decode cX0_mixInto 56 = .ok (.aload_n 0, 1) := by decide +kernel
theorem dX0_mixInto_57 : decode cX0_mixInto 57 = .ok (.getfield 55, 3) := by decide +kernel
theorem dX0_mixInto_60 : decode cX0_mixInto 60 = .ok (.if_icmp .ge 37, 3) := by decide +kernel
theorem dX0_mixInto_63 : decode cX0_mixInto 63 = .ok (.ldc2_w 119, 3) := by decide +kernel
theorem dX0_mixInto_66 : decode cX0_mixInto 66 = .ok (.lload_n 3, 1) := by decide +kernel
theorem dX0_mixInto_67 : decode cX0_mixInto 67 = .ok (.lmul, 1) := by decide +kernel
theorem dX0_mixInto_68 : decode cX0_mixInto 68 = .ok (.aload_n 0, 1) := by decide +kernel
theorem dX0_mixInto_69 : decode cX0_mixInto 69 = .ok (.iload 5, 2) := by decide +kernel
theorem dX0_mixInto_71 : decode cX0_mixInto 71 = .ok (.invokevirtual 125, 3) := by decide +kernel
theorem dX0_mixInto_74 : decode cX0_mixInto 74 = .ok (.i2l, 1) := by decide +kernel
theorem dX0_mixInto_75 : decode cX0_mixInto 75 = .ok (.ladd, 1) := by decide +kernel
theorem dX0_mixInto_76 : decode cX0_mixInto 76 = .ok (.lstore_n 3, 1) := by decide +kernel
theorem dX0_mixInto_77 : decode cX0_mixInto 77 = .ok (.ldc2_w 119, 3) := by decide +kernel
theorem dX0_mixInto_80 : decode cX0_mixInto 80 = .ok (.lload_n 3, 1) := by decide +kernel
theorem dX0_mixInto_81 : decode cX0_mixInto 81 = .ok (.lmul, 1) := by decide +kernel
theorem dX0_mixInto_82 : decode cX0_mixInto 82 = .ok (.aload_n 0, 1) := by decide +kernel
theorem dX0_mixInto_83 : decode cX0_mixInto 83 = .ok (.iload 5, 2) := by decide +kernel
theorem dX0_mixInto_85 : decode cX0_mixInto 85 = .ok (.invokevirtual 128, 3) := by decide +kernel
theorem dX0_mixInto_88 : decode cX0_mixInto 88 = .ok (.i2l, 1) := by decide +kernel
theorem dX0_mixInto_89 : decode cX0_mixInto 89 = .ok (.ladd, 1) := by decide +kernel
theorem dX0_mixInto_90 : decode cX0_mixInto 90 = .ok (.lstore_n 3, 1) := by decide +kernel
theorem dX0_mixInto_91 : decode cX0_mixInto 91 = .ok (.iinc 5 1, 3) := by decide +kernel
theorem dX0_mixInto_94 : decode cX0_mixInto 94 = .ok (.goto (-40), 3) := by decide +kernel
theorem dX0_mixInto_97 : decode cX0_mixInto 97 = .ok (.lload_n 3, 1) := by decide +kernel
theorem dX0_mixInto_98 : decode cX0_mixInto 98 = .ok (.lreturn, 1) := by decide +kernel
def bX0_mixInto_54 (F : Nat) (sL : zOS) (kc_54 : (Int64 × Int32) → Option (Int64)) (x3 : Int64) (x5 : Int32) : Option (Int64) := (if (zF sL 13) ≤ x5 then (some (x3)) else (Option.bind (fX0_sizeOf F x5 sL) (fun r_1 : Int32 => (zlet (((31 : Int64) * x3) + r_1.toInt64) (fun x3_3 : Int64 => (Option.bind (fX0_hangOf x5 sL) (fun r_4 : Int32 => (zlet (((31 : Int64) * x3_3) + r_4.toInt64) (fun x3_6 : Int64 => (kc_54 (x3_6, (x5 + 1))))))))))))
set_option maxRecDepth 20000 in
theorem vX0_mixInto_54 {X : zCx} {res : Int64} {F : Nat} {qL : Nat → Nat} {sL : zOS} {kc_54 : (Int64 × Int32) → Option (Int64)} (C : zC X RX0 cX0_mixInto 7 3 65) (hR : zR X (some .long) (some (.long res)) [(0, qL, sL)]) (hk_54 : ∀ (y3 : Int64) (y5 : Int32), zJ X 7 res (kc_54 (y3, y5)) 54 [(0, (.ref (qL 0))), (3, (.long y3)), (5, (.int y5))] [] [(0, qL, sL)]) (x3 : Int64) (x5 : Int32) : zJ X 7 res (bX0_mixInto_54 F sL kc_54 x3 x5) 54 [(0, (.ref (qL 0))), (3, (.long x3)), (5, (.int x5))] [] [(0, qL, sL)] := by
  unfold bX0_mixInto_54
  refine z_iload (pc := 54) 2 rfl C dX0_mixInto_54 ?_
  refine z_aload_n (pc := 56) 0 rfl rfl C dX0_mixInto_56 ?_
  refine z_getI (pc := 57) 0 13 C dX0_mixInto_57 rfl (by decide) (by decide) rfl zw_155 ?_
  refine z_icmp_ge (pc := 60) 97 C dX0_mixInto_60 (by decide) ?_ ?_
  · refine z_lload_n (pc := 97) 1 rfl rfl C dX0_mixInto_97 ?_
    exact z_lreturn (pc := 98) C hR dX0_mixInto_98 (fun h => by subst h; exact ⟨rfl, rfl⟩)
  · refine z_ldc2_w (pc := 63) (31 : Int64) zw_696 C dX0_mixInto_63 ?_
    refine z_lload_n (pc := 66) 1 rfl rfl C dX0_mixInto_66 ?_
    refine z_lmul (pc := 67) C dX0_mixInto_67 ?_
    refine z_aload_n (pc := 68) 0 rfl rfl C dX0_mixInto_68 ?_
    refine z_iload (pc := 69) 2 rfl C dX0_mixInto_69 ?_
    refine z_callV (pc := 71) (rf' := 1) (rl' := 21) (fX0_sizeOf F x5 sL) [(.int x5)] [(.long ((31 : Int64) * x3))] [(0, qL, sL)] (fun r_1 => (some (.int r_1))) (fun r_1 => [(0, qL, sL)]) [] (fun r_1 => [(0, qL, sL)]) C dX0_mixInto_71 zy_X0_sizeOf zw_698 (fun _ hr9 => mX0_sizeOf  hr9) (by decide) rfl rfl (by decide) rfl (Nat.le_of_ble_eq_true rfl) (List.Perm.refl _) (fun _ => List.Perm.refl _) rfl (fun r_1 hr_2 => ?_)
    show zJ X 7 res _ 74 [(0, (.ref (qL 0))), (3, (.long x3)), (5, (.int x5))] [(.int r_1), (.long ((31 : Int64) * x3))] [(0, qL, sL)]
    refine z_i2l (pc := 74) C dX0_mixInto_74 ?_
    refine z_ladd (pc := 75) C dX0_mixInto_75 ?_
    refine z_letl (fun x3_3 => ?_)
    refine z_lstore_n (pc := 76) [(0, (.ref (qL 0))), (3, (.long x3_3)), (5, (.int x5))] [1, 0, 2] (by decide) rfl rfl C dX0_mixInto_76 ?_
    refine z_ldc2_w (pc := 77) (31 : Int64) zw_696 C dX0_mixInto_77 ?_
    refine z_lload_n (pc := 80) 1 rfl rfl C dX0_mixInto_80 ?_
    refine z_lmul (pc := 81) C dX0_mixInto_81 ?_
    refine z_aload_n (pc := 82) 0 rfl rfl C dX0_mixInto_82 ?_
    refine z_iload (pc := 83) 2 rfl C dX0_mixInto_83 ?_
    refine z_callV (pc := 85) (rf' := 1) (rl' := 21) (fX0_hangOf x5 sL) [(.int x5)] [(.long ((31 : Int64) * x3_3))] [(0, qL, sL)] (fun r_4 => (some (.int r_4))) (fun r_4 => [(0, qL, sL)]) [] (fun r_4 => [(0, qL, sL)]) C dX0_mixInto_85 zy_X0_hangOf zw_699 (fun _ hr9 => mX0_hangOf  hr9) (by decide) rfl rfl (by decide) rfl (Nat.le_of_ble_eq_true rfl) (List.Perm.refl _) (fun _ => List.Perm.refl _) rfl (fun r_4 hr_5 => ?_)
    show zJ X 7 res _ 88 [(0, (.ref (qL 0))), (3, (.long x3_3)), (5, (.int x5))] [(.int r_4), (.long ((31 : Int64) * x3_3))] [(0, qL, sL)]
    refine z_i2l (pc := 88) C dX0_mixInto_88 ?_
    refine z_ladd (pc := 89) C dX0_mixInto_89 ?_
    refine z_letl (fun x3_6 => ?_)
    refine z_lstore_n (pc := 90) [(0, (.ref (qL 0))), (3, (.long x3_6)), (5, (.int x5))] [1, 0, 2] (by decide) rfl rfl C dX0_mixInto_90 ?_
    refine z_iinc (pc := 91) (x5 + 1) 2 rfl rfl [(0, (.ref (qL 0))), (3, (.long x3_6)), (5, (.int (x5 + 1)))] [1, 2, 0] (by decide) rfl C dX0_mixInto_91 ?_
    refine z_goto (pc := 94) 54 C dX0_mixInto_94 (by decide) ?_
    exact hk_54 _ _
def bX0_mixInto_17 (F : Nat) (kc_5 : (Int64 × Int32) → Option (Int64)) (x5 : Int32) (sL : zOS) (kc_17 : (Int64 × Int32) → Option (Int64)) (x3 : Int64) (x6 : Int32) : Option (Int64) := (if (5 : Int32) < x6 then (kc_5 (x3, (x5 + 1))) else (Option.bind (fX0_tellGate x5 x6 sL) (fun r_7 : Int32 => (zlet (((31 : Int64) * x3) + r_7.toInt64) (fun x3_9 : Int64 => (kc_17 (x3_9, (x6 + 1))))))))
set_option maxRecDepth 20000 in
theorem vX0_mixInto_17 {X : zCx} {res : Int64} {F : Nat} {qL : Nat → Nat} {sL : zOS} {x5 : Int32} {kc_5 : (Int64 × Int32) → Option (Int64)} {kc_17 : (Int64 × Int32) → Option (Int64)} (C : zC X RX0 cX0_mixInto 7 3 65) (hR : zR X (some .long) (some (.long res)) [(0, qL, sL)]) (hk_5 : ∀ (y3 : Int64) (y5 : Int32), zJ X 7 res (kc_5 (y3, y5)) 5 [(0, (.ref (qL 0))), (3, (.long y3)), (5, (.int y5))] [] [(0, qL, sL)]) (hk_17 : ∀ (y3 : Int64) (y6 : Int32), zJ X 7 res (kc_17 (y3, y6)) 17 [(0, (.ref (qL 0))), (3, (.long y3)), (5, (.int x5)), (6, (.int y6))] [] [(0, qL, sL)]) (x3 : Int64) (x6 : Int32) : zJ X 7 res (bX0_mixInto_17 F kc_5 x5 sL kc_17 x3 x6) 17 [(0, (.ref (qL 0))), (3, (.long x3)), (5, (.int x5)), (6, (.int x6))] [] [(0, qL, sL)] := by
  unfold bX0_mixInto_17
  refine z_iload (pc := 17) 3 rfl C dX0_mixInto_17 ?_
  refine z_iconst (pc := 19) (5 : Int32) (by decide) C dX0_mixInto_19 ?_
  refine z_icmp_gt (pc := 20) 45 C dX0_mixInto_20 (by decide) ?_ ?_
  · refine z_iinc (pc := 45) (x5 + 1) 2 rfl rfl [(0, (.ref (qL 0))), (3, (.long x3)), (5, (.int (x5 + 1))), (6, (.int x6))] [1, 2, 0, 3] (by decide) rfl C dX0_mixInto_45 ?_
    refine z_goto (pc := 48) 5 C dX0_mixInto_48 (by decide) ?_
    refine z_lv [(0, (.ref (qL 0))), (3, (.long x3)), (5, (.int (x5 + 1)))] [0, 1, 2] rfl ?_
    exact hk_5 _ _
  · refine z_ldc2_w (pc := 23) (31 : Int64) zw_696 C dX0_mixInto_23 ?_
    refine z_lload_n (pc := 26) 1 rfl rfl C dX0_mixInto_26 ?_
    refine z_lmul (pc := 27) C dX0_mixInto_27 ?_
    refine z_aload_n (pc := 28) 0 rfl rfl C dX0_mixInto_28 ?_
    refine z_iload (pc := 29) 2 rfl C dX0_mixInto_29 ?_
    refine z_iload (pc := 31) 3 rfl C dX0_mixInto_31 ?_
    refine z_callV (pc := 33) (rf' := 2) (rl' := 43) (fX0_tellGate x5 x6 sL) [(.int x5), (.int x6)] [(.long ((31 : Int64) * x3))] [(0, qL, sL)] (fun r_7 => (some (.int r_7))) (fun r_7 => [(0, qL, sL)]) [] (fun r_7 => [(0, qL, sL)]) C dX0_mixInto_33 zy_X0_tellGate zw_697 (fun _ hr9 => mX0_tellGate  hr9) (by decide) rfl rfl (by decide) rfl (Nat.le_of_ble_eq_true rfl) (List.Perm.refl _) (fun _ => List.Perm.refl _) rfl (fun r_7 hr_8 => ?_)
    show zJ X 7 res _ 36 [(0, (.ref (qL 0))), (3, (.long x3)), (5, (.int x5)), (6, (.int x6))] [(.int r_7), (.long ((31 : Int64) * x3))] [(0, qL, sL)]
    refine z_i2l (pc := 36) C dX0_mixInto_36 ?_
    refine z_ladd (pc := 37) C dX0_mixInto_37 ?_
    refine z_letl (fun x3_9 => ?_)
    refine z_lstore_n (pc := 38) [(0, (.ref (qL 0))), (3, (.long x3_9)), (5, (.int x5)), (6, (.int x6))] [1, 0, 2, 3] (by decide) rfl rfl C dX0_mixInto_38 ?_
    refine z_iinc (pc := 39) (x6 + 1) 3 rfl rfl [(0, (.ref (qL 0))), (3, (.long x3_9)), (5, (.int x5)), (6, (.int (x6 + 1)))] [1, 2, 3, 0] (by decide) rfl C dX0_mixInto_39 ?_
    refine z_goto (pc := 42) 17 C dX0_mixInto_42 (by decide) ?_
    exact hk_17 _ _
def bX0_mixInto_5 (F : Nat) (sL : zOS) (kc_5 : (Int64 × Int32) → Option (Int64)) (x3 : Int64) (x5 : Int32) : Option (Int64) := (if (zF sL 14) ≤ x5 then (zit (P := Int64 × Int32) (R := Int64) (fun kc9 p9 => bX0_mixInto_54 F sL kc9 p9.1 p9.2) F (x3, (0 : Int32))) else (zit (P := Int64 × Int32) (R := Int64) (fun kc9 p9 => bX0_mixInto_17 F kc_5 x5 sL kc9 p9.1 p9.2) F (x3, (0 : Int32))))
set_option maxRecDepth 20000 in
theorem vX0_mixInto_5 {X : zCx} {res : Int64} {F : Nat} {qL : Nat → Nat} {sL : zOS} {kc_5 : (Int64 × Int32) → Option (Int64)} (C : zC X RX0 cX0_mixInto 7 3 65) (hR : zR X (some .long) (some (.long res)) [(0, qL, sL)]) (hk_5 : ∀ (y3 : Int64) (y5 : Int32), zJ X 7 res (kc_5 (y3, y5)) 5 [(0, (.ref (qL 0))), (3, (.long y3)), (5, (.int y5))] [] [(0, qL, sL)]) (x3 : Int64) (x5 : Int32) : zJ X 7 res (bX0_mixInto_5 F sL kc_5 x3 x5) 5 [(0, (.ref (qL 0))), (3, (.long x3)), (5, (.int x5))] [] [(0, qL, sL)] := by
  unfold bX0_mixInto_5
  refine z_iload (pc := 5) 2 rfl C dX0_mixInto_5 ?_
  refine z_aload_n (pc := 7) 0 rfl rfl C dX0_mixInto_7 ?_
  refine z_getI (pc := 8) 0 14 C dX0_mixInto_8 rfl (by decide) (by decide) rfl zw_157 ?_
  refine z_icmp_ge (pc := 11) 51 C dX0_mixInto_11 (by decide) ?_ ?_
  · refine z_iconst (pc := 51) (0 : Int32) (by decide) C dX0_mixInto_51 ?_
    refine z_istore (pc := 52) [(0, (.ref (qL 0))), (3, (.long x3)), (5, (.int (0 : Int32)))] [1, 2, 0] (by decide) rfl C dX0_mixInto_52 ?_
    exact zit_J (fun p9 => [(0, (.ref (qL 0))), (3, (.long p9.1)), (5, (.int p9.2))]) (fun p9 => [(0, qL, sL)]) (fun kc9 hk9 p9 => vX0_mixInto_54 C hR   (fun a0 a1 => hk9 (a0, a1)) _ _) F _
  · refine z_iconst (pc := 14) (0 : Int32) (by decide) C dX0_mixInto_14 ?_
    refine z_istore (pc := 15) [(0, (.ref (qL 0))), (3, (.long x3)), (5, (.int x5)), (6, (.int (0 : Int32)))] [1, 2, 3, 0] (by decide) rfl C dX0_mixInto_15 ?_
    exact zit_J (fun p9 => [(0, (.ref (qL 0))), (3, (.long p9.1)), (5, (.int x5)), (6, (.int p9.2))]) (fun p9 => [(0, qL, sL)]) (fun kc9 hk9 p9 => vX0_mixInto_17 C hR  hk_5 (fun a0 a1 => hk9 (a0, a1)) _ _) F _
def fX0_mixInto (F : Nat) (x1 : Int64) (sL : zOS) : Option (Int64) := (zit (P := Int64 × Int32) (R := Int64) (fun kc9 p9 => bX0_mixInto_5 F sL kc9 p9.1 p9.2) F (x1, (0 : Int32)))
set_option maxRecDepth 20000 in
theorem wX0_mixInto {X : zCx} {res : Int64} {F : Nat} {qL : Nat → Nat} {x1 : Int64} {sL : zOS} (C : zC X RX0 cX0_mixInto 7 3 65) (hR : zR X (some .long) (some (.long res)) [(0, qL, sL)])  : zJ X 7 res (fX0_mixInto F x1 sL) 0 [(0, (.ref (qL 0))), (1, (.long x1))] [] [(0, qL, sL)] := by
  unfold fX0_mixInto
  refine z_lload_n (pc := 0) 1 rfl rfl C dX0_mixInto_0 ?_
  refine z_lstore_n (pc := 1) [(0, (.ref (qL 0))), (1, (.long x1)), (3, (.long x1))] [1, 2, 0] (by decide) rfl rfl C dX0_mixInto_1 ?_
  refine z_iconst (pc := 2) (0 : Int32) (by decide) C dX0_mixInto_2 ?_
  refine z_istore (pc := 3) [(0, (.ref (qL 0))), (1, (.long x1)), (3, (.long x1)), (5, (.int (0 : Int32)))] [1, 2, 3, 0] (by decide) rfl C dX0_mixInto_3 ?_
  refine z_lv [(0, (.ref (qL 0))), (3, (.long x1)), (5, (.int (0 : Int32)))] [0, 2, 3] rfl ?_
  exact zit_J (fun p9 => [(0, (.ref (qL 0))), (3, (.long p9.1)), (5, (.int p9.2))]) (fun p9 => [(0, qL, sL)]) (fun kc9 hk9 p9 => vX0_mixInto_5 C hR   (fun a0 a1 => hk9 (a0, a1)) _ _) F _
theorem mX0_mixInto {F : Nat} {qL : Nat → Nat} {x1 : Int64} {sL : zOS} {res : Int64}  (hf : fX0_mixInto F x1 sL = some res) : zM yX0_mixInto cX0_mixInto 7 (some .long) 3 65 [(.ref (qL 0)), (.long x1)] [(0, qL, sL)] (some (.long res)) [(0, qL, sL)] := zM_of (by decide +kernel) (Nat.le_of_ble_eq_true rfl) (fun X C hR => wX0_mixInto (F := F) C hR  hf)
theorem dX0_isWell_0 : decode cX0_isWell 0 = .ok (.aload_n 0, 1) := by decide +kernel
theorem dX0_isWell_1 : decode cX0_isWell 1 = .ok (.getfield 48, 3) := by decide +kernel
theorem dX0_isWell_4 : decode cX0_isWell 4 = .ok (.iload_n 1, 1) := by decide +kernel
theorem dX0_isWell_5 : decode cX0_isWell 5 = .ok (.iaload, 1) := by decide +kernel
theorem dX0_isWell_6 : decode cX0_isWell 6 = .ok (.iconst 1, 1) := by decide +kernel
theorem dX0_isWell_7 : decode cX0_isWell 7 = .ok (.if_icmp .eq 13, 3) := by decide +kernel
theorem dX0_isWell_10 : decode cX0_isWell 10 = .ok (.aload_n 0, 1) := by decide +kernel
theorem dX0_isWell_11 : decode cX0_isWell 11 = .ok (.getfield 48, 3) := by decide +kernel
theorem dX0_isWell_14 : decode cX0_isWell 14 = .ok (.iload_n 1, 1) := by decide +kernel
theorem dX0_isWell_15 : decode cX0_isWell 15 = .ok (.iaload, 1) := by decide +kernel
theorem dX0_isWell_16 : decode cX0_isWell 16 = .ok (.iconst 2, 1) := by decide +kernel
theorem dX0_isWell_17 : decode cX0_isWell 17 = .ok (.if_icmp .ne 7, 3) := by decide +kernel
theorem dX0_isWell_20 : decode cX0_isWell 20 = .ok (.iconst 1, 1) := by decide +kernel
theorem dX0_isWell_21 : decode cX0_isWell 21 = .ok (.goto 4, 3) := by decide +kernel
theorem dX0_isWell_24 : decode cX0_isWell 24 = .ok (.iconst 0, 1) := by decide +kernel
theorem dX0_isWell_25 : decode cX0_isWell 25 = .ok (.ireturn, 1) := by decide +kernel
def fX0_isWell (x1 : Int32) (sL : zOS) : Option (Int32) := (zchk x1 32 (if (zI sL 12 x1.toNatClampNeg) = (1 : Int32) then (zbk (1 : Int32) (some ((1 : Int32)))) else (zchk x1 32 (if (zI sL 12 x1.toNatClampNeg) = (2 : Int32) then (zbk (1 : Int32) (some ((1 : Int32)))) else (zbk (0 : Int32) (some ((0 : Int32))))))))
set_option maxRecDepth 20000 in
theorem wX0_isWell {X : zCx} {res : Int32}  {qL : Nat → Nat} {x1 : Int32} {sL : zOS} (C : zC X RX0 cX0_isWell 2 0 0) (hR : zR X (some .boolean) (some (.int res)) [(0, qL, sL)])  : zJ X 2 res (fX0_isWell x1 sL) 0 [(0, (.ref (qL 0))), (1, (.int x1))] [] [(0, qL, sL)] := by
  unfold fX0_isWell
  refine z_aload_n (pc := 0) 0 rfl rfl C dX0_isWell_0 ?_
  refine z_getR (pc := 1) 0 11 12 C dX0_isWell_1 rfl (by decide) (by decide) rfl zw_152 ?_
  refine z_iload_n (pc := 4) 1 rfl rfl C dX0_isWell_4 ?_
  refine z_iald (pc := 5) 0 C dX0_isWell_5 rfl (by unfold zAr; decide) ?_
  refine z_iconst (pc := 6) (1 : Int32) (by decide) C dX0_isWell_6 ?_
  refine z_icmp_eq (pc := 7) 20 C dX0_isWell_7 (by decide) ?_ ?_
  · refine z_iconst (pc := 20) (1 : Int32) (by decide) C dX0_isWell_20 ?_
    refine z_goto (pc := 21) 25 C dX0_isWell_21 (by decide) ?_
    exact z_zreturn (pc := 25) C hR dX0_isWell_25 (fun h => by subst h; exact ⟨rfl, rfl⟩)
  · refine z_aload_n (pc := 10) 0 rfl rfl C dX0_isWell_10 ?_
    refine z_getR (pc := 11) 0 11 12 C dX0_isWell_11 rfl (by decide) (by decide) rfl zw_152 ?_
    refine z_iload_n (pc := 14) 1 rfl rfl C dX0_isWell_14 ?_
    refine z_iald (pc := 15) 0 C dX0_isWell_15 rfl (by unfold zAr; decide) ?_
    refine z_iconst (pc := 16) (2 : Int32) (by decide) C dX0_isWell_16 ?_
    refine z_icmp_ne (pc := 17) 24 C dX0_isWell_17 (by decide) ?_ ?_
    · refine z_iconst (pc := 20) (1 : Int32) (by decide) C dX0_isWell_20 ?_
      refine z_goto (pc := 21) 25 C dX0_isWell_21 (by decide) ?_
      exact z_zreturn (pc := 25) C hR dX0_isWell_25 (fun h => by subst h; exact ⟨rfl, rfl⟩)
    · refine z_iconst (pc := 24) (0 : Int32) (by decide) C dX0_isWell_24 ?_
      exact z_zreturn (pc := 25) C hR dX0_isWell_25 (fun h => by subst h; exact ⟨rfl, rfl⟩)
theorem mX0_isWell  {qL : Nat → Nat} {x1 : Int32} {sL : zOS} {res : Int32}  (hf : fX0_isWell x1 sL = some res) : zM yX0_isWell cX0_isWell 2 (some .boolean) 0 0 [(.ref (qL 0)), (.int x1)] [(0, qL, sL)] (some (.int res)) [(0, qL, sL)] := zM_of (by decide +kernel) (Nat.le_of_ble_eq_true rfl) (fun X C hR => wX0_isWell C hR  hf)
theorem dX0_isAsRead_0 : decode cX0_isAsRead 0 = .ok (.iconst 0, 1) := by decide +kernel
theorem dX0_isAsRead_1 : decode cX0_isAsRead 1 = .ok (.istore_n 2, 1) := by decide +kernel
theorem dX0_isAsRead_2 : decode cX0_isAsRead 2 = .ok (.iload_n 2, 1) := by decide +kernel
theorem dX0_isAsRead_3 : decode cX0_isAsRead 3 = .ok (.iconst 4, 1) := by decide +kernel
theorem dX0_isAsRead_4 : decode cX0_isAsRead 4 = .ok (.if_icmp .ge 24, 3) := by decide +kernel
theorem dX0_isAsRead_7 : decode cX0_isAsRead 7 = .ok (.aload_n 0, 1) := by decide +kernel
theorem dX0_isAsRead_8 : decode cX0_isAsRead 8 = .ok (.getfield 9, 3) := by decide +kernel
theorem dX0_isAsRead_11 : decode cX0_isAsRead 11 = .ok (.iload_n 2, 1) := by decide +kernel
theorem dX0_isAsRead_12 : decode cX0_isAsRead 12 = .ok (.laload, 1) := by decide +kernel
theorem dX0_isAsRead_13 : decode cX0_isAsRead 13 = .ok (.aload_n 1, 1) := by decide +kernel
theorem dX0_isAsRead_14 : decode cX0_isAsRead 14 = .ok (.iload_n 2, 1) := by decide +kernel
theorem dX0_isAsRead_15 : decode cX0_isAsRead 15 = .ok (.laload, 1) := by decide +kernel
theorem dX0_isAsRead_16 : decode cX0_isAsRead 16 = .ok (.lcmp, 1) := by decide +kernel
theorem dX0_isAsRead_17 : decode cX0_isAsRead 17 = .ok (.ifCond .eq 5, 3) := by decide +kernel
theorem dX0_isAsRead_20 : decode cX0_isAsRead 20 = .ok (.iconst 0, 1) := by decide +kernel
theorem dX0_isAsRead_21 : decode cX0_isAsRead 21 = .ok (.ireturn, 1) := by decide +kernel
theorem dX0_isAsRead_22 : decode cX0_isAsRead 22 = .ok (.iinc 2 1, 3) := by decide +kernel
theorem dX0_isAsRead_25 : decode cX0_isAsRead 25 = .ok (.goto (-23), 3) := by decide +kernel
theorem dX0_isAsRead_28 : decode cX0_isAsRead 28 = .ok (.iconst 1, 1) := by decide +kernel
theorem dX0_isAsRead_29 : decode cX0_isAsRead 29 = .ok (.ireturn, 1) := by decide +kernel
def bX0_isAsRead_2 (F : Nat) (sL : zOS) (sP : zOS) (kc_2 : Int32 → Option (Int32)) (x2 : Int32) : Option (Int32) := (if (4 : Int32) ≤ x2 then (zbk (1 : Int32) (some ((1 : Int32)))) else (zchk x2 4 (zchk x2 4 (if (lg_cmp (zL sL 1 x2.toNatClampNeg) (zL sP 1 x2.toNatClampNeg)) = 0 then (kc_2 (x2 + 1)) else (zbk (0 : Int32) (some ((0 : Int32))))))))
set_option maxRecDepth 20000 in
theorem vX0_isAsRead_2 {X : zCx} {res : Int32} {F : Nat} {qL : Nat → Nat} {qP : Nat → Nat} {sL : zOS} {sP : zOS} {kc_2 : Int32 → Option (Int32)} (C : zC X RX0 cX0_isAsRead 3 0 0) (hR : zR X (some .boolean) (some (.int res)) [(0, qL, sL), (2, qP, sP)]) (hk_2 : ∀ (y2 : Int32), zJ X 3 res (kc_2 y2) 2 [(0, (.ref (qL 0))), (1, (.ref (qP 1))), (2, (.int y2))] [] [(0, qL, sL), (2, qP, sP)]) (x2 : Int32) : zJ X 3 res (bX0_isAsRead_2 F sL sP kc_2 x2) 2 [(0, (.ref (qL 0))), (1, (.ref (qP 1))), (2, (.int x2))] [] [(0, qL, sL), (2, qP, sP)] := by
  unfold bX0_isAsRead_2
  refine z_iload_n (pc := 2) 2 rfl rfl C dX0_isAsRead_2 ?_
  refine z_iconst (pc := 3) (4 : Int32) (by decide) C dX0_isAsRead_3 ?_
  refine z_icmp_ge (pc := 4) 28 C dX0_isAsRead_4 (by decide) ?_ ?_
  · refine z_iconst (pc := 28) (1 : Int32) (by decide) C dX0_isAsRead_28 ?_
    exact z_zreturn (pc := 29) C hR dX0_isAsRead_29 (fun h => by subst h; exact ⟨rfl, rfl⟩)
  · refine z_aload_n (pc := 7) 0 rfl rfl C dX0_isAsRead_7 ?_
    refine z_getR (pc := 8) 0 0 1 C dX0_isAsRead_8 rfl (by decide) (by decide) rfl zw_138 ?_
    refine z_iload_n (pc := 11) 2 rfl rfl C dX0_isAsRead_11 ?_
    refine z_lald (pc := 12) 0 C dX0_isAsRead_12 rfl (by unfold zAr; decide) ?_
    refine z_aload_n (pc := 13) 1 rfl rfl C dX0_isAsRead_13 ?_
    refine z_iload_n (pc := 14) 2 rfl rfl C dX0_isAsRead_14 ?_
    refine z_lald (pc := 15) 1 C dX0_isAsRead_15 rfl (by unfold zAr; decide) ?_
    refine z_lcmp (pc := 16) C dX0_isAsRead_16 ?_
    refine z_if_eq (pc := 17) 22 C dX0_isAsRead_17 (by decide) ?_ ?_
    · refine z_iinc (pc := 22) (x2 + 1) 2 rfl rfl [(0, (.ref (qL 0))), (1, (.ref (qP 1))), (2, (.int (x2 + 1)))] [1, 2, 0] (by decide) rfl C dX0_isAsRead_22 ?_
      refine z_goto (pc := 25) 2 C dX0_isAsRead_25 (by decide) ?_
      exact hk_2 _
    · refine z_iconst (pc := 20) (0 : Int32) (by decide) C dX0_isAsRead_20 ?_
      exact z_zreturn (pc := 21) C hR dX0_isAsRead_21 (fun h => by subst h; exact ⟨rfl, rfl⟩)
def fX0_isAsRead (F : Nat) (sL : zOS) (sP : zOS) : Option (Int32) := (zit (P := Int32) (R := Int32) (fun kc9 p9 => bX0_isAsRead_2 F sL sP kc9 p9) F (0 : Int32))
set_option maxRecDepth 20000 in
theorem wX0_isAsRead {X : zCx} {res : Int32} {F : Nat} {qL : Nat → Nat} {qP : Nat → Nat} {sL : zOS} {sP : zOS} (C : zC X RX0 cX0_isAsRead 3 0 0) (hR : zR X (some .boolean) (some (.int res)) [(0, qL, sL), (2, qP, sP)])  : zJ X 3 res (fX0_isAsRead F sL sP) 0 [(0, (.ref (qL 0))), (1, (.ref (qP 1)))] [] [(0, qL, sL), (2, qP, sP)] := by
  unfold fX0_isAsRead
  refine z_iconst (pc := 0) (0 : Int32) (by decide) C dX0_isAsRead_0 ?_
  refine z_istore_n (pc := 1) [(0, (.ref (qL 0))), (1, (.ref (qP 1))), (2, (.int (0 : Int32)))] [1, 2, 0] (by decide) rfl rfl C dX0_isAsRead_1 ?_
  exact zit_J (fun p9 => [(0, (.ref (qL 0))), (1, (.ref (qP 1))), (2, (.int p9))]) (fun p9 => [(0, qL, sL), (2, qP, sP)]) (fun kc9 hk9 p9 => vX0_isAsRead_2 C hR   (fun a0 => hk9 a0) _) F _
theorem mX0_isAsRead {F : Nat} {qL : Nat → Nat} {qP : Nat → Nat} {sL : zOS} {sP : zOS} {res : Int32}  (hf : fX0_isAsRead F sL sP = some res) : zM yX0_isAsRead cX0_isAsRead 3 (some .boolean) 0 0 [(.ref (qL 0)), (.ref (qP 1))] [(0, qL, sL), (2, qP, sP)] (some (.int res)) [(0, qL, sL), (2, qP, sP)] := zM_of (by decide +kernel) (Nat.le_of_ble_eq_true rfl) (fun X C hR => wX0_isAsRead (F := F) C hR  hf)
theorem dX0_cellsOf_0 : decode cX0_cellsOf 0 = .ok (.iload_n 1, 1) := by decide +kernel
theorem dX0_cellsOf_1 : decode cX0_cellsOf 1 = .ok (.ifCond .ne 23, 3) := by decide +kernel
theorem dX0_cellsOf_4 : decode cX0_cellsOf 4 = .ok (.aload_n 0, 1) := by decide +kernel
theorem dX0_cellsOf_5 : decode cX0_cellsOf 5 = .ok (.getfield 9, 3) := by decide +kernel
theorem dX0_cellsOf_8 : decode cX0_cellsOf 8 = .ok (.iconst 0, 1) := by decide +kernel
theorem dX0_cellsOf_9 : decode cX0_cellsOf 9 = .ok (.laload, 1) := by decide +kernel
theorem dX0_cellsOf_10 : decode cX0_cellsOf 10 = .ok (.aload_n 0, 1) := by decide +kernel
theorem dX0_cellsOf_11 : decode cX0_cellsOf 11 = .ok (.getfield 9, 3) := by decide +kernel
theorem dX0_cellsOf_14 : decode cX0_cellsOf 14 = .ok (.iconst 1, 1) := by decide +kernel
theorem dX0_cellsOf_15 : decode cX0_cellsOf 15 = .ok (.laload, 1) := by decide +kernel
theorem dX0_cellsOf_16 : decode cX0_cellsOf 16 = .ok (.ldc2_w 135, 3) := by decide +kernel
theorem dX0_cellsOf_19 : decode cX0_cellsOf 19 = .ok (.lxor, 1) := by decide +kernel
theorem dX0_cellsOf_20 : decode cX0_cellsOf 20 = .ok (.land, 1) := by decide +kernel
theorem dX0_cellsOf_21 : decode cX0_cellsOf 21 = .ok (.goto 9, 3) := by decide +kernel
theorem dX0_cellsOf_24 : decode cX0_cellsOf 24 = .ok (.aload_n 0, 1) := by decide +kernel
theorem dX0_cellsOf_25 : decode cX0_cellsOf 25 = .ok (.getfield 9, 3) := by decide +kernel
theorem dX0_cellsOf_28 : decode cX0_cellsOf 28 = .ok (.iload_n 1, 1) := by decide +kernel
theorem dX0_cellsOf_29 : decode cX0_cellsOf 29 = .ok (.laload, 1) := by decide +kernel
theorem dX0_cellsOf_30 : decode cX0_cellsOf 30 = .ok (.lreturn, 1) := by decide +kernel
def fX0_cellsOf (x1 : Int32) (sL : zOS) : Option (Int64) := (if x1 = 0 then (zchk (0 : Int32) 4 (zchk (1 : Int32) 4 (some ((zL sL 1 (0 : Int32).toNatClampNeg) &&& ((zL sL 1 (1 : Int32).toNatClampNeg) ^^^ (-1 : Int64)))))) else (zchk x1 4 (some (zL sL 1 x1.toNatClampNeg))))
set_option maxRecDepth 20000 in
theorem wX0_cellsOf {X : zCx} {res : Int64}  {qL : Nat → Nat} {x1 : Int32} {sL : zOS} (C : zC X RX0 cX0_cellsOf 2 0 0) (hR : zR X (some .long) (some (.long res)) [(0, qL, sL)])  : zJ X 2 res (fX0_cellsOf x1 sL) 0 [(0, (.ref (qL 0))), (1, (.int x1))] [] [(0, qL, sL)] := by
  unfold fX0_cellsOf
  refine z_iload_n (pc := 0) 1 rfl rfl C dX0_cellsOf_0 ?_
  refine z_if_ne (pc := 1) 24 C dX0_cellsOf_1 (by decide) ?_ ?_
  · refine z_aload_n (pc := 4) 0 rfl rfl C dX0_cellsOf_4 ?_
    refine z_getR (pc := 5) 0 0 1 C dX0_cellsOf_5 rfl (by decide) (by decide) rfl zw_138 ?_
    refine z_iconst (pc := 8) (0 : Int32) (by decide) C dX0_cellsOf_8 ?_
    refine z_lald (pc := 9) 0 C dX0_cellsOf_9 rfl (by unfold zAr; decide) ?_
    refine z_aload_n (pc := 10) 0 rfl rfl C dX0_cellsOf_10 ?_
    refine z_getR (pc := 11) 0 0 1 C dX0_cellsOf_11 rfl (by decide) (by decide) rfl zw_138 ?_
    refine z_iconst (pc := 14) (1 : Int32) (by decide) C dX0_cellsOf_14 ?_
    refine z_lald (pc := 15) 0 C dX0_cellsOf_15 rfl (by unfold zAr; decide) ?_
    refine z_ldc2_w (pc := 16) (-1 : Int64) zw_416 C dX0_cellsOf_16 ?_
    refine z_lxor (pc := 19) C dX0_cellsOf_19 ?_
    refine z_land (pc := 20) C dX0_cellsOf_20 ?_
    refine z_goto (pc := 21) 30 C dX0_cellsOf_21 (by decide) ?_
    exact z_lreturn (pc := 30) C hR dX0_cellsOf_30 (fun h => by subst h; exact ⟨rfl, rfl⟩)
  · refine z_aload_n (pc := 24) 0 rfl rfl C dX0_cellsOf_24 ?_
    refine z_getR (pc := 25) 0 0 1 C dX0_cellsOf_25 rfl (by decide) (by decide) rfl zw_138 ?_
    refine z_iload_n (pc := 28) 1 rfl rfl C dX0_cellsOf_28 ?_
    refine z_lald (pc := 29) 0 C dX0_cellsOf_29 rfl (by unfold zAr; decide) ?_
    exact z_lreturn (pc := 30) C hR dX0_cellsOf_30 (fun h => by subst h; exact ⟨rfl, rfl⟩)
theorem mX0_cellsOf  {qL : Nat → Nat} {x1 : Int32} {sL : zOS} {res : Int64}  (hf : fX0_cellsOf x1 sL = some res) : zM yX0_cellsOf cX0_cellsOf 2 (some .long) 0 0 [(.ref (qL 0)), (.int x1)] [(0, qL, sL)] (some (.long res)) [(0, qL, sL)] := zM_of (by decide +kernel) (Nat.le_of_ble_eq_true rfl) (fun X C hR => wX0_cellsOf C hR  hf)
end
section
theorem dX0_findPieces_0 : decode cX0_findPieces 0 = .ok (.aload_n 0, 1) := by decide +kernel
theorem dX0_findPieces_1 : decode cX0_findPieces 1 = .ok (.iconst 0, 1) := by decide +kernel
theorem dX0_findPieces_2 : decode cX0_findPieces 2 = .ok (.putfield 51, 3) := by decide +kernel
theorem dX0_findPieces_5 : decode cX0_findPieces 5 = .ok (.iconst 0, 1) := by decide +kernel
theorem dX0_findPieces_6 : decode cX0_findPieces 6 = .ok (.istore_n 1, 1) := by decide +kernel
theorem dX0_findPieces_7 : decode cX0_findPieces 7 = .ok (.iload_n 1, 1) := by decide +kernel
theorem dX0_findPieces_8 : decode cX0_findPieces 8 = .ok (.iconst 3, 1) := by decide +kernel
theorem dX0_findPieces_9 : decode cX0_findPieces 9 = .ok (.if_icmp .ge 92, 3) := by decide +kernel
theorem dX0_findPieces_12 : decode cX0_findPieces 12 = .ok (.aload_n 0, 1) := by decide +kernel
theorem dX0_findPieces_13 : decode cX0_findPieces 13 = .ok (.iload_n 1, 1) := by decide +kernel
theorem dX0_findPieces_14 : decode cX0_findPieces 14 = .ok (.invokevirtual 137, 3) := by decide +kernel
theorem dX0_findPieces_17 : decode cX0_findPieces 17 = .ok (.lstore_n 2, 1) := by decide +kernel
theorem dX0_findPieces_18 : decode cX0_findPieces 18 = .ok (.iconst 0, 1) := by decide +kernel
theorem dX0_findPieces_19 : decode cX0_findPieces 19 = .ok (.istore 4, 2) := by decide +kernel
theorem dX0_findPieces_21 : decode cX0_findPieces 21 = .ok (.iload 4, 2) := by decide +kernel
theorem dX0_findPieces_23 : decode cX0_findPieces 23 = .ok (.bipush 64, 2) := by decide +kernel
theorem dX0_findPieces_25 : decode cX0_findPieces 25 = .ok (.if_icmp .ge 70, 3) := by decide +kernel
theorem dX0_findPieces_28 : decode cX0_findPieces 28 = .ok (.lload_n 2, 1) := by decide +kernel
theorem dX0_findPieces_29 : decode cX0_findPieces 29 = .ok (.lconst 0, 1) := by decide +kernel
theorem dX0_findPieces_30 : decode cX0_findPieces 30 = .ok (.lcmp, 1) := by decide +kernel
theorem dX0_findPieces_31 : decode cX0_findPieces 31 = .ok (.ifCond .eq 64, 3) := by decide +kernel
theorem dX0_findPieces_34 : decode cX0_findPieces 34 = .ok (.aload_n 0, 1) := by decide +kernel
theorem dX0_findPieces_35 : decode cX0_findPieces 35 = .ok (.getfield 51, 3) := by decide +kernel
theorem dX0_findPieces_38 : decode cX0_findPieces 38 = .ok (.bipush 96, 2) := by decide +kernel
theorem dX0_findPieces_40 : decode cX0_findPieces 40 = .ok (.if_icmp .ge 55, 3) := by decide +kernel
theorem dX0_findPieces_43 : decode cX0_findPieces 43 = .ok (.lload_n 2, 1) := by decide +kernel
theorem dX0_findPieces_44 : decode cX0_findPieces 44 = .ok (.invokestatic 140, 3) := by decide +kernel
theorem dX0_findPieces_47 : decode cX0_findPieces 47 = .ok (.lstore 5, 2) := by decide +kernel
theorem dX0_findPieces_49 : decode cX0_findPieces 49 = .ok (.aload_n 0, 1) := by decide +kernel
theorem dX0_findPieces_50 : decode cX0_findPieces 50 = .ok (.getfield 15, 3) := by decide +kernel
theorem dX0_findPieces_53 : decode cX0_findPieces 53 = .ok (.aload_n 0, 1) := by decide +kernel
theorem dX0_findPieces_54 : decode cX0_findPieces 54 = .ok (.getfield 51, 3) := by decide +kernel
theorem dX0_findPieces_57 : decode cX0_findPieces 57 = .ok (.lload 5, 2) := by decide +kernel
theorem dX0_findPieces_59 : decode cX0_findPieces 59 = .ok (.lastore, 1) := by decide +kernel
theorem dX0_findPieces_60 : decode cX0_findPieces 60 = .ok (.aload_n 0, 1) := by decide +kernel
theorem dX0_findPieces_61 : decode cX0_findPieces 61 = .ok (.getfield 18, 3) := by decide +kernel
theorem dX0_findPieces_64 : decode cX0_findPieces 64 = .ok (.aload_n 0, 1) := by decide +kernel
theorem dX0_findPieces_65 : decode cX0_findPieces 65 = .ok (.getfield 51, 3) := by decide +kernel
theorem dX0_findPieces_68 : decode cX0_findPieces 68 = .ok (.iload_n 1, 1) := by decide +kernel
theorem dX0_findPieces_69 : decode cX0_findPieces 69 = .ok (.iastore, 1) := by decide +kernel
theorem dX0_findPieces_70 : decode cX0_findPieces 70 = .ok (.aload_n 0, 1) := by decide +kernel
theorem dX0_findPieces_71 : decode cX0_findPieces 71 = .ok (.dup, 1) := by decide +kernel
theorem dX0_findPieces_72 : decode cX0_findPieces 72 = .ok (.getfield 51, 3) := by decide +kernel
theorem dX0_findPieces_75 : decode cX0_findPieces 75 = .ok (.iconst 1, 1) := by decide +kernel
theorem dX0_findPieces_76 : decode cX0_findPieces 76 = .ok (.iadd, 1) := by decide +kernel
theorem dX0_findPieces_77 : decode cX0_findPieces 77 = .ok (.putfield 51, 3) := by decide +kernel
theorem dX0_findPieces_80 : decode cX0_findPieces 80 = .ok (.lload_n 2, 1) := by decide +kernel
theorem dX0_findPieces_81 : decode cX0_findPieces 81 = .ok (.lload 5, 2) := by decide +kernel
theorem dX0_findPieces_83 : decode cX0_findPieces 83 = .ok (.ldc2_w 135, 3) := by decide +kernel
theorem dX0_findPieces_86 : decode cX0_findPieces 86 = .ok (.lxor, 1) := by decide +kernel
theorem dX0_findPieces_87 : decode cX0_findPieces 87 = .ok (.land, 1) := by decide +kernel
theorem dX0_findPieces_88 : decode cX0_findPieces 88 = .ok (.lstore_n 2, 1) := by decide +kernel
theorem dX0_findPieces_89 : decode cX0_findPieces 89 = .ok (.iinc 4 1, 3) := by decide +kernel
theorem dX0_findPieces_92 : decode cX0_findPieces 92 = .ok (.goto (-71), 3) := by decide +kernel
theorem dX0_findPieces_95 : decode cX0_findPieces 95 = .ok (.iinc 1 1, 3) := by decide +kernel
theorem dX0_findPieces_98 : decode cX0_findPieces 98 = .ok (.goto (-91), 3) := by decide +kernel
theorem dX0_findPieces_101 : decode cX0_findPieces 101 = .ok (.return_, 1) := by decide +kernel
def bX0_findPieces_21 (F : Nat) (kc_7 : (Int32 × zOS) → Option (zOS)) (x1 : Int32) (kc_21 : (Int64 × Int32 × zOS) → Option (zOS)) (x2 : Int64) (x4 : Int32) (sL : zOS) : Option (zOS) := (if (64 : Int32) ≤ x4 then (kc_7 ((x1 + 1), sL)) else (if (lg_cmp x2 (0 : Int64)) = 0 then (kc_7 ((x1 + 1), sL)) else (if (96 : Int32) ≤ (zF sL 12) then (kc_7 ((x1 + 1), sL)) else (Option.bind (fX0_hangingTogether F x2) (fun r_4 : Int64 => (zchk (zF sL 12) 96 (zlet (zsL sL 2 (vp_updL (zL sL 2) (zF sL 12).toNatClampNeg r_4)) (fun sL_6 : zOS => (zchk (zF sL_6 12) 96 (zlet (zsI sL_6 3 (upd (zI sL_6 3) (zF sL_6 12).toNatClampNeg x1)) (fun sL_7 : zOS => (zlet (zsF sL_7 12 ((zF sL_7 12) + (1 : Int32))) (fun sL_8 : zOS => (zlet (x2 &&& (r_4 ^^^ (-1 : Int64))) (fun x2_9 : Int64 => (kc_21 (x2_9, (x4 + 1), sL_8)))))))))))))))))
set_option maxRecDepth 20000 in
theorem vX0_findPieces_21 {X : zCx} {res : zOS} {F : Nat} {qL : Nat → Nat} {x1 : Int32} {kc_7 : (Int32 × zOS) → Option (zOS)} {kc_21 : (Int64 × Int32 × zOS) → Option (zOS)} (C : zC X RX0 cX0_findPieces 7 2 51) (hR : zR X none none [(0, qL, res)]) (hk_7 : ∀ (y1 : Int32) (tL : zOS), zJ X 7 res (kc_7 (y1, tL)) 7 [(0, (.ref (qL 0))), (1, (.int y1))] [] [(0, qL, tL)]) (hk_21 : ∀ (y2 : Int64) (y4 : Int32) (tL : zOS), zJ X 7 res (kc_21 (y2, y4, tL)) 21 [(0, (.ref (qL 0))), (1, (.int x1)), (2, (.long y2)), (4, (.int y4))] [] [(0, qL, tL)]) (x2 : Int64) (x4 : Int32) (sL : zOS) : zJ X 7 res (bX0_findPieces_21 F kc_7 x1 kc_21 x2 x4 sL) 21 [(0, (.ref (qL 0))), (1, (.int x1)), (2, (.long x2)), (4, (.int x4))] [] [(0, qL, sL)] := by
  unfold bX0_findPieces_21
  refine z_iload (pc := 21) 3 rfl C dX0_findPieces_21 ?_
  refine z_bipush (pc := 23) (64 : Int32) (by decide) C dX0_findPieces_23 ?_
  refine z_icmp_ge (pc := 25) 95 C dX0_findPieces_25 (by decide) ?_ ?_
  · refine z_iinc (pc := 95) (x1 + 1) 1 rfl rfl [(0, (.ref (qL 0))), (1, (.int (x1 + 1))), (2, (.long x2)), (4, (.int x4))] [1, 0, 2, 3] (by decide) rfl C dX0_findPieces_95 ?_
    refine z_goto (pc := 98) 7 C dX0_findPieces_98 (by decide) ?_
    refine z_lv [(0, (.ref (qL 0))), (1, (.int (x1 + 1)))] [0, 1] rfl ?_
    exact hk_7 _ _
  · refine z_lload_n (pc := 28) 2 rfl rfl C dX0_findPieces_28 ?_
    refine z_lconst (pc := 29) (0 : Int64) (by decide) C dX0_findPieces_29 ?_
    refine z_lcmp (pc := 30) C dX0_findPieces_30 ?_
    refine z_if_eq (pc := 31) 95 C dX0_findPieces_31 (by decide) ?_ ?_
    · refine z_iinc (pc := 95) (x1 + 1) 1 rfl rfl [(0, (.ref (qL 0))), (1, (.int (x1 + 1))), (2, (.long x2)), (4, (.int x4))] [1, 0, 2, 3] (by decide) rfl C dX0_findPieces_95 ?_
      refine z_goto (pc := 98) 7 C dX0_findPieces_98 (by decide) ?_
      refine z_lv [(0, (.ref (qL 0))), (1, (.int (x1 + 1)))] [0, 1] rfl ?_
      exact hk_7 _ _
    · refine z_aload_n (pc := 34) 0 rfl rfl C dX0_findPieces_34 ?_
      refine z_getI (pc := 35) 0 12 C dX0_findPieces_35 rfl (by decide) (by decide) rfl zw_153 ?_
      refine z_bipush (pc := 38) (96 : Int32) (by decide) C dX0_findPieces_38 ?_
      refine z_icmp_ge (pc := 40) 95 C dX0_findPieces_40 (by decide) ?_ ?_
      · refine z_iinc (pc := 95) (x1 + 1) 1 rfl rfl [(0, (.ref (qL 0))), (1, (.int (x1 + 1))), (2, (.long x2)), (4, (.int x4))] [1, 0, 2, 3] (by decide) rfl C dX0_findPieces_95 ?_
        refine z_goto (pc := 98) 7 C dX0_findPieces_98 (by decide) ?_
        refine z_lv [(0, (.ref (qL 0))), (1, (.int (x1 + 1)))] [0, 1] rfl ?_
        exact hk_7 _ _
      · refine z_lload_n (pc := 43) 2 rfl rfl C dX0_findPieces_43 ?_
        refine z_callS (pc := 44) (rf' := 1) (rl' := 25) (fX0_hangingTogether F x2) [(.long x2)] [] [] (fun r_4 => (some (.long r_4))) (fun r_4 => []) [(0, qL, sL)] (fun r_4 => [(0, qL, sL)]) C dX0_findPieces_44 zy_X0_hangingTogether zw_417 (fun _ hr9 => mX0_hangingTogether  hr9) (by decide) rfl (Nat.le_of_ble_eq_true rfl) (List.Perm.refl _) (fun _ => List.Perm.refl _) rfl (fun r_4 hr_5 => ?_)
        show zJ X 7 res _ 47 [(0, (.ref (qL 0))), (1, (.int x1)), (2, (.long x2)), (4, (.int x4))] [(.long r_4)] [(0, qL, sL)]
        refine z_lstore (pc := 47) [(0, (.ref (qL 0))), (1, (.int x1)), (2, (.long x2)), (4, (.int x4)), (5, (.long r_4))] [1, 2, 3, 4, 0] (by decide) rfl C dX0_findPieces_47 ?_
        refine z_aload_n (pc := 49) 0 rfl rfl C dX0_findPieces_49 ?_
        refine z_getR (pc := 50) 0 1 2 C dX0_findPieces_50 rfl (by decide) (by decide) rfl zw_139 ?_
        refine z_aload_n (pc := 53) 0 rfl rfl C dX0_findPieces_53 ?_
        refine z_getI (pc := 54) 0 12 C dX0_findPieces_54 rfl (by decide) (by decide) rfl zw_153 ?_
        refine z_lload (pc := 57) 4 rfl C dX0_findPieces_57 ?_
        refine z_last (pc := 59) 0 C dX0_findPieces_59 rfl (by unfold zAr; decide) [(0, qL, (zsL sL 2 (vp_updL (zL sL 2) (zF sL 12).toNatClampNeg r_4)))] rfl ?_
        refine z_letc (fun z9 => [(0, qL, z9)]) (fun sL_6 => ?_)
        refine z_aload_n (pc := 60) 0 rfl rfl C dX0_findPieces_60 ?_
        refine z_getR (pc := 61) 0 2 3 C dX0_findPieces_61 rfl (by decide) (by decide) rfl zw_140 ?_
        refine z_aload_n (pc := 64) 0 rfl rfl C dX0_findPieces_64 ?_
        refine z_getI (pc := 65) 0 12 C dX0_findPieces_65 rfl (by decide) (by decide) rfl zw_153 ?_
        refine z_iload_n (pc := 68) 1 rfl rfl C dX0_findPieces_68 ?_
        refine z_iast (pc := 69) 0 C dX0_findPieces_69 rfl (by unfold zAr; decide) [(0, qL, (zsI sL_6 3 (upd (zI sL_6 3) (zF sL_6 12).toNatClampNeg x1)))] rfl ?_
        refine z_letc (fun z9 => [(0, qL, z9)]) (fun sL_7 => ?_)
        refine z_aload_n (pc := 70) 0 rfl rfl C dX0_findPieces_70 ?_
        refine z_dup (pc := 71) rfl C dX0_findPieces_71 ?_
        refine z_getI (pc := 72) 0 12 C dX0_findPieces_72 rfl (by decide) (by decide) rfl zw_153 ?_
        refine z_iconst (pc := 75) (1 : Int32) (by decide) C dX0_findPieces_75 ?_
        refine z_iadd (pc := 76) C dX0_findPieces_76 ?_
        refine z_putI (pc := 77) 0 12 C dX0_findPieces_77 rfl (by decide) (by decide) rfl zw_153 rfl rfl rfl [(0, qL, (zsF sL_7 12 ((zF sL_7 12) + (1 : Int32))))] rfl ?_
        refine z_letc (fun z9 => [(0, qL, z9)]) (fun sL_8 => ?_)
        refine z_lload_n (pc := 80) 2 rfl rfl C dX0_findPieces_80 ?_
        refine z_lload (pc := 81) 4 rfl C dX0_findPieces_81 ?_
        refine z_ldc2_w (pc := 83) (-1 : Int64) zw_416 C dX0_findPieces_83 ?_
        refine z_lxor (pc := 86) C dX0_findPieces_86 ?_
        refine z_land (pc := 87) C dX0_findPieces_87 ?_
        refine z_letl (fun x2_9 => ?_)
        refine z_lstore_n (pc := 88) [(0, (.ref (qL 0))), (1, (.int x1)), (2, (.long x2_9)), (4, (.int x4)), (5, (.long r_4))] [1, 2, 0, 3, 4] (by decide) rfl rfl C dX0_findPieces_88 ?_
        refine z_iinc (pc := 89) (x4 + 1) 3 rfl rfl [(0, (.ref (qL 0))), (1, (.int x1)), (2, (.long x2_9)), (4, (.int (x4 + 1))), (5, (.long r_4))] [1, 2, 3, 0, 4] (by decide) rfl C dX0_findPieces_89 ?_
        refine z_goto (pc := 92) 21 C dX0_findPieces_92 (by decide) ?_
        refine z_lv [(0, (.ref (qL 0))), (1, (.int x1)), (2, (.long x2_9)), (4, (.int (x4 + 1)))] [0, 1, 2, 3] rfl ?_
        exact hk_21 _ _ _
def bX0_findPieces_7 (F : Nat) (kc_7 : (Int32 × zOS) → Option (zOS)) (x1 : Int32) (sL : zOS) : Option (zOS) := (if (3 : Int32) ≤ x1 then (some (sL)) else (Option.bind (fX0_cellsOf x1 sL) (fun r_2 : Int64 => (zit (P := Int64 × Int32 × zOS) (R := zOS) (fun kc9 p9 => bX0_findPieces_21 F kc_7 x1 kc9 p9.1 p9.2.1 p9.2.2) F (r_2, (0 : Int32), sL)))))
set_option maxRecDepth 20000 in
theorem vX0_findPieces_7 {X : zCx} {res : zOS} {F : Nat} {qL : Nat → Nat} {kc_7 : (Int32 × zOS) → Option (zOS)} (C : zC X RX0 cX0_findPieces 7 2 51) (hR : zR X none none [(0, qL, res)]) (hk_7 : ∀ (y1 : Int32) (tL : zOS), zJ X 7 res (kc_7 (y1, tL)) 7 [(0, (.ref (qL 0))), (1, (.int y1))] [] [(0, qL, tL)]) (x1 : Int32) (sL : zOS) : zJ X 7 res (bX0_findPieces_7 F kc_7 x1 sL) 7 [(0, (.ref (qL 0))), (1, (.int x1))] [] [(0, qL, sL)] := by
  unfold bX0_findPieces_7
  refine z_iload_n (pc := 7) 1 rfl rfl C dX0_findPieces_7 ?_
  refine z_iconst (pc := 8) (3 : Int32) (by decide) C dX0_findPieces_8 ?_
  refine z_icmp_ge (pc := 9) 101 C dX0_findPieces_9 (by decide) ?_ ?_
  · exact z_return (pc := 101) C hR dX0_findPieces_101 (fun h => by subst h; exact ⟨rfl, rfl⟩)
  · refine z_aload_n (pc := 12) 0 rfl rfl C dX0_findPieces_12 ?_
    refine z_iload_n (pc := 13) 1 rfl rfl C dX0_findPieces_13 ?_
    refine z_callV (pc := 14) (rf' := 0) (rl' := 0) (fX0_cellsOf x1 sL) [(.int x1)] [] [(0, qL, sL)] (fun r_2 => (some (.long r_2))) (fun r_2 => [(0, qL, sL)]) [] (fun r_2 => [(0, qL, sL)]) C dX0_findPieces_14 zy_X0_cellsOf zw_412 (fun _ hr9 => mX0_cellsOf  hr9) (by decide) rfl rfl (by decide) rfl (Nat.le_of_ble_eq_true rfl) (List.Perm.refl _) (fun _ => List.Perm.refl _) rfl (fun r_2 hr_3 => ?_)
    show zJ X 7 res _ 17 [(0, (.ref (qL 0))), (1, (.int x1))] [(.long r_2)] [(0, qL, sL)]
    refine z_lstore_n (pc := 17) [(0, (.ref (qL 0))), (1, (.int x1)), (2, (.long r_2))] [1, 2, 0] (by decide) rfl rfl C dX0_findPieces_17 ?_
    refine z_iconst (pc := 18) (0 : Int32) (by decide) C dX0_findPieces_18 ?_
    refine z_istore (pc := 19) [(0, (.ref (qL 0))), (1, (.int x1)), (2, (.long r_2)), (4, (.int (0 : Int32)))] [1, 2, 3, 0] (by decide) rfl C dX0_findPieces_19 ?_
    exact zit_J (fun p9 => [(0, (.ref (qL 0))), (1, (.int x1)), (2, (.long p9.1)), (4, (.int p9.2.1))]) (fun p9 => [(0, qL, p9.2.2)]) (fun kc9 hk9 p9 => vX0_findPieces_21 C hR  hk_7 (fun a0 a1 a2 => hk9 (a0, a1, a2)) _ _ _) F _
def fX0_findPieces (F : Nat) (sL : zOS) : Option (zOS) := (zlet (zsF sL 12 (0 : Int32)) (fun sL_1 : zOS => (zit (P := Int32 × zOS) (R := zOS) (fun kc9 p9 => bX0_findPieces_7 F kc9 p9.1 p9.2) F ((0 : Int32), sL_1))))
set_option maxRecDepth 20000 in
theorem wX0_findPieces {X : zCx} {res : zOS} {F : Nat} {qL : Nat → Nat} {sL : zOS} (C : zC X RX0 cX0_findPieces 7 2 51) (hR : zR X none none [(0, qL, res)])  : zJ X 7 res (fX0_findPieces F sL) 0 [(0, (.ref (qL 0)))] [] [(0, qL, sL)] := by
  unfold fX0_findPieces
  refine z_aload_n (pc := 0) 0 rfl rfl C dX0_findPieces_0 ?_
  refine z_iconst (pc := 1) (0 : Int32) (by decide) C dX0_findPieces_1 ?_
  refine z_putI (pc := 2) 0 12 C dX0_findPieces_2 rfl (by decide) (by decide) rfl zw_153 rfl rfl rfl [(0, qL, (zsF sL 12 (0 : Int32)))] rfl ?_
  refine z_letc (fun z9 => [(0, qL, z9)]) (fun sL_1 => ?_)
  refine z_iconst (pc := 5) (0 : Int32) (by decide) C dX0_findPieces_5 ?_
  refine z_istore_n (pc := 6) [(0, (.ref (qL 0))), (1, (.int (0 : Int32)))] [1, 0] (by decide) rfl rfl C dX0_findPieces_6 ?_
  exact zit_J (fun p9 => [(0, (.ref (qL 0))), (1, (.int p9.1))]) (fun p9 => [(0, qL, p9.2)]) (fun kc9 hk9 p9 => vX0_findPieces_7 C hR   (fun a0 a1 => hk9 (a0, a1)) _ _) F _
theorem mX0_findPieces {F : Nat} {qL : Nat → Nat} {sL : zOS} {res : zOS}  (hf : fX0_findPieces F sL = some res) : zM yX0_findPieces cX0_findPieces 7 none 2 51 [(.ref (qL 0))] [(0, qL, sL)] none [(0, qL, res)] := zM_of (by decide +kernel) (Nat.le_of_ble_eq_true rfl) (fun X C hR => wX0_findPieces (F := F) C hR  hf)
theorem dX0_join_0 : decode cX0_join 0 = .ok (.iload_n 1, 1) := by decide +kernel
theorem dX0_join_1 : decode cX0_join 1 = .ok (.iload_n 2, 1) := by decide +kernel
theorem dX0_join_2 : decode cX0_join 2 = .ok (.invokestatic 152, 3) := by decide +kernel
theorem dX0_join_5 : decode cX0_join 5 = .ok (.istore_n 3, 1) := by decide +kernel
theorem dX0_join_6 : decode cX0_join 6 = .ok (.iload_n 1, 1) := by decide +kernel
theorem dX0_join_7 : decode cX0_join 7 = .ok (.iload_n 2, 1) := by decide +kernel
theorem dX0_join_8 : decode cX0_join 8 = .ok (.invokestatic 157, 3) := by decide +kernel
theorem dX0_join_11 : decode cX0_join 11 = .ok (.istore 4, 2) := by decide +kernel
theorem dX0_join_13 : decode cX0_join 13 = .ok (.iconst 0, 1) := by decide +kernel
theorem dX0_join_14 : decode cX0_join 14 = .ok (.istore 5, 2) := by decide +kernel
theorem dX0_join_16 : decode cX0_join 16 = .ok (.iload 5, 2) := by decide +kernel
theorem dX0_join_18 : decode cX0_join 18 = .ok (.aload_n 0, 1) := by decide +kernel
theorem dX0_join_19 : decode cX0_join 19 = .ok (.getfield 51, 3) := by decide +kernel
theorem dX0_join_22 : decode cX0_join 22 = .ok (.if_icmp .ge 29, 3) := by decide +kernel
theorem dX0_join_25 : decode cX0_join 25 = .ok (.aload_n 0, 1) := by decide +kernel
theorem dX0_join_26 : decode cX0_join 26 = .ok (.getfield 22, 3) := by decide +kernel
theorem dX0_join_29 : decode cX0_join 29 = .ok (.iload 5, 2) := by decide +kernel
theorem dX0_join_31 : decode cX0_join 31 = .ok (.iaload, 1) := by decide +kernel
theorem dX0_join_32 : decode cX0_join 32 = .ok (.iload 4, 2) := by decide +kernel
theorem dX0_join_34 : decode cX0_join 34 = .ok (.if_icmp .ne 11, 3) := by decide +kernel
theorem dX0_join_37 : decode cX0_join 37 = .ok (.aload_n 0, 1) := by decide +kernel
theorem dX0_join_38 : decode cX0_join 38 = .ok (.getfield 22, 3) := by decide +kernel
theorem dX0_join_41 : decode cX0_join 41 = .ok (.iload 5, 2) := by decide +kernel
theorem dX0_join_43 : decode cX0_join 43 = .ok (.iload_n 3, 1) := by decide +kernel
theorem dX0_join_44 : decode cX0_join 44 = .ok (.iastore, 1) := by decide +kernel
theorem dX0_join_45 : decode cX0_join 45 = .ok (.iinc 5 1, 3) := by decide +kernel
theorem dX0_join_48 : decode cX0_join 48 = .ok (.goto (-32), 3) := by decide +kernel
theorem dX0_join_51 : decode cX0_join 51 = .ok (.return_, 1) := by decide +kernel
def bX0_join_16 (F : Nat) (x3 : Int32) (x4 : Int32) (kc_16 : (Int32 × zOS) → Option (zOS)) (x5 : Int32) (sL : zOS) : Option (zOS) := (if (zF sL 12) ≤ x5 then (some (sL)) else (zchk x5 96 (if (zI sL 4 x5.toNatClampNeg) = x4 then (zchk x5 96 (zlet (zsI sL 4 (upd (zI sL 4) x5.toNatClampNeg x3)) (fun sL_3 : zOS => (kc_16 ((x5 + 1), sL_3))))) else (kc_16 ((x5 + 1), sL)))))
set_option maxRecDepth 20000 in
theorem vX0_join_16 {X : zCx} {res : zOS} {F : Nat} {qL : Nat → Nat} {x3 : Int32} {x4 : Int32} {kc_16 : (Int32 × zOS) → Option (zOS)} (C : zC X RX0 cX0_join 6 1 21) (hR : zR X none none [(0, qL, res)]) (hk_16 : ∀ (y5 : Int32) (tL : zOS), zJ X 6 res (kc_16 (y5, tL)) 16 [(0, (.ref (qL 0))), (3, (.int x3)), (4, (.int x4)), (5, (.int y5))] [] [(0, qL, tL)]) (x5 : Int32) (sL : zOS) : zJ X 6 res (bX0_join_16 F x3 x4 kc_16 x5 sL) 16 [(0, (.ref (qL 0))), (3, (.int x3)), (4, (.int x4)), (5, (.int x5))] [] [(0, qL, sL)] := by
  unfold bX0_join_16
  refine z_iload (pc := 16) 3 rfl C dX0_join_16 ?_
  refine z_aload_n (pc := 18) 0 rfl rfl C dX0_join_18 ?_
  refine z_getI (pc := 19) 0 12 C dX0_join_19 rfl (by decide) (by decide) rfl zw_153 ?_
  refine z_icmp_ge (pc := 22) 51 C dX0_join_22 (by decide) ?_ ?_
  · exact z_return (pc := 51) C hR dX0_join_51 (fun h => by subst h; exact ⟨rfl, rfl⟩)
  · refine z_aload_n (pc := 25) 0 rfl rfl C dX0_join_25 ?_
    refine z_getR (pc := 26) 0 3 4 C dX0_join_26 rfl (by decide) (by decide) rfl zw_141 ?_
    refine z_iload (pc := 29) 3 rfl C dX0_join_29 ?_
    refine z_iald (pc := 31) 0 C dX0_join_31 rfl (by unfold zAr; decide) ?_
    refine z_iload (pc := 32) 2 rfl C dX0_join_32 ?_
    refine z_icmp_ne (pc := 34) 45 C dX0_join_34 (by decide) ?_ ?_
    · refine z_aload_n (pc := 37) 0 rfl rfl C dX0_join_37 ?_
      refine z_getR (pc := 38) 0 3 4 C dX0_join_38 rfl (by decide) (by decide) rfl zw_141 ?_
      refine z_iload (pc := 41) 3 rfl C dX0_join_41 ?_
      refine z_iload_n (pc := 43) 1 rfl rfl C dX0_join_43 ?_
      refine z_iast (pc := 44) 0 C dX0_join_44 rfl (by unfold zAr; decide) [(0, qL, (zsI sL 4 (upd (zI sL 4) x5.toNatClampNeg x3)))] rfl ?_
      refine z_letc (fun z9 => [(0, qL, z9)]) (fun sL_3 => ?_)
      refine z_iinc (pc := 45) (x5 + 1) 3 rfl rfl [(0, (.ref (qL 0))), (3, (.int x3)), (4, (.int x4)), (5, (.int (x5 + 1)))] [1, 2, 3, 0] (by decide) rfl C dX0_join_45 ?_
      refine z_goto (pc := 48) 16 C dX0_join_48 (by decide) ?_
      exact hk_16 _ _
    · refine z_iinc (pc := 45) (x5 + 1) 3 rfl rfl [(0, (.ref (qL 0))), (3, (.int x3)), (4, (.int x4)), (5, (.int (x5 + 1)))] [1, 2, 3, 0] (by decide) rfl C dX0_join_45 ?_
      refine z_goto (pc := 48) 16 C dX0_join_48 (by decide) ?_
      exact hk_16 _ _
def fX0_join (F : Nat) (x1 : Int32) (x2 : Int32) (sL : zOS) : Option (zOS) := (zlet (if x2 < x1 then x2 else x1) (fun x3_1 : Int32 => (zlet (if x1 < x2 then x2 else x1) (fun x4_2 : Int32 => (zit (P := Int32 × zOS) (R := zOS) (fun kc9 p9 => bX0_join_16 F x3_1 x4_2 kc9 p9.1 p9.2) F ((0 : Int32), sL))))))
set_option maxRecDepth 20000 in
theorem wX0_join {X : zCx} {res : zOS} {F : Nat} {qL : Nat → Nat} {x1 : Int32} {x2 : Int32} {sL : zOS} (C : zC X RX0 cX0_join 6 1 21) (hR : zR X none none [(0, qL, res)])  : zJ X 6 res (fX0_join F x1 x2 sL) 0 [(0, (.ref (qL 0))), (1, (.int x1)), (2, (.int x2))] [] [(0, qL, sL)] := by
  unfold fX0_join
  refine z_iload_n (pc := 0) 1 rfl rfl C dX0_join_0 ?_
  refine z_iload_n (pc := 1) 2 rfl rfl C dX0_join_1 ?_
  refine z_min (pc := 2) C dX0_join_2 zw_437 zw_438 zw_86 zw_439 (by decide) (Nat.le_of_ble_eq_true rfl) ?_
  refine z_leti (fun x3_1 => ?_)
  refine z_istore_n (pc := 5) [(0, (.ref (qL 0))), (1, (.int x1)), (2, (.int x2)), (3, (.int x3_1))] [1, 2, 3, 0] (by decide) rfl rfl C dX0_join_5 ?_
  refine z_iload_n (pc := 6) 1 rfl rfl C dX0_join_6 ?_
  refine z_iload_n (pc := 7) 2 rfl rfl C dX0_join_7 ?_
  refine z_max (pc := 8) C dX0_join_8 zw_440 zw_441 zw_86 zw_442 (by decide) (Nat.le_of_ble_eq_true rfl) ?_
  refine z_leti (fun x4_2 => ?_)
  refine z_istore (pc := 11) [(0, (.ref (qL 0))), (1, (.int x1)), (2, (.int x2)), (3, (.int x3_1)), (4, (.int x4_2))] [1, 2, 3, 4, 0] (by decide) rfl C dX0_join_11 ?_
  refine z_iconst (pc := 13) (0 : Int32) (by decide) C dX0_join_13 ?_
  refine z_istore (pc := 14) [(0, (.ref (qL 0))), (1, (.int x1)), (2, (.int x2)), (3, (.int x3_1)), (4, (.int x4_2)), (5, (.int (0 : Int32)))] [1, 2, 3, 4, 5, 0] (by decide) rfl C dX0_join_14 ?_
  refine z_lv [(0, (.ref (qL 0))), (3, (.int x3_1)), (4, (.int x4_2)), (5, (.int (0 : Int32)))] [0, 3, 4, 5] rfl ?_
  exact zit_J (fun p9 => [(0, (.ref (qL 0))), (3, (.int x3_1)), (4, (.int x4_2)), (5, (.int p9.1))]) (fun p9 => [(0, qL, p9.2)]) (fun kc9 hk9 p9 => vX0_join_16 C hR   (fun a0 a1 => hk9 (a0, a1)) _ _) F _
theorem mX0_join {F : Nat} {qL : Nat → Nat} {x1 : Int32} {x2 : Int32} {sL : zOS} {res : zOS}  (hf : fX0_join F x1 x2 sL = some res) : zM yX0_join cX0_join 6 none 1 21 [(.ref (qL 0)), (.int x1), (.int x2)] [(0, qL, sL)] none [(0, qL, res)] := zM_of (by decide +kernel) (Nat.le_of_ble_eq_true rfl) (fun X C hR => wX0_join (F := F) C hR  hf)
theorem dX0_joinBelow_0 : decode cX0_joinBelow 0 = .ok (.aload_n 0, 1) := by decide +kernel
theorem dX0_joinBelow_1 : decode cX0_joinBelow 1 = .ok (.getfield 15, 3) := by decide +kernel
theorem dX0_joinBelow_4 : decode cX0_joinBelow 4 = .ok (.iload_n 1, 1) := by decide +kernel
theorem dX0_joinBelow_5 : decode cX0_joinBelow 5 = .ok (.laload, 1) := by decide +kernel
theorem dX0_joinBelow_6 : decode cX0_joinBelow 6 = .ok (.aload_n 0, 1) := by decide +kernel
theorem dX0_joinBelow_7 : decode cX0_joinBelow 7 = .ok (.getfield 9, 3) := by decide +kernel
theorem dX0_joinBelow_10 : decode cX0_joinBelow 10 = .ok (.iconst 3, 1) := by decide +kernel
theorem dX0_joinBelow_11 : decode cX0_joinBelow 11 = .ok (.laload, 1) := by decide +kernel
theorem dX0_joinBelow_12 : decode cX0_joinBelow 12 = .ok (.land, 1) := by decide +kernel
theorem dX0_joinBelow_13 : decode cX0_joinBelow 13 = .ok (.lstore_n 2, 1) := by decide +kernel
theorem dX0_joinBelow_14 : decode cX0_joinBelow 14 = .ok (.iconst 0, 1) := by decide +kernel
theorem dX0_joinBelow_15 : decode cX0_joinBelow 15 = .ok (.istore 4, 2) := by decide +kernel
theorem dX0_joinBelow_17 : decode cX0_joinBelow 17 = .ok (.iload 4, 2) := by decide +kernel
theorem dX0_joinBelow_19 : decode cX0_joinBelow 19 = .ok (.iload_n 1, 1) := by decide +kernel
theorem dX0_joinBelow_20 : decode cX0_joinBelow 20 = .ok (.if_icmp .ge 57, 3) := by decide +kernel
theorem dX0_joinBelow_23 : decode cX0_joinBelow 23 = .ok (.lload_n 2, 1) := by decide +kernel
theorem dX0_joinBelow_24 : decode cX0_joinBelow 24 = .ok (.lconst 0, 1) := by decide +kernel
theorem dX0_joinBelow_25 : decode cX0_joinBelow 25 = .ok (.lcmp, 1) := by decide +kernel
theorem dX0_joinBelow_26 : decode cX0_joinBelow 26 = .ok (.ifCond .eq 51, 3) := by decide +kernel
theorem dX0_joinBelow_29 : decode cX0_joinBelow 29 = .ok (.aload_n 0, 1) := by decide +kernel
theorem dX0_joinBelow_30 : decode cX0_joinBelow 30 = .ok (.getfield 18, 3) := by decide +kernel
theorem dX0_joinBelow_33 : decode cX0_joinBelow 33 = .ok (.iload 4, 2) := by decide +kernel
theorem dX0_joinBelow_35 : decode cX0_joinBelow 35 = .ok (.iaload, 1) := by decide +kernel
theorem dX0_joinBelow_36 : decode cX0_joinBelow 36 = .ok (.iconst 2, 1) := by decide +kernel
theorem dX0_joinBelow_37 : decode cX0_joinBelow 37 = .ok (.if_icmp .eq 34, 3) := by decide +kernel
theorem dX0_joinBelow_40 : decode cX0_joinBelow 40 = .ok (.aload_n 0, 1) := by decide +kernel
theorem dX0_joinBelow_41 : decode cX0_joinBelow 41 = .ok (.getfield 15, 3) := by decide +kernel
theorem dX0_joinBelow_44 : decode cX0_joinBelow 44 = .ok (.iload 4, 2) := by decide +kernel
theorem dX0_joinBelow_46 : decode cX0_joinBelow 46 = .ok (.laload, 1) := by decide +kernel
theorem dX0_joinBelow_47 : decode cX0_joinBelow 47 = .ok (.lload_n 2, 1) := by decide +kernel
theorem dX0_joinBelow_48 : decode cX0_joinBelow 48 = .ok (.land, 1) := by decide +kernel
theorem dX0_joinBelow_49 : decode cX0_joinBelow 49 = .ok (.lconst 0, 1) := by decide +kernel
theorem dX0_joinBelow_50 : decode cX0_joinBelow 50 = .ok (.lcmp, 1) := by decide +kernel
theorem dX0_joinBelow_51 : decode cX0_joinBelow 51 = .ok (.ifCond .eq 20, 3) := by decide +kernel
theorem dX0_joinBelow_54 : decode cX0_joinBelow 54 = .ok (.aload_n 0, 1) := by decide +kernel
theorem dX0_joinBelow_55 : decode cX0_joinBelow 55 = .ok (.aload_n 0, 1) := by decide +kernel
theorem dX0_joinBelow_56 : decode cX0_joinBelow 56 = .ok (.getfield 22, 3) := by decide +kernel
theorem dX0_joinBelow_59 : decode cX0_joinBelow 59 = .ok (.iload 4, 2) := by decide +kernel
theorem dX0_joinBelow_61 : decode cX0_joinBelow 61 = .ok (.iaload, 1) := by decide +kernel
theorem dX0_joinBelow_62 : decode cX0_joinBelow 62 = .ok (.aload_n 0, 1) := by decide +kernel
theorem dX0_joinBelow_63 : decode cX0_joinBelow 63 = .ok (.getfield 22, 3) := by decide +kernel
theorem dX0_joinBelow_66 : decode cX0_joinBelow 66 = .ok (.iload_n 1, 1) := by decide +kernel
theorem dX0_joinBelow_67 : decode cX0_joinBelow 67 = .ok (.iaload, 1) := by decide +kernel
theorem dX0_joinBelow_68 : decode cX0_joinBelow 68 = .ok (.invokevirtual 148, 3) := by decide +kernel
theorem dX0_joinBelow_71 : decode cX0_joinBelow 71 = .ok (.iinc 4 1, 3) := by decide +kernel
theorem dX0_joinBelow_74 : decode cX0_joinBelow 74 = .ok (.goto (-57), 3) := by decide +kernel
theorem dX0_joinBelow_77 : decode cX0_joinBelow 77 = .ok (.return_, 1) := by decide +kernel
def bX0_joinBelow_17 (F : Nat) (x1 : Int32) (x2 : Int64) (kc_17 : (Int32 × zOS) → Option (zOS)) (x4 : Int32) (sL : zOS) : Option (zOS) := (if x1 ≤ x4 then (some (sL)) else (if (lg_cmp x2 (0 : Int64)) = 0 then (some (sL)) else (zchk x4 96 (if (zI sL 3 x4.toNatClampNeg) = (2 : Int32) then (kc_17 ((x4 + 1), sL)) else (zchk x4 96 (if (lg_cmp ((zL sL 2 x4.toNatClampNeg) &&& x2) (0 : Int64)) = 0 then (kc_17 ((x4 + 1), sL)) else (zchk x4 96 (zchk x1 96 (Option.bind (fX0_join F (zI sL 4 x4.toNatClampNeg) (zI sL 4 x1.toNatClampNeg) sL) (fun r_2 : zOS => (kc_17 ((x4 + 1), r_2))))))))))))
set_option maxRecDepth 20000 in
theorem vX0_joinBelow_17 {X : zCx} {res : zOS} {F : Nat} {qL : Nat → Nat} {x1 : Int32} {x2 : Int64} {kc_17 : (Int32 × zOS) → Option (zOS)} (C : zC X RX0 cX0_joinBelow 5 2 46) (hR : zR X none none [(0, qL, res)]) (hk_17 : ∀ (y4 : Int32) (tL : zOS), zJ X 5 res (kc_17 (y4, tL)) 17 [(0, (.ref (qL 0))), (1, (.int x1)), (2, (.long x2)), (4, (.int y4))] [] [(0, qL, tL)]) (x4 : Int32) (sL : zOS) : zJ X 5 res (bX0_joinBelow_17 F x1 x2 kc_17 x4 sL) 17 [(0, (.ref (qL 0))), (1, (.int x1)), (2, (.long x2)), (4, (.int x4))] [] [(0, qL, sL)] := by
  unfold bX0_joinBelow_17
  refine z_iload (pc := 17) 3 rfl C dX0_joinBelow_17 ?_
  refine z_iload_n (pc := 19) 1 rfl rfl C dX0_joinBelow_19 ?_
  refine z_icmp_ge (pc := 20) 77 C dX0_joinBelow_20 (by decide) ?_ ?_
  · exact z_return (pc := 77) C hR dX0_joinBelow_77 (fun h => by subst h; exact ⟨rfl, rfl⟩)
  · refine z_lload_n (pc := 23) 2 rfl rfl C dX0_joinBelow_23 ?_
    refine z_lconst (pc := 24) (0 : Int64) (by decide) C dX0_joinBelow_24 ?_
    refine z_lcmp (pc := 25) C dX0_joinBelow_25 ?_
    refine z_if_eq (pc := 26) 77 C dX0_joinBelow_26 (by decide) ?_ ?_
    · exact z_return (pc := 77) C hR dX0_joinBelow_77 (fun h => by subst h; exact ⟨rfl, rfl⟩)
    · refine z_aload_n (pc := 29) 0 rfl rfl C dX0_joinBelow_29 ?_
      refine z_getR (pc := 30) 0 2 3 C dX0_joinBelow_30 rfl (by decide) (by decide) rfl zw_140 ?_
      refine z_iload (pc := 33) 3 rfl C dX0_joinBelow_33 ?_
      refine z_iald (pc := 35) 0 C dX0_joinBelow_35 rfl (by unfold zAr; decide) ?_
      refine z_iconst (pc := 36) (2 : Int32) (by decide) C dX0_joinBelow_36 ?_
      refine z_icmp_eq (pc := 37) 71 C dX0_joinBelow_37 (by decide) ?_ ?_
      · refine z_iinc (pc := 71) (x4 + 1) 3 rfl rfl [(0, (.ref (qL 0))), (1, (.int x1)), (2, (.long x2)), (4, (.int (x4 + 1)))] [1, 2, 3, 0] (by decide) rfl C dX0_joinBelow_71 ?_
        refine z_goto (pc := 74) 17 C dX0_joinBelow_74 (by decide) ?_
        exact hk_17 _ _
      · refine z_aload_n (pc := 40) 0 rfl rfl C dX0_joinBelow_40 ?_
        refine z_getR (pc := 41) 0 1 2 C dX0_joinBelow_41 rfl (by decide) (by decide) rfl zw_139 ?_
        refine z_iload (pc := 44) 3 rfl C dX0_joinBelow_44 ?_
        refine z_lald (pc := 46) 0 C dX0_joinBelow_46 rfl (by unfold zAr; decide) ?_
        refine z_lload_n (pc := 47) 2 rfl rfl C dX0_joinBelow_47 ?_
        refine z_land (pc := 48) C dX0_joinBelow_48 ?_
        refine z_lconst (pc := 49) (0 : Int64) (by decide) C dX0_joinBelow_49 ?_
        refine z_lcmp (pc := 50) C dX0_joinBelow_50 ?_
        refine z_if_eq (pc := 51) 71 C dX0_joinBelow_51 (by decide) ?_ ?_
        · refine z_iinc (pc := 71) (x4 + 1) 3 rfl rfl [(0, (.ref (qL 0))), (1, (.int x1)), (2, (.long x2)), (4, (.int (x4 + 1)))] [1, 2, 3, 0] (by decide) rfl C dX0_joinBelow_71 ?_
          refine z_goto (pc := 74) 17 C dX0_joinBelow_74 (by decide) ?_
          exact hk_17 _ _
        · refine z_aload_n (pc := 54) 0 rfl rfl C dX0_joinBelow_54 ?_
          refine z_aload_n (pc := 55) 0 rfl rfl C dX0_joinBelow_55 ?_
          refine z_getR (pc := 56) 0 3 4 C dX0_joinBelow_56 rfl (by decide) (by decide) rfl zw_141 ?_
          refine z_iload (pc := 59) 3 rfl C dX0_joinBelow_59 ?_
          refine z_iald (pc := 61) 0 C dX0_joinBelow_61 rfl (by unfold zAr; decide) ?_
          refine z_aload_n (pc := 62) 0 rfl rfl C dX0_joinBelow_62 ?_
          refine z_getR (pc := 63) 0 3 4 C dX0_joinBelow_63 rfl (by decide) (by decide) rfl zw_141 ?_
          refine z_iload_n (pc := 66) 1 rfl rfl C dX0_joinBelow_66 ?_
          refine z_iald (pc := 67) 0 C dX0_joinBelow_67 rfl (by unfold zAr; decide) ?_
          refine z_callV (pc := 68) (rf' := 1) (rl' := 21) (fX0_join F (zI sL 4 x4.toNatClampNeg) (zI sL 4 x1.toNatClampNeg) sL) [(.int (zI sL 4 x4.toNatClampNeg)), (.int (zI sL 4 x1.toNatClampNeg))] [] [(0, qL, sL)] (fun r_2 => none) (fun r_2 => [(0, qL, r_2)]) [] (fun r_2 => [(0, qL, r_2)]) C dX0_joinBelow_68 zy_X0_join zw_433 (fun _ hr9 => mX0_join  hr9) (by decide) rfl rfl (by decide) rfl (Nat.le_of_ble_eq_true rfl) (List.Perm.refl _) (fun _ => List.Perm.refl _) rfl (fun r_2 hr_3 => ?_)
          show zJ X 5 res _ 71 [(0, (.ref (qL 0))), (1, (.int x1)), (2, (.long x2)), (4, (.int x4))] [] [(0, qL, r_2)]
          refine z_iinc (pc := 71) (x4 + 1) 3 rfl rfl [(0, (.ref (qL 0))), (1, (.int x1)), (2, (.long x2)), (4, (.int (x4 + 1)))] [1, 2, 3, 0] (by decide) rfl C dX0_joinBelow_71 ?_
          refine z_goto (pc := 74) 17 C dX0_joinBelow_74 (by decide) ?_
          exact hk_17 _ _
def fX0_joinBelow (F : Nat) (x1 : Int32) (sL : zOS) : Option (zOS) := (zchk x1 96 (zchk (3 : Int32) 4 (zlet ((zL sL 2 x1.toNatClampNeg) &&& (zL sL 1 (3 : Int32).toNatClampNeg)) (fun x2_1 : Int64 => (zit (P := Int32 × zOS) (R := zOS) (fun kc9 p9 => bX0_joinBelow_17 F x1 x2_1 kc9 p9.1 p9.2) F ((0 : Int32), sL))))))
set_option maxRecDepth 20000 in
theorem wX0_joinBelow {X : zCx} {res : zOS} {F : Nat} {qL : Nat → Nat} {x1 : Int32} {sL : zOS} (C : zC X RX0 cX0_joinBelow 5 2 46) (hR : zR X none none [(0, qL, res)])  : zJ X 5 res (fX0_joinBelow F x1 sL) 0 [(0, (.ref (qL 0))), (1, (.int x1))] [] [(0, qL, sL)] := by
  unfold fX0_joinBelow
  refine z_aload_n (pc := 0) 0 rfl rfl C dX0_joinBelow_0 ?_
  refine z_getR (pc := 1) 0 1 2 C dX0_joinBelow_1 rfl (by decide) (by decide) rfl zw_139 ?_
  refine z_iload_n (pc := 4) 1 rfl rfl C dX0_joinBelow_4 ?_
  refine z_lald (pc := 5) 0 C dX0_joinBelow_5 rfl (by unfold zAr; decide) ?_
  refine z_aload_n (pc := 6) 0 rfl rfl C dX0_joinBelow_6 ?_
  refine z_getR (pc := 7) 0 0 1 C dX0_joinBelow_7 rfl (by decide) (by decide) rfl zw_138 ?_
  refine z_iconst (pc := 10) (3 : Int32) (by decide) C dX0_joinBelow_10 ?_
  refine z_lald (pc := 11) 0 C dX0_joinBelow_11 rfl (by unfold zAr; decide) ?_
  refine z_land (pc := 12) C dX0_joinBelow_12 ?_
  refine z_letl (fun x2_1 => ?_)
  refine z_lstore_n (pc := 13) [(0, (.ref (qL 0))), (1, (.int x1)), (2, (.long x2_1))] [1, 2, 0] (by decide) rfl rfl C dX0_joinBelow_13 ?_
  refine z_iconst (pc := 14) (0 : Int32) (by decide) C dX0_joinBelow_14 ?_
  refine z_istore (pc := 15) [(0, (.ref (qL 0))), (1, (.int x1)), (2, (.long x2_1)), (4, (.int (0 : Int32)))] [1, 2, 3, 0] (by decide) rfl C dX0_joinBelow_15 ?_
  exact zit_J (fun p9 => [(0, (.ref (qL 0))), (1, (.int x1)), (2, (.long x2_1)), (4, (.int p9.1))]) (fun p9 => [(0, qL, p9.2)]) (fun kc9 hk9 p9 => vX0_joinBelow_17 C hR   (fun a0 a1 => hk9 (a0, a1)) _ _) F _
theorem mX0_joinBelow {F : Nat} {qL : Nat → Nat} {x1 : Int32} {sL : zOS} {res : zOS}  (hf : fX0_joinBelow F x1 sL = some res) : zM yX0_joinBelow cX0_joinBelow 5 none 2 46 [(.ref (qL 0)), (.int x1)] [(0, qL, sL)] none [(0, qL, res)] := zM_of (by decide +kernel) (Nat.le_of_ble_eq_true rfl) (fun X C hR => wX0_joinBelow (F := F) C hR  hf)
theorem dX0_joinPieces_0 : decode cX0_joinPieces 0 = .ok (.iconst 0, 1) := by decide +kernel
theorem dX0_joinPieces_1 : decode cX0_joinPieces 1 = .ok (.istore_n 1, 1) := by decide +kernel
theorem dX0_joinPieces_2 : decode cX0_joinPieces 2 = .ok (.iload_n 1, 1) := by decide +kernel
theorem dX0_joinPieces_3 : decode cX0_joinPieces 3 = .ok (.aload_n 0, 1) := by decide +kernel
theorem dX0_joinPieces_4 : decode cX0_joinPieces 4 = .ok (.getfield 51, 3) := by decide +kernel
theorem dX0_joinPieces_7 : decode cX0_joinPieces 7 = .ok (.if_icmp .ge 16, 3) := by decide +kernel
theorem dX0_joinPieces_10 : decode cX0_joinPieces 10 = .ok (.aload_n 0, 1) := by decide +kernel
theorem dX0_joinPieces_11 : decode cX0_joinPieces 11 = .ok (.getfield 22, 3) := by decide +kernel
theorem dX0_joinPieces_14 : decode cX0_joinPieces 14 = .ok (.iload_n 1, 1) := by decide +kernel
theorem dX0_joinPieces_15 : decode cX0_joinPieces 15 = .ok (.iload_n 1, 1) := by decide +kernel
theorem dX0_joinPieces_16 : decode cX0_joinPieces 16 = .ok (.iastore, 1) := by decide +kernel
theorem dX0_joinPieces_17 : decode cX0_joinPieces 17 = .ok (.iinc 1 1, 3) := by decide +kernel
theorem dX0_joinPieces_20 : decode cX0_joinPieces 20 = .ok (.goto (-18), 3) := by decide +kernel
theorem dX0_joinPieces_23 : decode cX0_joinPieces 23 = .ok (.iconst 0, 1) := by decide +kernel
theorem dX0_joinPieces_24 : decode cX0_joinPieces 24 = .ok (.istore_n 1, 1) := by decide +kernel
theorem dX0_joinPieces_25 : decode cX0_joinPieces 25 = .ok (.iload_n 1, 1) := by decide +kernel
theorem dX0_joinPieces_26 : decode cX0_joinPieces 26 = .ok (.aload_n 0, 1) := by decide +kernel
theorem dX0_joinPieces_27 : decode cX0_joinPieces 27 = .ok (.getfield 51, 3) := by decide +kernel
theorem dX0_joinPieces_30 : decode cX0_joinPieces 30 = .ok (.if_icmp .ge 24, 3) := by decide +kernel
theorem dX0_joinPieces_33 : decode cX0_joinPieces 33 = .ok (.aload_n 0, 1) := by decide +kernel
theorem dX0_joinPieces_34 : decode cX0_joinPieces 34 = .ok (.getfield 18, 3) := by decide +kernel
theorem dX0_joinPieces_37 : decode cX0_joinPieces 37 = .ok (.iload_n 1, 1) := by decide +kernel
theorem dX0_joinPieces_38 : decode cX0_joinPieces 38 = .ok (.iaload, 1) := by decide +kernel
theorem dX0_joinPieces_39 : decode cX0_joinPieces 39 = .ok (.iconst 2, 1) := by decide +kernel
theorem dX0_joinPieces_40 : decode cX0_joinPieces 40 = .ok (.if_icmp .ne 8, 3) := by decide +kernel
theorem dX0_joinPieces_43 : decode cX0_joinPieces 43 = .ok (.aload_n 0, 1) := by decide +kernel
theorem dX0_joinPieces_44 : decode cX0_joinPieces 44 = .ok (.iload_n 1, 1) := by decide +kernel
theorem dX0_joinPieces_45 : decode cX0_joinPieces 45 = .ok (.invokevirtual 144, 3) := by decide +kernel
theorem dX0_joinPieces_48 : decode cX0_joinPieces 48 = .ok (.iinc 1 1, 3) := by decide +kernel
theorem dX0_joinPieces_51 : decode cX0_joinPieces 51 = .ok (.goto (-26), 3) := by decide +kernel
theorem dX0_joinPieces_54 : decode cX0_joinPieces 54 = .ok (.return_, 1) := by decide +kernel
def bX0_joinPieces_25 (F : Nat) (kc_25 : (Int32 × zOS) → Option (zOS)) (x1 : Int32) (sL : zOS) : Option (zOS) := (if (zF sL 12) ≤ x1 then (some (sL)) else (zchk x1 96 (if (zI sL 3 x1.toNatClampNeg) = (2 : Int32) then (Option.bind (fX0_joinBelow F x1 sL) (fun r_1 : zOS => (kc_25 ((x1 + 1), r_1)))) else (kc_25 ((x1 + 1), sL)))))
set_option maxRecDepth 20000 in
theorem vX0_joinPieces_25 {X : zCx} {res : zOS} {F : Nat} {qL : Nat → Nat} {kc_25 : (Int32 × zOS) → Option (zOS)} (C : zC X RX0 cX0_joinPieces 2 3 70) (hR : zR X none none [(0, qL, res)]) (hk_25 : ∀ (y1 : Int32) (tL : zOS), zJ X 2 res (kc_25 (y1, tL)) 25 [(0, (.ref (qL 0))), (1, (.int y1))] [] [(0, qL, tL)]) (x1 : Int32) (sL : zOS) : zJ X 2 res (bX0_joinPieces_25 F kc_25 x1 sL) 25 [(0, (.ref (qL 0))), (1, (.int x1))] [] [(0, qL, sL)] := by
  unfold bX0_joinPieces_25
  refine z_iload_n (pc := 25) 1 rfl rfl C dX0_joinPieces_25 ?_
  refine z_aload_n (pc := 26) 0 rfl rfl C dX0_joinPieces_26 ?_
  refine z_getI (pc := 27) 0 12 C dX0_joinPieces_27 rfl (by decide) (by decide) rfl zw_153 ?_
  refine z_icmp_ge (pc := 30) 54 C dX0_joinPieces_30 (by decide) ?_ ?_
  · exact z_return (pc := 54) C hR dX0_joinPieces_54 (fun h => by subst h; exact ⟨rfl, rfl⟩)
  · refine z_aload_n (pc := 33) 0 rfl rfl C dX0_joinPieces_33 ?_
    refine z_getR (pc := 34) 0 2 3 C dX0_joinPieces_34 rfl (by decide) (by decide) rfl zw_140 ?_
    refine z_iload_n (pc := 37) 1 rfl rfl C dX0_joinPieces_37 ?_
    refine z_iald (pc := 38) 0 C dX0_joinPieces_38 rfl (by unfold zAr; decide) ?_
    refine z_iconst (pc := 39) (2 : Int32) (by decide) C dX0_joinPieces_39 ?_
    refine z_icmp_ne (pc := 40) 48 C dX0_joinPieces_40 (by decide) ?_ ?_
    · refine z_aload_n (pc := 43) 0 rfl rfl C dX0_joinPieces_43 ?_
      refine z_iload_n (pc := 44) 1 rfl rfl C dX0_joinPieces_44 ?_
      refine z_callV (pc := 45) (rf' := 2) (rl' := 46) (fX0_joinBelow F x1 sL) [(.int x1)] [] [(0, qL, sL)] (fun r_1 => none) (fun r_1 => [(0, qL, r_1)]) [] (fun r_1 => [(0, qL, r_1)]) C dX0_joinPieces_45 zy_X0_joinBelow zw_429 (fun _ hr9 => mX0_joinBelow  hr9) (by decide) rfl rfl (by decide) rfl (Nat.le_of_ble_eq_true rfl) (List.Perm.refl _) (fun _ => List.Perm.refl _) rfl (fun r_1 hr_2 => ?_)
      show zJ X 2 res _ 48 [(0, (.ref (qL 0))), (1, (.int x1))] [] [(0, qL, r_1)]
      refine z_iinc (pc := 48) (x1 + 1) 1 rfl rfl [(0, (.ref (qL 0))), (1, (.int (x1 + 1)))] [1, 0] (by decide) rfl C dX0_joinPieces_48 ?_
      refine z_goto (pc := 51) 25 C dX0_joinPieces_51 (by decide) ?_
      exact hk_25 _ _
    · refine z_iinc (pc := 48) (x1 + 1) 1 rfl rfl [(0, (.ref (qL 0))), (1, (.int (x1 + 1)))] [1, 0] (by decide) rfl C dX0_joinPieces_48 ?_
      refine z_goto (pc := 51) 25 C dX0_joinPieces_51 (by decide) ?_
      exact hk_25 _ _
def bX0_joinPieces_2 (F : Nat) (kc_2 : (Int32 × zOS) → Option (zOS)) (x1 : Int32) (sL : zOS) : Option (zOS) := (if (zF sL 12) ≤ x1 then (zit (P := Int32 × zOS) (R := zOS) (fun kc9 p9 => bX0_joinPieces_25 F kc9 p9.1 p9.2) F ((0 : Int32), sL)) else (zchk x1 96 (zlet (zsI sL 4 (upd (zI sL 4) x1.toNatClampNeg x1)) (fun sL_3 : zOS => (kc_2 ((x1 + 1), sL_3))))))
set_option maxRecDepth 20000 in
theorem vX0_joinPieces_2 {X : zCx} {res : zOS} {F : Nat} {qL : Nat → Nat} {kc_2 : (Int32 × zOS) → Option (zOS)} (C : zC X RX0 cX0_joinPieces 2 3 70) (hR : zR X none none [(0, qL, res)]) (hk_2 : ∀ (y1 : Int32) (tL : zOS), zJ X 2 res (kc_2 (y1, tL)) 2 [(0, (.ref (qL 0))), (1, (.int y1))] [] [(0, qL, tL)]) (x1 : Int32) (sL : zOS) : zJ X 2 res (bX0_joinPieces_2 F kc_2 x1 sL) 2 [(0, (.ref (qL 0))), (1, (.int x1))] [] [(0, qL, sL)] := by
  unfold bX0_joinPieces_2
  refine z_iload_n (pc := 2) 1 rfl rfl C dX0_joinPieces_2 ?_
  refine z_aload_n (pc := 3) 0 rfl rfl C dX0_joinPieces_3 ?_
  refine z_getI (pc := 4) 0 12 C dX0_joinPieces_4 rfl (by decide) (by decide) rfl zw_153 ?_
  refine z_icmp_ge (pc := 7) 23 C dX0_joinPieces_7 (by decide) ?_ ?_
  · refine z_iconst (pc := 23) (0 : Int32) (by decide) C dX0_joinPieces_23 ?_
    refine z_istore_n (pc := 24) [(0, (.ref (qL 0))), (1, (.int (0 : Int32)))] [1, 0] (by decide) rfl rfl C dX0_joinPieces_24 ?_
    exact zit_J (fun p9 => [(0, (.ref (qL 0))), (1, (.int p9.1))]) (fun p9 => [(0, qL, p9.2)]) (fun kc9 hk9 p9 => vX0_joinPieces_25 C hR   (fun a0 a1 => hk9 (a0, a1)) _ _) F _
  · refine z_aload_n (pc := 10) 0 rfl rfl C dX0_joinPieces_10 ?_
    refine z_getR (pc := 11) 0 3 4 C dX0_joinPieces_11 rfl (by decide) (by decide) rfl zw_141 ?_
    refine z_iload_n (pc := 14) 1 rfl rfl C dX0_joinPieces_14 ?_
    refine z_iload_n (pc := 15) 1 rfl rfl C dX0_joinPieces_15 ?_
    refine z_iast (pc := 16) 0 C dX0_joinPieces_16 rfl (by unfold zAr; decide) [(0, qL, (zsI sL 4 (upd (zI sL 4) x1.toNatClampNeg x1)))] rfl ?_
    refine z_letc (fun z9 => [(0, qL, z9)]) (fun sL_3 => ?_)
    refine z_iinc (pc := 17) (x1 + 1) 1 rfl rfl [(0, (.ref (qL 0))), (1, (.int (x1 + 1)))] [1, 0] (by decide) rfl C dX0_joinPieces_17 ?_
    refine z_goto (pc := 20) 2 C dX0_joinPieces_20 (by decide) ?_
    exact hk_2 _ _
def fX0_joinPieces (F : Nat) (sL : zOS) : Option (zOS) := (zit (P := Int32 × zOS) (R := zOS) (fun kc9 p9 => bX0_joinPieces_2 F kc9 p9.1 p9.2) F ((0 : Int32), sL))
set_option maxRecDepth 20000 in
theorem wX0_joinPieces {X : zCx} {res : zOS} {F : Nat} {qL : Nat → Nat} {sL : zOS} (C : zC X RX0 cX0_joinPieces 2 3 70) (hR : zR X none none [(0, qL, res)])  : zJ X 2 res (fX0_joinPieces F sL) 0 [(0, (.ref (qL 0)))] [] [(0, qL, sL)] := by
  unfold fX0_joinPieces
  refine z_iconst (pc := 0) (0 : Int32) (by decide) C dX0_joinPieces_0 ?_
  refine z_istore_n (pc := 1) [(0, (.ref (qL 0))), (1, (.int (0 : Int32)))] [1, 0] (by decide) rfl rfl C dX0_joinPieces_1 ?_
  exact zit_J (fun p9 => [(0, (.ref (qL 0))), (1, (.int p9.1))]) (fun p9 => [(0, qL, p9.2)]) (fun kc9 hk9 p9 => vX0_joinPieces_2 C hR   (fun a0 a1 => hk9 (a0, a1)) _ _) F _
theorem mX0_joinPieces {F : Nat} {qL : Nat → Nat} {sL : zOS} {res : zOS}  (hf : fX0_joinPieces F sL = some res) : zM yX0_joinPieces cX0_joinPieces 2 none 3 70 [(.ref (qL 0))] [(0, qL, sL)] none [(0, qL, res)] := zM_of (by decide +kernel) (Nat.le_of_ble_eq_true rfl) (fun X C hR => wX0_joinPieces (F := F) C hR  hf)
theorem dX0_openNode_0 : decode cX0_openNode 0 = .ok (.iconst 0, 1) := by decide +kernel
theorem dX0_openNode_1 : decode cX0_openNode 1 = .ok (.istore_n 1, 1) := by decide +kernel
theorem dX0_openNode_2 : decode cX0_openNode 2 = .ok (.iload_n 1, 1) := by decide +kernel
theorem dX0_openNode_3 : decode cX0_openNode 3 = .ok (.iconst 3, 1) := by decide +kernel
theorem dX0_openNode_4 : decode cX0_openNode 4 = .ok (.if_icmp .ge 21, 3) := by decide +kernel
theorem dX0_openNode_7 : decode cX0_openNode 7 = .ok (.aload_n 0, 1) := by decide +kernel
theorem dX0_openNode_8 : decode cX0_openNode 8 = .ok (.getfield 30, 3) := by decide +kernel
theorem dX0_openNode_11 : decode cX0_openNode 11 = .ok (.iload_n 1, 1) := by decide +kernel
theorem dX0_openNode_12 : decode cX0_openNode 12 = .ok (.aaload, 1) := by decide +kernel
theorem dX0_openNode_13 : decode cX0_openNode 13 = .ok (.aload_n 0, 1) := by decide +kernel
theorem dX0_openNode_14 : decode cX0_openNode 14 = .ok (.getfield 55, 3) := by decide +kernel
theorem dX0_openNode_17 : decode cX0_openNode 17 = .ok (.lconst 0, 1) := by decide +kernel
theorem dX0_openNode_18 : decode cX0_openNode 18 = .ok (.lastore, 1) := by decide +kernel
theorem dX0_openNode_19 : decode cX0_openNode 19 = .ok (.iinc 1 1, 3) := by decide +kernel
theorem dX0_openNode_22 : decode cX0_openNode 22 = .ok (.goto (-20), 3) := by decide +kernel
theorem dX0_openNode_25 : decode cX0_openNode 25 = .ok (.aload_n 0, 1) := by decide +kernel
theorem dX0_openNode_26 : decode cX0_openNode 26 = .ok (.dup, 1) := by decide +kernel
theorem dX0_openNode_27 : decode cX0_openNode 27 = .ok (.getfield 55, 3) := by decide +kernel
theorem dX0_openNode_30 : decode cX0_openNode 30 = .ok (.iconst 1, 1) := by decide +kernel
theorem dX0_openNode_31 : decode cX0_openNode 31 = .ok (.iadd, 1) := by decide +kernel
theorem dX0_openNode_32 : decode cX0_openNode 32 = .ok (.putfield 55, 3) := by decide +kernel
theorem dX0_openNode_35 : decode cX0_openNode 35 = .ok (.return_, 1) := by decide +kernel
def bX0_openNode_2 (F : Nat) (kc_2 : (Int32 × zOS) → Option (zOS)) (x1 : Int32) (sL : zOS) : Option (zOS) := (if (3 : Int32) ≤ x1 then (zlet (zsF sL 13 ((zF sL 13) + (1 : Int32))) (fun sL_1 : zOS => (some (sL_1)))) else (zchk x1 3 (zchk (zF sL 13) 96 (zlet (zsL sL (zbs 0 + x1.toNatClampNeg) (vp_updL (zL sL (zbs 0 + x1.toNatClampNeg)) (zF sL 13).toNatClampNeg (0 : Int64))) (fun sL_3 : zOS => (kc_2 ((x1 + 1), sL_3)))))))
set_option maxRecDepth 20000 in
theorem vX0_openNode_2 {X : zCx} {res : zOS} {F : Nat} {qL : Nat → Nat} {kc_2 : (Int32 × zOS) → Option (zOS)} (C : zC X RX0 cX0_openNode 2 0 0) (hR : zR X none none [(0, qL, res)]) (hk_2 : ∀ (y1 : Int32) (tL : zOS), zJ X 2 res (kc_2 (y1, tL)) 2 [(0, (.ref (qL 0))), (1, (.int y1))] [] [(0, qL, tL)]) (x1 : Int32) (sL : zOS) : zJ X 2 res (bX0_openNode_2 F kc_2 x1 sL) 2 [(0, (.ref (qL 0))), (1, (.int x1))] [] [(0, qL, sL)] := by
  unfold bX0_openNode_2
  refine z_iload_n (pc := 2) 1 rfl rfl C dX0_openNode_2 ?_
  refine z_iconst (pc := 3) (3 : Int32) (by decide) C dX0_openNode_3 ?_
  refine z_icmp_ge (pc := 4) 25 C dX0_openNode_4 (by decide) ?_ ?_
  · refine z_aload_n (pc := 25) 0 rfl rfl C dX0_openNode_25 ?_
    refine z_dup (pc := 26) rfl C dX0_openNode_26 ?_
    refine z_getI (pc := 27) 0 13 C dX0_openNode_27 rfl (by decide) (by decide) rfl zw_155 ?_
    refine z_iconst (pc := 30) (1 : Int32) (by decide) C dX0_openNode_30 ?_
    refine z_iadd (pc := 31) C dX0_openNode_31 ?_
    refine z_putI (pc := 32) 0 13 C dX0_openNode_32 rfl (by decide) (by decide) rfl zw_155 rfl rfl rfl [(0, qL, (zsF sL 13 ((zF sL 13) + (1 : Int32))))] rfl ?_
    refine z_letc (fun z9 => [(0, qL, z9)]) (fun sL_1 => ?_)
    exact z_return (pc := 35) C hR dX0_openNode_35 (fun h => by subst h; exact ⟨rfl, rfl⟩)
  · refine z_aload_n (pc := 7) 0 rfl rfl C dX0_openNode_7 ?_
    refine z_getR (pc := 8) 0 5 6 C dX0_openNode_8 rfl (by decide) (by decide) rfl zw_143 ?_
    refine z_iload_n (pc := 11) 1 rfl rfl C dX0_openNode_11 ?_
    refine z_aal (pc := 12) 0 C dX0_openNode_12 rfl (by unfold zAr; decide) (by decide) (fun hi_2 => ?_)
    refine z_aload_n (pc := 13) 0 rfl rfl C dX0_openNode_13 ?_
    refine z_getI (pc := 14) 0 13 C dX0_openNode_14 rfl (by decide) (by decide) rfl zw_155 ?_
    refine z_lconst (pc := 17) (0 : Int64) (by decide) C dX0_openNode_17 ?_
    refine z_last (pc := 18) 0 C dX0_openNode_18 rfl (zAr_w hi_2) [(0, qL, (zsL sL (zbs 0 + x1.toNatClampNeg) (vp_updL (zL sL (zbs 0 + x1.toNatClampNeg)) (zF sL 13).toNatClampNeg (0 : Int64))))] rfl ?_
    refine z_letc (fun z9 => [(0, qL, z9)]) (fun sL_3 => ?_)
    refine z_iinc (pc := 19) (x1 + 1) 1 rfl rfl [(0, (.ref (qL 0))), (1, (.int (x1 + 1)))] [1, 0] (by decide) rfl C dX0_openNode_19 ?_
    refine z_goto (pc := 22) 2 C dX0_openNode_22 (by decide) ?_
    exact hk_2 _ _
def fX0_openNode (F : Nat) (sL : zOS) : Option (zOS) := (zit (P := Int32 × zOS) (R := zOS) (fun kc9 p9 => bX0_openNode_2 F kc9 p9.1 p9.2) F ((0 : Int32), sL))
set_option maxRecDepth 20000 in
theorem wX0_openNode {X : zCx} {res : zOS} {F : Nat} {qL : Nat → Nat} {sL : zOS} (C : zC X RX0 cX0_openNode 2 0 0) (hR : zR X none none [(0, qL, res)])  : zJ X 2 res (fX0_openNode F sL) 0 [(0, (.ref (qL 0)))] [] [(0, qL, sL)] := by
  unfold fX0_openNode
  refine z_iconst (pc := 0) (0 : Int32) (by decide) C dX0_openNode_0 ?_
  refine z_istore_n (pc := 1) [(0, (.ref (qL 0))), (1, (.int (0 : Int32)))] [1, 0] (by decide) rfl rfl C dX0_openNode_1 ?_
  exact zit_J (fun p9 => [(0, (.ref (qL 0))), (1, (.int p9.1))]) (fun p9 => [(0, qL, p9.2)]) (fun kc9 hk9 p9 => vX0_openNode_2 C hR   (fun a0 a1 => hk9 (a0, a1)) _ _) F _
theorem mX0_openNode {F : Nat} {qL : Nat → Nat} {sL : zOS} {res : zOS}  (hf : fX0_openNode F sL = some res) : zM yX0_openNode cX0_openNode 2 none 0 0 [(.ref (qL 0))] [(0, qL, sL)] none [(0, qL, res)] := zM_of (by decide +kernel) (Nat.le_of_ble_eq_true rfl) (fun X C hR => wX0_openNode (F := F) C hR  hf)
theorem dX0_numberNodes_0 : decode cX0_numberNodes 0 = .ok (.aload_n 0, 1) := by decide +kernel
theorem dX0_numberNodes_1 : decode cX0_numberNodes 1 = .ok (.iconst 0, 1) := by decide +kernel
theorem dX0_numberNodes_2 : decode cX0_numberNodes 2 = .ok (.putfield 55, 3) := by decide +kernel
theorem dX0_numberNodes_5 : decode cX0_numberNodes 5 = .ok (.iconst 0, 1) := by decide +kernel
theorem dX0_numberNodes_6 : decode cX0_numberNodes 6 = .ok (.istore_n 1, 1) := by decide +kernel
theorem dX0_numberNodes_7 : decode cX0_numberNodes 7 = .ok (.iload_n 1, 1) := by decide +kernel
theorem dX0_numberNodes_8 : decode cX0_numberNodes 8 = .ok (.aload_n 0, 1) := by decide +kernel
theorem dX0_numberNodes_9 : decode cX0_numberNodes 9 = .ok (.getfield 51, 3) := by decide +kernel
theorem dX0_numberNodes_12 : decode cX0_numberNodes 12 = .ok (.if_icmp .ge 79, 3) := by decide +kernel
theorem dX0_numberNodes_15 : decode cX0_numberNodes 15 = .ok (.aload_n 0, 1) := by decide +kernel
theorem dX0_numberNodes_16 : decode cX0_numberNodes 16 = .ok (.getfield 22, 3) := by decide +kernel
theorem dX0_numberNodes_19 : decode cX0_numberNodes 19 = .ok (.iload_n 1, 1) := by decide +kernel
theorem dX0_numberNodes_20 : decode cX0_numberNodes 20 = .ok (.iaload, 1) := by decide +kernel
theorem dX0_numberNodes_21 : decode cX0_numberNodes 21 = .ok (.istore_n 2, 1) := by decide +kernel
theorem dX0_numberNodes_22 : decode cX0_numberNodes 22 = .ok (.iload_n 2, 1) := by decide +kernel
theorem dX0_numberNodes_23 : decode cX0_numberNodes 23 = .ok (.iload_n 1, 1) := by decide +kernel
theorem dX0_numberNodes_24 : decode cX0_numberNodes 24 = .ok (.if_icmp .ne 22, 3) := by decide +kernel
theorem dX0_numberNodes_27 : decode cX0_numberNodes 27 = .ok (.aload_n 0, 1) := by decide +kernel
theorem dX0_numberNodes_28 : decode cX0_numberNodes 28 = .ok (.invokevirtual 160, 3) := by decide +kernel
theorem dX0_numberNodes_31 : decode cX0_numberNodes 31 = .ok (.aload_n 0, 1) := by decide +kernel
theorem dX0_numberNodes_32 : decode cX0_numberNodes 32 = .ok (.getfield 25, 3) := by decide +kernel
theorem dX0_numberNodes_35 : decode cX0_numberNodes 35 = .ok (.iload_n 1, 1) := by decide +kernel
theorem dX0_numberNodes_36 : decode cX0_numberNodes 36 = .ok (.aload_n 0, 1) := by decide +kernel
theorem dX0_numberNodes_37 : decode cX0_numberNodes 37 = .ok (.getfield 55, 3) := by decide +kernel
theorem dX0_numberNodes_40 : decode cX0_numberNodes 40 = .ok (.iconst 1, 1) := by decide +kernel
theorem dX0_numberNodes_41 : decode cX0_numberNodes 41 = .ok (.isub, 1) := by decide +kernel
theorem dX0_numberNodes_42 : decode cX0_numberNodes 42 = .ok (.iastore, 1) := by decide +kernel
theorem dX0_numberNodes_43 : decode cX0_numberNodes 43 = .ok (.goto 15, 3) := by decide +kernel
theorem dX0_numberNodes_46 : decode cX0_numberNodes 46 = .ok (.aload_n 0, 1) := by decide +kernel
theorem dX0_numberNodes_47 : decode cX0_numberNodes 47 = .ok (.getfield 25, 3) := by decide +kernel
theorem dX0_numberNodes_50 : decode cX0_numberNodes 50 = .ok (.iload_n 1, 1) := by decide +kernel
theorem dX0_numberNodes_51 : decode cX0_numberNodes 51 = .ok (.aload_n 0, 1) := by decide +kernel
theorem dX0_numberNodes_52 : decode cX0_numberNodes 52 = .ok (.getfield 25, 3) := by decide +kernel
theorem dX0_numberNodes_55 : decode cX0_numberNodes 55 = .ok (.iload_n 2, 1) := by decide +kernel
theorem dX0_numberNodes_56 : decode cX0_numberNodes 56 = .ok (.iaload, 1) := by decide +kernel
theorem dX0_numberNodes_57 : decode cX0_numberNodes 57 = .ok (.iastore, 1) := by decide +kernel
theorem dX0_numberNodes_58 : decode cX0_numberNodes 58 = .ok (.aload_n 0, 1) := by decide +kernel
theorem dX0_numberNodes_59 : decode cX0_numberNodes 59 = .ok (.getfield 30, 3) := by decide +kernel
theorem dX0_numberNodes_62 : decode cX0_numberNodes 62 = .ok (.aload_n 0, 1) := by decide +kernel
theorem dX0_numberNodes_63 : decode cX0_numberNodes 63 = .ok (.getfield 18, 3) := by decide +kernel
theorem dX0_numberNodes_66 : decode cX0_numberNodes 66 = .ok (.iload_n 1, 1) := by decide +kernel
theorem dX0_numberNodes_67 : decode cX0_numberNodes 67 = .ok (.iaload, 1) := by decide +kernel
theorem dX0_numberNodes_68 : decode cX0_numberNodes 68 = .ok (.aaload, 1) := by decide +kernel
theorem dX0_numberNodes_69 : decode cX0_numberNodes 69 = .ok (.aload_n 0, 1) := by decide +kernel
theorem dX0_numberNodes_70 : decode cX0_numberNodes 70 = .ok (.getfield 25, 3) := by decide +kernel
theorem dX0_numberNodes_73 : decode cX0_numberNodes 73 = .ok (.iload_n 1, 1) := by decide +kernel
theorem dX0_numberNodes_74 : decode cX0_numberNodes 74 = .ok (.iaload, 1) := by decide +kernel
theorem dX0_numberNodes_75 : decode cX0_numberNodes 75 = .ok (.dup2, 1) := by decide +kernel
theorem dX0_numberNodes_76 : decode cX0_numberNodes 76 = .ok (.laload, 1) := by decide +kernel
theorem dX0_numberNodes_77 : decode cX0_numberNodes 77 = .ok (.aload_n 0, 1) := by decide +kernel
theorem dX0_numberNodes_78 : decode cX0_numberNodes 78 = .ok (.getfield 15, 3) := by decide +kernel
theorem dX0_numberNodes_81 : decode cX0_numberNodes 81 = .ok (.iload_n 1, 1) := by decide +kernel
theorem dX0_numberNodes_82 : decode cX0_numberNodes 82 = .ok (.laload, 1) := by decide +kernel
theorem dX0_numberNodes_83 : decode cX0_numberNodes 83 = .ok (.lor, 1) := by decide +kernel
theorem dX0_numberNodes_84 : decode cX0_numberNodes 84 = .ok (.lastore, 1) := by decide +kernel
theorem dX0_numberNodes_85 : decode cX0_numberNodes 85 = .ok (.iinc 1 1, 3) := by decide +kernel
theorem dX0_numberNodes_88 : decode cX0_numberNodes 88 = .ok (.goto (-81), 3) := by decide +kernel
theorem dX0_numberNodes_91 : decode cX0_numberNodes 91 = .ok (.return_, 1) := by decide +kernel
def jX0_numberNodes_58 (F : Nat) (kc_7 : (Int32 × zOS) → Option (zOS)) (x1 : Int32) (sL : zOS) : Option (zOS) := (zchk x1 96 (zchk (zI sL 3 x1.toNatClampNeg) 3 (zchk x1 96 (zchk (zI sL 5 x1.toNatClampNeg) 96 (zchk x1 96 (zchk (zI sL 5 x1.toNatClampNeg) 96 (zlet (zsL sL (zbs 0 + (zI sL 3 x1.toNatClampNeg).toNatClampNeg) (vp_updL (zL sL (zbs 0 + (zI sL 3 x1.toNatClampNeg).toNatClampNeg)) (zI sL 5 x1.toNatClampNeg).toNatClampNeg ((zL sL (zbs 0 + (zI sL 3 x1.toNatClampNeg).toNatClampNeg) (zI sL 5 x1.toNatClampNeg).toNatClampNeg) ||| (zL sL 2 x1.toNatClampNeg)))) (fun sL_7 : zOS => (kc_7 ((x1 + 1), sL_7))))))))))
set_option maxRecDepth 20000 in
theorem wX0_numberNodes_58 {X : zCx} {res : zOS} {F : Nat} {qL : Nat → Nat} {kc_7 : (Int32 × zOS) → Option (zOS)} (C : zC X RX0 cX0_numberNodes 3 1 21) (hR : zR X none none [(0, qL, res)]) (hk_7 : ∀ (y1 : Int32) (tL : zOS), zJ X 3 res (kc_7 (y1, tL)) 7 [(0, (.ref (qL 0))), (1, (.int y1))] [] [(0, qL, tL)]) (x1 : Int32) (sL : zOS) : zJ X 3 res (jX0_numberNodes_58 F kc_7 x1 sL) 58 [(0, (.ref (qL 0))), (1, (.int x1))] [] [(0, qL, sL)] := by
  unfold jX0_numberNodes_58
  refine z_aload_n (pc := 58) 0 rfl rfl C dX0_numberNodes_58 ?_
  refine z_getR (pc := 59) 0 5 6 C dX0_numberNodes_59 rfl (by decide) (by decide) rfl zw_143 ?_
  refine z_aload_n (pc := 62) 0 rfl rfl C dX0_numberNodes_62 ?_
  refine z_getR (pc := 63) 0 2 3 C dX0_numberNodes_63 rfl (by decide) (by decide) rfl zw_140 ?_
  refine z_iload_n (pc := 66) 1 rfl rfl C dX0_numberNodes_66 ?_
  refine z_iald (pc := 67) 0 C dX0_numberNodes_67 rfl (by unfold zAr; decide) ?_
  refine z_aal (pc := 68) 0 C dX0_numberNodes_68 rfl (by unfold zAr; decide) (by decide) (fun hi_6 => ?_)
  refine z_aload_n (pc := 69) 0 rfl rfl C dX0_numberNodes_69 ?_
  refine z_getR (pc := 70) 0 4 5 C dX0_numberNodes_70 rfl (by decide) (by decide) rfl zw_142 ?_
  refine z_iload_n (pc := 73) 1 rfl rfl C dX0_numberNodes_73 ?_
  refine z_iald (pc := 74) 0 C dX0_numberNodes_74 rfl (by unfold zAr; decide) ?_
  refine z_dup2 (pc := 75) rfl rfl C dX0_numberNodes_75 ?_
  refine z_lald (pc := 76) 0 C dX0_numberNodes_76 rfl (zAr_w hi_6) ?_
  refine z_aload_n (pc := 77) 0 rfl rfl C dX0_numberNodes_77 ?_
  refine z_getR (pc := 78) 0 1 2 C dX0_numberNodes_78 rfl (by decide) (by decide) rfl zw_139 ?_
  refine z_iload_n (pc := 81) 1 rfl rfl C dX0_numberNodes_81 ?_
  refine z_lald (pc := 82) 0 C dX0_numberNodes_82 rfl (by unfold zAr; decide) ?_
  refine z_lor (pc := 83) C dX0_numberNodes_83 ?_
  refine z_last (pc := 84) 0 C dX0_numberNodes_84 rfl (zAr_w hi_6) [(0, qL, (zsL sL (zbs 0 + (zI sL 3 x1.toNatClampNeg).toNatClampNeg) (vp_updL (zL sL (zbs 0 + (zI sL 3 x1.toNatClampNeg).toNatClampNeg)) (zI sL 5 x1.toNatClampNeg).toNatClampNeg ((zL sL (zbs 0 + (zI sL 3 x1.toNatClampNeg).toNatClampNeg) (zI sL 5 x1.toNatClampNeg).toNatClampNeg) ||| (zL sL 2 x1.toNatClampNeg)))))] rfl ?_
  refine z_letc (fun z9 => [(0, qL, z9)]) (fun sL_7 => ?_)
  refine z_iinc (pc := 85) (x1 + 1) 1 rfl rfl [(0, (.ref (qL 0))), (1, (.int (x1 + 1)))] [1, 0] (by decide) rfl C dX0_numberNodes_85 ?_
  refine z_goto (pc := 88) 7 C dX0_numberNodes_88 (by decide) ?_
  exact hk_7 _ _
def bX0_numberNodes_7 (F : Nat) (kc_7 : (Int32 × zOS) → Option (zOS)) (x1 : Int32) (sL : zOS) : Option (zOS) := (if (zF sL 12) ≤ x1 then (some (sL)) else (zchk x1 96 (zlet (zI sL 4 x1.toNatClampNeg) (fun x2_2 : Int32 => (if x2_2 = x1 then (Option.bind (fX0_openNode F sL) (fun r_3 : zOS => (zchk x1 96 (zlet (zsI r_3 5 (upd (zI r_3 5) x1.toNatClampNeg ((zF r_3 13) - (1 : Int32)))) (fun sL_5 : zOS => (jX0_numberNodes_58 F kc_7 x1 sL_5)))))) else (zchk x2_2 96 (zchk x1 96 (zlet (zsI sL 5 (upd (zI sL 5) x1.toNatClampNeg (zI sL 5 x2_2.toNatClampNeg))) (fun sL_8 : zOS => (jX0_numberNodes_58 F kc_7 x1 sL_8))))))))))
set_option maxRecDepth 20000 in
theorem vX0_numberNodes_7 {X : zCx} {res : zOS} {F : Nat} {qL : Nat → Nat} {kc_7 : (Int32 × zOS) → Option (zOS)} (C : zC X RX0 cX0_numberNodes 3 1 21) (hR : zR X none none [(0, qL, res)]) (hk_7 : ∀ (y1 : Int32) (tL : zOS), zJ X 3 res (kc_7 (y1, tL)) 7 [(0, (.ref (qL 0))), (1, (.int y1))] [] [(0, qL, tL)]) (x1 : Int32) (sL : zOS) : zJ X 3 res (bX0_numberNodes_7 F kc_7 x1 sL) 7 [(0, (.ref (qL 0))), (1, (.int x1))] [] [(0, qL, sL)] := by
  unfold bX0_numberNodes_7
  refine z_iload_n (pc := 7) 1 rfl rfl C dX0_numberNodes_7 ?_
  refine z_aload_n (pc := 8) 0 rfl rfl C dX0_numberNodes_8 ?_
  refine z_getI (pc := 9) 0 12 C dX0_numberNodes_9 rfl (by decide) (by decide) rfl zw_153 ?_
  refine z_icmp_ge (pc := 12) 91 C dX0_numberNodes_12 (by decide) ?_ ?_
  · exact z_return (pc := 91) C hR dX0_numberNodes_91 (fun h => by subst h; exact ⟨rfl, rfl⟩)
  · refine z_aload_n (pc := 15) 0 rfl rfl C dX0_numberNodes_15 ?_
    refine z_getR (pc := 16) 0 3 4 C dX0_numberNodes_16 rfl (by decide) (by decide) rfl zw_141 ?_
    refine z_iload_n (pc := 19) 1 rfl rfl C dX0_numberNodes_19 ?_
    refine z_iald (pc := 20) 0 C dX0_numberNodes_20 rfl (by unfold zAr; decide) ?_
    refine z_leti (fun x2_2 => ?_)
    refine z_istore_n (pc := 21) [(0, (.ref (qL 0))), (1, (.int x1)), (2, (.int x2_2))] [1, 2, 0] (by decide) rfl rfl C dX0_numberNodes_21 ?_
    refine z_iload_n (pc := 22) 2 rfl rfl C dX0_numberNodes_22 ?_
    refine z_iload_n (pc := 23) 1 rfl rfl C dX0_numberNodes_23 ?_
    refine z_icmp_ne (pc := 24) 46 C dX0_numberNodes_24 (by decide) ?_ ?_
    · refine z_aload_n (pc := 27) 0 rfl rfl C dX0_numberNodes_27 ?_
      refine z_callV (pc := 28) (rf' := 0) (rl' := 0) (fX0_openNode F sL) [] [] [(0, qL, sL)] (fun r_3 => none) (fun r_3 => [(0, qL, r_3)]) [] (fun r_3 => [(0, qL, r_3)]) C dX0_numberNodes_28 zy_X0_openNode zw_447 (fun _ hr9 => mX0_openNode  hr9) (by decide) rfl rfl (by decide) rfl (Nat.le_of_ble_eq_true rfl) (List.Perm.refl _) (fun _ => List.Perm.refl _) rfl (fun r_3 hr_4 => ?_)
      show zJ X 3 res _ 31 [(0, (.ref (qL 0))), (1, (.int x1)), (2, (.int x2_2))] [] [(0, qL, r_3)]
      refine z_aload_n (pc := 31) 0 rfl rfl C dX0_numberNodes_31 ?_
      refine z_getR (pc := 32) 0 4 5 C dX0_numberNodes_32 rfl (by decide) (by decide) rfl zw_142 ?_
      refine z_iload_n (pc := 35) 1 rfl rfl C dX0_numberNodes_35 ?_
      refine z_aload_n (pc := 36) 0 rfl rfl C dX0_numberNodes_36 ?_
      refine z_getI (pc := 37) 0 13 C dX0_numberNodes_37 rfl (by decide) (by decide) rfl zw_155 ?_
      refine z_iconst (pc := 40) (1 : Int32) (by decide) C dX0_numberNodes_40 ?_
      refine z_isub (pc := 41) C dX0_numberNodes_41 ?_
      refine z_iast (pc := 42) 0 C dX0_numberNodes_42 rfl (by unfold zAr; decide) [(0, qL, (zsI r_3 5 (upd (zI r_3 5) x1.toNatClampNeg ((zF r_3 13) - (1 : Int32)))))] rfl ?_
      refine z_letc (fun z9 => [(0, qL, z9)]) (fun sL_5 => ?_)
      refine z_goto (pc := 43) 58 C dX0_numberNodes_43 (by decide) ?_
      refine z_lv [(0, (.ref (qL 0))), (1, (.int x1))] [0, 1] rfl ?_
      exact wX0_numberNodes_58 C hR  hk_7 _ _
    · refine z_aload_n (pc := 46) 0 rfl rfl C dX0_numberNodes_46 ?_
      refine z_getR (pc := 47) 0 4 5 C dX0_numberNodes_47 rfl (by decide) (by decide) rfl zw_142 ?_
      refine z_iload_n (pc := 50) 1 rfl rfl C dX0_numberNodes_50 ?_
      refine z_aload_n (pc := 51) 0 rfl rfl C dX0_numberNodes_51 ?_
      refine z_getR (pc := 52) 0 4 5 C dX0_numberNodes_52 rfl (by decide) (by decide) rfl zw_142 ?_
      refine z_iload_n (pc := 55) 2 rfl rfl C dX0_numberNodes_55 ?_
      refine z_iald (pc := 56) 0 C dX0_numberNodes_56 rfl (by unfold zAr; decide) ?_
      refine z_iast (pc := 57) 0 C dX0_numberNodes_57 rfl (by unfold zAr; decide) [(0, qL, (zsI sL 5 (upd (zI sL 5) x1.toNatClampNeg (zI sL 5 x2_2.toNatClampNeg))))] rfl ?_
      refine z_letc (fun z9 => [(0, qL, z9)]) (fun sL_8 => ?_)
      refine z_lv [(0, (.ref (qL 0))), (1, (.int x1))] [0, 1] rfl ?_
      exact wX0_numberNodes_58 C hR  hk_7 _ _
def fX0_numberNodes (F : Nat) (sL : zOS) : Option (zOS) := (zlet (zsF sL 13 (0 : Int32)) (fun sL_1 : zOS => (zit (P := Int32 × zOS) (R := zOS) (fun kc9 p9 => bX0_numberNodes_7 F kc9 p9.1 p9.2) F ((0 : Int32), sL_1))))
set_option maxRecDepth 20000 in
theorem wX0_numberNodes {X : zCx} {res : zOS} {F : Nat} {qL : Nat → Nat} {sL : zOS} (C : zC X RX0 cX0_numberNodes 3 1 21) (hR : zR X none none [(0, qL, res)])  : zJ X 3 res (fX0_numberNodes F sL) 0 [(0, (.ref (qL 0)))] [] [(0, qL, sL)] := by
  unfold fX0_numberNodes
  refine z_aload_n (pc := 0) 0 rfl rfl C dX0_numberNodes_0 ?_
  refine z_iconst (pc := 1) (0 : Int32) (by decide) C dX0_numberNodes_1 ?_
  refine z_putI (pc := 2) 0 13 C dX0_numberNodes_2 rfl (by decide) (by decide) rfl zw_155 rfl rfl rfl [(0, qL, (zsF sL 13 (0 : Int32)))] rfl ?_
  refine z_letc (fun z9 => [(0, qL, z9)]) (fun sL_1 => ?_)
  refine z_iconst (pc := 5) (0 : Int32) (by decide) C dX0_numberNodes_5 ?_
  refine z_istore_n (pc := 6) [(0, (.ref (qL 0))), (1, (.int (0 : Int32)))] [1, 0] (by decide) rfl rfl C dX0_numberNodes_6 ?_
  exact zit_J (fun p9 => [(0, (.ref (qL 0))), (1, (.int p9.1))]) (fun p9 => [(0, qL, p9.2)]) (fun kc9 hk9 p9 => vX0_numberNodes_7 C hR   (fun a0 a1 => hk9 (a0, a1)) _ _) F _
theorem mX0_numberNodes {F : Nat} {qL : Nat → Nat} {sL : zOS} {res : zOS}  (hf : fX0_numberNodes F sL = some res) : zM yX0_numberNodes cX0_numberNodes 3 none 1 21 [(.ref (qL 0))] [(0, qL, sL)] none [(0, qL, res)] := zM_of (by decide +kernel) (Nat.le_of_ble_eq_true rfl) (fun X C hR => wX0_numberNodes (F := F) C hR  hf)
theorem dX0_findSides_0 : decode cX0_findSides 0 = .ok (.aload_n 0, 1) := by decide +kernel
theorem dX0_findSides_1 : decode cX0_findSides 1 = .ok (.getfield 36, 3) := by decide +kernel
theorem dX0_findSides_4 : decode cX0_findSides 4 = .ok (.iload_n 1, 1) := by decide +kernel
theorem dX0_findSides_5 : decode cX0_findSides 5 = .ok (.laload, 1) := by decide +kernel
theorem dX0_findSides_6 : decode cX0_findSides 6 = .ok (.invokestatic 166, 3) := by decide +kernel
theorem dX0_findSides_9 : decode cX0_findSides 9 = .ok (.lstore_n 2, 1) := by decide +kernel
theorem dX0_findSides_10 : decode cX0_findSides 10 = .ok (.iconst 0, 1) := by decide +kernel
theorem dX0_findSides_11 : decode cX0_findSides 11 = .ok (.istore 4, 2) := by decide +kernel
theorem dX0_findSides_13 : decode cX0_findSides 13 = .ok (.iconst (-1), 1) := by decide +kernel
theorem dX0_findSides_14 : decode cX0_findSides 14 = .ok (.istore 5, 2) := by decide +kernel
theorem dX0_findSides_16 : decode cX0_findSides 16 = .ok (.iconst (-1), 1) := by decide +kernel
theorem dX0_findSides_17 : decode cX0_findSides 17 = .ok (.istore 6, 2) := by decide +kernel
theorem dX0_findSides_19 : decode cX0_findSides 19 = .ok (.iconst 0, 1) := by decide +kernel
theorem dX0_findSides_20 : decode cX0_findSides 20 = .ok (.istore 7, 2) := by decide +kernel
theorem dX0_findSides_22 : decode cX0_findSides 22 = .ok (.iload 7, 2) := by decide +kernel
theorem dX0_findSides_24 : decode cX0_findSides 24 = .ok (.aload_n 0, 1) := by decide +kernel
theorem dX0_findSides_25 : decode cX0_findSides 25 = .ok (.getfield 55, 3) := by decide +kernel
theorem dX0_findSides_28 : decode cX0_findSides 28 = .ok (.if_icmp .ge 46, 3) := by decide +kernel
theorem dX0_findSides_31 : decode cX0_findSides 31 = .ok (.aload_n 0, 1) := by decide +kernel
theorem dX0_findSides_32 : decode cX0_findSides 32 = .ok (.getfield 30, 3) := by decide +kernel
theorem dX0_findSides_35 : decode cX0_findSides 35 = .ok (.iconst 0, 1) := by decide +kernel
theorem dX0_findSides_36 : decode cX0_findSides 36 = .ok (.aaload, 1) := by decide +kernel
theorem dX0_findSides_37 : decode cX0_findSides 37 = .ok (.iload 7, 2) := by decide +kernel
theorem dX0_findSides_39 : decode cX0_findSides 39 = .ok (.laload, 1) := by decide +kernel
theorem dX0_findSides_40 : decode cX0_findSides 40 = .ok (.lload_n 2, 1) := by decide +kernel
theorem dX0_findSides_41 : decode cX0_findSides 41 = .ok (.land, 1) := by decide +kernel
theorem dX0_findSides_42 : decode cX0_findSides 42 = .ok (.lconst 0, 1) := by decide +kernel
theorem dX0_findSides_43 : decode cX0_findSides 43 = .ok (.lcmp, 1) := by decide +kernel
theorem dX0_findSides_44 : decode cX0_findSides 44 = .ok (.ifCond .eq 24, 3) := by decide +kernel
theorem dX0_findSides_47 : decode cX0_findSides 47 = .ok (.iload 4, 2) := by decide +kernel
theorem dX0_findSides_49 : decode cX0_findSides 49 = .ok (.ifCond .ne 8, 3) := by decide +kernel
theorem dX0_findSides_52 : decode cX0_findSides 52 = .ok (.iload 7, 2) := by decide +kernel
theorem dX0_findSides_54 : decode cX0_findSides 54 = .ok (.goto 5, 3) := by decide +kernel
theorem dX0_findSides_57 : decode cX0_findSides 57 = .ok (.iload 5, 2) := by decide +kernel
theorem dX0_findSides_59 : decode cX0_findSides 59 = .ok (.istore 5, 2) := by decide +kernel
theorem dX0_findSides_61 : decode cX0_findSides 61 = .ok (.iload 7, 2) := by decide +kernel
theorem dX0_findSides_63 : decode cX0_findSides 63 = .ok (.istore 6, 2) := by decide +kernel
theorem dX0_findSides_65 : decode cX0_findSides 65 = .ok (.iinc 4 1, 3) := by decide +kernel
theorem dX0_findSides_68 : decode cX0_findSides 68 = .ok (.iinc 7 1, 3) := by decide +kernel
theorem dX0_findSides_71 : decode cX0_findSides 71 = .ok (.goto (-49), 3) := by decide +kernel
theorem dX0_findSides_74 : decode cX0_findSides 74 = .ok (.aload_n 0, 1) := by decide +kernel
theorem dX0_findSides_75 : decode cX0_findSides 75 = .ok (.getfield 48, 3) := by decide +kernel
theorem dX0_findSides_78 : decode cX0_findSides 78 = .ok (.iload_n 1, 1) := by decide +kernel
theorem dX0_findSides_79 : decode cX0_findSides 79 = .ok (.iload 4, 2) := by decide +kernel
theorem dX0_findSides_81 : decode cX0_findSides 81 = .ok (.iastore, 1) := by decide +kernel
theorem dX0_findSides_82 : decode cX0_findSides 82 = .ok (.aload_n 0, 1) := by decide +kernel
theorem dX0_findSides_83 : decode cX0_findSides 83 = .ok (.iload_n 1, 1) := by decide +kernel
theorem dX0_findSides_84 : decode cX0_findSides 84 = .ok (.invokevirtual 169, 3) := by decide +kernel
theorem dX0_findSides_87 : decode cX0_findSides 87 = .ok (.istore 7, 2) := by decide +kernel
theorem dX0_findSides_89 : decode cX0_findSides 89 = .ok (.aload_n 0, 1) := by decide +kernel
theorem dX0_findSides_90 : decode cX0_findSides 90 = .ok (.getfield 42, 3) := by decide +kernel
theorem dX0_findSides_93 : decode cX0_findSides 93 = .ok (.iload_n 1, 1) := by decide +kernel
theorem dX0_findSides_94 : decode cX0_findSides 94 = .ok (.iload 7, 2) := by decide +kernel
theorem dX0_findSides_96 : decode cX0_findSides 96 = .ok (.ifCond .eq 8, 3) := by decide +kernel
theorem dX0_findSides_99 : decode cX0_findSides 99 = .ok (.iload 5, 2) := by decide +kernel
theorem dX0_findSides_101 : decode cX0_findSides 101 = .ok (.goto 4, 3) := by decide +kernel
theorem dX0_findSides_104 : decode cX0_findSides 104 = .ok (.iconst (-1), 1) := by decide +kernel
theorem dX0_findSides_105 : decode cX0_findSides 105 = .ok (.iastore, 1) := by decide +kernel
theorem dX0_findSides_106 : decode cX0_findSides 106 = .ok (.aload_n 0, 1) := by decide +kernel
theorem dX0_findSides_107 : decode cX0_findSides 107 = .ok (.getfield 45, 3) := by decide +kernel
theorem dX0_findSides_110 : decode cX0_findSides 110 = .ok (.iload_n 1, 1) := by decide +kernel
theorem dX0_findSides_111 : decode cX0_findSides 111 = .ok (.iload 7, 2) := by decide +kernel
theorem dX0_findSides_113 : decode cX0_findSides 113 = .ok (.ifCond .eq 8, 3) := by decide +kernel
theorem dX0_findSides_116 : decode cX0_findSides 116 = .ok (.iload 6, 2) := by decide +kernel
theorem dX0_findSides_118 : decode cX0_findSides 118 = .ok (.goto 4, 3) := by decide +kernel
theorem dX0_findSides_121 : decode cX0_findSides 121 = .ok (.iconst (-1), 1) := by decide +kernel
theorem dX0_findSides_122 : decode cX0_findSides 122 = .ok (.iastore, 1) := by decide +kernel
theorem dX0_findSides_123 : decode cX0_findSides 123 = .ok (.aload_n 0, 1) := by decide +kernel
theorem dX0_findSides_124 : decode cX0_findSides 124 = .ok (.dup, 1) := by decide +kernel
theorem dX0_findSides_125 : decode cX0_findSides 125 = .ok (.getfield 61, 3) := by decide +kernel
theorem dX0_findSides_128 : decode cX0_findSides 128 = .ok (.iload 7, 2) := by decide +kernel
theorem dX0_findSides_130 : decode cX0_findSides 130 = .ok (.ifCond .eq 7, 3) := by decide +kernel
theorem dX0_findSides_133 : decode cX0_findSides 133 = .ok (.iconst 0, 1) := by decide +kernel
theorem dX0_findSides_134 : decode cX0_findSides 134 = .ok (.goto 4, 3) := by decide +kernel
theorem dX0_findSides_137 : decode cX0_findSides 137 = .ok (.iconst 1, 1) := by decide +kernel
theorem dX0_findSides_138 : decode cX0_findSides 138 = .ok (.iadd, 1) := by decide +kernel
theorem dX0_findSides_139 : decode cX0_findSides 139 = .ok (.putfield 61, 3) := by decide +kernel
theorem dX0_findSides_142 : decode cX0_findSides 142 = .ok (.return_, 1) := by decide +kernel
def jX0_findSides_138 (F : Nat) (v0 : Int32) (v1 : Int32) (sL : zOS) : Option (zOS) := (zlet (zsF sL 15 (v1 + v0)) (fun sL_8 : zOS => (some (sL_8))))
set_option maxRecDepth 20000 in
theorem wX0_findSides_138 {X : zCx} {res : zOS} {F : Nat} {qL : Nat → Nat} (C : zC X RX0 cX0_findSides 8 1 25) (hR : zR X none none [(0, qL, res)]) (sL : zOS) (v0 : Int32) (v1 : Int32) : zJ X 8 res (jX0_findSides_138 F v0 v1 sL) 138 [] [(.int v0), (.int v1), (.ref (qL 0))] [(0, qL, sL)] := by
  unfold jX0_findSides_138
  refine z_iadd (pc := 138) C dX0_findSides_138 ?_
  refine z_putI (pc := 139) 0 15 C dX0_findSides_139 rfl (by decide) (by decide) rfl zw_160 rfl rfl rfl [(0, qL, (zsF sL 15 (v1 + v0)))] rfl ?_
  refine z_letc (fun z9 => [(0, qL, z9)]) (fun sL_8 => ?_)
  exact z_return (pc := 142) C hR dX0_findSides_142 (fun h => by subst h; exact ⟨rfl, rfl⟩)
def jX0_findSides_122 (F : Nat) (x7 : Int32) (v0 : Int32) (v1 : Int32) (sL : zOS) : Option (zOS) := (zchk v1 32 (zlet (zsI sL 11 (upd (zI sL 11) v1.toNatClampNeg v0)) (fun sL_7 : zOS => (if x7 = 0 then (jX0_findSides_138 F (1 : Int32) (zF sL_7 15) sL_7) else (jX0_findSides_138 F (0 : Int32) (zF sL_7 15) sL_7)))))
set_option maxRecDepth 20000 in
theorem wX0_findSides_122 {X : zCx} {res : zOS} {F : Nat} {qL : Nat → Nat} (C : zC X RX0 cX0_findSides 8 1 25) (hR : zR X none none [(0, qL, res)]) (x7 : Int32) (sL : zOS) (v0 : Int32) (v1 : Int32) : zJ X 8 res (jX0_findSides_122 F x7 v0 v1 sL) 122 [(0, (.ref (qL 0))), (7, (.int x7))] [(.int v0), (.int v1), (.ref (qL 11))] [(0, qL, sL)] := by
  unfold jX0_findSides_122
  refine z_iast (pc := 122) 0 C dX0_findSides_122 rfl (by unfold zAr; decide) [(0, qL, (zsI sL 11 (upd (zI sL 11) v1.toNatClampNeg v0)))] rfl ?_
  refine z_letc (fun z9 => [(0, qL, z9)]) (fun sL_7 => ?_)
  refine z_aload_n (pc := 123) 0 rfl rfl C dX0_findSides_123 ?_
  refine z_dup (pc := 124) rfl C dX0_findSides_124 ?_
  refine z_getI (pc := 125) 0 15 C dX0_findSides_125 rfl (by decide) (by decide) rfl zw_160 ?_
  refine z_iload (pc := 128) 1 rfl C dX0_findSides_128 ?_
  refine z_if_eq (pc := 130) 137 C dX0_findSides_130 (by decide) ?_ ?_
  · refine z_iconst (pc := 137) (1 : Int32) (by decide) C dX0_findSides_137 ?_
    refine z_lv [] [] rfl ?_
    exact wX0_findSides_138 C hR   _ _ _
  · refine z_iconst (pc := 133) (0 : Int32) (by decide) C dX0_findSides_133 ?_
    refine z_goto (pc := 134) 138 C dX0_findSides_134 (by decide) ?_
    refine z_lv [] [] rfl ?_
    exact wX0_findSides_138 C hR   _ _ _
def jX0_findSides_105 (F : Nat) (x1 : Int32) (x6 : Int32) (x7 : Int32) (v0 : Int32) (v1 : Int32) (sL : zOS) : Option (zOS) := (zchk v1 32 (zlet (zsI sL 10 (upd (zI sL 10) v1.toNatClampNeg v0)) (fun sL_6 : zOS => (if x7 = 0 then (jX0_findSides_122 F x7 (-1 : Int32) x1 sL_6) else (jX0_findSides_122 F x7 x6 x1 sL_6)))))
set_option maxRecDepth 20000 in
theorem wX0_findSides_105 {X : zCx} {res : zOS} {F : Nat} {qL : Nat → Nat} (C : zC X RX0 cX0_findSides 8 1 25) (hR : zR X none none [(0, qL, res)]) (x1 : Int32) (x6 : Int32) (x7 : Int32) (sL : zOS) (v0 : Int32) (v1 : Int32) : zJ X 8 res (jX0_findSides_105 F x1 x6 x7 v0 v1 sL) 105 [(0, (.ref (qL 0))), (1, (.int x1)), (6, (.int x6)), (7, (.int x7))] [(.int v0), (.int v1), (.ref (qL 10))] [(0, qL, sL)] := by
  unfold jX0_findSides_105
  refine z_iast (pc := 105) 0 C dX0_findSides_105 rfl (by unfold zAr; decide) [(0, qL, (zsI sL 10 (upd (zI sL 10) v1.toNatClampNeg v0)))] rfl ?_
  refine z_letc (fun z9 => [(0, qL, z9)]) (fun sL_6 => ?_)
  refine z_aload_n (pc := 106) 0 rfl rfl C dX0_findSides_106 ?_
  refine z_getR (pc := 107) 0 10 11 C dX0_findSides_107 rfl (by decide) (by decide) rfl zw_150 ?_
  refine z_iload_n (pc := 110) 1 rfl rfl C dX0_findSides_110 ?_
  refine z_iload (pc := 111) 3 rfl C dX0_findSides_111 ?_
  refine z_if_eq (pc := 113) 121 C dX0_findSides_113 (by decide) ?_ ?_
  · refine z_iconst (pc := 121) (-1 : Int32) (by decide) C dX0_findSides_121 ?_
    refine z_lv [(0, (.ref (qL 0))), (7, (.int x7))] [0, 3] rfl ?_
    exact wX0_findSides_122 C hR   _ _ _ _
  · refine z_iload (pc := 116) 2 rfl C dX0_findSides_116 ?_
    refine z_goto (pc := 118) 122 C dX0_findSides_118 (by decide) ?_
    refine z_lv [(0, (.ref (qL 0))), (7, (.int x7))] [0, 3] rfl ?_
    exact wX0_findSides_122 C hR   _ _ _ _
def bX0_findSides_22 (F : Nat) (x1 : Int32) (x2 : Int64) (sL : zOS) (kc_22 : (Int32 × Int32 × Int32 × Int32) → Option (zOS)) (x4 : Int32) (x5 : Int32) (x6 : Int32) (x7 : Int32) : Option (zOS) := (if (zF sL 13) ≤ x7 then (zchk x1 32 (zlet (zsI sL 12 (upd (zI sL 12) x1.toNatClampNeg x4)) (fun sL_3 : zOS => (Option.bind (fX0_isWell x1 sL_3) (fun r_4 : Int32 => (if r_4 = 0 then (jX0_findSides_105 F x1 x6 r_4 (-1 : Int32) x1 sL_3) else (jX0_findSides_105 F x1 x6 r_4 x5 x1 sL_3))))))) else (zchk (0 : Int32) 3 (zchk x7 96 (if (lg_cmp ((zL sL (zbs 0 + (0 : Int32).toNatClampNeg) x7.toNatClampNeg) &&& x2) (0 : Int64)) = 0 then (kc_22 (x4, x5, x6, (x7 + 1))) else (if x4 = 0 then (kc_22 ((x4 + 1), x7, x7, (x7 + 1))) else (kc_22 ((x4 + 1), x5, x7, (x7 + 1))))))))
set_option maxRecDepth 20000 in
theorem vX0_findSides_22 {X : zCx} {res : zOS} {F : Nat} {qL : Nat → Nat} {sL : zOS} {x1 : Int32} {x2 : Int64} {kc_22 : (Int32 × Int32 × Int32 × Int32) → Option (zOS)} (C : zC X RX0 cX0_findSides 8 1 25) (hR : zR X none none [(0, qL, res)]) (hk_22 : ∀ (y4 : Int32) (y5 : Int32) (y6 : Int32) (y7 : Int32), zJ X 8 res (kc_22 (y4, y5, y6, y7)) 22 [(0, (.ref (qL 0))), (1, (.int x1)), (2, (.long x2)), (4, (.int y4)), (5, (.int y5)), (6, (.int y6)), (7, (.int y7))] [] [(0, qL, sL)]) (x4 : Int32) (x5 : Int32) (x6 : Int32) (x7 : Int32) : zJ X 8 res (bX0_findSides_22 F x1 x2 sL kc_22 x4 x5 x6 x7) 22 [(0, (.ref (qL 0))), (1, (.int x1)), (2, (.long x2)), (4, (.int x4)), (5, (.int x5)), (6, (.int x6)), (7, (.int x7))] [] [(0, qL, sL)] := by
  unfold bX0_findSides_22
  refine z_iload (pc := 22) 6 rfl C dX0_findSides_22 ?_
  refine z_aload_n (pc := 24) 0 rfl rfl C dX0_findSides_24 ?_
  refine z_getI (pc := 25) 0 13 C dX0_findSides_25 rfl (by decide) (by decide) rfl zw_155 ?_
  refine z_icmp_ge (pc := 28) 74 C dX0_findSides_28 (by decide) ?_ ?_
  · refine z_aload_n (pc := 74) 0 rfl rfl C dX0_findSides_74 ?_
    refine z_getR (pc := 75) 0 11 12 C dX0_findSides_75 rfl (by decide) (by decide) rfl zw_152 ?_
    refine z_iload_n (pc := 78) 1 rfl rfl C dX0_findSides_78 ?_
    refine z_iload (pc := 79) 3 rfl C dX0_findSides_79 ?_
    refine z_iast (pc := 81) 0 C dX0_findSides_81 rfl (by unfold zAr; decide) [(0, qL, (zsI sL 12 (upd (zI sL 12) x1.toNatClampNeg x4)))] rfl ?_
    refine z_letc (fun z9 => [(0, qL, z9)]) (fun sL_3 => ?_)
    refine z_aload_n (pc := 82) 0 rfl rfl C dX0_findSides_82 ?_
    refine z_iload_n (pc := 83) 1 rfl rfl C dX0_findSides_83 ?_
    refine z_callV (pc := 84) (rf' := 0) (rl' := 0) (fX0_isWell x1 sL_3) [(.int x1)] [] [(0, qL, sL_3)] (fun r_4 => (some (.int r_4))) (fun r_4 => [(0, qL, sL_3)]) [] (fun r_4 => [(0, qL, sL_3)]) C dX0_findSides_84 zy_X0_isWell zw_463 (fun _ hr9 => mX0_isWell  hr9) (by decide) rfl rfl (by decide) rfl (Nat.le_of_ble_eq_true rfl) (List.Perm.refl _) (fun _ => List.Perm.refl _) rfl (fun r_4 hr_5 => ?_)
    show zJ X 8 res _ 87 [(0, (.ref (qL 0))), (1, (.int x1)), (2, (.long x2)), (4, (.int x4)), (5, (.int x5)), (6, (.int x6)), (7, (.int x7))] [(.int r_4)] [(0, qL, sL_3)]
    refine z_istore (pc := 87) [(0, (.ref (qL 0))), (1, (.int x1)), (2, (.long x2)), (4, (.int x4)), (5, (.int x5)), (6, (.int x6)), (7, (.int r_4))] [1, 2, 3, 4, 5, 6, 0] (by decide) rfl C dX0_findSides_87 ?_
    refine z_aload_n (pc := 89) 0 rfl rfl C dX0_findSides_89 ?_
    refine z_getR (pc := 90) 0 9 10 C dX0_findSides_90 rfl (by decide) (by decide) rfl zw_148 ?_
    refine z_iload_n (pc := 93) 1 rfl rfl C dX0_findSides_93 ?_
    refine z_iload (pc := 94) 6 rfl C dX0_findSides_94 ?_
    refine z_if_eq (pc := 96) 104 C dX0_findSides_96 (by decide) ?_ ?_
    · refine z_iconst (pc := 104) (-1 : Int32) (by decide) C dX0_findSides_104 ?_
      refine z_lv [(0, (.ref (qL 0))), (1, (.int x1)), (6, (.int x6)), (7, (.int r_4))] [0, 1, 5, 6] rfl ?_
      exact wX0_findSides_105 C hR   _ _ _ _ _ _
    · refine z_iload (pc := 99) 4 rfl C dX0_findSides_99 ?_
      refine z_goto (pc := 101) 105 C dX0_findSides_101 (by decide) ?_
      refine z_lv [(0, (.ref (qL 0))), (1, (.int x1)), (6, (.int x6)), (7, (.int r_4))] [0, 1, 5, 6] rfl ?_
      exact wX0_findSides_105 C hR   _ _ _ _ _ _
  · refine z_aload_n (pc := 31) 0 rfl rfl C dX0_findSides_31 ?_
    refine z_getR (pc := 32) 0 5 6 C dX0_findSides_32 rfl (by decide) (by decide) rfl zw_143 ?_
    refine z_iconst (pc := 35) (0 : Int32) (by decide) C dX0_findSides_35 ?_
    refine z_aal (pc := 36) 0 C dX0_findSides_36 rfl (by unfold zAr; decide) (by decide) (fun hi_9 => ?_)
    refine z_iload (pc := 37) 6 rfl C dX0_findSides_37 ?_
    refine z_lald (pc := 39) 0 C dX0_findSides_39 rfl (zAr_w hi_9) ?_
    refine z_lload_n (pc := 40) 2 rfl rfl C dX0_findSides_40 ?_
    refine z_land (pc := 41) C dX0_findSides_41 ?_
    refine z_lconst (pc := 42) (0 : Int64) (by decide) C dX0_findSides_42 ?_
    refine z_lcmp (pc := 43) C dX0_findSides_43 ?_
    refine z_if_eq (pc := 44) 68 C dX0_findSides_44 (by decide) ?_ ?_
    · refine z_iinc (pc := 68) (x7 + 1) 6 rfl rfl [(0, (.ref (qL 0))), (1, (.int x1)), (2, (.long x2)), (4, (.int x4)), (5, (.int x5)), (6, (.int x6)), (7, (.int (x7 + 1)))] [1, 2, 3, 4, 5, 6, 0] (by decide) rfl C dX0_findSides_68 ?_
      refine z_goto (pc := 71) 22 C dX0_findSides_71 (by decide) ?_
      exact hk_22 _ _ _ _
    · refine z_iload (pc := 47) 3 rfl C dX0_findSides_47 ?_
      refine z_if_ne (pc := 49) 57 C dX0_findSides_49 (by decide) ?_ ?_
      · refine z_iload (pc := 52) 6 rfl C dX0_findSides_52 ?_
        refine z_goto (pc := 54) 59 C dX0_findSides_54 (by decide) ?_
        refine z_istore (pc := 59) [(0, (.ref (qL 0))), (1, (.int x1)), (2, (.long x2)), (4, (.int x4)), (5, (.int x7)), (6, (.int x6)), (7, (.int x7))] [1, 2, 3, 4, 0, 5, 6] (by decide) rfl C dX0_findSides_59 ?_
        refine z_iload (pc := 61) 6 rfl C dX0_findSides_61 ?_
        refine z_istore (pc := 63) [(0, (.ref (qL 0))), (1, (.int x1)), (2, (.long x2)), (4, (.int x4)), (5, (.int x7)), (6, (.int x7)), (7, (.int x7))] [1, 2, 3, 4, 5, 0, 6] (by decide) rfl C dX0_findSides_63 ?_
        refine z_iinc (pc := 65) (x4 + 1) 3 rfl rfl [(0, (.ref (qL 0))), (1, (.int x1)), (2, (.long x2)), (4, (.int (x4 + 1))), (5, (.int x7)), (6, (.int x7)), (7, (.int x7))] [1, 2, 3, 0, 4, 5, 6] (by decide) rfl C dX0_findSides_65 ?_
        refine z_iinc (pc := 68) (x7 + 1) 6 rfl rfl [(0, (.ref (qL 0))), (1, (.int x1)), (2, (.long x2)), (4, (.int (x4 + 1))), (5, (.int x7)), (6, (.int x7)), (7, (.int (x7 + 1)))] [1, 2, 3, 4, 5, 6, 0] (by decide) rfl C dX0_findSides_68 ?_
        refine z_goto (pc := 71) 22 C dX0_findSides_71 (by decide) ?_
        exact hk_22 _ _ _ _
      · refine z_iload (pc := 57) 4 rfl C dX0_findSides_57 ?_
        refine z_istore (pc := 59) [(0, (.ref (qL 0))), (1, (.int x1)), (2, (.long x2)), (4, (.int x4)), (5, (.int x5)), (6, (.int x6)), (7, (.int x7))] [1, 2, 3, 4, 0, 5, 6] (by decide) rfl C dX0_findSides_59 ?_
        refine z_iload (pc := 61) 6 rfl C dX0_findSides_61 ?_
        refine z_istore (pc := 63) [(0, (.ref (qL 0))), (1, (.int x1)), (2, (.long x2)), (4, (.int x4)), (5, (.int x5)), (6, (.int x7)), (7, (.int x7))] [1, 2, 3, 4, 5, 0, 6] (by decide) rfl C dX0_findSides_63 ?_
        refine z_iinc (pc := 65) (x4 + 1) 3 rfl rfl [(0, (.ref (qL 0))), (1, (.int x1)), (2, (.long x2)), (4, (.int (x4 + 1))), (5, (.int x5)), (6, (.int x7)), (7, (.int x7))] [1, 2, 3, 0, 4, 5, 6] (by decide) rfl C dX0_findSides_65 ?_
        refine z_iinc (pc := 68) (x7 + 1) 6 rfl rfl [(0, (.ref (qL 0))), (1, (.int x1)), (2, (.long x2)), (4, (.int (x4 + 1))), (5, (.int x5)), (6, (.int x7)), (7, (.int (x7 + 1)))] [1, 2, 3, 4, 5, 6, 0] (by decide) rfl C dX0_findSides_68 ?_
        refine z_goto (pc := 71) 22 C dX0_findSides_71 (by decide) ?_
        exact hk_22 _ _ _ _
def fX0_findSides (F : Nat) (x1 : Int32) (sL : zOS) : Option (zOS) := (zchk x1 32 (Option.bind (fX0_besideOf (zL sL 8 x1.toNatClampNeg)) (fun r_1 : Int64 => (zit (P := Int32 × Int32 × Int32 × Int32) (R := zOS) (fun kc9 p9 => bX0_findSides_22 F x1 r_1 sL kc9 p9.1 p9.2.1 p9.2.2.1 p9.2.2.2) F ((0 : Int32), (-1 : Int32), (-1 : Int32), (0 : Int32))))))
set_option maxRecDepth 20000 in
theorem wX0_findSides {X : zCx} {res : zOS} {F : Nat} {qL : Nat → Nat} {x1 : Int32} {sL : zOS} (C : zC X RX0 cX0_findSides 8 1 25) (hR : zR X none none [(0, qL, res)])  : zJ X 8 res (fX0_findSides F x1 sL) 0 [(0, (.ref (qL 0))), (1, (.int x1))] [] [(0, qL, sL)] := by
  unfold fX0_findSides
  refine z_aload_n (pc := 0) 0 rfl rfl C dX0_findSides_0 ?_
  refine z_getR (pc := 1) 0 7 8 C dX0_findSides_1 rfl (by decide) (by decide) rfl zw_145 ?_
  refine z_iload_n (pc := 4) 1 rfl rfl C dX0_findSides_4 ?_
  refine z_lald (pc := 5) 0 C dX0_findSides_5 rfl (by unfold zAr; decide) ?_
  refine z_callS (pc := 6) (rf' := 0) (rl' := 0) (fX0_besideOf (zL sL 8 x1.toNatClampNeg)) [(.long (zL sL 8 x1.toNatClampNeg))] [] [] (fun r_1 => (some (.long r_1))) (fun r_1 => []) [(0, qL, sL)] (fun r_1 => [(0, qL, sL)]) C dX0_findSides_6 zy_X0_besideOf zw_420 (fun _ hr9 => mX0_besideOf  hr9) (by decide) rfl (Nat.le_of_ble_eq_true rfl) (List.Perm.refl _) (fun _ => List.Perm.refl _) rfl (fun r_1 hr_2 => ?_)
  show zJ X 8 res _ 9 [(0, (.ref (qL 0))), (1, (.int x1))] [(.long r_1)] [(0, qL, sL)]
  refine z_lstore_n (pc := 9) [(0, (.ref (qL 0))), (1, (.int x1)), (2, (.long r_1))] [1, 2, 0] (by decide) rfl rfl C dX0_findSides_9 ?_
  refine z_iconst (pc := 10) (0 : Int32) (by decide) C dX0_findSides_10 ?_
  refine z_istore (pc := 11) [(0, (.ref (qL 0))), (1, (.int x1)), (2, (.long r_1)), (4, (.int (0 : Int32)))] [1, 2, 3, 0] (by decide) rfl C dX0_findSides_11 ?_
  refine z_iconst (pc := 13) (-1 : Int32) (by decide) C dX0_findSides_13 ?_
  refine z_istore (pc := 14) [(0, (.ref (qL 0))), (1, (.int x1)), (2, (.long r_1)), (4, (.int (0 : Int32))), (5, (.int (-1 : Int32)))] [1, 2, 3, 4, 0] (by decide) rfl C dX0_findSides_14 ?_
  refine z_iconst (pc := 16) (-1 : Int32) (by decide) C dX0_findSides_16 ?_
  refine z_istore (pc := 17) [(0, (.ref (qL 0))), (1, (.int x1)), (2, (.long r_1)), (4, (.int (0 : Int32))), (5, (.int (-1 : Int32))), (6, (.int (-1 : Int32)))] [1, 2, 3, 4, 5, 0] (by decide) rfl C dX0_findSides_17 ?_
  refine z_iconst (pc := 19) (0 : Int32) (by decide) C dX0_findSides_19 ?_
  refine z_istore (pc := 20) [(0, (.ref (qL 0))), (1, (.int x1)), (2, (.long r_1)), (4, (.int (0 : Int32))), (5, (.int (-1 : Int32))), (6, (.int (-1 : Int32))), (7, (.int (0 : Int32)))] [1, 2, 3, 4, 5, 6, 0] (by decide) rfl C dX0_findSides_20 ?_
  exact zit_J (fun p9 => [(0, (.ref (qL 0))), (1, (.int x1)), (2, (.long r_1)), (4, (.int p9.1)), (5, (.int p9.2.1)), (6, (.int p9.2.2.1)), (7, (.int p9.2.2.2))]) (fun p9 => [(0, qL, sL)]) (fun kc9 hk9 p9 => vX0_findSides_22 C hR   (fun a0 a1 a2 a3 => hk9 (a0, a1, a2, a3)) _ _ _ _) F _
theorem mX0_findSides {F : Nat} {qL : Nat → Nat} {x1 : Int32} {sL : zOS} {res : zOS}  (hf : fX0_findSides F x1 sL = some res) : zM yX0_findSides cX0_findSides 8 none 1 25 [(.ref (qL 0)), (.int x1)] [(0, qL, sL)] none [(0, qL, res)] := zM_of (by decide +kernel) (Nat.le_of_ble_eq_true rfl) (fun X C hR => wX0_findSides (F := F) C hR  hf)
theorem dX0_findGates_0 : decode cX0_findGates 0 = .ok (.aload_n 0, 1) := by decide +kernel
theorem dX0_findGates_1 : decode cX0_findGates 1 = .ok (.iconst 0, 1) := by decide +kernel
theorem dX0_findGates_2 : decode cX0_findGates 2 = .ok (.putfield 58, 3) := by decide +kernel
theorem dX0_findGates_5 : decode cX0_findGates 5 = .ok (.aload_n 0, 1) := by decide +kernel
theorem dX0_findGates_6 : decode cX0_findGates 6 = .ok (.iconst 0, 1) := by decide +kernel
theorem dX0_findGates_7 : decode cX0_findGates 7 = .ok (.putfield 61, 3) := by decide +kernel
theorem dX0_findGates_10 : decode cX0_findGates 10 = .ok (.aload_n 0, 1) := by decide +kernel
theorem dX0_findGates_11 : decode cX0_findGates 11 = .ok (.getfield 9, 3) := by decide +kernel
theorem dX0_findGates_14 : decode cX0_findGates 14 = .ok (.iconst 0, 1) := by decide +kernel
theorem dX0_findGates_15 : decode cX0_findGates 15 = .ok (.laload, 1) := by decide +kernel
theorem dX0_findGates_16 : decode cX0_findGates 16 = .ok (.aload_n 0, 1) := by decide +kernel
theorem dX0_findGates_17 : decode cX0_findGates 17 = .ok (.getfield 9, 3) := by decide +kernel
theorem dX0_findGates_20 : decode cX0_findGates 20 = .ok (.iconst 1, 1) := by decide +kernel
theorem dX0_findGates_21 : decode cX0_findGates 21 = .ok (.laload, 1) := by decide +kernel
theorem dX0_findGates_22 : decode cX0_findGates 22 = .ok (.land, 1) := by decide +kernel
theorem dX0_findGates_23 : decode cX0_findGates 23 = .ok (.lstore_n 1, 1) := by decide +kernel
theorem dX0_findGates_24 : decode cX0_findGates 24 = .ok (.iconst 0, 1) := by decide +kernel
theorem dX0_findGates_25 : decode cX0_findGates 25 = .ok (.istore_n 3, 1) := by decide +kernel
theorem dX0_findGates_26 : decode cX0_findGates 26 = .ok (.iload_n 3, 1) := by decide +kernel
theorem dX0_findGates_27 : decode cX0_findGates 27 = .ok (.bipush 64, 2) := by decide +kernel
theorem dX0_findGates_29 : decode cX0_findGates 29 = .ok (.if_icmp .ge 84, 3) := by decide +kernel
theorem dX0_findGates_32 : decode cX0_findGates 32 = .ok (.lload_n 1, 1) := by decide +kernel
theorem dX0_findGates_33 : decode cX0_findGates 33 = .ok (.lconst 0, 1) := by decide +kernel
theorem dX0_findGates_34 : decode cX0_findGates 34 = .ok (.lcmp, 1) := by decide +kernel
theorem dX0_findGates_35 : decode cX0_findGates 35 = .ok (.ifCond .eq 78, 3) := by decide +kernel
theorem dX0_findGates_38 : decode cX0_findGates 38 = .ok (.aload_n 0, 1) := by decide +kernel
theorem dX0_findGates_39 : decode cX0_findGates 39 = .ok (.getfield 58, 3) := by decide +kernel
theorem dX0_findGates_42 : decode cX0_findGates 42 = .ok (.bipush 32, 2) := by decide +kernel
theorem dX0_findGates_44 : decode cX0_findGates 44 = .ok (.if_icmp .ge 69, 3) := by decide +kernel
theorem dX0_findGates_47 : decode cX0_findGates 47 = .ok (.lload_n 1, 1) := by decide +kernel
theorem dX0_findGates_48 : decode cX0_findGates 48 = .ok (.invokestatic 140, 3) := by decide +kernel
theorem dX0_findGates_51 : decode cX0_findGates 51 = .ok (.lstore 4, 2) := by decide +kernel
theorem dX0_findGates_53 : decode cX0_findGates 53 = .ok (.aload_n 0, 1) := by decide +kernel
theorem dX0_findGates_54 : decode cX0_findGates 54 = .ok (.getfield 36, 3) := by decide +kernel
theorem dX0_findGates_57 : decode cX0_findGates 57 = .ok (.aload_n 0, 1) := by decide +kernel
theorem dX0_findGates_58 : decode cX0_findGates 58 = .ok (.getfield 58, 3) := by decide +kernel
theorem dX0_findGates_61 : decode cX0_findGates 61 = .ok (.lload 4, 2) := by decide +kernel
theorem dX0_findGates_63 : decode cX0_findGates 63 = .ok (.lastore, 1) := by decide +kernel
theorem dX0_findGates_64 : decode cX0_findGates 64 = .ok (.aload_n 0, 1) := by decide +kernel
theorem dX0_findGates_65 : decode cX0_findGates 65 = .ok (.getfield 39, 3) := by decide +kernel
theorem dX0_findGates_68 : decode cX0_findGates 68 = .ok (.aload_n 0, 1) := by decide +kernel
theorem dX0_findGates_69 : decode cX0_findGates 69 = .ok (.getfield 58, 3) := by decide +kernel
theorem dX0_findGates_72 : decode cX0_findGates 72 = .ok (.aload_n 0, 1) := by decide +kernel
theorem dX0_findGates_73 : decode cX0_findGates 73 = .ok (.iconst 1, 1) := by decide +kernel
theorem dX0_findGates_74 : decode cX0_findGates 74 = .ok (.lload 4, 2) := by decide +kernel
theorem dX0_findGates_76 : decode cX0_findGates 76 = .ok (.invokevirtual 95, 3) := by decide +kernel
theorem dX0_findGates_79 : decode cX0_findGates 79 = .ok (.iastore, 1) := by decide +kernel
theorem dX0_findGates_80 : decode cX0_findGates 80 = .ok (.aload_n 0, 1) := by decide +kernel
theorem dX0_findGates_81 : decode cX0_findGates 81 = .ok (.aload_n 0, 1) := by decide +kernel
theorem dX0_findGates_82 : decode cX0_findGates 82 = .ok (.getfield 58, 3) := by decide +kernel
theorem dX0_findGates_85 : decode cX0_findGates 85 = .ok (.invokevirtual 163, 3) := by decide +kernel
theorem dX0_findGates_88 : decode cX0_findGates 88 = .ok (.aload_n 0, 1) := by decide +kernel
theorem dX0_findGates_89 : decode cX0_findGates 89 = .ok (.dup, 1) := by decide +kernel
theorem dX0_findGates_90 : decode cX0_findGates 90 = .ok (.getfield 58, 3) := by decide +kernel
theorem dX0_findGates_93 : decode cX0_findGates 93 = .ok (.iconst 1, 1) := by decide +kernel
theorem dX0_findGates_94 : decode cX0_findGates 94 = .ok (.iadd, 1) := by decide +kernel
theorem dX0_findGates_95 : decode cX0_findGates 95 = .ok (.putfield 58, 3) := by decide +kernel
theorem dX0_findGates_98 : decode cX0_findGates 98 = .ok (.lload_n 1, 1) := by decide +kernel
theorem dX0_findGates_99 : decode cX0_findGates 99 = .ok (.lload 4, 2) := by decide +kernel
theorem dX0_findGates_101 : decode cX0_findGates 101 = .ok (.ldc2_w 135, 3) := by decide +kernel
theorem dX0_findGates_104 : decode cX0_findGates 104 = .ok (.lxor, 1) := by decide +kernel
theorem dX0_findGates_105 : decode cX0_findGates 105 = .ok (.land, 1) := by decide +kernel
theorem dX0_findGates_106 : decode cX0_findGates 106 = .ok (.lstore_n 1, 1) := by decide +kernel
theorem dX0_findGates_107 : decode cX0_findGates 107 = .ok (.iinc 3 1, 3) := by decide +kernel
theorem dX0_findGates_110 : decode cX0_findGates 110 = .ok (.goto (-84), 3) := by decide +kernel
theorem dX0_findGates_113 : decode cX0_findGates 113 = .ok (.return_, 1) := by decide +kernel
def bX0_findGates_26 (F : Nat) (kc_26 : (Int64 × Int32 × zOS) → Option (zOS)) (x1 : Int64) (x3 : Int32) (sL : zOS) : Option (zOS) := (if (64 : Int32) ≤ x3 then (some (sL)) else (if (lg_cmp x1 (0 : Int64)) = 0 then (some (sL)) else (if (32 : Int32) ≤ (zF sL 14) then (some (sL)) else (Option.bind (fX0_hangingTogether F x1) (fun r_4 : Int64 => (zchk (zF sL 14) 32 (zlet (zsL sL 8 (vp_updL (zL sL 8) (zF sL 14).toNatClampNeg r_4)) (fun sL_6 : zOS => (Option.bind (fX0_nodeWith F (1 : Int32) r_4 sL_6) (fun r_7 : Int32 => (zchk (zF sL_6 14) 32 (zlet (zsI sL_6 9 (upd (zI sL_6 9) (zF sL_6 14).toNatClampNeg r_7)) (fun sL_9 : zOS => (Option.bind (fX0_findSides F (zF sL_9 14) sL_9) (fun r_10 : zOS => (zlet (zsF r_10 14 ((zF r_10 14) + (1 : Int32))) (fun sL_12 : zOS => (zlet (x1 &&& (r_4 ^^^ (-1 : Int64))) (fun x1_13 : Int64 => (kc_26 (x1_13, (x3 + 1), sL_12)))))))))))))))))))))
set_option maxRecDepth 20000 in
theorem vX0_findGates_26 {X : zCx} {res : zOS} {F : Nat} {qL : Nat → Nat} {kc_26 : (Int64 × Int32 × zOS) → Option (zOS)} (C : zC X RX0 cX0_findGates 6 2 52) (hR : zR X none none [(0, qL, res)]) (hk_26 : ∀ (y1 : Int64) (y3 : Int32) (tL : zOS), zJ X 6 res (kc_26 (y1, y3, tL)) 26 [(0, (.ref (qL 0))), (1, (.long y1)), (3, (.int y3))] [] [(0, qL, tL)]) (x1 : Int64) (x3 : Int32) (sL : zOS) : zJ X 6 res (bX0_findGates_26 F kc_26 x1 x3 sL) 26 [(0, (.ref (qL 0))), (1, (.long x1)), (3, (.int x3))] [] [(0, qL, sL)] := by
  unfold bX0_findGates_26
  refine z_iload_n (pc := 26) 2 rfl rfl C dX0_findGates_26 ?_
  refine z_bipush (pc := 27) (64 : Int32) (by decide) C dX0_findGates_27 ?_
  refine z_icmp_ge (pc := 29) 113 C dX0_findGates_29 (by decide) ?_ ?_
  · exact z_return (pc := 113) C hR dX0_findGates_113 (fun h => by subst h; exact ⟨rfl, rfl⟩)
  · refine z_lload_n (pc := 32) 1 rfl rfl C dX0_findGates_32 ?_
    refine z_lconst (pc := 33) (0 : Int64) (by decide) C dX0_findGates_33 ?_
    refine z_lcmp (pc := 34) C dX0_findGates_34 ?_
    refine z_if_eq (pc := 35) 113 C dX0_findGates_35 (by decide) ?_ ?_
    · exact z_return (pc := 113) C hR dX0_findGates_113 (fun h => by subst h; exact ⟨rfl, rfl⟩)
    · refine z_aload_n (pc := 38) 0 rfl rfl C dX0_findGates_38 ?_
      refine z_getI (pc := 39) 0 14 C dX0_findGates_39 rfl (by decide) (by decide) rfl zw_157 ?_
      refine z_bipush (pc := 42) (32 : Int32) (by decide) C dX0_findGates_42 ?_
      refine z_icmp_ge (pc := 44) 113 C dX0_findGates_44 (by decide) ?_ ?_
      · exact z_return (pc := 113) C hR dX0_findGates_113 (fun h => by subst h; exact ⟨rfl, rfl⟩)
      · refine z_lload_n (pc := 47) 1 rfl rfl C dX0_findGates_47 ?_
        refine z_callS (pc := 48) (rf' := 1) (rl' := 25) (fX0_hangingTogether F x1) [(.long x1)] [] [] (fun r_4 => (some (.long r_4))) (fun r_4 => []) [(0, qL, sL)] (fun r_4 => [(0, qL, sL)]) C dX0_findGates_48 zy_X0_hangingTogether zw_417 (fun _ hr9 => mX0_hangingTogether  hr9) (by decide) rfl (Nat.le_of_ble_eq_true rfl) (List.Perm.refl _) (fun _ => List.Perm.refl _) rfl (fun r_4 hr_5 => ?_)
        show zJ X 6 res _ 51 [(0, (.ref (qL 0))), (1, (.long x1)), (3, (.int x3))] [(.long r_4)] [(0, qL, sL)]
        refine z_lstore (pc := 51) [(0, (.ref (qL 0))), (1, (.long x1)), (3, (.int x3)), (4, (.long r_4))] [1, 2, 3, 0] (by decide) rfl C dX0_findGates_51 ?_
        refine z_aload_n (pc := 53) 0 rfl rfl C dX0_findGates_53 ?_
        refine z_getR (pc := 54) 0 7 8 C dX0_findGates_54 rfl (by decide) (by decide) rfl zw_145 ?_
        refine z_aload_n (pc := 57) 0 rfl rfl C dX0_findGates_57 ?_
        refine z_getI (pc := 58) 0 14 C dX0_findGates_58 rfl (by decide) (by decide) rfl zw_157 ?_
        refine z_lload (pc := 61) 3 rfl C dX0_findGates_61 ?_
        refine z_last (pc := 63) 0 C dX0_findGates_63 rfl (by unfold zAr; decide) [(0, qL, (zsL sL 8 (vp_updL (zL sL 8) (zF sL 14).toNatClampNeg r_4)))] rfl ?_
        refine z_letc (fun z9 => [(0, qL, z9)]) (fun sL_6 => ?_)
        refine z_aload_n (pc := 64) 0 rfl rfl C dX0_findGates_64 ?_
        refine z_getR (pc := 65) 0 8 9 C dX0_findGates_65 rfl (by decide) (by decide) rfl zw_146 ?_
        refine z_aload_n (pc := 68) 0 rfl rfl C dX0_findGates_68 ?_
        refine z_getI (pc := 69) 0 14 C dX0_findGates_69 rfl (by decide) (by decide) rfl zw_157 ?_
        refine z_aload_n (pc := 72) 0 rfl rfl C dX0_findGates_72 ?_
        refine z_iconst (pc := 73) (1 : Int32) (by decide) C dX0_findGates_73 ?_
        refine z_lload (pc := 74) 3 rfl C dX0_findGates_74 ?_
        refine z_callV (pc := 76) (rf' := 0) (rl' := 0) (fX0_nodeWith F (1 : Int32) r_4 sL_6) [(.int (1 : Int32)), (.long r_4)] [(.int (zF sL_6 14)), (.ref (qL 9))] [(0, qL, sL_6)] (fun r_7 => (some (.int r_7))) (fun r_7 => [(0, qL, sL_6)]) [] (fun r_7 => [(0, qL, sL_6)]) C dX0_findGates_76 zy_X0_nodeWith zw_455 (fun _ hr9 => mX0_nodeWith  hr9) (by decide) rfl rfl (by decide) rfl (Nat.le_of_ble_eq_true rfl) (List.Perm.refl _) (fun _ => List.Perm.refl _) rfl (fun r_7 hr_8 => ?_)
        show zJ X 6 res _ 79 [(0, (.ref (qL 0))), (1, (.long x1)), (3, (.int x3)), (4, (.long r_4))] [(.int r_7), (.int (zF sL_6 14)), (.ref (qL 9))] [(0, qL, sL_6)]
        refine z_iast (pc := 79) 0 C dX0_findGates_79 rfl (by unfold zAr; decide) [(0, qL, (zsI sL_6 9 (upd (zI sL_6 9) (zF sL_6 14).toNatClampNeg r_7)))] rfl ?_
        refine z_letc (fun z9 => [(0, qL, z9)]) (fun sL_9 => ?_)
        refine z_aload_n (pc := 80) 0 rfl rfl C dX0_findGates_80 ?_
        refine z_aload_n (pc := 81) 0 rfl rfl C dX0_findGates_81 ?_
        refine z_getI (pc := 82) 0 14 C dX0_findGates_82 rfl (by decide) (by decide) rfl zw_157 ?_
        refine z_callV (pc := 85) (rf' := 1) (rl' := 25) (fX0_findSides F (zF sL_9 14) sL_9) [(.int (zF sL_9 14))] [] [(0, qL, sL_9)] (fun r_10 => none) (fun r_10 => [(0, qL, r_10)]) [] (fun r_10 => [(0, qL, r_10)]) C dX0_findGates_85 zy_X0_findSides zw_459 (fun _ hr9 => mX0_findSides  hr9) (by decide) rfl rfl (by decide) rfl (Nat.le_of_ble_eq_true rfl) (List.Perm.refl _) (fun _ => List.Perm.refl _) rfl (fun r_10 hr_11 => ?_)
        show zJ X 6 res _ 88 [(0, (.ref (qL 0))), (1, (.long x1)), (3, (.int x3)), (4, (.long r_4))] [] [(0, qL, r_10)]
        refine z_aload_n (pc := 88) 0 rfl rfl C dX0_findGates_88 ?_
        refine z_dup (pc := 89) rfl C dX0_findGates_89 ?_
        refine z_getI (pc := 90) 0 14 C dX0_findGates_90 rfl (by decide) (by decide) rfl zw_157 ?_
        refine z_iconst (pc := 93) (1 : Int32) (by decide) C dX0_findGates_93 ?_
        refine z_iadd (pc := 94) C dX0_findGates_94 ?_
        refine z_putI (pc := 95) 0 14 C dX0_findGates_95 rfl (by decide) (by decide) rfl zw_157 rfl rfl rfl [(0, qL, (zsF r_10 14 ((zF r_10 14) + (1 : Int32))))] rfl ?_
        refine z_letc (fun z9 => [(0, qL, z9)]) (fun sL_12 => ?_)
        refine z_lload_n (pc := 98) 1 rfl rfl C dX0_findGates_98 ?_
        refine z_lload (pc := 99) 3 rfl C dX0_findGates_99 ?_
        refine z_ldc2_w (pc := 101) (-1 : Int64) zw_416 C dX0_findGates_101 ?_
        refine z_lxor (pc := 104) C dX0_findGates_104 ?_
        refine z_land (pc := 105) C dX0_findGates_105 ?_
        refine z_letl (fun x1_13 => ?_)
        refine z_lstore_n (pc := 106) [(0, (.ref (qL 0))), (1, (.long x1_13)), (3, (.int x3)), (4, (.long r_4))] [1, 0, 2, 3] (by decide) rfl rfl C dX0_findGates_106 ?_
        refine z_iinc (pc := 107) (x3 + 1) 2 rfl rfl [(0, (.ref (qL 0))), (1, (.long x1_13)), (3, (.int (x3 + 1))), (4, (.long r_4))] [1, 2, 0, 3] (by decide) rfl C dX0_findGates_107 ?_
        refine z_goto (pc := 110) 26 C dX0_findGates_110 (by decide) ?_
        refine z_lv [(0, (.ref (qL 0))), (1, (.long x1_13)), (3, (.int (x3 + 1)))] [0, 1, 2] rfl ?_
        exact hk_26 _ _ _
def fX0_findGates (F : Nat) (sL : zOS) : Option (zOS) := (zlet (zsF sL 14 (0 : Int32)) (fun sL_1 : zOS => (zlet (zsF sL_1 15 (0 : Int32)) (fun sL_2 : zOS => (zchk (0 : Int32) 4 (zchk (1 : Int32) 4 (zlet ((zL sL_2 1 (0 : Int32).toNatClampNeg) &&& (zL sL_2 1 (1 : Int32).toNatClampNeg)) (fun x1_3 : Int64 => (zit (P := Int64 × Int32 × zOS) (R := zOS) (fun kc9 p9 => bX0_findGates_26 F kc9 p9.1 p9.2.1 p9.2.2) F (x1_3, (0 : Int32), sL_2))))))))))
set_option maxRecDepth 20000 in
theorem wX0_findGates {X : zCx} {res : zOS} {F : Nat} {qL : Nat → Nat} {sL : zOS} (C : zC X RX0 cX0_findGates 6 2 52) (hR : zR X none none [(0, qL, res)])  : zJ X 6 res (fX0_findGates F sL) 0 [(0, (.ref (qL 0)))] [] [(0, qL, sL)] := by
  unfold fX0_findGates
  refine z_aload_n (pc := 0) 0 rfl rfl C dX0_findGates_0 ?_
  refine z_iconst (pc := 1) (0 : Int32) (by decide) C dX0_findGates_1 ?_
  refine z_putI (pc := 2) 0 14 C dX0_findGates_2 rfl (by decide) (by decide) rfl zw_157 rfl rfl rfl [(0, qL, (zsF sL 14 (0 : Int32)))] rfl ?_
  refine z_letc (fun z9 => [(0, qL, z9)]) (fun sL_1 => ?_)
  refine z_aload_n (pc := 5) 0 rfl rfl C dX0_findGates_5 ?_
  refine z_iconst (pc := 6) (0 : Int32) (by decide) C dX0_findGates_6 ?_
  refine z_putI (pc := 7) 0 15 C dX0_findGates_7 rfl (by decide) (by decide) rfl zw_160 rfl rfl rfl [(0, qL, (zsF sL_1 15 (0 : Int32)))] rfl ?_
  refine z_letc (fun z9 => [(0, qL, z9)]) (fun sL_2 => ?_)
  refine z_aload_n (pc := 10) 0 rfl rfl C dX0_findGates_10 ?_
  refine z_getR (pc := 11) 0 0 1 C dX0_findGates_11 rfl (by decide) (by decide) rfl zw_138 ?_
  refine z_iconst (pc := 14) (0 : Int32) (by decide) C dX0_findGates_14 ?_
  refine z_lald (pc := 15) 0 C dX0_findGates_15 rfl (by unfold zAr; decide) ?_
  refine z_aload_n (pc := 16) 0 rfl rfl C dX0_findGates_16 ?_
  refine z_getR (pc := 17) 0 0 1 C dX0_findGates_17 rfl (by decide) (by decide) rfl zw_138 ?_
  refine z_iconst (pc := 20) (1 : Int32) (by decide) C dX0_findGates_20 ?_
  refine z_lald (pc := 21) 0 C dX0_findGates_21 rfl (by unfold zAr; decide) ?_
  refine z_land (pc := 22) C dX0_findGates_22 ?_
  refine z_letl (fun x1_3 => ?_)
  refine z_lstore_n (pc := 23) [(0, (.ref (qL 0))), (1, (.long x1_3))] [1, 0] (by decide) rfl rfl C dX0_findGates_23 ?_
  refine z_iconst (pc := 24) (0 : Int32) (by decide) C dX0_findGates_24 ?_
  refine z_istore_n (pc := 25) [(0, (.ref (qL 0))), (1, (.long x1_3)), (3, (.int (0 : Int32)))] [1, 2, 0] (by decide) rfl rfl C dX0_findGates_25 ?_
  exact zit_J (fun p9 => [(0, (.ref (qL 0))), (1, (.long p9.1)), (3, (.int p9.2.1))]) (fun p9 => [(0, qL, p9.2.2)]) (fun kc9 hk9 p9 => vX0_findGates_26 C hR   (fun a0 a1 a2 => hk9 (a0, a1, a2)) _ _ _) F _
theorem mX0_findGates {F : Nat} {qL : Nat → Nat} {sL : zOS} {res : zOS}  (hf : fX0_findGates F sL = some res) : zM yX0_findGates cX0_findGates 6 none 2 52 [(.ref (qL 0))] [(0, qL, sL)] none [(0, qL, res)] := zM_of (by decide +kernel) (Nat.le_of_ble_eq_true rfl) (fun X C hR => wX0_findGates (F := F) C hR  hf)
theorem dX0_addHang_0 : decode cX0_addHang 0 = .ok (.iload_n 1, 1) := by decide +kernel
theorem dX0_addHang_1 : decode cX0_addHang 1 = .ok (.aload_n 0, 1) := by decide +kernel
theorem dX0_addHang_2 : decode cX0_addHang 2 = .ok (.getfield 55, 3) := by decide +kernel
theorem dX0_addHang_5 : decode cX0_addHang 5 = .ok (.invokestatic 131, 3) := by decide +kernel
theorem dX0_addHang_8 : decode cX0_addHang 8 = .ok (.ifCond .eq 13, 3) := by decide +kernel
theorem dX0_addHang_11 : decode cX0_addHang 11 = .ok (.aload_n 0, 1) := by decide +kernel
theorem dX0_addHang_12 : decode cX0_addHang 12 = .ok (.getfield 33, 3) := by decide +kernel
theorem dX0_addHang_15 : decode cX0_addHang 15 = .ok (.iload_n 1, 1) := by decide +kernel
theorem dX0_addHang_16 : decode cX0_addHang 16 = .ok (.dup2, 1) := by decide +kernel
theorem dX0_addHang_17 : decode cX0_addHang 17 = .ok (.iaload, 1) := by decide +kernel
theorem dX0_addHang_18 : decode cX0_addHang 18 = .ok (.iload_n 2, 1) := by decide +kernel
theorem dX0_addHang_19 : decode cX0_addHang 19 = .ok (.iadd, 1) := by decide +kernel
theorem dX0_addHang_20 : decode cX0_addHang 20 = .ok (.iastore, 1) := by decide +kernel
theorem dX0_addHang_21 : decode cX0_addHang 21 = .ok (.return_, 1) := by decide +kernel
def fX0_addHang (x1 : Int32) (x2 : Int32) (sL : zOS) : Option (zOS) := (Option.bind (fX4_isWithin x1 (zF sL 13)) (fun r_1 : Int32 => (if r_1 = 0 then (some (sL)) else (zchk x1 96 (zchk x1 96 (zlet (zsI sL 7 (upd (zI sL 7) x1.toNatClampNeg ((zI sL 7 x1.toNatClampNeg) + x2))) (fun sL_3 : zOS => (some (sL_3)))))))))
set_option maxRecDepth 20000 in
theorem wX0_addHang {X : zCx} {res : zOS}  {qL : Nat → Nat} {x1 : Int32} {x2 : Int32} {sL : zOS} (C : zC X RX0 cX0_addHang 3 1 21) (hR : zR X none none [(0, qL, res)])  : zJ X 3 res (fX0_addHang x1 x2 sL) 0 [(0, (.ref (qL 0))), (1, (.int x1)), (2, (.int x2))] [] [(0, qL, sL)] := by
  unfold fX0_addHang
  refine z_iload_n (pc := 0) 1 rfl rfl C dX0_addHang_0 ?_
  refine z_aload_n (pc := 1) 0 rfl rfl C dX0_addHang_1 ?_
  refine z_getI (pc := 2) 0 13 C dX0_addHang_2 rfl (by decide) (by decide) rfl zw_155 ?_
  refine z_callN (pc := 5) (rf' := 0) (rl' := 0) (fX4_isWithin x1 (zF sL 13)) [(.int x1), (.int (zF sL 13))] [] (fun r_1 => (some (.int r_1))) C dX0_addHang_5 zy_X4_isWithin (fun U h => h.2.2.2) (fun _ hr9 => mX4_isWithin  hr9) (by decide) rfl (Nat.le_of_ble_eq_true rfl) rfl (fun r_1 hr_2 => ?_)
  show zJ X 3 res _ 8 [(0, (.ref (qL 0))), (1, (.int x1)), (2, (.int x2))] [(.int r_1)] [(0, qL, sL)]
  refine z_if_eq (pc := 8) 21 C dX0_addHang_8 (by decide) ?_ ?_
  · exact z_return (pc := 21) C hR dX0_addHang_21 (fun h => by subst h; exact ⟨rfl, rfl⟩)
  · refine z_aload_n (pc := 11) 0 rfl rfl C dX0_addHang_11 ?_
    refine z_getR (pc := 12) 0 6 7 C dX0_addHang_12 rfl (by decide) (by decide) rfl zw_144 ?_
    refine z_iload_n (pc := 15) 1 rfl rfl C dX0_addHang_15 ?_
    refine z_dup2 (pc := 16) rfl rfl C dX0_addHang_16 ?_
    refine z_iald (pc := 17) 0 C dX0_addHang_17 rfl (by unfold zAr; decide) ?_
    refine z_iload_n (pc := 18) 2 rfl rfl C dX0_addHang_18 ?_
    refine z_iadd (pc := 19) C dX0_addHang_19 ?_
    refine z_iast (pc := 20) 0 C dX0_addHang_20 rfl (by unfold zAr; decide) [(0, qL, (zsI sL 7 (upd (zI sL 7) x1.toNatClampNeg ((zI sL 7 x1.toNatClampNeg) + x2))))] rfl ?_
    refine z_letc (fun z9 => [(0, qL, z9)]) (fun sL_3 => ?_)
    exact z_return (pc := 21) C hR dX0_addHang_21 (fun h => by subst h; exact ⟨rfl, rfl⟩)
theorem mX0_addHang  {qL : Nat → Nat} {x1 : Int32} {x2 : Int32} {sL : zOS} {res : zOS}  (hf : fX0_addHang x1 x2 sL = some res) : zM yX0_addHang cX0_addHang 3 none 1 21 [(.ref (qL 0)), (.int x1), (.int x2)] [(0, qL, sL)] none [(0, qL, res)] := zM_of (by decide +kernel) (Nat.le_of_ble_eq_true rfl) (fun X C hR => wX0_addHang C hR  hf)
theorem dX0_weighNodes_0 : decode cX0_weighNodes 0 = .ok (.aload_n 0, 1) := by decide +kernel
theorem dX0_weighNodes_1 : decode cX0_weighNodes 1 = .ok (.getfield 33, 3) := by decide +kernel
theorem dX0_weighNodes_4 : decode cX0_weighNodes 4 = .ok (.iconst 0, 1) := by decide +kernel
theorem dX0_weighNodes_5 : decode cX0_weighNodes 5 = .ok (.invokestatic 173, 3) := by decide +kernel
theorem dX0_weighNodes_8 : decode cX0_weighNodes 8 = .ok (.iconst 0, 1) := by decide +kernel
theorem dX0_weighNodes_9 : decode cX0_weighNodes 9 = .ok (.istore_n 1, 1) := by decide +kernel
theorem dX0_weighNodes_10 : decode cX0_weighNodes 10 = .ok (.iload_n 1, 1) := by decide +kernel
theorem dX0_weighNodes_11 : decode cX0_weighNodes 11 = .ok (.aload_n 0, 1) := by decide +kernel
theorem dX0_weighNodes_12 : decode cX0_weighNodes 12 = .ok (.getfield 58, 3) := by decide +kernel
theorem dX0_weighNodes_15 : decode cX0_weighNodes 15 = .ok (.if_icmp .ge 51, 3) := by decide +kernel
theorem dX0_weighNodes_18 : decode cX0_weighNodes 18 = .ok (.aload_n 0, 1) := by decide +kernel
theorem dX0_weighNodes_19 : decode cX0_weighNodes 19 = .ok (.iload_n 1, 1) := by decide +kernel
theorem dX0_weighNodes_20 : decode cX0_weighNodes 20 = .ok (.invokevirtual 169, 3) := by decide +kernel
theorem dX0_weighNodes_23 : decode cX0_weighNodes 23 = .ok (.ifCond .eq 37, 3) := by decide +kernel
theorem dX0_weighNodes_26 : decode cX0_weighNodes 26 = .ok (.aload_n 0, 1) := by decide +kernel
theorem dX0_weighNodes_27 : decode cX0_weighNodes 27 = .ok (.aload_n 0, 1) := by decide +kernel
theorem dX0_weighNodes_28 : decode cX0_weighNodes 28 = .ok (.getfield 39, 3) := by decide +kernel
theorem dX0_weighNodes_31 : decode cX0_weighNodes 31 = .ok (.iload_n 1, 1) := by decide +kernel
theorem dX0_weighNodes_32 : decode cX0_weighNodes 32 = .ok (.iaload, 1) := by decide +kernel
theorem dX0_weighNodes_33 : decode cX0_weighNodes 33 = .ok (.bipush 10, 2) := by decide +kernel
theorem dX0_weighNodes_35 : decode cX0_weighNodes 35 = .ok (.invokevirtual 179, 3) := by decide +kernel
theorem dX0_weighNodes_38 : decode cX0_weighNodes 38 = .ok (.aload_n 0, 1) := by decide +kernel
theorem dX0_weighNodes_39 : decode cX0_weighNodes 39 = .ok (.aload_n 0, 1) := by decide +kernel
theorem dX0_weighNodes_40 : decode cX0_weighNodes 40 = .ok (.getfield 42, 3) := by decide +kernel
theorem dX0_weighNodes_43 : decode cX0_weighNodes 43 = .ok (.iload_n 1, 1) := by decide +kernel
theorem dX0_weighNodes_44 : decode cX0_weighNodes 44 = .ok (.iaload, 1) := by decide +kernel
theorem dX0_weighNodes_45 : decode cX0_weighNodes 45 = .ok (.iconst 1, 1) := by decide +kernel
theorem dX0_weighNodes_46 : decode cX0_weighNodes 46 = .ok (.invokevirtual 179, 3) := by decide +kernel
theorem dX0_weighNodes_49 : decode cX0_weighNodes 49 = .ok (.aload_n 0, 1) := by decide +kernel
theorem dX0_weighNodes_50 : decode cX0_weighNodes 50 = .ok (.aload_n 0, 1) := by decide +kernel
theorem dX0_weighNodes_51 : decode cX0_weighNodes 51 = .ok (.getfield 45, 3) := by decide +kernel
theorem dX0_weighNodes_54 : decode cX0_weighNodes 54 = .ok (.iload_n 1, 1) := by decide +kernel
theorem dX0_weighNodes_55 : decode cX0_weighNodes 55 = .ok (.iaload, 1) := by decide +kernel
theorem dX0_weighNodes_56 : decode cX0_weighNodes 56 = .ok (.iconst 1, 1) := by decide +kernel
theorem dX0_weighNodes_57 : decode cX0_weighNodes 57 = .ok (.invokevirtual 179, 3) := by decide +kernel
theorem dX0_weighNodes_60 : decode cX0_weighNodes 60 = .ok (.iinc 1 1, 3) := by decide +kernel
theorem dX0_weighNodes_63 : decode cX0_weighNodes 63 = .ok (.goto (-53), 3) := by decide +kernel
theorem dX0_weighNodes_66 : decode cX0_weighNodes 66 = .ok (.return_, 1) := by decide +kernel
def bX0_weighNodes_10 (F : Nat) (kc_10 : (Int32 × zOS) → Option (zOS)) (x1 : Int32) (sL : zOS) : Option (zOS) := (if (zF sL 14) ≤ x1 then (some (sL)) else (Option.bind (fX0_isWell x1 sL) (fun r_3 : Int32 => (if r_3 = 0 then (kc_10 ((x1 + 1), sL)) else (zchk x1 32 (Option.bind (fX0_addHang (zI sL 9 x1.toNatClampNeg) (10 : Int32) sL) (fun r_5 : zOS => (zchk x1 32 (Option.bind (fX0_addHang (zI r_5 10 x1.toNatClampNeg) (1 : Int32) r_5) (fun r_7 : zOS => (zchk x1 32 (Option.bind (fX0_addHang (zI r_7 11 x1.toNatClampNeg) (1 : Int32) r_7) (fun r_9 : zOS => (kc_10 ((x1 + 1), r_9)))))))))))))))
set_option maxRecDepth 20000 in
theorem vX0_weighNodes_10 {X : zCx} {res : zOS} {F : Nat} {qL : Nat → Nat} {kc_10 : (Int32 × zOS) → Option (zOS)} (C : zC X RX0 cX0_weighNodes 2 2 43) (hR : zR X none none [(0, qL, res)]) (hk_10 : ∀ (y1 : Int32) (tL : zOS), zJ X 2 res (kc_10 (y1, tL)) 10 [(0, (.ref (qL 0))), (1, (.int y1))] [] [(0, qL, tL)]) (x1 : Int32) (sL : zOS) : zJ X 2 res (bX0_weighNodes_10 F kc_10 x1 sL) 10 [(0, (.ref (qL 0))), (1, (.int x1))] [] [(0, qL, sL)] := by
  unfold bX0_weighNodes_10
  refine z_iload_n (pc := 10) 1 rfl rfl C dX0_weighNodes_10 ?_
  refine z_aload_n (pc := 11) 0 rfl rfl C dX0_weighNodes_11 ?_
  refine z_getI (pc := 12) 0 14 C dX0_weighNodes_12 rfl (by decide) (by decide) rfl zw_157 ?_
  refine z_icmp_ge (pc := 15) 66 C dX0_weighNodes_15 (by decide) ?_ ?_
  · exact z_return (pc := 66) C hR dX0_weighNodes_66 (fun h => by subst h; exact ⟨rfl, rfl⟩)
  · refine z_aload_n (pc := 18) 0 rfl rfl C dX0_weighNodes_18 ?_
    refine z_iload_n (pc := 19) 1 rfl rfl C dX0_weighNodes_19 ?_
    refine z_callV (pc := 20) (rf' := 0) (rl' := 0) (fX0_isWell x1 sL) [(.int x1)] [] [(0, qL, sL)] (fun r_3 => (some (.int r_3))) (fun r_3 => [(0, qL, sL)]) [] (fun r_3 => [(0, qL, sL)]) C dX0_weighNodes_20 zy_X0_isWell zw_463 (fun _ hr9 => mX0_isWell  hr9) (by decide) rfl rfl (by decide) rfl (Nat.le_of_ble_eq_true rfl) (List.Perm.refl _) (fun _ => List.Perm.refl _) rfl (fun r_3 hr_4 => ?_)
    show zJ X 2 res _ 23 [(0, (.ref (qL 0))), (1, (.int x1))] [(.int r_3)] [(0, qL, sL)]
    refine z_if_eq (pc := 23) 60 C dX0_weighNodes_23 (by decide) ?_ ?_
    · refine z_iinc (pc := 60) (x1 + 1) 1 rfl rfl [(0, (.ref (qL 0))), (1, (.int (x1 + 1)))] [1, 0] (by decide) rfl C dX0_weighNodes_60 ?_
      refine z_goto (pc := 63) 10 C dX0_weighNodes_63 (by decide) ?_
      exact hk_10 _ _
    · refine z_aload_n (pc := 26) 0 rfl rfl C dX0_weighNodes_26 ?_
      refine z_aload_n (pc := 27) 0 rfl rfl C dX0_weighNodes_27 ?_
      refine z_getR (pc := 28) 0 8 9 C dX0_weighNodes_28 rfl (by decide) (by decide) rfl zw_146 ?_
      refine z_iload_n (pc := 31) 1 rfl rfl C dX0_weighNodes_31 ?_
      refine z_iald (pc := 32) 0 C dX0_weighNodes_32 rfl (by unfold zAr; decide) ?_
      refine z_bipush (pc := 33) (10 : Int32) (by decide) C dX0_weighNodes_33 ?_
      refine z_callV (pc := 35) (rf' := 1) (rl' := 21) (fX0_addHang (zI sL 9 x1.toNatClampNeg) (10 : Int32) sL) [(.int (zI sL 9 x1.toNatClampNeg)), (.int (10 : Int32))] [] [(0, qL, sL)] (fun r_5 => none) (fun r_5 => [(0, qL, r_5)]) [] (fun r_5 => [(0, qL, r_5)]) C dX0_weighNodes_35 zy_X0_addHang zw_474 (fun _ hr9 => mX0_addHang  hr9) (by decide) rfl rfl (by decide) rfl (Nat.le_of_ble_eq_true rfl) (List.Perm.refl _) (fun _ => List.Perm.refl _) rfl (fun r_5 hr_6 => ?_)
      show zJ X 2 res _ 38 [(0, (.ref (qL 0))), (1, (.int x1))] [] [(0, qL, r_5)]
      refine z_aload_n (pc := 38) 0 rfl rfl C dX0_weighNodes_38 ?_
      refine z_aload_n (pc := 39) 0 rfl rfl C dX0_weighNodes_39 ?_
      refine z_getR (pc := 40) 0 9 10 C dX0_weighNodes_40 rfl (by decide) (by decide) rfl zw_148 ?_
      refine z_iload_n (pc := 43) 1 rfl rfl C dX0_weighNodes_43 ?_
      refine z_iald (pc := 44) 0 C dX0_weighNodes_44 rfl (by unfold zAr; decide) ?_
      refine z_iconst (pc := 45) (1 : Int32) (by decide) C dX0_weighNodes_45 ?_
      refine z_callV (pc := 46) (rf' := 1) (rl' := 21) (fX0_addHang (zI r_5 10 x1.toNatClampNeg) (1 : Int32) r_5) [(.int (zI r_5 10 x1.toNatClampNeg)), (.int (1 : Int32))] [] [(0, qL, r_5)] (fun r_7 => none) (fun r_7 => [(0, qL, r_7)]) [] (fun r_7 => [(0, qL, r_7)]) C dX0_weighNodes_46 zy_X0_addHang zw_474 (fun _ hr9 => mX0_addHang  hr9) (by decide) rfl rfl (by decide) rfl (Nat.le_of_ble_eq_true rfl) (List.Perm.refl _) (fun _ => List.Perm.refl _) rfl (fun r_7 hr_8 => ?_)
      show zJ X 2 res _ 49 [(0, (.ref (qL 0))), (1, (.int x1))] [] [(0, qL, r_7)]
      refine z_aload_n (pc := 49) 0 rfl rfl C dX0_weighNodes_49 ?_
      refine z_aload_n (pc := 50) 0 rfl rfl C dX0_weighNodes_50 ?_
      refine z_getR (pc := 51) 0 10 11 C dX0_weighNodes_51 rfl (by decide) (by decide) rfl zw_150 ?_
      refine z_iload_n (pc := 54) 1 rfl rfl C dX0_weighNodes_54 ?_
      refine z_iald (pc := 55) 0 C dX0_weighNodes_55 rfl (by unfold zAr; decide) ?_
      refine z_iconst (pc := 56) (1 : Int32) (by decide) C dX0_weighNodes_56 ?_
      refine z_callV (pc := 57) (rf' := 1) (rl' := 21) (fX0_addHang (zI r_7 11 x1.toNatClampNeg) (1 : Int32) r_7) [(.int (zI r_7 11 x1.toNatClampNeg)), (.int (1 : Int32))] [] [(0, qL, r_7)] (fun r_9 => none) (fun r_9 => [(0, qL, r_9)]) [] (fun r_9 => [(0, qL, r_9)]) C dX0_weighNodes_57 zy_X0_addHang zw_474 (fun _ hr9 => mX0_addHang  hr9) (by decide) rfl rfl (by decide) rfl (Nat.le_of_ble_eq_true rfl) (List.Perm.refl _) (fun _ => List.Perm.refl _) rfl (fun r_9 hr_10 => ?_)
      show zJ X 2 res _ 60 [(0, (.ref (qL 0))), (1, (.int x1))] [] [(0, qL, r_9)]
      refine z_iinc (pc := 60) (x1 + 1) 1 rfl rfl [(0, (.ref (qL 0))), (1, (.int (x1 + 1)))] [1, 0] (by decide) rfl C dX0_weighNodes_60 ?_
      refine z_goto (pc := 63) 10 C dX0_weighNodes_63 (by decide) ?_
      exact hk_10 _ _
def fX0_weighNodes (F : Nat) (sL : zOS) : Option (zOS) := (Option.bind (fJ7_fill_53178 F 96 7 (0 : Int32) sL) (fun r_1 : zOS => (zit (P := Int32 × zOS) (R := zOS) (fun kc9 p9 => bX0_weighNodes_10 F kc9 p9.1 p9.2) F ((0 : Int32), r_1))))
set_option maxRecDepth 20000 in
theorem wX0_weighNodes {X : zCx} {res : zOS} {F : Nat} {qL : Nat → Nat} {sL : zOS} (C : zC X RX0 cX0_weighNodes 2 2 43) (hR : zR X none none [(0, qL, res)])  : zJ X 2 res (fX0_weighNodes F sL) 0 [(0, (.ref (qL 0)))] [] [(0, qL, sL)] := by
  unfold fX0_weighNodes
  refine z_aload_n (pc := 0) 0 rfl rfl C dX0_weighNodes_0 ?_
  refine z_getR (pc := 1) 0 6 7 C dX0_weighNodes_1 rfl (by decide) (by decide) rfl zw_144 ?_
  refine z_iconst (pc := 4) (0 : Int32) (by decide) C dX0_weighNodes_4 ?_
  refine z_callS (pc := 5) (rf' := 0) (rl' := 0) (fJ7_fill_53178 F 96 7 (0 : Int32) sL) [(.ref (qL 7)), (.int (0 : Int32))] [] [(0, qL, sL)] (fun r_1 => none) (fun r_1 => [(0, qL, r_1)]) [] (fun r_1 => [(0, qL, r_1)]) C dX0_weighNodes_5 zy_J7_fill_53178 zw_471 (fun _ hr9 => mJ7_fill_53178 (by unfold zAr; decide) hr9) (by decide) rfl (Nat.le_of_ble_eq_true rfl) (List.Perm.refl _) (fun _ => List.Perm.refl _) rfl (fun r_1 hr_2 => ?_)
  show zJ X 2 res _ 8 [(0, (.ref (qL 0)))] [] [(0, qL, r_1)]
  refine z_iconst (pc := 8) (0 : Int32) (by decide) C dX0_weighNodes_8 ?_
  refine z_istore_n (pc := 9) [(0, (.ref (qL 0))), (1, (.int (0 : Int32)))] [1, 0] (by decide) rfl rfl C dX0_weighNodes_9 ?_
  exact zit_J (fun p9 => [(0, (.ref (qL 0))), (1, (.int p9.1))]) (fun p9 => [(0, qL, p9.2)]) (fun kc9 hk9 p9 => vX0_weighNodes_10 C hR   (fun a0 a1 => hk9 (a0, a1)) _ _) F _
theorem mX0_weighNodes {F : Nat} {qL : Nat → Nat} {sL : zOS} {res : zOS}  (hf : fX0_weighNodes F sL = some res) : zM yX0_weighNodes cX0_weighNodes 2 none 2 43 [(.ref (qL 0))] [(0, qL, sL)] none [(0, qL, res)] := zM_of (by decide +kernel) (Nat.le_of_ble_eq_true rfl) (fun X C hR => wX0_weighNodes (F := F) C hR  hf)
theorem dX0_refresh_0 : decode cX0_refresh 0 = .ok (.aload_n 0, 1) := by decide +kernel
theorem dX0_refresh_1 : decode cX0_refresh 1 = .ok (.aload_n 1, 1) := by decide +kernel
theorem dX0_refresh_2 : decode cX0_refresh 2 = .ok (.invokevirtual 64, 3) := by decide +kernel
theorem dX0_refresh_5 : decode cX0_refresh 5 = .ok (.ifCond .eq 4, 3) := by decide +kernel
theorem dX0_refresh_8 : decode cX0_refresh 8 = .ok (.return_, 1) := by decide +kernel
theorem dX0_refresh_9 : decode cX0_refresh 9 = .ok (.aload_n 1, 1) := by decide +kernel
theorem dX0_refresh_10 : decode cX0_refresh 10 = .ok (.iconst 0, 1) := by decide +kernel
theorem dX0_refresh_11 : decode cX0_refresh 11 = .ok (.aload_n 0, 1) := by decide +kernel
theorem dX0_refresh_12 : decode cX0_refresh 12 = .ok (.getfield 9, 3) := by decide +kernel
theorem dX0_refresh_15 : decode cX0_refresh 15 = .ok (.iconst 0, 1) := by decide +kernel
theorem dX0_refresh_16 : decode cX0_refresh 16 = .ok (.iconst 4, 1) := by decide +kernel
theorem dX0_refresh_17 : decode cX0_refresh 17 = .ok (.invokestatic 68, 3) := by decide +kernel
theorem dX0_refresh_20 : decode cX0_refresh 20 = .ok (.aload_n 0, 1) := by decide +kernel
theorem dX0_refresh_21 : decode cX0_refresh 21 = .ok (.invokevirtual 74, 3) := by decide +kernel
theorem dX0_refresh_24 : decode cX0_refresh 24 = .ok (.aload_n 0, 1) := by decide +kernel
theorem dX0_refresh_25 : decode cX0_refresh 25 = .ok (.invokevirtual 77, 3) := by decide +kernel
theorem dX0_refresh_28 : decode cX0_refresh 28 = .ok (.aload_n 0, 1) := by decide +kernel
theorem dX0_refresh_29 : decode cX0_refresh 29 = .ok (.invokevirtual 80, 3) := by decide +kernel
theorem dX0_refresh_32 : decode cX0_refresh 32 = .ok (.aload_n 0, 1) := by decide +kernel
theorem dX0_refresh_33 : decode cX0_refresh 33 = .ok (.invokevirtual 83, 3) := by decide +kernel
theorem dX0_refresh_36 : decode cX0_refresh 36 = .ok (.aload_n 0, 1) := by decide +kernel
theorem dX0_refresh_37 : decode cX0_refresh 37 = .ok (.invokevirtual 86, 3) := by decide +kernel
theorem dX0_refresh_40 : decode cX0_refresh 40 = .ok (.return_, 1) := by decide +kernel
def fX0_refresh (F : Nat) (sL : zOS) (sP : zOS) : Option (zOS) := (Option.bind (fX0_isAsRead F sL sP) (fun r_1 : Int32 => (if r_1 = 0 then (zlet (zsL sL 1 (va_cpy (zL sP 1) (zL sL 1) (0 : Int32).toNatClampNeg (0 : Int32).toNatClampNeg (4 : Int32).toNatClampNeg)) (fun sL_3 : zOS => (Option.bind (fX0_findPieces F sL_3) (fun r_4 : zOS => (Option.bind (fX0_joinPieces F r_4) (fun r_6 : zOS => (Option.bind (fX0_numberNodes F r_6) (fun r_8 : zOS => (Option.bind (fX0_findGates F r_8) (fun r_10 : zOS => (Option.bind (fX0_weighNodes F r_10) (fun r_12 : zOS => (some (r_12)))))))))))))) else (some (sL)))))
set_option maxRecDepth 20000 in
theorem wX0_refresh {X : zCx} {res : zOS} {F : Nat} {qL : Nat → Nat} {qP : Nat → Nat} {sL : zOS} {sP : zOS} (C : zC X RX0 cX0_refresh 2 4 91) (hR : zR X none none [(0, qL, res), (2, qP, sP)])  : zJ X 2 res (fX0_refresh F sL sP) 0 [(0, (.ref (qL 0))), (1, (.ref (qP 1)))] [] [(0, qL, sL), (2, qP, sP)] := by
  unfold fX0_refresh
  refine z_aload_n (pc := 0) 0 rfl rfl C dX0_refresh_0 ?_
  refine z_aload_n (pc := 1) 1 rfl rfl C dX0_refresh_1 ?_
  refine z_callV (pc := 2) (rf' := 0) (rl' := 0) (fX0_isAsRead F sL sP) [(.ref (qP 1))] [] [(0, qL, sL), (2, qP, sP)] (fun r_1 => (some (.int r_1))) (fun r_1 => [(0, qL, sL), (2, qP, sP)]) [] (fun r_1 => [(0, qL, sL), (2, qP, sP)]) C dX0_refresh_2 zy_X0_isAsRead zw_403 (fun _ hr9 => mX0_isAsRead  hr9) (by decide) rfl rfl (by decide) rfl (Nat.le_of_ble_eq_true rfl) (List.Perm.refl _) (fun _ => List.Perm.refl _) rfl (fun r_1 hr_2 => ?_)
  show zJ X 2 res _ 5 [(0, (.ref (qL 0))), (1, (.ref (qP 1)))] [(.int r_1)] [(0, qL, sL), (2, qP, sP)]
  refine z_if_eq (pc := 5) 9 C dX0_refresh_5 (by decide) ?_ ?_
  · refine z_aload_n (pc := 9) 1 rfl rfl C dX0_refresh_9 ?_
    refine z_iconst (pc := 10) (0 : Int32) (by decide) C dX0_refresh_10 ?_
    refine z_aload_n (pc := 11) 0 rfl rfl C dX0_refresh_11 ?_
    refine z_getR (pc := 12) 0 0 1 C dX0_refresh_12 rfl (by decide) (by decide) rfl zw_138 ?_
    refine z_iconst (pc := 15) (0 : Int32) (by decide) C dX0_refresh_15 ?_
    refine z_iconst (pc := 16) (4 : Int32) (by decide) C dX0_refresh_16 ?_
    refine z_copyl (n0 := 4) (n1 := 4) (pc := 17) 1 0 C dX0_refresh_17 zw_407 zw_295 zw_294 zw_83 rfl rfl (by unfold zAr; decide) (by unfold zAr; decide) (by decide) (by decide) (by decide) (by decide) (by decide) (by decide) (Nat.le_of_ble_eq_true rfl) [(0, qL, (zsL sL 1 (va_cpy (zL sP 1) (zL sL 1) (0 : Int32).toNatClampNeg (0 : Int32).toNatClampNeg (4 : Int32).toNatClampNeg))), (2, qP, sP)] rfl ?_
    refine z_letc (fun z9 => [(0, qL, z9), (2, qP, sP)]) (fun sL_3 => ?_)
    refine z_aload_n (pc := 20) 0 rfl rfl C dX0_refresh_20 ?_
    refine z_callV (pc := 21) (rf' := 2) (rl' := 51) (fX0_findPieces F sL_3) [] [] [(0, qL, sL_3)] (fun r_4 => none) (fun r_4 => [(0, qL, r_4)]) [(2, qP, sP)] (fun r_4 => [(0, qL, r_4), (2, qP, sP)]) C dX0_refresh_21 zy_X0_findPieces zw_408 (fun _ hr9 => mX0_findPieces  hr9) (by decide) rfl rfl (by decide) rfl (Nat.le_of_ble_eq_true rfl) (List.Perm.refl _) (fun _ => List.Perm.refl _) rfl (fun r_4 hr_5 => ?_)
    show zJ X 2 res _ 24 [(0, (.ref (qL 0))), (1, (.ref (qP 1)))] [] [(0, qL, r_4), (2, qP, sP)]
    refine z_aload_n (pc := 24) 0 rfl rfl C dX0_refresh_24 ?_
    refine z_callV (pc := 25) (rf' := 3) (rl' := 70) (fX0_joinPieces F r_4) [] [] [(0, qL, r_4)] (fun r_6 => none) (fun r_6 => [(0, qL, r_6)]) [(2, qP, sP)] (fun r_6 => [(0, qL, r_6), (2, qP, sP)]) C dX0_refresh_25 zy_X0_joinPieces zw_425 (fun _ hr9 => mX0_joinPieces  hr9) (by decide) rfl rfl (by decide) rfl (Nat.le_of_ble_eq_true rfl) (List.Perm.refl _) (fun _ => List.Perm.refl _) rfl (fun r_6 hr_7 => ?_)
    show zJ X 2 res _ 28 [(0, (.ref (qL 0))), (1, (.ref (qP 1)))] [] [(0, qL, r_6), (2, qP, sP)]
    refine z_aload_n (pc := 28) 0 rfl rfl C dX0_refresh_28 ?_
    refine z_callV (pc := 29) (rf' := 1) (rl' := 21) (fX0_numberNodes F r_6) [] [] [(0, qL, r_6)] (fun r_8 => none) (fun r_8 => [(0, qL, r_8)]) [(2, qP, sP)] (fun r_8 => [(0, qL, r_8), (2, qP, sP)]) C dX0_refresh_29 zy_X0_numberNodes zw_443 (fun _ hr9 => mX0_numberNodes  hr9) (by decide) rfl rfl (by decide) rfl (Nat.le_of_ble_eq_true rfl) (List.Perm.refl _) (fun _ => List.Perm.refl _) rfl (fun r_8 hr_9 => ?_)
    show zJ X 2 res _ 32 [(0, (.ref (qL 0))), (1, (.ref (qP 1)))] [] [(0, qL, r_8), (2, qP, sP)]
    refine z_aload_n (pc := 32) 0 rfl rfl C dX0_refresh_32 ?_
    refine z_callV (pc := 33) (rf' := 2) (rl' := 52) (fX0_findGates F r_8) [] [] [(0, qL, r_8)] (fun r_10 => none) (fun r_10 => [(0, qL, r_10)]) [(2, qP, sP)] (fun r_10 => [(0, qL, r_10), (2, qP, sP)]) C dX0_refresh_33 zy_X0_findGates zw_451 (fun _ hr9 => mX0_findGates  hr9) (by decide) rfl rfl (by decide) rfl (Nat.le_of_ble_eq_true rfl) (List.Perm.refl _) (fun _ => List.Perm.refl _) rfl (fun r_10 hr_11 => ?_)
    show zJ X 2 res _ 36 [(0, (.ref (qL 0))), (1, (.ref (qP 1)))] [] [(0, qL, r_10), (2, qP, sP)]
    refine z_aload_n (pc := 36) 0 rfl rfl C dX0_refresh_36 ?_
    refine z_callV (pc := 37) (rf' := 2) (rl' := 43) (fX0_weighNodes F r_10) [] [] [(0, qL, r_10)] (fun r_12 => none) (fun r_12 => [(0, qL, r_12)]) [(2, qP, sP)] (fun r_12 => [(0, qL, r_12), (2, qP, sP)]) C dX0_refresh_37 zy_X0_weighNodes zw_467 (fun _ hr9 => mX0_weighNodes  hr9) (by decide) rfl rfl (by decide) rfl (Nat.le_of_ble_eq_true rfl) (List.Perm.refl _) (fun _ => List.Perm.refl _) rfl (fun r_12 hr_13 => ?_)
    show zJ X 2 res _ 40 [(0, (.ref (qL 0))), (1, (.ref (qP 1)))] [] [(0, qL, r_12), (2, qP, sP)]
    exact z_return (pc := 40) C hR dX0_refresh_40 (fun h => by subst h; exact ⟨rfl, rfl⟩)
  · exact z_return (pc := 8) C hR dX0_refresh_8 (fun h => by subst h; exact ⟨rfl, rfl⟩)
theorem mX0_refresh {F : Nat} {qL : Nat → Nat} {qP : Nat → Nat} {sL : zOS} {sP : zOS} {res : zOS}  (hf : fX0_refresh F sL sP = some res) : zM yX0_refresh cX0_refresh 2 none 4 91 [(.ref (qL 0)), (.ref (qP 1))] [(0, qL, sL), (2, qP, sP)] none [(0, qL, res), (2, qP, sP)] := zM_of (by decide +kernel) (Nat.le_of_ble_eq_true rfl) (fun X C hR => wX0_refresh (F := F) C hR  hf)
end
section
theorem dX3_add_0 : decode cX3_add 0 = .ok (.iload_n 1, 1) := by decide +kernel
theorem dX3_add_1 : decode cX3_add 1 = .ok (.ifCond .lt 9, 3) := by decide +kernel
theorem dX3_add_4 : decode cX3_add 4 = .ok (.iload_n 1, 1) := by decide +kernel
theorem dX3_add_5 : decode cX3_add 5 = .ok (.bipush 127, 2) := by decide +kernel
theorem dX3_add_7 : decode cX3_add 7 = .ok (.if_icmp .le 6, 3) := by decide +kernel
theorem dX3_add_10 : decode cX3_add 10 = .ok (.bipush (-2), 2) := by decide +kernel
theorem dX3_add_12 : decode cX3_add 12 = .ok (.ireturn, 1) := by decide +kernel
theorem dX3_add_13 : decode cX3_add 13 = .ok (.aload_n 0, 1) := by decide +kernel
theorem dX3_add_14 : decode cX3_add 14 = .ok (.getfield 19, 3) := by decide +kernel
theorem dX3_add_17 : decode cX3_add 17 = .ok (.sipush 150, 3) := by decide +kernel
theorem dX3_add_20 : decode cX3_add 20 = .ok (.if_icmp .lt 6, 3) := by decide +kernel
theorem dX3_add_23 : decode cX3_add 23 = .ok (.bipush (-4), 2) := by decide +kernel
theorem dX3_add_25 : decode cX3_add 25 = .ok (.ireturn, 1) := by decide +kernel
theorem dX3_add_26 : decode cX3_add 26 = .ok (.aload_n 0, 1) := by decide +kernel
theorem dX3_add_27 : decode cX3_add 27 = .ok (.getfield 9, 3) := by decide +kernel
theorem dX3_add_30 : decode cX3_add 30 = .ok (.aload_n 0, 1) := by decide +kernel
theorem dX3_add_31 : decode cX3_add 31 = .ok (.getfield 19, 3) := by decide +kernel
theorem dX3_add_34 : decode cX3_add 34 = .ok (.iload_n 1, 1) := by decide +kernel
theorem dX3_add_35 : decode cX3_add 35 = .ok (.i2b, 1) := by decide +kernel
theorem dX3_add_36 : decode cX3_add 36 = .ok (.bastore, 1) := by decide +kernel
theorem dX3_add_37 : decode cX3_add 37 = .ok (.aload_n 0, 1) := by decide +kernel
theorem dX3_add_38 : decode cX3_add 38 = .ok (.dup, 1) := by decide +kernel
theorem dX3_add_39 : decode cX3_add 39 = .ok (.getfield 19, 3) := by decide +kernel
theorem dX3_add_42 : decode cX3_add 42 = .ok (.iconst 1, 1) := by decide +kernel
theorem dX3_add_43 : decode cX3_add 43 = .ok (.iadd, 1) := by decide +kernel
theorem dX3_add_44 : decode cX3_add 44 = .ok (.putfield 19, 3) := by decide +kernel
theorem dX3_add_47 : decode cX3_add 47 = .ok (.aload_n 0, 1) := by decide +kernel
theorem dX3_add_48 : decode cX3_add 48 = .ok (.getfield 19, 3) := by decide +kernel
theorem dX3_add_51 : decode cX3_add 51 = .ok (.ireturn, 1) := by decide +kernel
def fX3_add (x1 : Int32) (sT : zOS) : Option (Int32 × zOS) := (if x1 < 0 then (some ((-2 : Int32), sT)) else (if x1 ≤ (127 : Int32) then (if (zF sT 2) < (150 : Int32) then (zchk (zF sT 2) 150 (zlet (zsI sT 1 (upd (zI sT 1) (zF sT 2).toNatClampNeg (vp_nar .byte x1.toInt8.toInt32))) (fun sT_1 : zOS => (zlet (zsF sT_1 2 ((zF sT_1 2) + (1 : Int32))) (fun sT_2 : zOS => (some (zF sT_2 2, sT_2))))))) else (some ((-4 : Int32), sT))) else (some ((-2 : Int32), sT))))
set_option maxRecDepth 20000 in
theorem wX3_add {X : zCx} {res : Int32 × zOS}  {qT : Nat → Nat} {x1 : Int32} {sT : zOS} (C : zC X RX3 cX3_add 2 0 0) (hR : zR X (some .int) (some (.int res.1)) [(3, qT, res.2)])  : zJ X 2 res (fX3_add x1 sT) 0 [(0, (.ref (qT 0))), (1, (.int x1))] [] [(3, qT, sT)] := by
  unfold fX3_add
  refine z_iload_n (pc := 0) 1 rfl rfl C dX3_add_0 ?_
  refine z_if_lt (pc := 1) 10 C dX3_add_1 (by decide) ?_ ?_
  · refine z_bipush (pc := 10) (-2 : Int32) (by decide) C dX3_add_10 ?_
    exact z_ireturn (pc := 12) C hR dX3_add_12 (fun h => by subst h; exact ⟨rfl, rfl⟩)
  · refine z_iload_n (pc := 4) 1 rfl rfl C dX3_add_4 ?_
    refine z_bipush (pc := 5) (127 : Int32) (by decide) C dX3_add_5 ?_
    refine z_icmp_le (pc := 7) 13 C dX3_add_7 (by decide) ?_ ?_
    · refine z_aload_n (pc := 13) 0 rfl rfl C dX3_add_13 ?_
      refine z_getI (pc := 14) 0 2 C dX3_add_14 rfl (by decide) (by decide) rfl zw_247 ?_
      refine z_sipush (pc := 17) (150 : Int32) (by decide) C dX3_add_17 ?_
      refine z_icmp_lt (pc := 20) 26 C dX3_add_20 (by decide) ?_ ?_
      · refine z_aload_n (pc := 26) 0 rfl rfl C dX3_add_26 ?_
        refine z_getR (pc := 27) 0 0 1 C dX3_add_27 rfl (by decide) (by decide) rfl zw_245 ?_
        refine z_aload_n (pc := 30) 0 rfl rfl C dX3_add_30 ?_
        refine z_getI (pc := 31) 0 2 C dX3_add_31 rfl (by decide) (by decide) rfl zw_247 ?_
        refine z_iload_n (pc := 34) 1 rfl rfl C dX3_add_34 ?_
        refine z_i2b (pc := 35) C dX3_add_35 ?_
        refine z_bast (pc := 36) 0 C dX3_add_36 rfl (by unfold zAr; decide) [(3, qT, (zsI sT 1 (upd (zI sT 1) (zF sT 2).toNatClampNeg (vp_nar .byte x1.toInt8.toInt32))))] rfl ?_
        refine z_letc (fun z9 => [(3, qT, z9)]) (fun sT_1 => ?_)
        refine z_aload_n (pc := 37) 0 rfl rfl C dX3_add_37 ?_
        refine z_dup (pc := 38) rfl C dX3_add_38 ?_
        refine z_getI (pc := 39) 0 2 C dX3_add_39 rfl (by decide) (by decide) rfl zw_247 ?_
        refine z_iconst (pc := 42) (1 : Int32) (by decide) C dX3_add_42 ?_
        refine z_iadd (pc := 43) C dX3_add_43 ?_
        refine z_putI (pc := 44) 0 2 C dX3_add_44 rfl (by decide) (by decide) rfl zw_247 rfl rfl rfl [(3, qT, (zsF sT_1 2 ((zF sT_1 2) + (1 : Int32))))] rfl ?_
        refine z_letc (fun z9 => [(3, qT, z9)]) (fun sT_2 => ?_)
        refine z_aload_n (pc := 47) 0 rfl rfl C dX3_add_47 ?_
        refine z_getI (pc := 48) 0 2 C dX3_add_48 rfl (by decide) (by decide) rfl zw_247 ?_
        exact z_ireturn (pc := 51) C hR dX3_add_51 (fun h => by subst h; exact ⟨rfl, rfl⟩)
      · refine z_bipush (pc := 23) (-4 : Int32) (by decide) C dX3_add_23 ?_
        exact z_ireturn (pc := 25) C hR dX3_add_25 (fun h => by subst h; exact ⟨rfl, rfl⟩)
    · refine z_bipush (pc := 10) (-2 : Int32) (by decide) C dX3_add_10 ?_
      exact z_ireturn (pc := 12) C hR dX3_add_12 (fun h => by subst h; exact ⟨rfl, rfl⟩)
theorem mX3_add  {qT : Nat → Nat} {x1 : Int32} {sT : zOS} {res : Int32 × zOS}  (hf : fX3_add x1 sT = some res) : zM yX3_add cX3_add 2 (some .int) 0 0 [(.ref (qT 0)), (.int x1)] [(3, qT, sT)] (some (.int res.1)) [(3, qT, res.2)] := zM_of (by decide +kernel) (Nat.le_of_ble_eq_true rfl) (fun X C hR => wX3_add C hR  hf)
theorem dX3_findFault_0 : decode cX3_findFault 0 = .ok (.iconst (-1), 1) := by decide +kernel
theorem dX3_findFault_1 : decode cX3_findFault 1 = .ok (.istore_n 1, 1) := by decide +kernel
theorem dX3_findFault_2 : decode cX3_findFault 2 = .ok (.iconst 0, 1) := by decide +kernel
theorem dX3_findFault_3 : decode cX3_findFault 3 = .ok (.istore_n 2, 1) := by decide +kernel
theorem dX3_findFault_4 : decode cX3_findFault 4 = .ok (.iconst 0, 1) := by decide +kernel
theorem dX3_findFault_5 : decode cX3_findFault 5 = .ok (.istore_n 3, 1) := by decide +kernel
theorem dX3_findFault_6 : decode cX3_findFault 6 = .ok (.iload_n 3, 1) := by decide +kernel
theorem dX3_findFault_7 : decode cX3_findFault 7 = .ok (.aload_n 0, 1) := by decide +kernel
theorem dX3_findFault_8 : decode cX3_findFault 8 = .ok (.getfield 19, 3) := by decide +kernel
theorem dX3_findFault_11 : decode cX3_findFault 11 = .ok (.if_icmp .ge 67, 3) := by decide +kernel
theorem dX3_findFault_14 : decode cX3_findFault 14 = .ok (.aload_n 0, 1) := by decide +kernel
theorem dX3_findFault_15 : decode cX3_findFault 15 = .ok (.getfield 9, 3) := by decide +kernel
theorem dX3_findFault_18 : decode cX3_findFault 18 = .ok (.iload_n 3, 1) := by decide +kernel
theorem dX3_findFault_19 : decode cX3_findFault 19 = .ok (.baload, 1) := by decide +kernel
theorem dX3_findFault_20 : decode cX3_findFault 20 = .ok (.istore 4, 2) := by decide +kernel
theorem dX3_findFault_22 : decode cX3_findFault 22 = .ok (.iload 4, 2) := by decide +kernel
theorem dX3_findFault_24 : decode cX3_findFault 24 = .ok (.bipush 32, 2) := by decide +kernel
theorem dX3_findFault_26 : decode cX3_findFault 26 = .ok (.if_icmp .ne 6, 3) := by decide +kernel
theorem dX3_findFault_29 : decode cX3_findFault 29 = .ok (.goto 43, 3) := by decide +kernel
theorem dX3_findFault_32 : decode cX3_findFault 32 = .ok (.iload 4, 2) := by decide +kernel
theorem dX3_findFault_34 : decode cX3_findFault 34 = .ok (.iload_n 1, 1) := by decide +kernel
theorem dX3_findFault_35 : decode cX3_findFault 35 = .ok (.invokestatic 23, 3) := by decide +kernel
theorem dX3_findFault_38 : decode cX3_findFault 38 = .ok (.ifCond .ne 5, 3) := by decide +kernel
theorem dX3_findFault_41 : decode cX3_findFault 41 = .ok (.iload_n 3, 1) := by decide +kernel
theorem dX3_findFault_42 : decode cX3_findFault 42 = .ok (.ireturn, 1) := by decide +kernel
theorem dX3_findFault_43 : decode cX3_findFault 43 = .ok (.iload_n 1, 1) := by decide +kernel
theorem dX3_findFault_44 : decode cX3_findFault 44 = .ok (.iconst (-1), 1) := by decide +kernel
theorem dX3_findFault_45 : decode cX3_findFault 45 = .ok (.if_icmp .ne 12, 3) := by decide +kernel
theorem dX3_findFault_48 : decode cX3_findFault 48 = .ok (.iload 4, 2) := by decide +kernel
theorem dX3_findFault_50 : decode cX3_findFault 50 = .ok (.invokestatic 27, 3) := by decide +kernel
theorem dX3_findFault_53 : decode cX3_findFault 53 = .ok (.istore_n 1, 1) := by decide +kernel
theorem dX3_findFault_54 : decode cX3_findFault 54 = .ok (.goto 18, 3) := by decide +kernel
theorem dX3_findFault_57 : decode cX3_findFault 57 = .ok (.iload_n 2, 1) := by decide +kernel
theorem dX3_findFault_58 : decode cX3_findFault 58 = .ok (.iload_n 1, 1) := by decide +kernel
theorem dX3_findFault_59 : decode cX3_findFault 59 = .ok (.ifCond .ne 7, 3) := by decide +kernel
theorem dX3_findFault_62 : decode cX3_findFault 62 = .ok (.iconst 1, 1) := by decide +kernel
theorem dX3_findFault_63 : decode cX3_findFault 63 = .ok (.goto 4, 3) := by decide +kernel
theorem dX3_findFault_66 : decode cX3_findFault 66 = .ok (.iconst 0, 1) := by decide +kernel
theorem dX3_findFault_67 : decode cX3_findFault 67 = .ok (.iadd, 1) := by decide +kernel
theorem dX3_findFault_68 : decode cX3_findFault 68 = .ok (.istore_n 2, 1) := by decide +kernel
theorem dX3_findFault_69 : decode cX3_findFault 69 = .ok (.iinc 1 (-1), 3) := by decide +kernel
theorem dX3_findFault_72 : decode cX3_findFault 72 = .ok (.iinc 3 1, 3) := by decide +kernel
theorem dX3_findFault_75 : decode cX3_findFault 75 = .ok (.goto (-69), 3) := by decide +kernel
theorem dX3_findFault_78 : decode cX3_findFault 78 = .ok (.iload_n 1, 1) := by decide +kernel
theorem dX3_findFault_79 : decode cX3_findFault 79 = .ok (.iconst (-1), 1) := by decide +kernel
theorem dX3_findFault_80 : decode cX3_findFault 80 = .ok (.if_icmp .ne 11, 3) := by decide +kernel
theorem dX3_findFault_83 : decode cX3_findFault 83 = .ok (.iload_n 2, 1) := by decide +kernel
theorem dX3_findFault_84 : decode cX3_findFault 84 = .ok (.ifCond .le 7, 3) := by decide +kernel
theorem dX3_findFault_87 : decode cX3_findFault 87 = .ok (.iconst (-1), 1) := by decide +kernel
theorem dX3_findFault_88 : decode cX3_findFault 88 = .ok (.goto 7, 3) := by decide +kernel
theorem dX3_findFault_91 : decode cX3_findFault 91 = .ok (.aload_n 0, 1) := by decide +kernel
theorem dX3_findFault_92 : decode cX3_findFault 92 = .ok (.getfield 19, 3) := by decide +kernel
theorem dX3_findFault_95 : decode cX3_findFault 95 = .ok (.ireturn, 1) := by decide +kernel
def bX3_findFault_6 (F : Nat) (sT : zOS) (kc_6 : (Int32 × Int32 × Int32) → Option (Int32)) (x1 : Int32) (x2 : Int32) (x3 : Int32) : Option (Int32) := (if (zF sT 2) ≤ x3 then (if x1 = (-1 : Int32) then (if x2 ≤ 0 then (some (zF sT 2)) else (some ((-1 : Int32)))) else (some (zF sT 2))) else (zchk x3 150 (zlet (zI sT 1 x3.toNatClampNeg) (fun x4_1 : Int32 => (if x4_1 = (32 : Int32) then (kc_6 (x1, x2, (x3 + 1))) else (Option.bind (fX3_canStand x4_1 x1) (fun r_2 : Int32 => (if r_2 = 0 then (some (x3)) else (if x1 = (-1 : Int32) then (Option.bind (fX3_figuresOf x4_1) (fun r_4 : Int32 => (kc_6 (r_4, x2, (x3 + 1))))) else (if x1 = 0 then (zlet (x2 + (1 : Int32)) (fun x2_6 : Int32 => (kc_6 ((x1 + (-1)), x2_6, (x3 + 1))))) else (zlet (x2 + (0 : Int32)) (fun x2_7 : Int32 => (kc_6 ((x1 + (-1)), x2_7, (x3 + 1)))))))))))))))
set_option maxRecDepth 20000 in
theorem vX3_findFault_6 {X : zCx} {res : Int32} {F : Nat} {qT : Nat → Nat} {sT : zOS} {kc_6 : (Int32 × Int32 × Int32) → Option (Int32)} (C : zC X RX3 cX3_findFault 5 2 41) (hR : zR X (some .int) (some (.int res)) [(3, qT, sT)]) (hk_6 : ∀ (y1 : Int32) (y2 : Int32) (y3 : Int32), zJ X 5 res (kc_6 (y1, y2, y3)) 6 [(0, (.ref (qT 0))), (1, (.int y1)), (2, (.int y2)), (3, (.int y3))] [] [(3, qT, sT)]) (x1 : Int32) (x2 : Int32) (x3 : Int32) : zJ X 5 res (bX3_findFault_6 F sT kc_6 x1 x2 x3) 6 [(0, (.ref (qT 0))), (1, (.int x1)), (2, (.int x2)), (3, (.int x3))] [] [(3, qT, sT)] := by
  unfold bX3_findFault_6
  refine z_iload_n (pc := 6) 3 rfl rfl C dX3_findFault_6 ?_
  refine z_aload_n (pc := 7) 0 rfl rfl C dX3_findFault_7 ?_
  refine z_getI (pc := 8) 0 2 C dX3_findFault_8 rfl (by decide) (by decide) rfl zw_247 ?_
  refine z_icmp_ge (pc := 11) 78 C dX3_findFault_11 (by decide) ?_ ?_
  · refine z_iload_n (pc := 78) 1 rfl rfl C dX3_findFault_78 ?_
    refine z_iconst (pc := 79) (-1 : Int32) (by decide) C dX3_findFault_79 ?_
    refine z_icmp_ne (pc := 80) 91 C dX3_findFault_80 (by decide) ?_ ?_
    · refine z_iload_n (pc := 83) 2 rfl rfl C dX3_findFault_83 ?_
      refine z_if_le (pc := 84) 91 C dX3_findFault_84 (by decide) ?_ ?_
      · refine z_aload_n (pc := 91) 0 rfl rfl C dX3_findFault_91 ?_
        refine z_getI (pc := 92) 0 2 C dX3_findFault_92 rfl (by decide) (by decide) rfl zw_247 ?_
        exact z_ireturn (pc := 95) C hR dX3_findFault_95 (fun h => by subst h; exact ⟨rfl, rfl⟩)
      · refine z_iconst (pc := 87) (-1 : Int32) (by decide) C dX3_findFault_87 ?_
        refine z_goto (pc := 88) 95 C dX3_findFault_88 (by decide) ?_
        exact z_ireturn (pc := 95) C hR dX3_findFault_95 (fun h => by subst h; exact ⟨rfl, rfl⟩)
    · refine z_aload_n (pc := 91) 0 rfl rfl C dX3_findFault_91 ?_
      refine z_getI (pc := 92) 0 2 C dX3_findFault_92 rfl (by decide) (by decide) rfl zw_247 ?_
      exact z_ireturn (pc := 95) C hR dX3_findFault_95 (fun h => by subst h; exact ⟨rfl, rfl⟩)
  · refine z_aload_n (pc := 14) 0 rfl rfl C dX3_findFault_14 ?_
    refine z_getR (pc := 15) 0 0 1 C dX3_findFault_15 rfl (by decide) (by decide) rfl zw_245 ?_
    refine z_iload_n (pc := 18) 3 rfl rfl C dX3_findFault_18 ?_
    refine z_bald (pc := 19) 0 C dX3_findFault_19 rfl (by unfold zAr; decide) ?_
    refine z_leti (fun x4_1 => ?_)
    refine z_istore (pc := 20) [(0, (.ref (qT 0))), (1, (.int x1)), (2, (.int x2)), (3, (.int x3)), (4, (.int x4_1))] [1, 2, 3, 4, 0] (by decide) rfl C dX3_findFault_20 ?_
    refine z_iload (pc := 22) 4 rfl C dX3_findFault_22 ?_
    refine z_bipush (pc := 24) (32 : Int32) (by decide) C dX3_findFault_24 ?_
    refine z_icmp_ne (pc := 26) 32 C dX3_findFault_26 (by decide) ?_ ?_
    · refine z_goto (pc := 29) 72 C dX3_findFault_29 (by decide) ?_
      refine z_iinc (pc := 72) (x3 + 1) 3 rfl rfl [(0, (.ref (qT 0))), (1, (.int x1)), (2, (.int x2)), (3, (.int (x3 + 1))), (4, (.int x4_1))] [1, 2, 3, 0, 4] (by decide) rfl C dX3_findFault_72 ?_
      refine z_goto (pc := 75) 6 C dX3_findFault_75 (by decide) ?_
      refine z_lv [(0, (.ref (qT 0))), (1, (.int x1)), (2, (.int x2)), (3, (.int (x3 + 1)))] [0, 1, 2, 3] rfl ?_
      exact hk_6 _ _ _
    · refine z_iload (pc := 32) 4 rfl C dX3_findFault_32 ?_
      refine z_iload_n (pc := 34) 1 rfl rfl C dX3_findFault_34 ?_
      refine z_callS (pc := 35) (rf' := 1) (rl' := 20) (fX3_canStand x4_1 x1) [(.int x4_1), (.int x1)] [] [] (fun r_2 => (some (.int r_2))) (fun r_2 => []) [(3, qT, sT)] (fun r_2 => [(3, qT, sT)]) C dX3_findFault_35 zy_X3_canStand zw_657 (fun _ hr9 => mX3_canStand  hr9) (by decide) rfl (Nat.le_of_ble_eq_true rfl) (List.Perm.refl _) (fun _ => List.Perm.refl _) rfl (fun r_2 hr_3 => ?_)
      show zJ X 5 res _ 38 [(0, (.ref (qT 0))), (1, (.int x1)), (2, (.int x2)), (3, (.int x3)), (4, (.int x4_1))] [(.int r_2)] [(3, qT, sT)]
      refine z_if_ne (pc := 38) 43 C dX3_findFault_38 (by decide) ?_ ?_
      · refine z_iload_n (pc := 41) 3 rfl rfl C dX3_findFault_41 ?_
        exact z_ireturn (pc := 42) C hR dX3_findFault_42 (fun h => by subst h; exact ⟨rfl, rfl⟩)
      · refine z_iload_n (pc := 43) 1 rfl rfl C dX3_findFault_43 ?_
        refine z_iconst (pc := 44) (-1 : Int32) (by decide) C dX3_findFault_44 ?_
        refine z_icmp_ne (pc := 45) 57 C dX3_findFault_45 (by decide) ?_ ?_
        · refine z_iload (pc := 48) 4 rfl C dX3_findFault_48 ?_
          refine z_callS (pc := 50) (rf' := 0) (rl' := 0) (fX3_figuresOf x4_1) [(.int x4_1)] [] [] (fun r_4 => (some (.int r_4))) (fun r_4 => []) [(3, qT, sT)] (fun r_4 => [(3, qT, sT)]) C dX3_findFault_50 zy_X3_figuresOf zw_660 (fun _ hr9 => mX3_figuresOf  hr9) (by decide) rfl (Nat.le_of_ble_eq_true rfl) (List.Perm.refl _) (fun _ => List.Perm.refl _) rfl (fun r_4 hr_5 => ?_)
          show zJ X 5 res _ 53 [(0, (.ref (qT 0))), (1, (.int x1)), (2, (.int x2)), (3, (.int x3)), (4, (.int x4_1))] [(.int r_4)] [(3, qT, sT)]
          refine z_istore_n (pc := 53) [(0, (.ref (qT 0))), (1, (.int r_4)), (2, (.int x2)), (3, (.int x3)), (4, (.int x4_1))] [1, 0, 2, 3, 4] (by decide) rfl rfl C dX3_findFault_53 ?_
          refine z_goto (pc := 54) 72 C dX3_findFault_54 (by decide) ?_
          refine z_iinc (pc := 72) (x3 + 1) 3 rfl rfl [(0, (.ref (qT 0))), (1, (.int r_4)), (2, (.int x2)), (3, (.int (x3 + 1))), (4, (.int x4_1))] [1, 2, 3, 0, 4] (by decide) rfl C dX3_findFault_72 ?_
          refine z_goto (pc := 75) 6 C dX3_findFault_75 (by decide) ?_
          refine z_lv [(0, (.ref (qT 0))), (1, (.int r_4)), (2, (.int x2)), (3, (.int (x3 + 1)))] [0, 1, 2, 3] rfl ?_
          exact hk_6 _ _ _
        · refine z_iload_n (pc := 57) 2 rfl rfl C dX3_findFault_57 ?_
          refine z_iload_n (pc := 58) 1 rfl rfl C dX3_findFault_58 ?_
          refine z_if_ne (pc := 59) 66 C dX3_findFault_59 (by decide) ?_ ?_
          · refine z_iconst (pc := 62) (1 : Int32) (by decide) C dX3_findFault_62 ?_
            refine z_goto (pc := 63) 67 C dX3_findFault_63 (by decide) ?_
            refine z_iadd (pc := 67) C dX3_findFault_67 ?_
            refine z_leti (fun x2_6 => ?_)
            refine z_istore_n (pc := 68) [(0, (.ref (qT 0))), (1, (.int x1)), (2, (.int x2_6)), (3, (.int x3)), (4, (.int x4_1))] [1, 2, 0, 3, 4] (by decide) rfl rfl C dX3_findFault_68 ?_
            refine z_iinc (pc := 69) (x1 + (-1)) 1 rfl rfl [(0, (.ref (qT 0))), (1, (.int (x1 + (-1)))), (2, (.int x2_6)), (3, (.int x3)), (4, (.int x4_1))] [1, 0, 2, 3, 4] (by decide) rfl C dX3_findFault_69 ?_
            refine z_iinc (pc := 72) (x3 + 1) 3 rfl rfl [(0, (.ref (qT 0))), (1, (.int (x1 + (-1)))), (2, (.int x2_6)), (3, (.int (x3 + 1))), (4, (.int x4_1))] [1, 2, 3, 0, 4] (by decide) rfl C dX3_findFault_72 ?_
            refine z_goto (pc := 75) 6 C dX3_findFault_75 (by decide) ?_
            refine z_lv [(0, (.ref (qT 0))), (1, (.int (x1 + (-1)))), (2, (.int x2_6)), (3, (.int (x3 + 1)))] [0, 1, 2, 3] rfl ?_
            exact hk_6 _ _ _
          · refine z_iconst (pc := 66) (0 : Int32) (by decide) C dX3_findFault_66 ?_
            refine z_iadd (pc := 67) C dX3_findFault_67 ?_
            refine z_leti (fun x2_7 => ?_)
            refine z_istore_n (pc := 68) [(0, (.ref (qT 0))), (1, (.int x1)), (2, (.int x2_7)), (3, (.int x3)), (4, (.int x4_1))] [1, 2, 0, 3, 4] (by decide) rfl rfl C dX3_findFault_68 ?_
            refine z_iinc (pc := 69) (x1 + (-1)) 1 rfl rfl [(0, (.ref (qT 0))), (1, (.int (x1 + (-1)))), (2, (.int x2_7)), (3, (.int x3)), (4, (.int x4_1))] [1, 0, 2, 3, 4] (by decide) rfl C dX3_findFault_69 ?_
            refine z_iinc (pc := 72) (x3 + 1) 3 rfl rfl [(0, (.ref (qT 0))), (1, (.int (x1 + (-1)))), (2, (.int x2_7)), (3, (.int (x3 + 1))), (4, (.int x4_1))] [1, 2, 3, 0, 4] (by decide) rfl C dX3_findFault_72 ?_
            refine z_goto (pc := 75) 6 C dX3_findFault_75 (by decide) ?_
            refine z_lv [(0, (.ref (qT 0))), (1, (.int (x1 + (-1)))), (2, (.int x2_7)), (3, (.int (x3 + 1)))] [0, 1, 2, 3] rfl ?_
            exact hk_6 _ _ _
def fX3_findFault (F : Nat) (sT : zOS) : Option (Int32) := (zit (P := Int32 × Int32 × Int32) (R := Int32) (fun kc9 p9 => bX3_findFault_6 F sT kc9 p9.1 p9.2.1 p9.2.2) F ((-1 : Int32), (0 : Int32), (0 : Int32)))
set_option maxRecDepth 20000 in
theorem wX3_findFault {X : zCx} {res : Int32} {F : Nat} {qT : Nat → Nat} {sT : zOS} (C : zC X RX3 cX3_findFault 5 2 41) (hR : zR X (some .int) (some (.int res)) [(3, qT, sT)])  : zJ X 5 res (fX3_findFault F sT) 0 [(0, (.ref (qT 0)))] [] [(3, qT, sT)] := by
  unfold fX3_findFault
  refine z_iconst (pc := 0) (-1 : Int32) (by decide) C dX3_findFault_0 ?_
  refine z_istore_n (pc := 1) [(0, (.ref (qT 0))), (1, (.int (-1 : Int32)))] [1, 0] (by decide) rfl rfl C dX3_findFault_1 ?_
  refine z_iconst (pc := 2) (0 : Int32) (by decide) C dX3_findFault_2 ?_
  refine z_istore_n (pc := 3) [(0, (.ref (qT 0))), (1, (.int (-1 : Int32))), (2, (.int (0 : Int32)))] [1, 2, 0] (by decide) rfl rfl C dX3_findFault_3 ?_
  refine z_iconst (pc := 4) (0 : Int32) (by decide) C dX3_findFault_4 ?_
  refine z_istore_n (pc := 5) [(0, (.ref (qT 0))), (1, (.int (-1 : Int32))), (2, (.int (0 : Int32))), (3, (.int (0 : Int32)))] [1, 2, 3, 0] (by decide) rfl rfl C dX3_findFault_5 ?_
  exact zit_J (fun p9 => [(0, (.ref (qT 0))), (1, (.int p9.1)), (2, (.int p9.2.1)), (3, (.int p9.2.2))]) (fun p9 => [(3, qT, sT)]) (fun kc9 hk9 p9 => vX3_findFault_6 C hR   (fun a0 a1 a2 => hk9 (a0, a1, a2)) _ _ _) F _
theorem mX3_findFault {F : Nat} {qT : Nat → Nat} {sT : zOS} {res : Int32}  (hf : fX3_findFault F sT = some res) : zM yX3_findFault cX3_findFault 5 (some .int) 2 41 [(.ref (qT 0))] [(3, qT, sT)] (some (.int res)) [(3, qT, sT)] := zM_of (by decide +kernel) (Nat.le_of_ble_eq_true rfl) (fun X C hR => wX3_findFault (F := F) C hR  hf)
theorem dX3_performOne_0 : decode cX3_performOne 0 = .ok (.aload_n 0, 1) := by decide +kernel
theorem dX3_performOne_1 : decode cX3_performOne 1 = .ok (.getfield 15, 3) := by decide +kernel
theorem dX3_performOne_4 : decode cX3_performOne 4 = .ok (.astore_n 3, 1) := by decide +kernel
theorem dX3_performOne_5 : decode cX3_performOne 5 = .ok (.iload_n 2, 1) := by decide +kernel
theorem dX3_performOne_6 : decode cX3_performOne 6 = .ok (.tableswitch 147 100 114 #[74, 147, 142, 147, 147, 147, 147, 147, 147, 114, 147, 147, 128, 147, 94], 74) := by decide +kernel
theorem dX3_performOne_80 : decode cX3_performOne 80 = .ok (.aload_n 1, 1) := by decide +kernel
theorem dX3_performOne_81 : decode cX3_performOne 81 = .ok (.aload_n 3, 1) := by decide +kernel
theorem dX3_performOne_82 : decode cX3_performOne 82 = .ok (.iconst 0, 1) := by decide +kernel
theorem dX3_performOne_83 : decode cX3_performOne 83 = .ok (.iaload, 1) := by decide +kernel
theorem dX3_performOne_84 : decode cX3_performOne 84 = .ok (.aload_n 3, 1) := by decide +kernel
theorem dX3_performOne_85 : decode cX3_performOne 85 = .ok (.iconst 1, 1) := by decide +kernel
theorem dX3_performOne_86 : decode cX3_performOne 86 = .ok (.iaload, 1) := by decide +kernel
theorem dX3_performOne_87 : decode cX3_performOne 87 = .ok (.aload_n 3, 1) := by decide +kernel
theorem dX3_performOne_88 : decode cX3_performOne 88 = .ok (.iconst 2, 1) := by decide +kernel
theorem dX3_performOne_89 : decode cX3_performOne 89 = .ok (.iaload, 1) := by decide +kernel
theorem dX3_performOne_90 : decode cX3_performOne 90 = .ok (.aload_n 3, 1) := by decide +kernel
theorem dX3_performOne_91 : decode cX3_performOne 91 = .ok (.iconst 3, 1) := by decide +kernel
theorem dX3_performOne_92 : decode cX3_performOne 92 = .ok (.iaload, 1) := by decide +kernel
theorem dX3_performOne_93 : decode cX3_performOne 93 = .ok (.aload_n 3, 1) := by decide +kernel
theorem dX3_performOne_94 : decode cX3_performOne 94 = .ok (.iconst 4, 1) := by decide +kernel
theorem dX3_performOne_95 : decode cX3_performOne 95 = .ok (.iaload, 1) := by decide +kernel
theorem dX3_performOne_96 : decode cX3_performOne 96 = .ok (.invokevirtual 35, 3) := by decide +kernel
theorem dX3_performOne_99 : decode cX3_performOne 99 = .ok (.ireturn, 1) := by decide +kernel
theorem dX3_performOne_100 : decode cX3_performOne 100 = .ok (.aload_n 1, 1) := by decide +kernel
theorem dX3_performOne_101 : decode cX3_performOne 101 = .ok (.aload_n 3, 1) := by decide +kernel
theorem dX3_performOne_102 : decode cX3_performOne 102 = .ok (.iconst 0, 1) := by decide +kernel
theorem dX3_performOne_103 : decode cX3_performOne 103 = .ok (.iaload, 1) := by decide +kernel
theorem dX3_performOne_104 : decode cX3_performOne 104 = .ok (.aload_n 3, 1) := by decide +kernel
theorem dX3_performOne_105 : decode cX3_performOne 105 = .ok (.iconst 1, 1) := by decide +kernel
theorem dX3_performOne_106 : decode cX3_performOne 106 = .ok (.iaload, 1) := by decide +kernel
theorem dX3_performOne_107 : decode cX3_performOne 107 = .ok (.aload_n 3, 1) := by decide +kernel
theorem dX3_performOne_108 : decode cX3_performOne 108 = .ok (.iconst 2, 1) := by decide +kernel
theorem dX3_performOne_109 : decode cX3_performOne 109 = .ok (.iaload, 1) := by decide +kernel
theorem dX3_performOne_110 : decode cX3_performOne 110 = .ok (.aload_n 3, 1) := by decide +kernel
theorem dX3_performOne_111 : decode cX3_performOne 111 = .ok (.iconst 3, 1) := by decide +kernel
theorem dX3_performOne_112 : decode cX3_performOne 112 = .ok (.iaload, 1) := by decide +kernel
theorem dX3_performOne_113 : decode cX3_performOne 113 = .ok (.aload_n 3, 1) := by decide +kernel
theorem dX3_performOne_114 : decode cX3_performOne 114 = .ok (.iconst 4, 1) := by decide +kernel
theorem dX3_performOne_115 : decode cX3_performOne 115 = .ok (.iaload, 1) := by decide +kernel
theorem dX3_performOne_116 : decode cX3_performOne 116 = .ok (.invokevirtual 41, 3) := by decide +kernel
theorem dX3_performOne_119 : decode cX3_performOne 119 = .ok (.ireturn, 1) := by decide +kernel
theorem dX3_performOne_120 : decode cX3_performOne 120 = .ok (.aload_n 1, 1) := by decide +kernel
theorem dX3_performOne_121 : decode cX3_performOne 121 = .ok (.aload_n 3, 1) := by decide +kernel
theorem dX3_performOne_122 : decode cX3_performOne 122 = .ok (.iconst 0, 1) := by decide +kernel
theorem dX3_performOne_123 : decode cX3_performOne 123 = .ok (.iaload, 1) := by decide +kernel
theorem dX3_performOne_124 : decode cX3_performOne 124 = .ok (.aload_n 3, 1) := by decide +kernel
theorem dX3_performOne_125 : decode cX3_performOne 125 = .ok (.iconst 1, 1) := by decide +kernel
theorem dX3_performOne_126 : decode cX3_performOne 126 = .ok (.iaload, 1) := by decide +kernel
theorem dX3_performOne_127 : decode cX3_performOne 127 = .ok (.aload_n 3, 1) := by decide +kernel
theorem dX3_performOne_128 : decode cX3_performOne 128 = .ok (.iconst 2, 1) := by decide +kernel
theorem dX3_performOne_129 : decode cX3_performOne 129 = .ok (.iaload, 1) := by decide +kernel
theorem dX3_performOne_130 : decode cX3_performOne 130 = .ok (.invokevirtual 44, 3) := by decide +kernel
theorem dX3_performOne_133 : decode cX3_performOne 133 = .ok (.ireturn, 1) := by decide +kernel
theorem dX3_performOne_134 : decode cX3_performOne 134 = .ok (.aload_n 1, 1) := by decide +kernel
theorem dX3_performOne_135 : decode cX3_performOne 135 = .ok (.aload_n 3, 1) := by decide +kernel
theorem dX3_performOne_136 : decode cX3_performOne 136 = .ok (.iconst 0, 1) := by decide +kernel
theorem dX3_performOne_137 : decode cX3_performOne 137 = .ok (.iaload, 1) := by decide +kernel
theorem dX3_performOne_138 : decode cX3_performOne 138 = .ok (.aload_n 3, 1) := by decide +kernel
theorem dX3_performOne_139 : decode cX3_performOne 139 = .ok (.iconst 1, 1) := by decide +kernel
theorem dX3_performOne_140 : decode cX3_performOne 140 = .ok (.iaload, 1) := by decide +kernel
theorem dX3_performOne_141 : decode cX3_performOne 141 = .ok (.aload_n 3, 1) := by decide +kernel
theorem dX3_performOne_142 : decode cX3_performOne 142 = .ok (.iconst 2, 1) := by decide +kernel
theorem dX3_performOne_143 : decode cX3_performOne 143 = .ok (.iaload, 1) := by decide +kernel
theorem dX3_performOne_144 : decode cX3_performOne 144 = .ok (.invokevirtual 48, 3) := by decide +kernel
theorem dX3_performOne_147 : decode cX3_performOne 147 = .ok (.ireturn, 1) := by decide +kernel
theorem dX3_performOne_148 : decode cX3_performOne 148 = .ok (.aload_n 1, 1) := by decide +kernel
theorem dX3_performOne_149 : decode cX3_performOne 149 = .ok (.invokevirtual 51, 3) := by decide +kernel
theorem dX3_performOne_152 : decode cX3_performOne 152 = .ok (.ireturn, 1) := by decide +kernel
theorem dX3_performOne_153 : decode cX3_performOne 153 = .ok (.bipush (-2), 2) := by decide +kernel
theorem dX3_performOne_155 : decode cX3_performOne 155 = .ok (.ireturn, 1) := by decide +kernel
def fX3_performOne (F : Nat) (x2 : Int32) (sT : zOS) (sP : zOS) : Option (Int32 × zOS) := (if x2 = (100 : Int32) then (zchk (0 : Int32) 5 (zchk (1 : Int32) 5 (zchk (2 : Int32) 5 (zchk (3 : Int32) 5 (zchk (4 : Int32) 5 (Option.bind (fX2_paint F (zI sT 2 (0 : Int32).toNatClampNeg) (zI sT 2 (1 : Int32).toNatClampNeg) (zI sT 2 (2 : Int32).toNatClampNeg) (zI sT 2 (3 : Int32).toNatClampNeg) (zI sT 2 (4 : Int32).toNatClampNeg) sP) (fun r_2 : Int32 × zOS => (some (r_2.1, r_2.2))))))))) else (if x2 = (102 : Int32) then (Option.bind (fX2_dropMeant sP) (fun r_5 : Int32 × zOS => (some (r_5.1, r_5.2)))) else (if x2 = (109 : Int32) then (zchk (0 : Int32) 5 (zchk (1 : Int32) 5 (zchk (2 : Int32) 5 (Option.bind (fX2_addDevice (zI sT 2 (0 : Int32).toNatClampNeg) (zI sT 2 (1 : Int32).toNatClampNeg) (zI sT 2 (2 : Int32).toNatClampNeg) sP) (fun r_8 : Int32 × zOS => (some (r_8.1, r_8.2))))))) else (if x2 = (112 : Int32) then (zchk (0 : Int32) 5 (zchk (1 : Int32) 5 (zchk (2 : Int32) 5 (Option.bind (fX2_addPin (zI sT 2 (0 : Int32).toNatClampNeg) (zI sT 2 (1 : Int32).toNatClampNeg) (zI sT 2 (2 : Int32).toNatClampNeg) sP) (fun r_11 : Int32 × zOS => (some (r_11.1, r_11.2))))))) else (if x2 = (114 : Int32) then (zchk (0 : Int32) 5 (zchk (1 : Int32) 5 (zchk (2 : Int32) 5 (zchk (3 : Int32) 5 (zchk (4 : Int32) 5 (Option.bind (fX2_erase F (zI sT 2 (0 : Int32).toNatClampNeg) (zI sT 2 (1 : Int32).toNatClampNeg) (zI sT 2 (2 : Int32).toNatClampNeg) (zI sT 2 (3 : Int32).toNatClampNeg) (zI sT 2 (4 : Int32).toNatClampNeg) sP) (fun r_14 : Int32 × zOS => (some (r_14.1, r_14.2))))))))) else (some ((-2 : Int32), sP)))))))
set_option maxRecDepth 20000 in
theorem wX3_performOne {X : zCx} {res : Int32 × zOS} {F : Nat} {qT : Nat → Nat} {qP : Nat → Nat} {x2 : Int32} {sT : zOS} {sP : zOS} (C : zC X RX3 cX3_performOne 4 4 92) (hR : zR X (some .int) (some (.int res.1)) [(3, qT, sT), (2, qP, res.2)])  : zJ X 4 res (fX3_performOne F x2 sT sP) 0 [(0, (.ref (qT 0))), (1, (.ref (qP 0))), (2, (.int x2))] [] [(3, qT, sT), (2, qP, sP)] := by
  unfold fX3_performOne
  refine z_aload_n (pc := 0) 0 rfl rfl C dX3_performOne_0 ?_
  refine z_getR (pc := 1) 0 1 2 C dX3_performOne_1 rfl (by decide) (by decide) rfl zw_246 ?_
  refine z_astore_n (pc := 4) [(0, (.ref (qT 0))), (1, (.ref (qP 0))), (2, (.int x2)), (3, (.ref (qT 2)))] [1, 2, 3, 0] (by decide) rfl rfl C dX3_performOne_4 ?_
  refine z_iload_n (pc := 5) 2 rfl rfl C dX3_performOne_5 ?_
  refine z_if (fun hx_1 => ?_) (fun hx_1 => ?_)
  · refine z_tin (pc := 6) (100 : Int32) 80 hx_1 C dX3_performOne_6 (by decide) (by decide) rfl (by decide) ?_
    refine z_aload_n (pc := 80) 1 rfl rfl C dX3_performOne_80 ?_
    refine z_aload_n (pc := 81) 3 rfl rfl C dX3_performOne_81 ?_
    refine z_iconst (pc := 82) (0 : Int32) (by decide) C dX3_performOne_82 ?_
    refine z_iald (pc := 83) 0 C dX3_performOne_83 rfl (by unfold zAr; decide) ?_
    refine z_aload_n (pc := 84) 3 rfl rfl C dX3_performOne_84 ?_
    refine z_iconst (pc := 85) (1 : Int32) (by decide) C dX3_performOne_85 ?_
    refine z_iald (pc := 86) 0 C dX3_performOne_86 rfl (by unfold zAr; decide) ?_
    refine z_aload_n (pc := 87) 3 rfl rfl C dX3_performOne_87 ?_
    refine z_iconst (pc := 88) (2 : Int32) (by decide) C dX3_performOne_88 ?_
    refine z_iald (pc := 89) 0 C dX3_performOne_89 rfl (by unfold zAr; decide) ?_
    refine z_aload_n (pc := 90) 3 rfl rfl C dX3_performOne_90 ?_
    refine z_iconst (pc := 91) (3 : Int32) (by decide) C dX3_performOne_91 ?_
    refine z_iald (pc := 92) 0 C dX3_performOne_92 rfl (by unfold zAr; decide) ?_
    refine z_aload_n (pc := 93) 3 rfl rfl C dX3_performOne_93 ?_
    refine z_iconst (pc := 94) (4 : Int32) (by decide) C dX3_performOne_94 ?_
    refine z_iald (pc := 95) 0 C dX3_performOne_95 rfl (by unfold zAr; decide) ?_
    refine z_callV (pc := 96) (rf' := 3) (rl' := 65) (fX2_paint F (zI sT 2 (0 : Int32).toNatClampNeg) (zI sT 2 (1 : Int32).toNatClampNeg) (zI sT 2 (2 : Int32).toNatClampNeg) (zI sT 2 (3 : Int32).toNatClampNeg) (zI sT 2 (4 : Int32).toNatClampNeg) sP) [(.int (zI sT 2 (0 : Int32).toNatClampNeg)), (.int (zI sT 2 (1 : Int32).toNatClampNeg)), (.int (zI sT 2 (2 : Int32).toNatClampNeg)), (.int (zI sT 2 (3 : Int32).toNatClampNeg)), (.int (zI sT 2 (4 : Int32).toNatClampNeg))] [] [(2, qP, sP)] (fun r_2 => (some (.int r_2.1))) (fun r_2 => [(2, qP, r_2.2)]) [(3, qT, sT)] (fun r_2 => [(3, qT, sT), (2, qP, r_2.2)]) C dX3_performOne_96 zy_X2_paint zw_671 (fun _ hr9 => mX2_paint  hr9) (by decide) rfl rfl (by decide) rfl (Nat.le_of_ble_eq_true rfl) (z_pm _ [1, 0] (by decide)).symm (fun _ => (z_pm _ [1, 0] (by decide)).symm) rfl (fun r_2 hr_3 => ?_)
    show zJ X 4 res _ 99 [(0, (.ref (qT 0))), (1, (.ref (qP 0))), (2, (.int x2)), (3, (.ref (qT 2)))] [(.int r_2.1)] [(3, qT, sT), (2, qP, r_2.2)]
    exact z_ireturn (pc := 99) C hR dX3_performOne_99 (fun h => by subst h; exact ⟨rfl, rfl⟩)
  · refine z_if (fun hx_4 => ?_) (fun hx_4 => ?_)
    · refine z_tin (pc := 6) (102 : Int32) 148 hx_4 C dX3_performOne_6 (by decide) (by decide) rfl (by decide) ?_
      refine z_aload_n (pc := 148) 1 rfl rfl C dX3_performOne_148 ?_
      refine z_callV (pc := 149) (rf' := 0) (rl' := 0) (fX2_dropMeant sP) [] [] [(2, qP, sP)] (fun r_5 => (some (.int r_5.1))) (fun r_5 => [(2, qP, r_5.2)]) [(3, qT, sT)] (fun r_5 => [(3, qT, sT), (2, qP, r_5.2)]) C dX3_performOne_149 zy_X2_dropMeant zw_675 (fun _ hr9 => mX2_dropMeant  hr9) (by decide) rfl rfl (by decide) rfl (Nat.le_of_ble_eq_true rfl) (z_pm _ [1, 0] (by decide)).symm (fun _ => (z_pm _ [1, 0] (by decide)).symm) rfl (fun r_5 hr_6 => ?_)
      show zJ X 4 res _ 152 [(0, (.ref (qT 0))), (1, (.ref (qP 0))), (2, (.int x2)), (3, (.ref (qT 2)))] [(.int r_5.1)] [(3, qT, sT), (2, qP, r_5.2)]
      exact z_ireturn (pc := 152) C hR dX3_performOne_152 (fun h => by subst h; exact ⟨rfl, rfl⟩)
    · refine z_if (fun hx_7 => ?_) (fun hx_7 => ?_)
      · refine z_tin (pc := 6) (109 : Int32) 120 hx_7 C dX3_performOne_6 (by decide) (by decide) rfl (by decide) ?_
        refine z_aload_n (pc := 120) 1 rfl rfl C dX3_performOne_120 ?_
        refine z_aload_n (pc := 121) 3 rfl rfl C dX3_performOne_121 ?_
        refine z_iconst (pc := 122) (0 : Int32) (by decide) C dX3_performOne_122 ?_
        refine z_iald (pc := 123) 0 C dX3_performOne_123 rfl (by unfold zAr; decide) ?_
        refine z_aload_n (pc := 124) 3 rfl rfl C dX3_performOne_124 ?_
        refine z_iconst (pc := 125) (1 : Int32) (by decide) C dX3_performOne_125 ?_
        refine z_iald (pc := 126) 0 C dX3_performOne_126 rfl (by unfold zAr; decide) ?_
        refine z_aload_n (pc := 127) 3 rfl rfl C dX3_performOne_127 ?_
        refine z_iconst (pc := 128) (2 : Int32) (by decide) C dX3_performOne_128 ?_
        refine z_iald (pc := 129) 0 C dX3_performOne_129 rfl (by unfold zAr; decide) ?_
        refine z_callV (pc := 130) (rf' := 1) (rl' := 24) (fX2_addDevice (zI sT 2 (0 : Int32).toNatClampNeg) (zI sT 2 (1 : Int32).toNatClampNeg) (zI sT 2 (2 : Int32).toNatClampNeg) sP) [(.int (zI sT 2 (0 : Int32).toNatClampNeg)), (.int (zI sT 2 (1 : Int32).toNatClampNeg)), (.int (zI sT 2 (2 : Int32).toNatClampNeg))] [] [(2, qP, sP)] (fun r_8 => (some (.int r_8.1))) (fun r_8 => [(2, qP, r_8.2)]) [(3, qT, sT)] (fun r_8 => [(3, qT, sT), (2, qP, r_8.2)]) C dX3_performOne_130 zy_X2_addDevice zw_673 (fun _ hr9 => mX2_addDevice  hr9) (by decide) rfl rfl (by decide) rfl (Nat.le_of_ble_eq_true rfl) (z_pm _ [1, 0] (by decide)).symm (fun _ => (z_pm _ [1, 0] (by decide)).symm) rfl (fun r_8 hr_9 => ?_)
        show zJ X 4 res _ 133 [(0, (.ref (qT 0))), (1, (.ref (qP 0))), (2, (.int x2)), (3, (.ref (qT 2)))] [(.int r_8.1)] [(3, qT, sT), (2, qP, r_8.2)]
        exact z_ireturn (pc := 133) C hR dX3_performOne_133 (fun h => by subst h; exact ⟨rfl, rfl⟩)
      · refine z_if (fun hx_10 => ?_) (fun hx_10 => ?_)
        · refine z_tin (pc := 6) (112 : Int32) 134 hx_10 C dX3_performOne_6 (by decide) (by decide) rfl (by decide) ?_
          refine z_aload_n (pc := 134) 1 rfl rfl C dX3_performOne_134 ?_
          refine z_aload_n (pc := 135) 3 rfl rfl C dX3_performOne_135 ?_
          refine z_iconst (pc := 136) (0 : Int32) (by decide) C dX3_performOne_136 ?_
          refine z_iald (pc := 137) 0 C dX3_performOne_137 rfl (by unfold zAr; decide) ?_
          refine z_aload_n (pc := 138) 3 rfl rfl C dX3_performOne_138 ?_
          refine z_iconst (pc := 139) (1 : Int32) (by decide) C dX3_performOne_139 ?_
          refine z_iald (pc := 140) 0 C dX3_performOne_140 rfl (by unfold zAr; decide) ?_
          refine z_aload_n (pc := 141) 3 rfl rfl C dX3_performOne_141 ?_
          refine z_iconst (pc := 142) (2 : Int32) (by decide) C dX3_performOne_142 ?_
          refine z_iald (pc := 143) 0 C dX3_performOne_143 rfl (by unfold zAr; decide) ?_
          refine z_callV (pc := 144) (rf' := 2) (rl' := 42) (fX2_addPin (zI sT 2 (0 : Int32).toNatClampNeg) (zI sT 2 (1 : Int32).toNatClampNeg) (zI sT 2 (2 : Int32).toNatClampNeg) sP) [(.int (zI sT 2 (0 : Int32).toNatClampNeg)), (.int (zI sT 2 (1 : Int32).toNatClampNeg)), (.int (zI sT 2 (2 : Int32).toNatClampNeg))] [] [(2, qP, sP)] (fun r_11 => (some (.int r_11.1))) (fun r_11 => [(2, qP, r_11.2)]) [(3, qT, sT)] (fun r_11 => [(3, qT, sT), (2, qP, r_11.2)]) C dX3_performOne_144 zy_X2_addPin zw_674 (fun _ hr9 => mX2_addPin  hr9) (by decide) rfl rfl (by decide) rfl (Nat.le_of_ble_eq_true rfl) (z_pm _ [1, 0] (by decide)).symm (fun _ => (z_pm _ [1, 0] (by decide)).symm) rfl (fun r_11 hr_12 => ?_)
          show zJ X 4 res _ 147 [(0, (.ref (qT 0))), (1, (.ref (qP 0))), (2, (.int x2)), (3, (.ref (qT 2)))] [(.int r_11.1)] [(3, qT, sT), (2, qP, r_11.2)]
          exact z_ireturn (pc := 147) C hR dX3_performOne_147 (fun h => by subst h; exact ⟨rfl, rfl⟩)
        · refine z_if (fun hx_13 => ?_) (fun hx_13 => ?_)
          · refine z_tin (pc := 6) (114 : Int32) 100 hx_13 C dX3_performOne_6 (by decide) (by decide) rfl (by decide) ?_
            refine z_aload_n (pc := 100) 1 rfl rfl C dX3_performOne_100 ?_
            refine z_aload_n (pc := 101) 3 rfl rfl C dX3_performOne_101 ?_
            refine z_iconst (pc := 102) (0 : Int32) (by decide) C dX3_performOne_102 ?_
            refine z_iald (pc := 103) 0 C dX3_performOne_103 rfl (by unfold zAr; decide) ?_
            refine z_aload_n (pc := 104) 3 rfl rfl C dX3_performOne_104 ?_
            refine z_iconst (pc := 105) (1 : Int32) (by decide) C dX3_performOne_105 ?_
            refine z_iald (pc := 106) 0 C dX3_performOne_106 rfl (by unfold zAr; decide) ?_
            refine z_aload_n (pc := 107) 3 rfl rfl C dX3_performOne_107 ?_
            refine z_iconst (pc := 108) (2 : Int32) (by decide) C dX3_performOne_108 ?_
            refine z_iald (pc := 109) 0 C dX3_performOne_109 rfl (by unfold zAr; decide) ?_
            refine z_aload_n (pc := 110) 3 rfl rfl C dX3_performOne_110 ?_
            refine z_iconst (pc := 111) (3 : Int32) (by decide) C dX3_performOne_111 ?_
            refine z_iald (pc := 112) 0 C dX3_performOne_112 rfl (by unfold zAr; decide) ?_
            refine z_aload_n (pc := 113) 3 rfl rfl C dX3_performOne_113 ?_
            refine z_iconst (pc := 114) (4 : Int32) (by decide) C dX3_performOne_114 ?_
            refine z_iald (pc := 115) 0 C dX3_performOne_115 rfl (by unfold zAr; decide) ?_
            refine z_callV (pc := 116) (rf' := 3) (rl' := 65) (fX2_erase F (zI sT 2 (0 : Int32).toNatClampNeg) (zI sT 2 (1 : Int32).toNatClampNeg) (zI sT 2 (2 : Int32).toNatClampNeg) (zI sT 2 (3 : Int32).toNatClampNeg) (zI sT 2 (4 : Int32).toNatClampNeg) sP) [(.int (zI sT 2 (0 : Int32).toNatClampNeg)), (.int (zI sT 2 (1 : Int32).toNatClampNeg)), (.int (zI sT 2 (2 : Int32).toNatClampNeg)), (.int (zI sT 2 (3 : Int32).toNatClampNeg)), (.int (zI sT 2 (4 : Int32).toNatClampNeg))] [] [(2, qP, sP)] (fun r_14 => (some (.int r_14.1))) (fun r_14 => [(2, qP, r_14.2)]) [(3, qT, sT)] (fun r_14 => [(3, qT, sT), (2, qP, r_14.2)]) C dX3_performOne_116 zy_X2_erase zw_672 (fun _ hr9 => mX2_erase  hr9) (by decide) rfl rfl (by decide) rfl (Nat.le_of_ble_eq_true rfl) (z_pm _ [1, 0] (by decide)).symm (fun _ => (z_pm _ [1, 0] (by decide)).symm) rfl (fun r_14 hr_15 => ?_)
            show zJ X 4 res _ 119 [(0, (.ref (qT 0))), (1, (.ref (qP 0))), (2, (.int x2)), (3, (.ref (qT 2)))] [(.int r_14.1)] [(3, qT, sT), (2, qP, r_14.2)]
            exact z_ireturn (pc := 119) C hR dX3_performOne_119 (fun h => by subst h; exact ⟨rfl, rfl⟩)
          · refine z_tdef (pc := 6) [(100 : Int32), (102 : Int32), (109 : Int32), (112 : Int32), (114 : Int32)] 153 (by intro v hv; simp only [List.mem_cons, List.not_mem_nil, or_false] at hv; rcases hv with rfl | rfl | rfl | rfl | rfl <;> assumption) C dX3_performOne_6 (by decide) (by decide) ?_
            refine z_bipush (pc := 153) (-2 : Int32) (by decide) C dX3_performOne_153 ?_
            exact z_ireturn (pc := 155) C hR dX3_performOne_155 (fun h => by subst h; exact ⟨rfl, rfl⟩)
theorem mX3_performOne {F : Nat} {qT : Nat → Nat} {qP : Nat → Nat} {x2 : Int32} {sT : zOS} {sP : zOS} {res : Int32 × zOS}  (hf : fX3_performOne F x2 sT sP = some res) : zM yX3_performOne cX3_performOne 4 (some .int) 4 92 [(.ref (qT 0)), (.ref (qP 0)), (.int x2)] [(3, qT, sT), (2, qP, sP)] (some (.int res.1)) [(3, qT, sT), (2, qP, res.2)] := zM_of (by decide +kernel) (Nat.le_of_ble_eq_true rfl) (fun X C hR => wX3_performOne (F := F) C hR  hf)
theorem dX3_perform_0 : decode cX3_perform 0 = .ok (.iconst 0, 1) := by decide +kernel
theorem dX3_perform_1 : decode cX3_perform 1 = .ok (.istore_n 2, 1) := by decide +kernel
theorem dX3_perform_2 : decode cX3_perform 2 = .ok (.iconst 0, 1) := by decide +kernel
theorem dX3_perform_3 : decode cX3_perform 3 = .ok (.istore_n 3, 1) := by decide +kernel
theorem dX3_perform_4 : decode cX3_perform 4 = .ok (.bipush 32, 2) := by decide +kernel
theorem dX3_perform_6 : decode cX3_perform 6 = .ok (.istore 4, 2) := by decide +kernel
theorem dX3_perform_8 : decode cX3_perform 8 = .ok (.iconst 0, 1) := by decide +kernel
theorem dX3_perform_9 : decode cX3_perform 9 = .ok (.istore 5, 2) := by decide +kernel
theorem dX3_perform_11 : decode cX3_perform 11 = .ok (.iload 5, 2) := by decide +kernel
theorem dX3_perform_13 : decode cX3_perform 13 = .ok (.aload_n 0, 1) := by decide +kernel
theorem dX3_perform_14 : decode cX3_perform 14 = .ok (.getfield 19, 3) := by decide +kernel
theorem dX3_perform_17 : decode cX3_perform 17 = .ok (.if_icmp .ge 96, 3) := by decide +kernel
theorem dX3_perform_20 : decode cX3_perform 20 = .ok (.aload_n 0, 1) := by decide +kernel
theorem dX3_perform_21 : decode cX3_perform 21 = .ok (.getfield 9, 3) := by decide +kernel
theorem dX3_perform_24 : decode cX3_perform 24 = .ok (.iload 5, 2) := by decide +kernel
theorem dX3_perform_26 : decode cX3_perform 26 = .ok (.baload, 1) := by decide +kernel
theorem dX3_perform_27 : decode cX3_perform 27 = .ok (.istore 6, 2) := by decide +kernel
theorem dX3_perform_29 : decode cX3_perform 29 = .ok (.iload 6, 2) := by decide +kernel
theorem dX3_perform_31 : decode cX3_perform 31 = .ok (.bipush 59, 2) := by decide +kernel
theorem dX3_perform_33 : decode cX3_perform 33 = .ok (.if_icmp .ne 25, 3) := by decide +kernel
theorem dX3_perform_36 : decode cX3_perform 36 = .ok (.aload_n 0, 1) := by decide +kernel
theorem dX3_perform_37 : decode cX3_perform 37 = .ok (.aload_n 1, 1) := by decide +kernel
theorem dX3_perform_38 : decode cX3_perform 38 = .ok (.iload 4, 2) := by decide +kernel
theorem dX3_perform_40 : decode cX3_perform 40 = .ok (.invokevirtual 31, 3) := by decide +kernel
theorem dX3_perform_43 : decode cX3_perform 43 = .ok (.ifCond .ge 9, 3) := by decide +kernel
theorem dX3_perform_46 : decode cX3_perform 46 = .ok (.sipush (-1000), 3) := by decide +kernel
theorem dX3_perform_49 : decode cX3_perform 49 = .ok (.iload_n 2, 1) := by decide +kernel
theorem dX3_perform_50 : decode cX3_perform 50 = .ok (.isub, 1) := by decide +kernel
theorem dX3_perform_51 : decode cX3_perform 51 = .ok (.ireturn, 1) := by decide +kernel
theorem dX3_perform_52 : decode cX3_perform 52 = .ok (.iinc 2 1, 3) := by decide +kernel
theorem dX3_perform_55 : decode cX3_perform 55 = .ok (.goto 52, 3) := by decide +kernel
theorem dX3_perform_58 : decode cX3_perform 58 = .ok (.iload 6, 2) := by decide +kernel
theorem dX3_perform_60 : decode cX3_perform 60 = .ok (.bipush 48, 2) := by decide +kernel
theorem dX3_perform_62 : decode cX3_perform 62 = .ok (.if_icmp .lt 32, 3) := by decide +kernel
theorem dX3_perform_65 : decode cX3_perform 65 = .ok (.iload 6, 2) := by decide +kernel
theorem dX3_perform_67 : decode cX3_perform 67 = .ok (.bipush 57, 2) := by decide +kernel
theorem dX3_perform_69 : decode cX3_perform 69 = .ok (.if_icmp .gt 25, 3) := by decide +kernel
theorem dX3_perform_72 : decode cX3_perform 72 = .ok (.iload_n 3, 1) := by decide +kernel
theorem dX3_perform_73 : decode cX3_perform 73 = .ok (.iconst 5, 1) := by decide +kernel
theorem dX3_perform_74 : decode cX3_perform 74 = .ok (.if_icmp .ge 20, 3) := by decide +kernel
theorem dX3_perform_77 : decode cX3_perform 77 = .ok (.aload_n 0, 1) := by decide +kernel
theorem dX3_perform_78 : decode cX3_perform 78 = .ok (.getfield 15, 3) := by decide +kernel
theorem dX3_perform_81 : decode cX3_perform 81 = .ok (.iload_n 3, 1) := by decide +kernel
theorem dX3_perform_82 : decode cX3_perform 82 = .ok (.iload 6, 2) := by decide +kernel
theorem dX3_perform_84 : decode cX3_perform 84 = .ok (.bipush 48, 2) := by decide +kernel
theorem dX3_perform_86 : decode cX3_perform 86 = .ok (.isub, 1) := by decide +kernel
theorem dX3_perform_87 : decode cX3_perform 87 = .ok (.iastore, 1) := by decide +kernel
theorem dX3_perform_88 : decode cX3_perform 88 = .ok (.iinc 3 1, 3) := by decide +kernel
theorem dX3_perform_91 : decode cX3_perform 91 = .ok (.goto 16, 3) := by decide +kernel
theorem dX3_perform_94 : decode cX3_perform 94 = .ok (.iload 6, 2) := by decide +kernel
theorem dX3_perform_96 : decode cX3_perform 96 = .ok (.bipush 32, 2) := by decide +kernel
theorem dX3_perform_98 : decode cX3_perform 98 = .ok (.if_icmp .eq 9, 3) := by decide +kernel
theorem dX3_perform_101 : decode cX3_perform 101 = .ok (.iload 6, 2) := by decide +kernel
theorem dX3_perform_103 : decode cX3_perform 103 = .ok (.istore 4, 2) := by decide +kernel
theorem dX3_perform_105 : decode cX3_perform 105 = .ok (.iconst 0, 1) := by decide +kernel
theorem dX3_perform_106 : decode cX3_perform 106 = .ok (.istore_n 3, 1) := by decide +kernel
theorem dX3_perform_107 : decode cX3_perform 107 = .ok (.iinc 5 1, 3) := by decide +kernel
theorem dX3_perform_110 : decode cX3_perform 110 = .ok (.goto (-99), 3) := by decide +kernel
theorem dX3_perform_113 : decode cX3_perform 113 = .ok (.iload_n 2, 1) := by decide +kernel
theorem dX3_perform_114 : decode cX3_perform 114 = .ok (.ireturn, 1) := by decide +kernel
def jX3_perform_94 (F : Nat) (kc_11 : (Int32 × Int32 × Int32 × Int32 × zOS × zOS) → Option (Int32 × zOS × zOS)) (x2 : Int32) (x3 : Int32) (x4 : Int32) (x5 : Int32) (x6 : Int32) (sT : zOS) (sP : zOS) : Option (Int32 × zOS × zOS) := (if x6 = (32 : Int32) then (kc_11 (x2, x3, x4, (x5 + 1), sT, sP)) else (kc_11 (x2, (0 : Int32), x6, (x5 + 1), sT, sP)))
set_option maxRecDepth 20000 in
theorem wX3_perform_94 {X : zCx} {res : Int32 × zOS × zOS} {F : Nat} {qT : Nat → Nat} {qP : Nat → Nat} {kc_11 : (Int32 × Int32 × Int32 × Int32 × zOS × zOS) → Option (Int32 × zOS × zOS)} (C : zC X RX3 cX3_perform 7 5 115) (hR : zR X (some .int) (some (.int res.1)) [(3, qT, res.2.1), (2, qP, res.2.2)]) (hk_11 : ∀ (y2 : Int32) (y3 : Int32) (y4 : Int32) (y5 : Int32) (tT : zOS) (tP : zOS), zJ X 7 res (kc_11 (y2, y3, y4, y5, tT, tP)) 11 [(0, (.ref (qT 0))), (1, (.ref (qP 0))), (2, (.int y2)), (3, (.int y3)), (4, (.int y4)), (5, (.int y5))] [] [(3, qT, tT), (2, qP, tP)]) (x2 : Int32) (x3 : Int32) (x4 : Int32) (x5 : Int32) (x6 : Int32) (sT : zOS) (sP : zOS) : zJ X 7 res (jX3_perform_94 F kc_11 x2 x3 x4 x5 x6 sT sP) 94 [(0, (.ref (qT 0))), (1, (.ref (qP 0))), (2, (.int x2)), (3, (.int x3)), (4, (.int x4)), (5, (.int x5)), (6, (.int x6))] [] [(3, qT, sT), (2, qP, sP)] := by
  unfold jX3_perform_94
  refine z_iload (pc := 94) 6 rfl C dX3_perform_94 ?_
  refine z_bipush (pc := 96) (32 : Int32) (by decide) C dX3_perform_96 ?_
  refine z_icmp_eq (pc := 98) 107 C dX3_perform_98 (by decide) ?_ ?_
  · refine z_iinc (pc := 107) (x5 + 1) 5 rfl rfl [(0, (.ref (qT 0))), (1, (.ref (qP 0))), (2, (.int x2)), (3, (.int x3)), (4, (.int x4)), (5, (.int (x5 + 1))), (6, (.int x6))] [1, 2, 3, 4, 5, 0, 6] (by decide) rfl C dX3_perform_107 ?_
    refine z_goto (pc := 110) 11 C dX3_perform_110 (by decide) ?_
    refine z_lv [(0, (.ref (qT 0))), (1, (.ref (qP 0))), (2, (.int x2)), (3, (.int x3)), (4, (.int x4)), (5, (.int (x5 + 1)))] [0, 1, 2, 3, 4, 5] rfl ?_
    exact hk_11 _ _ _ _ _ _
  · refine z_iload (pc := 101) 6 rfl C dX3_perform_101 ?_
    refine z_istore (pc := 103) [(0, (.ref (qT 0))), (1, (.ref (qP 0))), (2, (.int x2)), (3, (.int x3)), (4, (.int x6)), (5, (.int x5)), (6, (.int x6))] [1, 2, 3, 4, 0, 5, 6] (by decide) rfl C dX3_perform_103 ?_
    refine z_iconst (pc := 105) (0 : Int32) (by decide) C dX3_perform_105 ?_
    refine z_istore_n (pc := 106) [(0, (.ref (qT 0))), (1, (.ref (qP 0))), (2, (.int x2)), (3, (.int (0 : Int32))), (4, (.int x6)), (5, (.int x5)), (6, (.int x6))] [1, 2, 3, 0, 4, 5, 6] (by decide) rfl rfl C dX3_perform_106 ?_
    refine z_iinc (pc := 107) (x5 + 1) 5 rfl rfl [(0, (.ref (qT 0))), (1, (.ref (qP 0))), (2, (.int x2)), (3, (.int (0 : Int32))), (4, (.int x6)), (5, (.int (x5 + 1))), (6, (.int x6))] [1, 2, 3, 4, 5, 0, 6] (by decide) rfl C dX3_perform_107 ?_
    refine z_goto (pc := 110) 11 C dX3_perform_110 (by decide) ?_
    refine z_lv [(0, (.ref (qT 0))), (1, (.ref (qP 0))), (2, (.int x2)), (3, (.int (0 : Int32))), (4, (.int x6)), (5, (.int (x5 + 1)))] [0, 1, 2, 3, 4, 5] rfl ?_
    exact hk_11 _ _ _ _ _ _
def bX3_perform_11 (F : Nat) (kc_11 : (Int32 × Int32 × Int32 × Int32 × zOS × zOS) → Option (Int32 × zOS × zOS)) (x2 : Int32) (x3 : Int32) (x4 : Int32) (x5 : Int32) (sT : zOS) (sP : zOS) : Option (Int32 × zOS × zOS) := (if (zF sT 2) ≤ x5 then (some (x2, sT, sP)) else (zchk x5 150 (zlet (zI sT 1 x5.toNatClampNeg) (fun x6_1 : Int32 => (if x6_1 = (59 : Int32) then (Option.bind (fX3_performOne F x4 sT sP) (fun r_2 : Int32 × zOS => (if 0 ≤ r_2.1 then (kc_11 ((x2 + 1), x3, x4, (x5 + 1), sT, r_2.2)) else (some ((-1000 : Int32) - x2, sT, r_2.2))))) else (if x6_1 < (48 : Int32) then (jX3_perform_94 F kc_11 x2 x3 x4 x5 x6_1 sT sP) else (if (57 : Int32) < x6_1 then (jX3_perform_94 F kc_11 x2 x3 x4 x5 x6_1 sT sP) else (if (5 : Int32) ≤ x3 then (jX3_perform_94 F kc_11 x2 x3 x4 x5 x6_1 sT sP) else (zchk x3 5 (zlet (zsI sT 2 (upd (zI sT 2) x3.toNatClampNeg (x6_1 - (48 : Int32)))) (fun sT_4 : zOS => (kc_11 (x2, (x3 + 1), x4, (x5 + 1), sT_4, sP)))))))))))))
set_option maxRecDepth 20000 in
theorem vX3_perform_11 {X : zCx} {res : Int32 × zOS × zOS} {F : Nat} {qT : Nat → Nat} {qP : Nat → Nat} {kc_11 : (Int32 × Int32 × Int32 × Int32 × zOS × zOS) → Option (Int32 × zOS × zOS)} (C : zC X RX3 cX3_perform 7 5 115) (hR : zR X (some .int) (some (.int res.1)) [(3, qT, res.2.1), (2, qP, res.2.2)]) (hk_11 : ∀ (y2 : Int32) (y3 : Int32) (y4 : Int32) (y5 : Int32) (tT : zOS) (tP : zOS), zJ X 7 res (kc_11 (y2, y3, y4, y5, tT, tP)) 11 [(0, (.ref (qT 0))), (1, (.ref (qP 0))), (2, (.int y2)), (3, (.int y3)), (4, (.int y4)), (5, (.int y5))] [] [(3, qT, tT), (2, qP, tP)]) (x2 : Int32) (x3 : Int32) (x4 : Int32) (x5 : Int32) (sT : zOS) (sP : zOS) : zJ X 7 res (bX3_perform_11 F kc_11 x2 x3 x4 x5 sT sP) 11 [(0, (.ref (qT 0))), (1, (.ref (qP 0))), (2, (.int x2)), (3, (.int x3)), (4, (.int x4)), (5, (.int x5))] [] [(3, qT, sT), (2, qP, sP)] := by
  unfold bX3_perform_11
  refine z_iload (pc := 11) 5 rfl C dX3_perform_11 ?_
  refine z_aload_n (pc := 13) 0 rfl rfl C dX3_perform_13 ?_
  refine z_getI (pc := 14) 0 2 C dX3_perform_14 rfl (by decide) (by decide) rfl zw_247 ?_
  refine z_icmp_ge (pc := 17) 113 C dX3_perform_17 (by decide) ?_ ?_
  · refine z_iload_n (pc := 113) 2 rfl rfl C dX3_perform_113 ?_
    exact z_ireturn (pc := 114) C hR dX3_perform_114 (fun h => by subst h; exact ⟨rfl, rfl⟩)
  · refine z_aload_n (pc := 20) 0 rfl rfl C dX3_perform_20 ?_
    refine z_getR (pc := 21) 0 0 1 C dX3_perform_21 rfl (by decide) (by decide) rfl zw_245 ?_
    refine z_iload (pc := 24) 5 rfl C dX3_perform_24 ?_
    refine z_bald (pc := 26) 0 C dX3_perform_26 rfl (by unfold zAr; decide) ?_
    refine z_leti (fun x6_1 => ?_)
    refine z_istore (pc := 27) [(0, (.ref (qT 0))), (1, (.ref (qP 0))), (2, (.int x2)), (3, (.int x3)), (4, (.int x4)), (5, (.int x5)), (6, (.int x6_1))] [1, 2, 3, 4, 5, 6, 0] (by decide) rfl C dX3_perform_27 ?_
    refine z_iload (pc := 29) 6 rfl C dX3_perform_29 ?_
    refine z_bipush (pc := 31) (59 : Int32) (by decide) C dX3_perform_31 ?_
    refine z_icmp_ne (pc := 33) 58 C dX3_perform_33 (by decide) ?_ ?_
    · refine z_aload_n (pc := 36) 0 rfl rfl C dX3_perform_36 ?_
      refine z_aload_n (pc := 37) 1 rfl rfl C dX3_perform_37 ?_
      refine z_iload (pc := 38) 4 rfl C dX3_perform_38 ?_
      refine z_callV (pc := 40) (rf' := 4) (rl' := 92) (fX3_performOne F x4 sT sP) [(.ref (qP 0)), (.int x4)] [] [(3, qT, sT), (2, qP, sP)] (fun r_2 => (some (.int r_2.1))) (fun r_2 => [(3, qT, sT), (2, qP, r_2.2)]) [] (fun r_2 => [(3, qT, sT), (2, qP, r_2.2)]) C dX3_perform_40 zy_X3_performOne zw_667 (fun _ hr9 => mX3_performOne  hr9) (by decide) rfl rfl (by decide) rfl (Nat.le_of_ble_eq_true rfl) (List.Perm.refl _) (fun _ => List.Perm.refl _) rfl (fun r_2 hr_3 => ?_)
      show zJ X 7 res _ 43 [(0, (.ref (qT 0))), (1, (.ref (qP 0))), (2, (.int x2)), (3, (.int x3)), (4, (.int x4)), (5, (.int x5)), (6, (.int x6_1))] [(.int r_2.1)] [(3, qT, sT), (2, qP, r_2.2)]
      refine z_if_ge (pc := 43) 52 C dX3_perform_43 (by decide) ?_ ?_
      · refine z_iinc (pc := 52) (x2 + 1) 2 rfl rfl [(0, (.ref (qT 0))), (1, (.ref (qP 0))), (2, (.int (x2 + 1))), (3, (.int x3)), (4, (.int x4)), (5, (.int x5)), (6, (.int x6_1))] [1, 2, 0, 3, 4, 5, 6] (by decide) rfl C dX3_perform_52 ?_
        refine z_goto (pc := 55) 107 C dX3_perform_55 (by decide) ?_
        refine z_iinc (pc := 107) (x5 + 1) 5 rfl rfl [(0, (.ref (qT 0))), (1, (.ref (qP 0))), (2, (.int (x2 + 1))), (3, (.int x3)), (4, (.int x4)), (5, (.int (x5 + 1))), (6, (.int x6_1))] [1, 2, 3, 4, 5, 0, 6] (by decide) rfl C dX3_perform_107 ?_
        refine z_goto (pc := 110) 11 C dX3_perform_110 (by decide) ?_
        refine z_lv [(0, (.ref (qT 0))), (1, (.ref (qP 0))), (2, (.int (x2 + 1))), (3, (.int x3)), (4, (.int x4)), (5, (.int (x5 + 1)))] [0, 1, 2, 3, 4, 5] rfl ?_
        exact hk_11 _ _ _ _ _ _
      · refine z_sipush (pc := 46) (-1000 : Int32) (by decide) C dX3_perform_46 ?_
        refine z_iload_n (pc := 49) 2 rfl rfl C dX3_perform_49 ?_
        refine z_isub (pc := 50) C dX3_perform_50 ?_
        exact z_ireturn (pc := 51) C hR dX3_perform_51 (fun h => by subst h; exact ⟨rfl, rfl⟩)
    · refine z_iload (pc := 58) 6 rfl C dX3_perform_58 ?_
      refine z_bipush (pc := 60) (48 : Int32) (by decide) C dX3_perform_60 ?_
      refine z_icmp_lt (pc := 62) 94 C dX3_perform_62 (by decide) ?_ ?_
      · exact wX3_perform_94 C hR  hk_11 _ _ _ _ _ _ _
      · refine z_iload (pc := 65) 6 rfl C dX3_perform_65 ?_
        refine z_bipush (pc := 67) (57 : Int32) (by decide) C dX3_perform_67 ?_
        refine z_icmp_gt (pc := 69) 94 C dX3_perform_69 (by decide) ?_ ?_
        · exact wX3_perform_94 C hR  hk_11 _ _ _ _ _ _ _
        · refine z_iload_n (pc := 72) 3 rfl rfl C dX3_perform_72 ?_
          refine z_iconst (pc := 73) (5 : Int32) (by decide) C dX3_perform_73 ?_
          refine z_icmp_ge (pc := 74) 94 C dX3_perform_74 (by decide) ?_ ?_
          · exact wX3_perform_94 C hR  hk_11 _ _ _ _ _ _ _
          · refine z_aload_n (pc := 77) 0 rfl rfl C dX3_perform_77 ?_
            refine z_getR (pc := 78) 0 1 2 C dX3_perform_78 rfl (by decide) (by decide) rfl zw_246 ?_
            refine z_iload_n (pc := 81) 3 rfl rfl C dX3_perform_81 ?_
            refine z_iload (pc := 82) 6 rfl C dX3_perform_82 ?_
            refine z_bipush (pc := 84) (48 : Int32) (by decide) C dX3_perform_84 ?_
            refine z_isub (pc := 86) C dX3_perform_86 ?_
            refine z_iast (pc := 87) 0 C dX3_perform_87 rfl (by unfold zAr; decide) [(3, qT, (zsI sT 2 (upd (zI sT 2) x3.toNatClampNeg (x6_1 - (48 : Int32))))), (2, qP, sP)] rfl ?_
            refine z_letc (fun z9 => [(3, qT, z9), (2, qP, sP)]) (fun sT_4 => ?_)
            refine z_iinc (pc := 88) (x3 + 1) 3 rfl rfl [(0, (.ref (qT 0))), (1, (.ref (qP 0))), (2, (.int x2)), (3, (.int (x3 + 1))), (4, (.int x4)), (5, (.int x5)), (6, (.int x6_1))] [1, 2, 3, 0, 4, 5, 6] (by decide) rfl C dX3_perform_88 ?_
            refine z_goto (pc := 91) 107 C dX3_perform_91 (by decide) ?_
            refine z_iinc (pc := 107) (x5 + 1) 5 rfl rfl [(0, (.ref (qT 0))), (1, (.ref (qP 0))), (2, (.int x2)), (3, (.int (x3 + 1))), (4, (.int x4)), (5, (.int (x5 + 1))), (6, (.int x6_1))] [1, 2, 3, 4, 5, 0, 6] (by decide) rfl C dX3_perform_107 ?_
            refine z_goto (pc := 110) 11 C dX3_perform_110 (by decide) ?_
            refine z_lv [(0, (.ref (qT 0))), (1, (.ref (qP 0))), (2, (.int x2)), (3, (.int (x3 + 1))), (4, (.int x4)), (5, (.int (x5 + 1)))] [0, 1, 2, 3, 4, 5] rfl ?_
            exact hk_11 _ _ _ _ _ _
def fX3_perform (F : Nat) (sT : zOS) (sP : zOS) : Option (Int32 × zOS × zOS) := (zit (P := Int32 × Int32 × Int32 × Int32 × zOS × zOS) (R := Int32 × zOS × zOS) (fun kc9 p9 => bX3_perform_11 F kc9 p9.1 p9.2.1 p9.2.2.1 p9.2.2.2.1 p9.2.2.2.2.1 p9.2.2.2.2.2) F ((0 : Int32), (0 : Int32), (32 : Int32), (0 : Int32), sT, sP))
set_option maxRecDepth 20000 in
theorem wX3_perform {X : zCx} {res : Int32 × zOS × zOS} {F : Nat} {qT : Nat → Nat} {qP : Nat → Nat} {sT : zOS} {sP : zOS} (C : zC X RX3 cX3_perform 7 5 115) (hR : zR X (some .int) (some (.int res.1)) [(3, qT, res.2.1), (2, qP, res.2.2)])  : zJ X 7 res (fX3_perform F sT sP) 0 [(0, (.ref (qT 0))), (1, (.ref (qP 0)))] [] [(3, qT, sT), (2, qP, sP)] := by
  unfold fX3_perform
  refine z_iconst (pc := 0) (0 : Int32) (by decide) C dX3_perform_0 ?_
  refine z_istore_n (pc := 1) [(0, (.ref (qT 0))), (1, (.ref (qP 0))), (2, (.int (0 : Int32)))] [1, 2, 0] (by decide) rfl rfl C dX3_perform_1 ?_
  refine z_iconst (pc := 2) (0 : Int32) (by decide) C dX3_perform_2 ?_
  refine z_istore_n (pc := 3) [(0, (.ref (qT 0))), (1, (.ref (qP 0))), (2, (.int (0 : Int32))), (3, (.int (0 : Int32)))] [1, 2, 3, 0] (by decide) rfl rfl C dX3_perform_3 ?_
  refine z_bipush (pc := 4) (32 : Int32) (by decide) C dX3_perform_4 ?_
  refine z_istore (pc := 6) [(0, (.ref (qT 0))), (1, (.ref (qP 0))), (2, (.int (0 : Int32))), (3, (.int (0 : Int32))), (4, (.int (32 : Int32)))] [1, 2, 3, 4, 0] (by decide) rfl C dX3_perform_6 ?_
  refine z_iconst (pc := 8) (0 : Int32) (by decide) C dX3_perform_8 ?_
  refine z_istore (pc := 9) [(0, (.ref (qT 0))), (1, (.ref (qP 0))), (2, (.int (0 : Int32))), (3, (.int (0 : Int32))), (4, (.int (32 : Int32))), (5, (.int (0 : Int32)))] [1, 2, 3, 4, 5, 0] (by decide) rfl C dX3_perform_9 ?_
  exact zit_J (fun p9 => [(0, (.ref (qT 0))), (1, (.ref (qP 0))), (2, (.int p9.1)), (3, (.int p9.2.1)), (4, (.int p9.2.2.1)), (5, (.int p9.2.2.2.1))]) (fun p9 => [(3, qT, p9.2.2.2.2.1), (2, qP, p9.2.2.2.2.2)]) (fun kc9 hk9 p9 => vX3_perform_11 C hR   (fun a0 a1 a2 a3 a4 a5 => hk9 (a0, a1, a2, a3, a4, a5)) _ _ _ _ _ _) F _
theorem mX3_perform {F : Nat} {qT : Nat → Nat} {qP : Nat → Nat} {sT : zOS} {sP : zOS} {res : Int32 × zOS × zOS}  (hf : fX3_perform F sT sP = some res) : zM yX3_perform cX3_perform 7 (some .int) 5 115 [(.ref (qT 0)), (.ref (qP 0))] [(3, qT, sT), (2, qP, sP)] (some (.int res.1)) [(3, qT, res.2.1), (2, qP, res.2.2)] := zM_of (by decide +kernel) (Nat.le_of_ble_eq_true rfl) (fun X C hR => wX3_perform (F := F) C hR  hf)
end
section
theorem dX1_tie_0 : decode cX1_tie 0 = .ok (.aload_n 0, 1) := by decide +kernel
theorem dX1_tie_1 : decode cX1_tie 1 = .ok (.iload_n 1, 1) := by decide +kernel
theorem dX1_tie_2 : decode cX1_tie 2 = .ok (.iaload, 1) := by decide +kernel
theorem dX1_tie_3 : decode cX1_tie 3 = .ok (.iconst (-1), 1) := by decide +kernel
theorem dX1_tie_4 : decode cX1_tie 4 = .ok (.if_icmp .eq 16, 3) := by decide +kernel
theorem dX1_tie_7 : decode cX1_tie 7 = .ok (.aload_n 0, 1) := by decide +kernel
theorem dX1_tie_8 : decode cX1_tie 8 = .ok (.iload_n 1, 1) := by decide +kernel
theorem dX1_tie_9 : decode cX1_tie 9 = .ok (.iaload, 1) := by decide +kernel
theorem dX1_tie_10 : decode cX1_tie 10 = .ok (.iload_n 2, 1) := by decide +kernel
theorem dX1_tie_11 : decode cX1_tie 11 = .ok (.if_icmp .ne 7, 3) := by decide +kernel
theorem dX1_tie_14 : decode cX1_tie 14 = .ok (.iconst 1, 1) := by decide +kernel
theorem dX1_tie_15 : decode cX1_tie 15 = .ok (.goto 4, 3) := by decide +kernel
theorem dX1_tie_18 : decode cX1_tie 18 = .ok (.iconst 0, 1) := by decide +kernel
theorem dX1_tie_19 : decode cX1_tie 19 = .ok (.ireturn, 1) := by decide +kernel
theorem dX1_tie_20 : decode cX1_tie 20 = .ok (.iconst 0, 1) := by decide +kernel
theorem dX1_tie_21 : decode cX1_tie 21 = .ok (.istore_n 3, 1) := by decide +kernel
theorem dX1_tie_22 : decode cX1_tie 22 = .ok (.iload_n 3, 1) := by decide +kernel
theorem dX1_tie_23 : decode cX1_tie 23 = .ok (.bipush 10, 2) := by decide +kernel
theorem dX1_tie_25 : decode cX1_tie 25 = .ok (.if_icmp .ge 18, 3) := by decide +kernel
theorem dX1_tie_28 : decode cX1_tie 28 = .ok (.aload_n 0, 1) := by decide +kernel
theorem dX1_tie_29 : decode cX1_tie 29 = .ok (.iload_n 3, 1) := by decide +kernel
theorem dX1_tie_30 : decode cX1_tie 30 = .ok (.iaload, 1) := by decide +kernel
theorem dX1_tie_31 : decode cX1_tie 31 = .ok (.iload_n 2, 1) := by decide +kernel
theorem dX1_tie_32 : decode cX1_tie 32 = .ok (.if_icmp .ne 5, 3) := by decide +kernel
theorem dX1_tie_35 : decode cX1_tie 35 = .ok (.iconst 0, 1) := by decide +kernel
theorem dX1_tie_36 : decode cX1_tie 36 = .ok (.ireturn, 1) := by decide +kernel
theorem dX1_tie_37 : decode cX1_tie 37 = .ok (.iinc 3 1, 3) := by decide +kernel
theorem dX1_tie_40 : decode cX1_tie 40 = .ok (.goto (-18), 3) := by decide +kernel
theorem dX1_tie_43 : decode cX1_tie 43 = .ok (.aload_n 0, 1) := by decide +kernel
theorem dX1_tie_44 : decode cX1_tie 44 = .ok (.iload_n 1, 1) := by decide +kernel
theorem dX1_tie_45 : decode cX1_tie 45 = .ok (.iload_n 2, 1) := by decide +kernel
theorem dX1_tie_46 : decode cX1_tie 46 = .ok (.iastore, 1) := by decide +kernel
theorem dX1_tie_47 : decode cX1_tie 47 = .ok (.iconst 1, 1) := by decide +kernel
theorem dX1_tie_48 : decode cX1_tie 48 = .ok (.ireturn, 1) := by decide +kernel
def bX1_tie_22 (F : Nat) (k0 : Nat) (x1 : Int32) (x2 : Int32) (sM : zOS) (kc_22 : Int32 → Option (Int32 × zOS)) (x3 : Int32) : Option (Int32 × zOS) := (if (10 : Int32) ≤ x3 then (zchk x1 10 (zlet (zsI sM k0 (upd (zI sM k0) x1.toNatClampNeg x2)) (fun sM_1 : zOS => (zbk (1 : Int32) (some ((1 : Int32), sM_1)))))) else (zchk x3 10 (if (zI sM k0 x3.toNatClampNeg) = x2 then (zbk (0 : Int32) (some ((0 : Int32), sM))) else (kc_22 (x3 + 1)))))
set_option maxRecDepth 20000 in
theorem vX1_tie_22 {X : zCx} {res : Int32 × zOS} {F : Nat} {qM : Nat → Nat} {sM : zOS} {k0 : Nat} {x1 : Int32} {x2 : Int32} {kc_22 : Int32 → Option (Int32 × zOS)} (C : zC X RX1 cX1_tie 4 0 0) (hR : zR X (some .boolean) (some (.int res.1)) [(1, qM, res.2)]) (ha0 : zAr 1 k0 0 10) (hk_22 : ∀ (y3 : Int32), zJ X 4 res (kc_22 y3) 22 [(0, (.ref (qM k0))), (1, (.int x1)), (2, (.int x2)), (3, (.int y3))] [] [(1, qM, sM)]) (x3 : Int32) : zJ X 4 res (bX1_tie_22 F k0 x1 x2 sM kc_22 x3) 22 [(0, (.ref (qM k0))), (1, (.int x1)), (2, (.int x2)), (3, (.int x3))] [] [(1, qM, sM)] := by
  unfold bX1_tie_22
  refine z_iload_n (pc := 22) 3 rfl rfl C dX1_tie_22 ?_
  refine z_bipush (pc := 23) (10 : Int32) (by decide) C dX1_tie_23 ?_
  refine z_icmp_ge (pc := 25) 43 C dX1_tie_25 (by decide) ?_ ?_
  · refine z_aload_n (pc := 43) 0 rfl rfl C dX1_tie_43 ?_
    refine z_iload_n (pc := 44) 1 rfl rfl C dX1_tie_44 ?_
    refine z_iload_n (pc := 45) 2 rfl rfl C dX1_tie_45 ?_
    refine z_iast (pc := 46) 0 C dX1_tie_46 rfl ha0 [(1, qM, (zsI sM k0 (upd (zI sM k0) x1.toNatClampNeg x2)))] rfl ?_
    refine z_letc (fun z9 => [(1, qM, z9)]) (fun sM_1 => ?_)
    refine z_iconst (pc := 47) (1 : Int32) (by decide) C dX1_tie_47 ?_
    exact z_zreturn (pc := 48) C hR dX1_tie_48 (fun h => by subst h; exact ⟨rfl, rfl⟩)
  · refine z_aload_n (pc := 28) 0 rfl rfl C dX1_tie_28 ?_
    refine z_iload_n (pc := 29) 3 rfl rfl C dX1_tie_29 ?_
    refine z_iald (pc := 30) 0 C dX1_tie_30 rfl ha0 ?_
    refine z_iload_n (pc := 31) 2 rfl rfl C dX1_tie_31 ?_
    refine z_icmp_ne (pc := 32) 37 C dX1_tie_32 (by decide) ?_ ?_
    · refine z_iconst (pc := 35) (0 : Int32) (by decide) C dX1_tie_35 ?_
      exact z_zreturn (pc := 36) C hR dX1_tie_36 (fun h => by subst h; exact ⟨rfl, rfl⟩)
    · refine z_iinc (pc := 37) (x3 + 1) 3 rfl rfl [(0, (.ref (qM k0))), (1, (.int x1)), (2, (.int x2)), (3, (.int (x3 + 1)))] [1, 2, 3, 0] (by decide) rfl C dX1_tie_37 ?_
      refine z_goto (pc := 40) 22 C dX1_tie_40 (by decide) ?_
      exact hk_22 _
def fX1_tie (F : Nat) (k0 : Nat) (x1 : Int32) (x2 : Int32) (sM : zOS) : Option (Int32 × zOS) := (zchk x1 10 (if (zI sM k0 x1.toNatClampNeg) = (-1 : Int32) then (zit (P := Int32) (R := Int32 × zOS) (fun kc9 p9 => bX1_tie_22 F k0 x1 x2 sM kc9 p9) F (0 : Int32)) else (zchk x1 10 (if (zI sM k0 x1.toNatClampNeg) = x2 then (zbk (1 : Int32) (some ((1 : Int32), sM))) else (zbk (0 : Int32) (some ((0 : Int32), sM)))))))
set_option maxRecDepth 20000 in
theorem wX1_tie {X : zCx} {res : Int32 × zOS} {F : Nat} {qM : Nat → Nat} {k0 : Nat} {x1 : Int32} {x2 : Int32} {sM : zOS} (C : zC X RX1 cX1_tie 4 0 0) (hR : zR X (some .boolean) (some (.int res.1)) [(1, qM, res.2)]) (ha0 : zAr 1 k0 0 10) : zJ X 4 res (fX1_tie F k0 x1 x2 sM) 0 [(0, (.ref (qM k0))), (1, (.int x1)), (2, (.int x2))] [] [(1, qM, sM)] := by
  unfold fX1_tie
  refine z_aload_n (pc := 0) 0 rfl rfl C dX1_tie_0 ?_
  refine z_iload_n (pc := 1) 1 rfl rfl C dX1_tie_1 ?_
  refine z_iald (pc := 2) 0 C dX1_tie_2 rfl ha0 ?_
  refine z_iconst (pc := 3) (-1 : Int32) (by decide) C dX1_tie_3 ?_
  refine z_icmp_eq (pc := 4) 20 C dX1_tie_4 (by decide) ?_ ?_
  · refine z_iconst (pc := 20) (0 : Int32) (by decide) C dX1_tie_20 ?_
    refine z_istore_n (pc := 21) [(0, (.ref (qM k0))), (1, (.int x1)), (2, (.int x2)), (3, (.int (0 : Int32)))] [1, 2, 3, 0] (by decide) rfl rfl C dX1_tie_21 ?_
    exact zit_J (fun p9 => [(0, (.ref (qM k0))), (1, (.int x1)), (2, (.int x2)), (3, (.int p9))]) (fun p9 => [(1, qM, sM)]) (fun kc9 hk9 p9 => vX1_tie_22 C hR ha0  (fun a0 => hk9 a0) _) F _
  · refine z_aload_n (pc := 7) 0 rfl rfl C dX1_tie_7 ?_
    refine z_iload_n (pc := 8) 1 rfl rfl C dX1_tie_8 ?_
    refine z_iald (pc := 9) 0 C dX1_tie_9 rfl ha0 ?_
    refine z_iload_n (pc := 10) 2 rfl rfl C dX1_tie_10 ?_
    refine z_icmp_ne (pc := 11) 18 C dX1_tie_11 (by decide) ?_ ?_
    · refine z_iconst (pc := 14) (1 : Int32) (by decide) C dX1_tie_14 ?_
      refine z_goto (pc := 15) 19 C dX1_tie_15 (by decide) ?_
      exact z_zreturn (pc := 19) C hR dX1_tie_19 (fun h => by subst h; exact ⟨rfl, rfl⟩)
    · refine z_iconst (pc := 18) (0 : Int32) (by decide) C dX1_tie_18 ?_
      exact z_zreturn (pc := 19) C hR dX1_tie_19 (fun h => by subst h; exact ⟨rfl, rfl⟩)
theorem mX1_tie {F : Nat} {qM : Nat → Nat} {k0 : Nat} {x1 : Int32} {x2 : Int32} {sM : zOS} {res : Int32 × zOS} (ha0 : zAr 1 k0 0 10) (hf : fX1_tie F k0 x1 x2 sM = some res) : zM yX1_tie cX1_tie 4 (some .boolean) 0 0 [(.ref (qM k0)), (.int x1), (.int x2)] [(1, qM, sM)] (some (.int res.1)) [(1, qM, res.2)] := zM_of (by decide +kernel) (Nat.le_of_ble_eq_true rfl) (fun X C hR => wX1_tie (F := F) C hR ha0 hf)
theorem dX1_isBeforeFirst_0 : decode cX1_isBeforeFirst 0 = .ok (.iconst 0, 1) := by decide +kernel
theorem dX1_isBeforeFirst_1 : decode cX1_isBeforeFirst 1 = .ok (.istore_n 2, 1) := by decide +kernel
theorem dX1_isBeforeFirst_2 : decode cX1_isBeforeFirst 2 = .ok (.iload_n 2, 1) := by decide +kernel
theorem dX1_isBeforeFirst_3 : decode cX1_isBeforeFirst 3 = .ok (.aload_n 0, 1) := by decide +kernel
theorem dX1_isBeforeFirst_4 : decode cX1_isBeforeFirst 4 = .ok (.getfield 39, 3) := by decide +kernel
theorem dX1_isBeforeFirst_7 : decode cX1_isBeforeFirst 7 = .ok (.getfield 75, 3) := by decide +kernel
theorem dX1_isBeforeFirst_10 : decode cX1_isBeforeFirst 10 = .ok (.if_icmp .ge 45, 3) := by decide +kernel
theorem dX1_isBeforeFirst_13 : decode cX1_isBeforeFirst 13 = .ok (.aload_n 0, 1) := by decide +kernel
theorem dX1_isBeforeFirst_14 : decode cX1_isBeforeFirst 14 = .ok (.getfield 15, 3) := by decide +kernel
theorem dX1_isBeforeFirst_17 : decode cX1_isBeforeFirst 17 = .ok (.iload_n 2, 1) := by decide +kernel
theorem dX1_isBeforeFirst_18 : decode cX1_isBeforeFirst 18 = .ok (.iaload, 1) := by decide +kernel
theorem dX1_isBeforeFirst_19 : decode cX1_isBeforeFirst 19 = .ok (.aload_n 0, 1) := by decide +kernel
theorem dX1_isBeforeFirst_20 : decode cX1_isBeforeFirst 20 = .ok (.getfield 27, 3) := by decide +kernel
theorem dX1_isBeforeFirst_23 : decode cX1_isBeforeFirst 23 = .ok (.iload_n 2, 1) := by decide +kernel
theorem dX1_isBeforeFirst_24 : decode cX1_isBeforeFirst 24 = .ok (.iaload, 1) := by decide +kernel
theorem dX1_isBeforeFirst_25 : decode cX1_isBeforeFirst 25 = .ok (.if_icmp .eq 24, 3) := by decide +kernel
theorem dX1_isBeforeFirst_28 : decode cX1_isBeforeFirst 28 = .ok (.aload_n 0, 1) := by decide +kernel
theorem dX1_isBeforeFirst_29 : decode cX1_isBeforeFirst 29 = .ok (.getfield 15, 3) := by decide +kernel
theorem dX1_isBeforeFirst_32 : decode cX1_isBeforeFirst 32 = .ok (.iload_n 2, 1) := by decide +kernel
theorem dX1_isBeforeFirst_33 : decode cX1_isBeforeFirst 33 = .ok (.iaload, 1) := by decide +kernel
theorem dX1_isBeforeFirst_34 : decode cX1_isBeforeFirst 34 = .ok (.aload_n 0, 1) := by decide +kernel
theorem dX1_isBeforeFirst_35 : decode cX1_isBeforeFirst 35 = .ok (.getfield 27, 3) := by decide +kernel
theorem dX1_isBeforeFirst_38 : decode cX1_isBeforeFirst 38 = .ok (.iload_n 2, 1) := by decide +kernel
theorem dX1_isBeforeFirst_39 : decode cX1_isBeforeFirst 39 = .ok (.iaload, 1) := by decide +kernel
theorem dX1_isBeforeFirst_40 : decode cX1_isBeforeFirst 40 = .ok (.if_icmp .ge 7, 3) := by decide +kernel
theorem dX1_isBeforeFirst_43 : decode cX1_isBeforeFirst 43 = .ok (.iconst 1, 1) := by decide +kernel
theorem dX1_isBeforeFirst_44 : decode cX1_isBeforeFirst 44 = .ok (.goto 4, 3) := by decide +kernel
theorem dX1_isBeforeFirst_47 : decode cX1_isBeforeFirst 47 = .ok (.iconst 0, 1) := by decide +kernel
theorem dX1_isBeforeFirst_48 : decode cX1_isBeforeFirst 48 = .ok (.ireturn, 1) := by decide +kernel
theorem dX1_isBeforeFirst_49 : decode cX1_isBeforeFirst 49 = .ok (.iinc 2 1, 3) := by decide +kernel
theorem dX1_isBeforeFirst_52 : decode cX1_isBeforeFirst 52 = .ok (.goto (-50), 3) := by decide +kernel
theorem dX1_isBeforeFirst_55 : decode cX1_isBeforeFirst 55 = .ok (.iconst 0, 1) := by decide +kernel
theorem dX1_isBeforeFirst_56 : decode cX1_isBeforeFirst 56 = .ok (.istore_n 2, 1) := by decide +kernel
theorem dX1_isBeforeFirst_57 : decode cX1_isBeforeFirst 57 = .ok (.iload_n 2, 1) := by decide +kernel
theorem dX1_isBeforeFirst_58 : decode cX1_isBeforeFirst 58 = .ok (.bipush 10, 2) := by decide +kernel
theorem dX1_isBeforeFirst_60 : decode cX1_isBeforeFirst 60 = .ok (.if_icmp .ge 39, 3) := by decide +kernel
theorem dX1_isBeforeFirst_63 : decode cX1_isBeforeFirst 63 = .ok (.aload_n 1, 1) := by decide +kernel
theorem dX1_isBeforeFirst_64 : decode cX1_isBeforeFirst 64 = .ok (.iload_n 2, 1) := by decide +kernel
theorem dX1_isBeforeFirst_65 : decode cX1_isBeforeFirst 65 = .ok (.iaload, 1) := by decide +kernel
theorem dX1_isBeforeFirst_66 : decode cX1_isBeforeFirst 66 = .ok (.aload_n 0, 1) := by decide +kernel
theorem dX1_isBeforeFirst_67 : decode cX1_isBeforeFirst 67 = .ok (.getfield 30, 3) := by decide +kernel
theorem dX1_isBeforeFirst_70 : decode cX1_isBeforeFirst 70 = .ok (.iload_n 2, 1) := by decide +kernel
theorem dX1_isBeforeFirst_71 : decode cX1_isBeforeFirst 71 = .ok (.iaload, 1) := by decide +kernel
theorem dX1_isBeforeFirst_72 : decode cX1_isBeforeFirst 72 = .ok (.if_icmp .eq 21, 3) := by decide +kernel
theorem dX1_isBeforeFirst_75 : decode cX1_isBeforeFirst 75 = .ok (.aload_n 1, 1) := by decide +kernel
theorem dX1_isBeforeFirst_76 : decode cX1_isBeforeFirst 76 = .ok (.iload_n 2, 1) := by decide +kernel
theorem dX1_isBeforeFirst_77 : decode cX1_isBeforeFirst 77 = .ok (.iaload, 1) := by decide +kernel
theorem dX1_isBeforeFirst_78 : decode cX1_isBeforeFirst 78 = .ok (.aload_n 0, 1) := by decide +kernel
theorem dX1_isBeforeFirst_79 : decode cX1_isBeforeFirst 79 = .ok (.getfield 30, 3) := by decide +kernel
theorem dX1_isBeforeFirst_82 : decode cX1_isBeforeFirst 82 = .ok (.iload_n 2, 1) := by decide +kernel
theorem dX1_isBeforeFirst_83 : decode cX1_isBeforeFirst 83 = .ok (.iaload, 1) := by decide +kernel
theorem dX1_isBeforeFirst_84 : decode cX1_isBeforeFirst 84 = .ok (.if_icmp .ge 7, 3) := by decide +kernel
theorem dX1_isBeforeFirst_87 : decode cX1_isBeforeFirst 87 = .ok (.iconst 1, 1) := by decide +kernel
theorem dX1_isBeforeFirst_88 : decode cX1_isBeforeFirst 88 = .ok (.goto 4, 3) := by decide +kernel
theorem dX1_isBeforeFirst_91 : decode cX1_isBeforeFirst 91 = .ok (.iconst 0, 1) := by decide +kernel
theorem dX1_isBeforeFirst_92 : decode cX1_isBeforeFirst 92 = .ok (.ireturn, 1) := by decide +kernel
theorem dX1_isBeforeFirst_93 : decode cX1_isBeforeFirst 93 = .ok (.iinc 2 1, 3) := by decide +kernel
theorem dX1_isBeforeFirst_96 : decode cX1_isBeforeFirst 96 = .ok (.goto (-39), 3) := by decide +kernel
theorem dX1_isBeforeFirst_99 : decode cX1_isBeforeFirst 99 = .ok (.iconst 0, 1) := by decide +kernel
theorem dX1_isBeforeFirst_100 : decode cX1_isBeforeFirst 100 = .ok (.ireturn, 1) := by decide +kernel
def bX1_isBeforeFirst_57 (F : Nat) (k1 : Nat) (sM : zOS) (kc_57 : Int32 → Option (Int32)) (x2 : Int32) : Option (Int32) := (if (10 : Int32) ≤ x2 then (zbk (0 : Int32) (some ((0 : Int32)))) else (zchk x2 10 (zchk x2 10 (if (zI sM k1 x2.toNatClampNeg) = (zI sM 5 x2.toNatClampNeg) then (kc_57 (x2 + 1)) else (zchk x2 10 (zchk x2 10 (if (zI sM 5 x2.toNatClampNeg) ≤ (zI sM k1 x2.toNatClampNeg) then (zbk (0 : Int32) (some ((0 : Int32)))) else (zbk (1 : Int32) (some ((1 : Int32)))))))))))
set_option maxRecDepth 20000 in
theorem vX1_isBeforeFirst_57 {X : zCx} {res : Int32} {F : Nat} {qM : Nat → Nat} {qP : Nat → Nat} {sM : zOS} {sP : zOS} {k1 : Nat} {kc_57 : Int32 → Option (Int32)} (C : zC X RX1 cX1_isBeforeFirst 3 0 0) (hR : zR X (some .boolean) (some (.int res)) [(1, qM, sM), (2, qP, sP)]) (hM50 : qM 50 = qP 0) (ha1 : zAr 1 k1 0 10) (hk_57 : ∀ (y2 : Int32), zJ X 3 res (kc_57 y2) 57 [(0, (.ref (qM 0))), (1, (.ref (qM k1))), (2, (.int y2))] [] [(1, qM, sM), (2, qP, sP)]) (x2 : Int32) : zJ X 3 res (bX1_isBeforeFirst_57 F k1 sM kc_57 x2) 57 [(0, (.ref (qM 0))), (1, (.ref (qM k1))), (2, (.int x2))] [] [(1, qM, sM), (2, qP, sP)] := by
  unfold bX1_isBeforeFirst_57
  refine z_iload_n (pc := 57) 2 rfl rfl C dX1_isBeforeFirst_57 ?_
  refine z_bipush (pc := 58) (10 : Int32) (by decide) C dX1_isBeforeFirst_58 ?_
  refine z_icmp_ge (pc := 60) 99 C dX1_isBeforeFirst_60 (by decide) ?_ ?_
  · refine z_iconst (pc := 99) (0 : Int32) (by decide) C dX1_isBeforeFirst_99 ?_
    exact z_zreturn (pc := 100) C hR dX1_isBeforeFirst_100 (fun h => by subst h; exact ⟨rfl, rfl⟩)
  · refine z_aload_n (pc := 63) 1 rfl rfl C dX1_isBeforeFirst_63 ?_
    refine z_iload_n (pc := 64) 2 rfl rfl C dX1_isBeforeFirst_64 ?_
    refine z_iald (pc := 65) 0 C dX1_isBeforeFirst_65 rfl ha1 ?_
    refine z_aload_n (pc := 66) 0 rfl rfl C dX1_isBeforeFirst_66 ?_
    refine z_getR (pc := 67) 0 7 5 C dX1_isBeforeFirst_67 rfl (by decide) (by decide) rfl zw_212 ?_
    refine z_iload_n (pc := 70) 2 rfl rfl C dX1_isBeforeFirst_70 ?_
    refine z_iald (pc := 71) 0 C dX1_isBeforeFirst_71 rfl (by unfold zAr; decide) ?_
    refine z_icmp_eq (pc := 72) 93 C dX1_isBeforeFirst_72 (by decide) ?_ ?_
    · refine z_iinc (pc := 93) (x2 + 1) 2 rfl rfl [(0, (.ref (qM 0))), (1, (.ref (qM k1))), (2, (.int (x2 + 1)))] [1, 2, 0] (by decide) rfl C dX1_isBeforeFirst_93 ?_
      refine z_goto (pc := 96) 57 C dX1_isBeforeFirst_96 (by decide) ?_
      exact hk_57 _
    · refine z_aload_n (pc := 75) 1 rfl rfl C dX1_isBeforeFirst_75 ?_
      refine z_iload_n (pc := 76) 2 rfl rfl C dX1_isBeforeFirst_76 ?_
      refine z_iald (pc := 77) 0 C dX1_isBeforeFirst_77 rfl ha1 ?_
      refine z_aload_n (pc := 78) 0 rfl rfl C dX1_isBeforeFirst_78 ?_
      refine z_getR (pc := 79) 0 7 5 C dX1_isBeforeFirst_79 rfl (by decide) (by decide) rfl zw_212 ?_
      refine z_iload_n (pc := 82) 2 rfl rfl C dX1_isBeforeFirst_82 ?_
      refine z_iald (pc := 83) 0 C dX1_isBeforeFirst_83 rfl (by unfold zAr; decide) ?_
      refine z_icmp_ge (pc := 84) 91 C dX1_isBeforeFirst_84 (by decide) ?_ ?_
      · refine z_iconst (pc := 91) (0 : Int32) (by decide) C dX1_isBeforeFirst_91 ?_
        exact z_zreturn (pc := 92) C hR dX1_isBeforeFirst_92 (fun h => by subst h; exact ⟨rfl, rfl⟩)
      · refine z_iconst (pc := 87) (1 : Int32) (by decide) C dX1_isBeforeFirst_87 ?_
        refine z_goto (pc := 88) 92 C dX1_isBeforeFirst_88 (by decide) ?_
        exact z_zreturn (pc := 92) C hR dX1_isBeforeFirst_92 (fun h => by subst h; exact ⟨rfl, rfl⟩)
def bX1_isBeforeFirst_2 (F : Nat) (k1 : Nat) (sM : zOS) (sP : zOS) (kc_2 : Int32 → Option (Int32)) (x2 : Int32) : Option (Int32) := (if (zF sP 3) ≤ x2 then (zit (P := Int32) (R := Int32) (fun kc9 p9 => bX1_isBeforeFirst_57 F k1 sM kc9 p9) F (0 : Int32)) else (zchk x2 6 (zchk x2 6 (if (zI sM 2 x2.toNatClampNeg) = (zI sM 4 x2.toNatClampNeg) then (kc_2 (x2 + 1)) else (zchk x2 6 (zchk x2 6 (if (zI sM 4 x2.toNatClampNeg) ≤ (zI sM 2 x2.toNatClampNeg) then (zbk (0 : Int32) (some ((0 : Int32)))) else (zbk (1 : Int32) (some ((1 : Int32)))))))))))
set_option maxRecDepth 20000 in
theorem vX1_isBeforeFirst_2 {X : zCx} {res : Int32} {F : Nat} {qM : Nat → Nat} {qP : Nat → Nat} {sM : zOS} {sP : zOS} {k1 : Nat} {kc_2 : Int32 → Option (Int32)} (C : zC X RX1 cX1_isBeforeFirst 3 0 0) (hR : zR X (some .boolean) (some (.int res)) [(1, qM, sM), (2, qP, sP)]) (hM50 : qM 50 = qP 0) (ha1 : zAr 1 k1 0 10) (hk_2 : ∀ (y2 : Int32), zJ X 3 res (kc_2 y2) 2 [(0, (.ref (qM 0))), (1, (.ref (qM k1))), (2, (.int y2))] [] [(1, qM, sM), (2, qP, sP)]) (x2 : Int32) : zJ X 3 res (bX1_isBeforeFirst_2 F k1 sM sP kc_2 x2) 2 [(0, (.ref (qM 0))), (1, (.ref (qM k1))), (2, (.int x2))] [] [(1, qM, sM), (2, qP, sP)] := by
  unfold bX1_isBeforeFirst_2
  refine z_iload_n (pc := 2) 2 rfl rfl C dX1_isBeforeFirst_2 ?_
  refine z_aload_n (pc := 3) 0 rfl rfl C dX1_isBeforeFirst_3 ?_
  refine z_getE (pc := 4) 0 0 50 (qP 0) hM50 C dX1_isBeforeFirst_4 rfl (by decide) (by decide) rfl zw_204 ?_
  refine z_getI (pc := 7) 1 3 C dX1_isBeforeFirst_7 rfl (by decide) (by decide) rfl zw_110 ?_
  refine z_icmp_ge (pc := 10) 55 C dX1_isBeforeFirst_10 (by decide) ?_ ?_
  · refine z_iconst (pc := 55) (0 : Int32) (by decide) C dX1_isBeforeFirst_55 ?_
    refine z_istore_n (pc := 56) [(0, (.ref (qM 0))), (1, (.ref (qM k1))), (2, (.int (0 : Int32)))] [1, 2, 0] (by decide) rfl rfl C dX1_isBeforeFirst_56 ?_
    exact zit_J (fun p9 => [(0, (.ref (qM 0))), (1, (.ref (qM k1))), (2, (.int p9))]) (fun p9 => [(1, qM, sM), (2, qP, sP)]) (fun kc9 hk9 p9 => vX1_isBeforeFirst_57 C hR hM50 ha1  (fun a0 => hk9 a0) _) F _
  · refine z_aload_n (pc := 13) 0 rfl rfl C dX1_isBeforeFirst_13 ?_
    refine z_getR (pc := 14) 0 3 2 C dX1_isBeforeFirst_14 rfl (by decide) (by decide) rfl zw_207 ?_
    refine z_iload_n (pc := 17) 2 rfl rfl C dX1_isBeforeFirst_17 ?_
    refine z_iald (pc := 18) 0 C dX1_isBeforeFirst_18 rfl (by unfold zAr; decide) ?_
    refine z_aload_n (pc := 19) 0 rfl rfl C dX1_isBeforeFirst_19 ?_
    refine z_getR (pc := 20) 0 6 4 C dX1_isBeforeFirst_20 rfl (by decide) (by decide) rfl zw_210 ?_
    refine z_iload_n (pc := 23) 2 rfl rfl C dX1_isBeforeFirst_23 ?_
    refine z_iald (pc := 24) 0 C dX1_isBeforeFirst_24 rfl (by unfold zAr; decide) ?_
    refine z_icmp_eq (pc := 25) 49 C dX1_isBeforeFirst_25 (by decide) ?_ ?_
    · refine z_iinc (pc := 49) (x2 + 1) 2 rfl rfl [(0, (.ref (qM 0))), (1, (.ref (qM k1))), (2, (.int (x2 + 1)))] [1, 2, 0] (by decide) rfl C dX1_isBeforeFirst_49 ?_
      refine z_goto (pc := 52) 2 C dX1_isBeforeFirst_52 (by decide) ?_
      exact hk_2 _
    · refine z_aload_n (pc := 28) 0 rfl rfl C dX1_isBeforeFirst_28 ?_
      refine z_getR (pc := 29) 0 3 2 C dX1_isBeforeFirst_29 rfl (by decide) (by decide) rfl zw_207 ?_
      refine z_iload_n (pc := 32) 2 rfl rfl C dX1_isBeforeFirst_32 ?_
      refine z_iald (pc := 33) 0 C dX1_isBeforeFirst_33 rfl (by unfold zAr; decide) ?_
      refine z_aload_n (pc := 34) 0 rfl rfl C dX1_isBeforeFirst_34 ?_
      refine z_getR (pc := 35) 0 6 4 C dX1_isBeforeFirst_35 rfl (by decide) (by decide) rfl zw_210 ?_
      refine z_iload_n (pc := 38) 2 rfl rfl C dX1_isBeforeFirst_38 ?_
      refine z_iald (pc := 39) 0 C dX1_isBeforeFirst_39 rfl (by unfold zAr; decide) ?_
      refine z_icmp_ge (pc := 40) 47 C dX1_isBeforeFirst_40 (by decide) ?_ ?_
      · refine z_iconst (pc := 47) (0 : Int32) (by decide) C dX1_isBeforeFirst_47 ?_
        exact z_zreturn (pc := 48) C hR dX1_isBeforeFirst_48 (fun h => by subst h; exact ⟨rfl, rfl⟩)
      · refine z_iconst (pc := 43) (1 : Int32) (by decide) C dX1_isBeforeFirst_43 ?_
        refine z_goto (pc := 44) 48 C dX1_isBeforeFirst_44 (by decide) ?_
        exact z_zreturn (pc := 48) C hR dX1_isBeforeFirst_48 (fun h => by subst h; exact ⟨rfl, rfl⟩)
def fX1_isBeforeFirst (F : Nat) (k1 : Nat) (sM : zOS) (sP : zOS) : Option (Int32) := (zit (P := Int32) (R := Int32) (fun kc9 p9 => bX1_isBeforeFirst_2 F k1 sM sP kc9 p9) F (0 : Int32))
set_option maxRecDepth 20000 in
theorem wX1_isBeforeFirst {X : zCx} {res : Int32} {F : Nat} {qM : Nat → Nat} {qP : Nat → Nat} {k1 : Nat} {sM : zOS} {sP : zOS} (C : zC X RX1 cX1_isBeforeFirst 3 0 0) (hR : zR X (some .boolean) (some (.int res)) [(1, qM, sM), (2, qP, sP)]) (hM50 : qM 50 = qP 0) (ha1 : zAr 1 k1 0 10) : zJ X 3 res (fX1_isBeforeFirst F k1 sM sP) 0 [(0, (.ref (qM 0))), (1, (.ref (qM k1)))] [] [(1, qM, sM), (2, qP, sP)] := by
  unfold fX1_isBeforeFirst
  refine z_iconst (pc := 0) (0 : Int32) (by decide) C dX1_isBeforeFirst_0 ?_
  refine z_istore_n (pc := 1) [(0, (.ref (qM 0))), (1, (.ref (qM k1))), (2, (.int (0 : Int32)))] [1, 2, 0] (by decide) rfl rfl C dX1_isBeforeFirst_1 ?_
  exact zit_J (fun p9 => [(0, (.ref (qM 0))), (1, (.ref (qM k1))), (2, (.int p9))]) (fun p9 => [(1, qM, sM), (2, qP, sP)]) (fun kc9 hk9 p9 => vX1_isBeforeFirst_2 C hR hM50 ha1  (fun a0 => hk9 a0) _) F _
theorem mX1_isBeforeFirst {F : Nat} {qM : Nat → Nat} {qP : Nat → Nat} {k1 : Nat} {sM : zOS} {sP : zOS} {res : Int32} (hM50 : qM 50 = qP 0) (ha1 : zAr 1 k1 0 10) (hf : fX1_isBeforeFirst F k1 sM sP = some res) : zM yX1_isBeforeFirst cX1_isBeforeFirst 3 (some .boolean) 0 0 [(.ref (qM 0)), (.ref (qM k1))] [(1, qM, sM), (2, qP, sP)] (some (.int res)) [(1, qM, sM), (2, qP, sP)] := zM_of (by decide +kernel) (Nat.le_of_ble_eq_true rfl) (fun X C hR => wX1_isBeforeFirst (F := F) C hR hM50 ha1 hf)
theorem dX1_record_0 : decode cX1_record 0 = .ok (.aload_n 0, 1) := by decide +kernel
theorem dX1_record_1 : decode cX1_record 1 = .ok (.getfield 33, 3) := by decide +kernel
theorem dX1_record_4 : decode cX1_record 4 = .ok (.ifCond .eq 11, 3) := by decide +kernel
theorem dX1_record_7 : decode cX1_record 7 = .ok (.aload_n 0, 1) := by decide +kernel
theorem dX1_record_8 : decode cX1_record 8 = .ok (.aload_n 1, 1) := by decide +kernel
theorem dX1_record_9 : decode cX1_record 9 = .ok (.invokevirtual 145, 3) := by decide +kernel
theorem dX1_record_12 : decode cX1_record 12 = .ok (.ifCond .eq 30, 3) := by decide +kernel
theorem dX1_record_15 : decode cX1_record 15 = .ok (.aload_n 0, 1) := by decide +kernel
theorem dX1_record_16 : decode cX1_record 16 = .ok (.getfield 15, 3) := by decide +kernel
theorem dX1_record_19 : decode cX1_record 19 = .ok (.iconst 0, 1) := by decide +kernel
theorem dX1_record_20 : decode cX1_record 20 = .ok (.aload_n 0, 1) := by decide +kernel
theorem dX1_record_21 : decode cX1_record 21 = .ok (.getfield 27, 3) := by decide +kernel
theorem dX1_record_24 : decode cX1_record 24 = .ok (.iconst 0, 1) := by decide +kernel
theorem dX1_record_25 : decode cX1_record 25 = .ok (.bipush 6, 2) := by decide +kernel
theorem dX1_record_27 : decode cX1_record 27 = .ok (.invokestatic 131, 3) := by decide +kernel
theorem dX1_record_30 : decode cX1_record 30 = .ok (.aload_n 1, 1) := by decide +kernel
theorem dX1_record_31 : decode cX1_record 31 = .ok (.iconst 0, 1) := by decide +kernel
theorem dX1_record_32 : decode cX1_record 32 = .ok (.aload_n 0, 1) := by decide +kernel
theorem dX1_record_33 : decode cX1_record 33 = .ok (.getfield 30, 3) := by decide +kernel
theorem dX1_record_36 : decode cX1_record 36 = .ok (.iconst 0, 1) := by decide +kernel
theorem dX1_record_37 : decode cX1_record 37 = .ok (.bipush 10, 2) := by decide +kernel
theorem dX1_record_39 : decode cX1_record 39 = .ok (.invokestatic 131, 3) := by decide +kernel
theorem dX1_record_42 : decode cX1_record 42 = .ok (.aload_n 0, 1) := by decide +kernel
theorem dX1_record_43 : decode cX1_record 43 = .ok (.aload_n 0, 1) := by decide +kernel
theorem dX1_record_44 : decode cX1_record 44 = .ok (.getfield 33, 3) := by decide +kernel
theorem dX1_record_47 : decode cX1_record 47 = .ok (.iconst 1, 1) := by decide +kernel
theorem dX1_record_48 : decode cX1_record 48 = .ok (.iadd, 1) := by decide +kernel
theorem dX1_record_49 : decode cX1_record 49 = .ok (.sipush 9999, 3) := by decide +kernel
theorem dX1_record_52 : decode cX1_record 52 = .ok (.invokestatic 148, 3) := by decide +kernel
theorem dX1_record_55 : decode cX1_record 55 = .ok (.putfield 33, 3) := by decide +kernel
theorem dX1_record_58 : decode cX1_record 58 = .ok (.return_, 1) := by decide +kernel
def jX1_record_42 (F : Nat) (sM : zOS) : Option (zOS) := (zlet (zsF sM 8 (if (9999 : Int32) < ((zF sM 8) + (1 : Int32)) then (9999 : Int32) else ((zF sM 8) + (1 : Int32)))) (fun sM_3 : zOS => (some (sM_3))))
set_option maxRecDepth 20000 in
theorem wX1_record_42 {X : zCx} {res : zOS} {F : Nat} {qM : Nat → Nat} {qP : Nat → Nat} {sP : zOS} (C : zC X RX1 cX1_record 2 1 26) (hR : zR X none none [(1, qM, res), (2, qP, sP)]) (hM50 : qM 50 = qP 0) (sM : zOS) : zJ X 2 res (jX1_record_42 F sM) 42 [(0, (.ref (qM 0)))] [] [(1, qM, sM), (2, qP, sP)] := by
  unfold jX1_record_42
  refine z_aload_n (pc := 42) 0 rfl rfl C dX1_record_42 ?_
  refine z_aload_n (pc := 43) 0 rfl rfl C dX1_record_43 ?_
  refine z_getI (pc := 44) 0 8 C dX1_record_44 rfl (by decide) (by decide) rfl zw_214 ?_
  refine z_iconst (pc := 47) (1 : Int32) (by decide) C dX1_record_47 ?_
  refine z_iadd (pc := 48) C dX1_record_48 ?_
  refine z_sipush (pc := 49) (9999 : Int32) (by decide) C dX1_record_49 ?_
  refine z_min (pc := 52) C dX1_record_52 zw_573 zw_438 zw_86 zw_439 (by decide) (Nat.le_of_ble_eq_true rfl) ?_
  refine z_putI (pc := 55) 0 8 C dX1_record_55 rfl (by decide) (by decide) rfl zw_214 rfl rfl rfl [(1, qM, (zsF sM 8 (if (9999 : Int32) < ((zF sM 8) + (1 : Int32)) then (9999 : Int32) else ((zF sM 8) + (1 : Int32))))), (2, qP, sP)] rfl ?_
  refine z_letc (fun z9 => [(1, qM, z9), (2, qP, sP)]) (fun sM_3 => ?_)
  exact z_return (pc := 58) C hR dX1_record_58 (fun h => by subst h; exact ⟨rfl, rfl⟩)
def jX1_record_15 (F : Nat) (k1 : Nat) (sM : zOS) : Option (zOS) := (zlet (zsI sM 4 (va_cpy (zI sM 2) (zI sM 4) (0 : Int32).toNatClampNeg (0 : Int32).toNatClampNeg (6 : Int32).toNatClampNeg)) (fun sM_1 : zOS => (zlet (zsI sM_1 5 (va_cpy (zI sM_1 k1) (zI sM_1 5) (0 : Int32).toNatClampNeg (0 : Int32).toNatClampNeg (10 : Int32).toNatClampNeg)) (fun sM_2 : zOS => (jX1_record_42 F sM_2)))))
set_option maxRecDepth 20000 in
theorem wX1_record_15 {X : zCx} {res : zOS} {F : Nat} {qM : Nat → Nat} {qP : Nat → Nat} {sP : zOS} {k1 : Nat} (C : zC X RX1 cX1_record 2 1 26) (hR : zR X none none [(1, qM, res), (2, qP, sP)]) (hM50 : qM 50 = qP 0) (ha1 : zAr 1 k1 0 10) (sM : zOS) : zJ X 2 res (jX1_record_15 F k1 sM) 15 [(0, (.ref (qM 0))), (1, (.ref (qM k1)))] [] [(1, qM, sM), (2, qP, sP)] := by
  unfold jX1_record_15
  refine z_aload_n (pc := 15) 0 rfl rfl C dX1_record_15 ?_
  refine z_getR (pc := 16) 0 3 2 C dX1_record_16 rfl (by decide) (by decide) rfl zw_207 ?_
  refine z_iconst (pc := 19) (0 : Int32) (by decide) C dX1_record_19 ?_
  refine z_aload_n (pc := 20) 0 rfl rfl C dX1_record_20 ?_
  refine z_getR (pc := 21) 0 6 4 C dX1_record_21 rfl (by decide) (by decide) rfl zw_210 ?_
  refine z_iconst (pc := 24) (0 : Int32) (by decide) C dX1_record_24 ?_
  refine z_bipush (pc := 25) (6 : Int32) (by decide) C dX1_record_25 ?_
  refine z_copyi (n0 := 6) (n1 := 6) (pc := 27) 0 0 C dX1_record_27 zw_572 zw_295 zw_294 zw_83 rfl rfl (by unfold zAr; decide) (by unfold zAr; decide) (by decide) (by decide) (by decide) (by decide) (by decide) (by decide) (Nat.le_of_ble_eq_true rfl) [(1, qM, (zsI sM 4 (va_cpy (zI sM 2) (zI sM 4) (0 : Int32).toNatClampNeg (0 : Int32).toNatClampNeg (6 : Int32).toNatClampNeg))), (2, qP, sP)] rfl ?_
  refine z_letc (fun z9 => [(1, qM, z9), (2, qP, sP)]) (fun sM_1 => ?_)
  refine z_aload_n (pc := 30) 1 rfl rfl C dX1_record_30 ?_
  refine z_iconst (pc := 31) (0 : Int32) (by decide) C dX1_record_31 ?_
  refine z_aload_n (pc := 32) 0 rfl rfl C dX1_record_32 ?_
  refine z_getR (pc := 33) 0 7 5 C dX1_record_33 rfl (by decide) (by decide) rfl zw_212 ?_
  refine z_iconst (pc := 36) (0 : Int32) (by decide) C dX1_record_36 ?_
  refine z_bipush (pc := 37) (10 : Int32) (by decide) C dX1_record_37 ?_
  refine z_copyi (n0 := 10) (n1 := 10) (pc := 39) 0 0 C dX1_record_39 zw_572 zw_295 zw_294 zw_83 rfl rfl ha1 (by unfold zAr; decide) (by decide) (by decide) (by decide) (by decide) (by decide) (by decide) (Nat.le_of_ble_eq_true rfl) [(1, qM, (zsI sM_1 5 (va_cpy (zI sM_1 k1) (zI sM_1 5) (0 : Int32).toNatClampNeg (0 : Int32).toNatClampNeg (10 : Int32).toNatClampNeg))), (2, qP, sP)] rfl ?_
  refine z_letc (fun z9 => [(1, qM, z9), (2, qP, sP)]) (fun sM_2 => ?_)
  refine z_lv [(0, (.ref (qM 0)))] [0] rfl ?_
  exact wX1_record_42 C hR hM50  _
def fX1_record (F : Nat) (k1 : Nat) (sM : zOS) (sP : zOS) : Option (zOS) := (if (zF sM 8) = 0 then (jX1_record_15 F k1 sM) else (Option.bind (fX1_isBeforeFirst F k1 sM sP) (fun r_4 : Int32 => (if r_4 = 0 then (jX1_record_42 F sM) else (jX1_record_15 F k1 sM)))))
set_option maxRecDepth 20000 in
theorem wX1_record {X : zCx} {res : zOS} {F : Nat} {qM : Nat → Nat} {qP : Nat → Nat} {k1 : Nat} {sM : zOS} {sP : zOS} (C : zC X RX1 cX1_record 2 1 26) (hR : zR X none none [(1, qM, res), (2, qP, sP)]) (hM50 : qM 50 = qP 0) (ha1 : zAr 1 k1 0 10) : zJ X 2 res (fX1_record F k1 sM sP) 0 [(0, (.ref (qM 0))), (1, (.ref (qM k1)))] [] [(1, qM, sM), (2, qP, sP)] := by
  unfold fX1_record
  refine z_aload_n (pc := 0) 0 rfl rfl C dX1_record_0 ?_
  refine z_getI (pc := 1) 0 8 C dX1_record_1 rfl (by decide) (by decide) rfl zw_214 ?_
  refine z_if_eq (pc := 4) 15 C dX1_record_4 (by decide) ?_ ?_
  · exact wX1_record_15 C hR hM50 ha1  _
  · refine z_aload_n (pc := 7) 0 rfl rfl C dX1_record_7 ?_
    refine z_aload_n (pc := 8) 1 rfl rfl C dX1_record_8 ?_
    refine z_callV (pc := 9) (rf' := 0) (rl' := 0) (fX1_isBeforeFirst F k1 sM sP) [(.ref (qM k1))] [] [(1, qM, sM), (2, qP, sP)] (fun r_4 => (some (.int r_4))) (fun r_4 => [(1, qM, sM), (2, qP, sP)]) [] (fun r_4 => [(1, qM, sM), (2, qP, sP)]) C dX1_record_9 zy_X1_isBeforeFirst zw_568 (fun _ hr9 => mX1_isBeforeFirst hM50 ha1 hr9) (by decide) rfl rfl (by decide) rfl (Nat.le_of_ble_eq_true rfl) (List.Perm.refl _) (fun _ => List.Perm.refl _) rfl (fun r_4 hr_5 => ?_)
    show zJ X 2 res _ 12 [(0, (.ref (qM 0))), (1, (.ref (qM k1)))] [(.int r_4)] [(1, qM, sM), (2, qP, sP)]
    refine z_if_eq (pc := 12) 42 C dX1_record_12 (by decide) ?_ ?_
    · refine z_lv [(0, (.ref (qM 0)))] [0] rfl ?_
      exact wX1_record_42 C hR hM50  _
    · exact wX1_record_15 C hR hM50 ha1  _
theorem mX1_record {F : Nat} {qM : Nat → Nat} {qP : Nat → Nat} {k1 : Nat} {sM : zOS} {sP : zOS} {res : zOS} (hM50 : qM 50 = qP 0) (ha1 : zAr 1 k1 0 10) (hf : fX1_record F k1 sM sP = some res) : zM yX1_record cX1_record 2 none 1 26 [(.ref (qM 0)), (.ref (qM k1))] [(1, qM, sM), (2, qP, sP)] none [(1, qM, res), (2, qP, sP)] := zM_of (by decide +kernel) (Nat.le_of_ble_eq_true rfl) (fun X C hR => wX1_record (F := F) C hR hM50 ha1 hf)
theorem dX1_tieSides_0 : decode cX1_tieSides 0 = .ok (.aload_n 0, 1) := by decide +kernel
theorem dX1_tieSides_1 : decode cX1_tieSides 1 = .ok (.getfield 39, 3) := by decide +kernel
theorem dX1_tieSides_4 : decode cX1_tieSides 4 = .ok (.getfield 75, 3) := by decide +kernel
theorem dX1_tieSides_7 : decode cX1_tieSides 7 = .ok (.iload_n 1, 1) := by decide +kernel
theorem dX1_tieSides_8 : decode cX1_tieSides 8 = .ok (.iadd, 1) := by decide +kernel
theorem dX1_tieSides_9 : decode cX1_tieSides 9 = .ok (.istore 4, 2) := by decide +kernel
theorem dX1_tieSides_11 : decode cX1_tieSides 11 = .ok (.aload_n 0, 1) := by decide +kernel
theorem dX1_tieSides_12 : decode cX1_tieSides 12 = .ok (.getfield 20, 3) := by decide +kernel
theorem dX1_tieSides_15 : decode cX1_tieSides 15 = .ok (.iload 4, 2) := by decide +kernel
theorem dX1_tieSides_17 : decode cX1_tieSides 17 = .ok (.iconst 1, 1) := by decide +kernel
theorem dX1_tieSides_18 : decode cX1_tieSides 18 = .ok (.iadd, 1) := by decide +kernel
theorem dX1_tieSides_19 : decode cX1_tieSides 19 = .ok (.aaload, 1) := by decide +kernel
theorem dX1_tieSides_20 : decode cX1_tieSides 20 = .ok (.astore 5, 2) := by decide +kernel
theorem dX1_tieSides_22 : decode cX1_tieSides 22 = .ok (.aload_n 0, 1) := by decide +kernel
theorem dX1_tieSides_23 : decode cX1_tieSides 23 = .ok (.getfield 20, 3) := by decide +kernel
theorem dX1_tieSides_26 : decode cX1_tieSides 26 = .ok (.iload 4, 2) := by decide +kernel
theorem dX1_tieSides_28 : decode cX1_tieSides 28 = .ok (.aaload, 1) := by decide +kernel
theorem dX1_tieSides_29 : decode cX1_tieSides 29 = .ok (.iconst 0, 1) := by decide +kernel
theorem dX1_tieSides_30 : decode cX1_tieSides 30 = .ok (.aload 5, 2) := by decide +kernel
theorem dX1_tieSides_32 : decode cX1_tieSides 32 = .ok (.iconst 0, 1) := by decide +kernel
theorem dX1_tieSides_33 : decode cX1_tieSides 33 = .ok (.bipush 10, 2) := by decide +kernel
theorem dX1_tieSides_35 : decode cX1_tieSides 35 = .ok (.invokestatic 131, 3) := by decide +kernel
theorem dX1_tieSides_38 : decode cX1_tieSides 38 = .ok (.aload 5, 2) := by decide +kernel
theorem dX1_tieSides_40 : decode cX1_tieSides 40 = .ok (.aload_n 0, 1) := by decide +kernel
theorem dX1_tieSides_41 : decode cX1_tieSides 41 = .ok (.getfield 39, 3) := by decide +kernel
theorem dX1_tieSides_44 : decode cX1_tieSides 44 = .ok (.iload_n 1, 1) := by decide +kernel
theorem dX1_tieSides_45 : decode cX1_tieSides 45 = .ok (.invokevirtual 102, 3) := by decide +kernel
theorem dX1_tieSides_48 : decode cX1_tieSides 48 = .ok (.iload_n 2, 1) := by decide +kernel
theorem dX1_tieSides_49 : decode cX1_tieSides 49 = .ok (.invokestatic 124, 3) := by decide +kernel
theorem dX1_tieSides_52 : decode cX1_tieSides 52 = .ok (.ifCond .eq 24, 3) := by decide +kernel
theorem dX1_tieSides_55 : decode cX1_tieSides 55 = .ok (.aload 5, 2) := by decide +kernel
theorem dX1_tieSides_57 : decode cX1_tieSides 57 = .ok (.aload_n 0, 1) := by decide +kernel
theorem dX1_tieSides_58 : decode cX1_tieSides 58 = .ok (.getfield 39, 3) := by decide +kernel
theorem dX1_tieSides_61 : decode cX1_tieSides 61 = .ok (.iload_n 1, 1) := by decide +kernel
theorem dX1_tieSides_62 : decode cX1_tieSides 62 = .ok (.invokevirtual 105, 3) := by decide +kernel
theorem dX1_tieSides_65 : decode cX1_tieSides 65 = .ok (.iload_n 3, 1) := by decide +kernel
theorem dX1_tieSides_66 : decode cX1_tieSides 66 = .ok (.invokestatic 124, 3) := by decide +kernel
theorem dX1_tieSides_69 : decode cX1_tieSides 69 = .ok (.ifCond .eq 7, 3) := by decide +kernel
theorem dX1_tieSides_72 : decode cX1_tieSides 72 = .ok (.iconst 1, 1) := by decide +kernel
theorem dX1_tieSides_73 : decode cX1_tieSides 73 = .ok (.goto 4, 3) := by decide +kernel
theorem dX1_tieSides_76 : decode cX1_tieSides 76 = .ok (.iconst 0, 1) := by decide +kernel
theorem dX1_tieSides_77 : decode cX1_tieSides 77 = .ok (.ireturn, 1) := by decide +kernel
def fX1_tieSides (F : Nat) (x1 : Int32) (x2 : Int32) (x3 : Int32) (sM : zOS) (sP : zOS) : Option (Int32 × zOS) := (zlet ((zF sP 3) + x1) (fun x4_1 : Int32 => (zchk (x4_1 + (1 : Int32)) 13 (zchk x4_1 13 (zlet (zsI sM (zbs 1 + (x4_1 + (1 : Int32)).toNatClampNeg) (va_cpy (zI sM (zbs 1 + x4_1.toNatClampNeg)) (zI sM (zbs 1 + (x4_1 + (1 : Int32)).toNatClampNeg)) (0 : Int32).toNatClampNeg (0 : Int32).toNatClampNeg (10 : Int32).toNatClampNeg)) (fun sM_4 : zOS => (Option.bind (fX2_sideA x1 sP) (fun r_5 : Int32 => (Option.bind (fX1_tie F (zbs 1 + (x4_1 + (1 : Int32)).toNatClampNeg) r_5 x2 sM_4) (fun r_7 : Int32 × zOS => (if r_7.1 = 0 then (zbk (0 : Int32) (some ((0 : Int32), r_7.2))) else (Option.bind (fX2_sideB x1 sP) (fun r_9 : Int32 => (Option.bind (fX1_tie F (zbs 1 + (x4_1 + (1 : Int32)).toNatClampNeg) r_9 x3 r_7.2) (fun r_11 : Int32 × zOS => (if r_11.1 = 0 then (zbk (0 : Int32) (some ((0 : Int32), r_11.2))) else (zbk (1 : Int32) (some ((1 : Int32), r_11.2)))))))))))))))))))
set_option maxRecDepth 20000 in
theorem wX1_tieSides {X : zCx} {res : Int32 × zOS} {F : Nat} {qM : Nat → Nat} {qP : Nat → Nat} {x1 : Int32} {x2 : Int32} {x3 : Int32} {sM : zOS} {sP : zOS} (C : zC X RX1 cX1_tieSides 6 1 26) (hR : zR X (some .boolean) (some (.int res.1)) [(1, qM, res.2), (2, qP, sP)]) (hM50 : qM 50 = qP 0) : zJ X 6 res (fX1_tieSides F x1 x2 x3 sM sP) 0 [(0, (.ref (qM 0))), (1, (.int x1)), (2, (.int x2)), (3, (.int x3))] [] [(1, qM, sM), (2, qP, sP)] := by
  unfold fX1_tieSides
  refine z_aload_n (pc := 0) 0 rfl rfl C dX1_tieSides_0 ?_
  refine z_getE (pc := 1) 0 0 50 (qP 0) hM50 C dX1_tieSides_1 rfl (by decide) (by decide) rfl zw_204 ?_
  refine z_getI (pc := 4) 1 3 C dX1_tieSides_4 rfl (by decide) (by decide) rfl zw_110 ?_
  refine z_iload_n (pc := 7) 1 rfl rfl C dX1_tieSides_7 ?_
  refine z_iadd (pc := 8) C dX1_tieSides_8 ?_
  refine z_leti (fun x4_1 => ?_)
  refine z_istore (pc := 9) [(0, (.ref (qM 0))), (1, (.int x1)), (2, (.int x2)), (3, (.int x3)), (4, (.int x4_1))] [1, 2, 3, 4, 0] (by decide) rfl C dX1_tieSides_9 ?_
  refine z_aload_n (pc := 11) 0 rfl rfl C dX1_tieSides_11 ?_
  refine z_getR (pc := 12) 0 4 3 C dX1_tieSides_12 rfl (by decide) (by decide) rfl zw_208 ?_
  refine z_iload (pc := 15) 4 rfl C dX1_tieSides_15 ?_
  refine z_iconst (pc := 17) (1 : Int32) (by decide) C dX1_tieSides_17 ?_
  refine z_iadd (pc := 18) C dX1_tieSides_18 ?_
  refine z_aal (pc := 19) 0 C dX1_tieSides_19 rfl (by unfold zAr; decide) (by decide) (fun hi_2 => ?_)
  refine z_astore (pc := 20) [(0, (.ref (qM 0))), (1, (.int x1)), (2, (.int x2)), (3, (.int x3)), (4, (.int x4_1)), (5, (.ref (qM (zbs 1 + (x4_1 + (1 : Int32)).toNatClampNeg))))] [1, 2, 3, 4, 5, 0] (by decide) rfl C dX1_tieSides_20 ?_
  refine z_aload_n (pc := 22) 0 rfl rfl C dX1_tieSides_22 ?_
  refine z_getR (pc := 23) 0 4 3 C dX1_tieSides_23 rfl (by decide) (by decide) rfl zw_208 ?_
  refine z_iload (pc := 26) 4 rfl C dX1_tieSides_26 ?_
  refine z_aal (pc := 28) 0 C dX1_tieSides_28 rfl (by unfold zAr; decide) (by decide) (fun hi_3 => ?_)
  refine z_iconst (pc := 29) (0 : Int32) (by decide) C dX1_tieSides_29 ?_
  refine z_aload (pc := 30) 5 rfl C dX1_tieSides_30 ?_
  refine z_iconst (pc := 32) (0 : Int32) (by decide) C dX1_tieSides_32 ?_
  refine z_bipush (pc := 33) (10 : Int32) (by decide) C dX1_tieSides_33 ?_
  refine z_copyi (n0 := 10) (n1 := 10) (pc := 35) 0 0 C dX1_tieSides_35 zw_572 zw_295 zw_294 zw_83 rfl rfl (zAr_n hi_3) (zAr_n hi_2) (by decide) (by decide) (by decide) (by decide) (by decide) (by decide) (Nat.le_of_ble_eq_true rfl) [(1, qM, (zsI sM (zbs 1 + (x4_1 + (1 : Int32)).toNatClampNeg) (va_cpy (zI sM (zbs 1 + x4_1.toNatClampNeg)) (zI sM (zbs 1 + (x4_1 + (1 : Int32)).toNatClampNeg)) (0 : Int32).toNatClampNeg (0 : Int32).toNatClampNeg (10 : Int32).toNatClampNeg))), (2, qP, sP)] rfl ?_
  refine z_letc (fun z9 => [(1, qM, z9), (2, qP, sP)]) (fun sM_4 => ?_)
  refine z_aload (pc := 38) 5 rfl C dX1_tieSides_38 ?_
  refine z_aload_n (pc := 40) 0 rfl rfl C dX1_tieSides_40 ?_
  refine z_getE (pc := 41) 0 0 50 (qP 0) hM50 C dX1_tieSides_41 rfl (by decide) (by decide) rfl zw_204 ?_
  refine z_iload_n (pc := 44) 1 rfl rfl C dX1_tieSides_44 ?_
  refine z_callV (pc := 45) (rf' := 0) (rl' := 0) (fX2_sideA x1 sP) [(.int x1)] [(.ref (qM (zbs 1 + (x4_1 + (1 : Int32)).toNatClampNeg)))] [(2, qP, sP)] (fun r_5 => (some (.int r_5))) (fun r_5 => [(2, qP, sP)]) [(1, qM, sM_4)] (fun r_5 => [(1, qM, sM_4), (2, qP, sP)]) C dX1_tieSides_45 zy_X2_sideA zw_542 (fun _ hr9 => mX2_sideA  hr9) (by decide) rfl rfl (by decide) rfl (Nat.le_of_ble_eq_true rfl) (z_pm _ [1, 0] (by decide)).symm (fun _ => (z_pm _ [1, 0] (by decide)).symm) rfl (fun r_5 hr_6 => ?_)
  show zJ X 6 res _ 48 [(0, (.ref (qM 0))), (1, (.int x1)), (2, (.int x2)), (3, (.int x3)), (4, (.int x4_1)), (5, (.ref (qM (zbs 1 + (x4_1 + (1 : Int32)).toNatClampNeg))))] [(.int r_5), (.ref (qM (zbs 1 + (x4_1 + (1 : Int32)).toNatClampNeg)))] [(1, qM, sM_4), (2, qP, sP)]
  refine z_iload_n (pc := 48) 2 rfl rfl C dX1_tieSides_48 ?_
  refine z_callS (pc := 49) (rf' := 0) (rl' := 0) (fX1_tie F (zbs 1 + (x4_1 + (1 : Int32)).toNatClampNeg) r_5 x2 sM_4) [(.ref (qM (zbs 1 + (x4_1 + (1 : Int32)).toNatClampNeg))), (.int r_5), (.int x2)] [] [(1, qM, sM_4)] (fun r_7 => (some (.int r_7.1))) (fun r_7 => [(1, qM, r_7.2)]) [(2, qP, sP)] (fun r_7 => [(1, qM, r_7.2), (2, qP, sP)]) C dX1_tieSides_49 zy_X1_tie zw_555 (fun _ hr9 => mX1_tie (zAr_n hi_2) hr9) (by decide) rfl (Nat.le_of_ble_eq_true rfl) (List.Perm.refl _) (fun _ => List.Perm.refl _) rfl (fun r_7 hr_8 => ?_)
  show zJ X 6 res _ 52 [(0, (.ref (qM 0))), (1, (.int x1)), (2, (.int x2)), (3, (.int x3)), (4, (.int x4_1)), (5, (.ref (qM (zbs 1 + (x4_1 + (1 : Int32)).toNatClampNeg))))] [(.int r_7.1)] [(1, qM, r_7.2), (2, qP, sP)]
  refine z_if_eq (pc := 52) 76 C dX1_tieSides_52 (by decide) ?_ ?_
  · refine z_iconst (pc := 76) (0 : Int32) (by decide) C dX1_tieSides_76 ?_
    exact z_zreturn (pc := 77) C hR dX1_tieSides_77 (fun h => by subst h; exact ⟨rfl, rfl⟩)
  · refine z_aload (pc := 55) 5 rfl C dX1_tieSides_55 ?_
    refine z_aload_n (pc := 57) 0 rfl rfl C dX1_tieSides_57 ?_
    refine z_getE (pc := 58) 0 0 50 (qP 0) hM50 C dX1_tieSides_58 rfl (by decide) (by decide) rfl zw_204 ?_
    refine z_iload_n (pc := 61) 1 rfl rfl C dX1_tieSides_61 ?_
    refine z_callV (pc := 62) (rf' := 0) (rl' := 0) (fX2_sideB x1 sP) [(.int x1)] [(.ref (qM (zbs 1 + (x4_1 + (1 : Int32)).toNatClampNeg)))] [(2, qP, sP)] (fun r_9 => (some (.int r_9))) (fun r_9 => [(2, qP, sP)]) [(1, qM, r_7.2)] (fun r_9 => [(1, qM, r_7.2), (2, qP, sP)]) C dX1_tieSides_62 zy_X2_sideB zw_543 (fun _ hr9 => mX2_sideB  hr9) (by decide) rfl rfl (by decide) rfl (Nat.le_of_ble_eq_true rfl) (z_pm _ [1, 0] (by decide)).symm (fun _ => (z_pm _ [1, 0] (by decide)).symm) rfl (fun r_9 hr_10 => ?_)
    show zJ X 6 res _ 65 [(0, (.ref (qM 0))), (1, (.int x1)), (2, (.int x2)), (3, (.int x3)), (4, (.int x4_1)), (5, (.ref (qM (zbs 1 + (x4_1 + (1 : Int32)).toNatClampNeg))))] [(.int r_9), (.ref (qM (zbs 1 + (x4_1 + (1 : Int32)).toNatClampNeg)))] [(1, qM, r_7.2), (2, qP, sP)]
    refine z_iload_n (pc := 65) 3 rfl rfl C dX1_tieSides_65 ?_
    refine z_callS (pc := 66) (rf' := 0) (rl' := 0) (fX1_tie F (zbs 1 + (x4_1 + (1 : Int32)).toNatClampNeg) r_9 x3 r_7.2) [(.ref (qM (zbs 1 + (x4_1 + (1 : Int32)).toNatClampNeg))), (.int r_9), (.int x3)] [] [(1, qM, r_7.2)] (fun r_11 => (some (.int r_11.1))) (fun r_11 => [(1, qM, r_11.2)]) [(2, qP, sP)] (fun r_11 => [(1, qM, r_11.2), (2, qP, sP)]) C dX1_tieSides_66 zy_X1_tie zw_555 (fun _ hr9 => mX1_tie (zAr_n hi_2) hr9) (by decide) rfl (Nat.le_of_ble_eq_true rfl) (List.Perm.refl _) (fun _ => List.Perm.refl _) rfl (fun r_11 hr_12 => ?_)
    show zJ X 6 res _ 69 [(0, (.ref (qM 0))), (1, (.int x1)), (2, (.int x2)), (3, (.int x3)), (4, (.int x4_1)), (5, (.ref (qM (zbs 1 + (x4_1 + (1 : Int32)).toNatClampNeg))))] [(.int r_11.1)] [(1, qM, r_11.2), (2, qP, sP)]
    refine z_if_eq (pc := 69) 76 C dX1_tieSides_69 (by decide) ?_ ?_
    · refine z_iconst (pc := 76) (0 : Int32) (by decide) C dX1_tieSides_76 ?_
      exact z_zreturn (pc := 77) C hR dX1_tieSides_77 (fun h => by subst h; exact ⟨rfl, rfl⟩)
    · refine z_iconst (pc := 72) (1 : Int32) (by decide) C dX1_tieSides_72 ?_
      refine z_goto (pc := 73) 77 C dX1_tieSides_73 (by decide) ?_
      exact z_zreturn (pc := 77) C hR dX1_tieSides_77 (fun h => by subst h; exact ⟨rfl, rfl⟩)
theorem mX1_tieSides {F : Nat} {qM : Nat → Nat} {qP : Nat → Nat} {x1 : Int32} {x2 : Int32} {x3 : Int32} {sM : zOS} {sP : zOS} {res : Int32 × zOS} (hM50 : qM 50 = qP 0) (hf : fX1_tieSides F x1 x2 x3 sM sP = some res) : zM yX1_tieSides cX1_tieSides 6 (some .boolean) 1 26 [(.ref (qM 0)), (.int x1), (.int x2), (.int x3)] [(1, qM, sM), (2, qP, sP)] (some (.int res.1)) [(1, qM, res.2), (2, qP, sP)] := zM_of (by decide +kernel) (Nat.le_of_ble_eq_true rfl) (fun X C hR => wX1_tieSides (F := F) C hR hM50 hf)
theorem dX1_tiePins_0 : decode cX1_tiePins 0 = .ok (.iconst 0, 1) := by decide +kernel
theorem dX1_tiePins_1 : decode cX1_tiePins 1 = .ok (.istore_n 2, 1) := by decide +kernel
theorem dX1_tiePins_2 : decode cX1_tiePins 2 = .ok (.iload_n 2, 1) := by decide +kernel
theorem dX1_tiePins_3 : decode cX1_tiePins 3 = .ok (.aload_n 0, 1) := by decide +kernel
theorem dX1_tiePins_4 : decode cX1_tiePins 4 = .ok (.getfield 39, 3) := by decide +kernel
theorem dX1_tiePins_7 : decode cX1_tiePins 7 = .ok (.getfield 114, 3) := by decide +kernel
theorem dX1_tiePins_10 : decode cX1_tiePins 10 = .ok (.if_icmp .ge 45, 3) := by decide +kernel
theorem dX1_tiePins_13 : decode cX1_tiePins 13 = .ok (.aload_n 0, 1) := by decide +kernel
theorem dX1_tiePins_14 : decode cX1_tiePins 14 = .ok (.getfield 43, 3) := by decide +kernel
theorem dX1_tiePins_17 : decode cX1_tiePins 17 = .ok (.aload_n 0, 1) := by decide +kernel
theorem dX1_tiePins_18 : decode cX1_tiePins 18 = .ok (.getfield 39, 3) := by decide +kernel
theorem dX1_tiePins_21 : decode cX1_tiePins 21 = .ok (.iload_n 2, 1) := by decide +kernel
theorem dX1_tiePins_22 : decode cX1_tiePins 22 = .ok (.invokevirtual 117, 3) := by decide +kernel
theorem dX1_tiePins_25 : decode cX1_tiePins 25 = .ok (.istore_n 3, 1) := by decide +kernel
theorem dX1_tiePins_26 : decode cX1_tiePins 26 = .ok (.iload_n 3, 1) := by decide +kernel
theorem dX1_tiePins_27 : decode cX1_tiePins 27 = .ok (.iconst (-1), 1) := by decide +kernel
theorem dX1_tiePins_28 : decode cX1_tiePins 28 = .ok (.if_icmp .eq 21, 3) := by decide +kernel
theorem dX1_tiePins_31 : decode cX1_tiePins 31 = .ok (.aload_n 1, 1) := by decide +kernel
theorem dX1_tiePins_32 : decode cX1_tiePins 32 = .ok (.aload_n 0, 1) := by decide +kernel
theorem dX1_tiePins_33 : decode cX1_tiePins 33 = .ok (.getfield 39, 3) := by decide +kernel
theorem dX1_tiePins_36 : decode cX1_tiePins 36 = .ok (.iload_n 2, 1) := by decide +kernel
theorem dX1_tiePins_37 : decode cX1_tiePins 37 = .ok (.invokevirtual 121, 3) := by decide +kernel
theorem dX1_tiePins_40 : decode cX1_tiePins 40 = .ok (.iload_n 3, 1) := by decide +kernel
theorem dX1_tiePins_41 : decode cX1_tiePins 41 = .ok (.invokestatic 124, 3) := by decide +kernel
theorem dX1_tiePins_44 : decode cX1_tiePins 44 = .ok (.ifCond .ne 5, 3) := by decide +kernel
theorem dX1_tiePins_47 : decode cX1_tiePins 47 = .ok (.iconst 0, 1) := by decide +kernel
theorem dX1_tiePins_48 : decode cX1_tiePins 48 = .ok (.ireturn, 1) := by decide +kernel
theorem dX1_tiePins_49 : decode cX1_tiePins 49 = .ok (.iinc 2 1, 3) := by decide +kernel
theorem dX1_tiePins_52 : decode cX1_tiePins 52 = .ok (.goto (-50), 3) := by decide +kernel
theorem dX1_tiePins_55 : decode cX1_tiePins 55 = .ok (.iconst 1, 1) := by decide +kernel
theorem dX1_tiePins_56 : decode cX1_tiePins 56 = .ok (.ireturn, 1) := by decide +kernel
def bX1_tiePins_2 (F : Nat) (k1 : Nat) (sP : zOS) (sL : zOS) (kc_2 : (Int32 × zOS) → Option (Int32 × zOS)) (x2 : Int32) (sM : zOS) : Option (Int32 × zOS) := (if (zF sP 4) ≤ x2 then (zbk (1 : Int32) (some ((1 : Int32), sM))) else (Option.bind (fX0_pinNode F x2 sL sP) (fun r_1 : Int32 => (if r_1 = (-1 : Int32) then (kc_2 ((x2 + 1), sM)) else (Option.bind (fX2_pinNet x2 sP) (fun r_3 : Int32 => (Option.bind (fX1_tie F k1 r_3 r_1 sM) (fun r_5 : Int32 × zOS => (if r_5.1 = 0 then (zbk (0 : Int32) (some ((0 : Int32), r_5.2))) else (kc_2 ((x2 + 1), r_5.2)))))))))))
set_option maxRecDepth 20000 in
theorem vX1_tiePins_2 {X : zCx} {res : Int32 × zOS} {F : Nat} {qM : Nat → Nat} {qP : Nat → Nat} {qL : Nat → Nat} {sP : zOS} {sL : zOS} {k1 : Nat} {kc_2 : (Int32 × zOS) → Option (Int32 × zOS)} (C : zC X RX1 cX1_tiePins 4 3 64) (hR : zR X (some .boolean) (some (.int res.1)) [(1, qM, res.2), (2, qP, sP), (0, qL, sL)]) (hM50 : qM 50 = qP 0) (hM51 : qM 51 = qL 0) (ha1 : zAr 1 k1 0 10) (hk_2 : ∀ (y2 : Int32) (tM : zOS), zJ X 4 res (kc_2 (y2, tM)) 2 [(0, (.ref (qM 0))), (1, (.ref (qM k1))), (2, (.int y2))] [] [(1, qM, tM), (2, qP, sP), (0, qL, sL)]) (x2 : Int32) (sM : zOS) : zJ X 4 res (bX1_tiePins_2 F k1 sP sL kc_2 x2 sM) 2 [(0, (.ref (qM 0))), (1, (.ref (qM k1))), (2, (.int x2))] [] [(1, qM, sM), (2, qP, sP), (0, qL, sL)] := by
  unfold bX1_tiePins_2
  refine z_iload_n (pc := 2) 2 rfl rfl C dX1_tiePins_2 ?_
  refine z_aload_n (pc := 3) 0 rfl rfl C dX1_tiePins_3 ?_
  refine z_getE (pc := 4) 0 0 50 (qP 0) hM50 C dX1_tiePins_4 rfl (by decide) (by decide) rfl zw_204 ?_
  refine z_getI (pc := 7) 1 4 C dX1_tiePins_7 rfl (by decide) (by decide) rfl zw_114 ?_
  refine z_icmp_ge (pc := 10) 55 C dX1_tiePins_10 (by decide) ?_ ?_
  · refine z_iconst (pc := 55) (1 : Int32) (by decide) C dX1_tiePins_55 ?_
    exact z_zreturn (pc := 56) C hR dX1_tiePins_56 (fun h => by subst h; exact ⟨rfl, rfl⟩)
  · refine z_aload_n (pc := 13) 0 rfl rfl C dX1_tiePins_13 ?_
    refine z_getE (pc := 14) 0 1 51 (qL 0) hM51 C dX1_tiePins_14 rfl (by decide) (by decide) rfl zw_205 ?_
    refine z_aload_n (pc := 17) 0 rfl rfl C dX1_tiePins_17 ?_
    refine z_getE (pc := 18) 0 0 50 (qP 0) hM50 C dX1_tiePins_18 rfl (by decide) (by decide) rfl zw_204 ?_
    refine z_iload_n (pc := 21) 2 rfl rfl C dX1_tiePins_21 ?_
    refine z_callV (pc := 22) (rf' := 2) (rl' := 42) (fX0_pinNode F x2 sL sP) [(.ref (qP 0)), (.int x2)] [] [(0, qL, sL), (2, qP, sP)] (fun r_1 => (some (.int r_1))) (fun r_1 => [(0, qL, sL), (2, qP, sP)]) [(1, qM, sM)] (fun r_1 => [(1, qM, sM), (2, qP, sP), (0, qL, sL)]) C dX1_tiePins_22 zy_X0_pinNode zw_553 (fun _ hr9 => mX0_pinNode  hr9) (by decide) rfl rfl (by decide) rfl (Nat.le_of_ble_eq_true rfl) (z_pm _ [2, 1, 0] (by decide)).symm (fun _ => (z_pm _ [2, 1, 0] (by decide)).symm) rfl (fun r_1 hr_2 => ?_)
    show zJ X 4 res _ 25 [(0, (.ref (qM 0))), (1, (.ref (qM k1))), (2, (.int x2))] [(.int r_1)] [(1, qM, sM), (2, qP, sP), (0, qL, sL)]
    refine z_istore_n (pc := 25) [(0, (.ref (qM 0))), (1, (.ref (qM k1))), (2, (.int x2)), (3, (.int r_1))] [1, 2, 3, 0] (by decide) rfl rfl C dX1_tiePins_25 ?_
    refine z_iload_n (pc := 26) 3 rfl rfl C dX1_tiePins_26 ?_
    refine z_iconst (pc := 27) (-1 : Int32) (by decide) C dX1_tiePins_27 ?_
    refine z_icmp_eq (pc := 28) 49 C dX1_tiePins_28 (by decide) ?_ ?_
    · refine z_iinc (pc := 49) (x2 + 1) 2 rfl rfl [(0, (.ref (qM 0))), (1, (.ref (qM k1))), (2, (.int (x2 + 1))), (3, (.int r_1))] [1, 2, 0, 3] (by decide) rfl C dX1_tiePins_49 ?_
      refine z_goto (pc := 52) 2 C dX1_tiePins_52 (by decide) ?_
      refine z_lv [(0, (.ref (qM 0))), (1, (.ref (qM k1))), (2, (.int (x2 + 1)))] [0, 1, 2] rfl ?_
      exact hk_2 _ _
    · refine z_aload_n (pc := 31) 1 rfl rfl C dX1_tiePins_31 ?_
      refine z_aload_n (pc := 32) 0 rfl rfl C dX1_tiePins_32 ?_
      refine z_getE (pc := 33) 0 0 50 (qP 0) hM50 C dX1_tiePins_33 rfl (by decide) (by decide) rfl zw_204 ?_
      refine z_iload_n (pc := 36) 2 rfl rfl C dX1_tiePins_36 ?_
      refine z_callV (pc := 37) (rf' := 0) (rl' := 0) (fX2_pinNet x2 sP) [(.int x2)] [(.ref (qM k1))] [(2, qP, sP)] (fun r_3 => (some (.int r_3))) (fun r_3 => [(2, qP, sP)]) [(1, qM, sM), (0, qL, sL)] (fun r_3 => [(1, qM, sM), (2, qP, sP), (0, qL, sL)]) C dX1_tiePins_37 zy_X2_pinNet zw_554 (fun _ hr9 => mX2_pinNet  hr9) (by decide) rfl rfl (by decide) rfl (Nat.le_of_ble_eq_true rfl) (z_pm _ [1, 0, 2] (by decide)).symm (fun _ => (z_pm _ [1, 0, 2] (by decide)).symm) rfl (fun r_3 hr_4 => ?_)
      show zJ X 4 res _ 40 [(0, (.ref (qM 0))), (1, (.ref (qM k1))), (2, (.int x2)), (3, (.int r_1))] [(.int r_3), (.ref (qM k1))] [(1, qM, sM), (2, qP, sP), (0, qL, sL)]
      refine z_iload_n (pc := 40) 3 rfl rfl C dX1_tiePins_40 ?_
      refine z_callS (pc := 41) (rf' := 0) (rl' := 0) (fX1_tie F k1 r_3 r_1 sM) [(.ref (qM k1)), (.int r_3), (.int r_1)] [] [(1, qM, sM)] (fun r_5 => (some (.int r_5.1))) (fun r_5 => [(1, qM, r_5.2)]) [(2, qP, sP), (0, qL, sL)] (fun r_5 => [(1, qM, r_5.2), (2, qP, sP), (0, qL, sL)]) C dX1_tiePins_41 zy_X1_tie zw_555 (fun _ hr9 => mX1_tie ha1 hr9) (by decide) rfl (Nat.le_of_ble_eq_true rfl) (List.Perm.refl _) (fun _ => List.Perm.refl _) rfl (fun r_5 hr_6 => ?_)
      show zJ X 4 res _ 44 [(0, (.ref (qM 0))), (1, (.ref (qM k1))), (2, (.int x2)), (3, (.int r_1))] [(.int r_5.1)] [(1, qM, r_5.2), (2, qP, sP), (0, qL, sL)]
      refine z_if_ne (pc := 44) 49 C dX1_tiePins_44 (by decide) ?_ ?_
      · refine z_iconst (pc := 47) (0 : Int32) (by decide) C dX1_tiePins_47 ?_
        exact z_zreturn (pc := 48) C hR dX1_tiePins_48 (fun h => by subst h; exact ⟨rfl, rfl⟩)
      · refine z_iinc (pc := 49) (x2 + 1) 2 rfl rfl [(0, (.ref (qM 0))), (1, (.ref (qM k1))), (2, (.int (x2 + 1))), (3, (.int r_1))] [1, 2, 0, 3] (by decide) rfl C dX1_tiePins_49 ?_
        refine z_goto (pc := 52) 2 C dX1_tiePins_52 (by decide) ?_
        refine z_lv [(0, (.ref (qM 0))), (1, (.ref (qM k1))), (2, (.int (x2 + 1)))] [0, 1, 2] rfl ?_
        exact hk_2 _ _
def fX1_tiePins (F : Nat) (k1 : Nat) (sM : zOS) (sP : zOS) (sL : zOS) : Option (Int32 × zOS) := (zit (P := Int32 × zOS) (R := Int32 × zOS) (fun kc9 p9 => bX1_tiePins_2 F k1 sP sL kc9 p9.1 p9.2) F ((0 : Int32), sM))
set_option maxRecDepth 20000 in
theorem wX1_tiePins {X : zCx} {res : Int32 × zOS} {F : Nat} {qM : Nat → Nat} {qP : Nat → Nat} {qL : Nat → Nat} {k1 : Nat} {sM : zOS} {sP : zOS} {sL : zOS} (C : zC X RX1 cX1_tiePins 4 3 64) (hR : zR X (some .boolean) (some (.int res.1)) [(1, qM, res.2), (2, qP, sP), (0, qL, sL)]) (hM50 : qM 50 = qP 0) (hM51 : qM 51 = qL 0) (ha1 : zAr 1 k1 0 10) : zJ X 4 res (fX1_tiePins F k1 sM sP sL) 0 [(0, (.ref (qM 0))), (1, (.ref (qM k1)))] [] [(1, qM, sM), (2, qP, sP), (0, qL, sL)] := by
  unfold fX1_tiePins
  refine z_iconst (pc := 0) (0 : Int32) (by decide) C dX1_tiePins_0 ?_
  refine z_istore_n (pc := 1) [(0, (.ref (qM 0))), (1, (.ref (qM k1))), (2, (.int (0 : Int32)))] [1, 2, 0] (by decide) rfl rfl C dX1_tiePins_1 ?_
  exact zit_J (fun p9 => [(0, (.ref (qM 0))), (1, (.ref (qM k1))), (2, (.int p9.1))]) (fun p9 => [(1, qM, p9.2), (2, qP, sP), (0, qL, sL)]) (fun kc9 hk9 p9 => vX1_tiePins_2 C hR hM50 hM51 ha1  (fun a0 a1 => hk9 (a0, a1)) _ _) F _
theorem mX1_tiePins {F : Nat} {qM : Nat → Nat} {qP : Nat → Nat} {qL : Nat → Nat} {k1 : Nat} {sM : zOS} {sP : zOS} {sL : zOS} {res : Int32 × zOS} (hM50 : qM 50 = qP 0) (hM51 : qM 51 = qL 0) (ha1 : zAr 1 k1 0 10) (hf : fX1_tiePins F k1 sM sP sL = some res) : zM yX1_tiePins cX1_tiePins 4 (some .boolean) 3 64 [(.ref (qM 0)), (.ref (qM k1))] [(1, qM, sM), (2, qP, sP), (0, qL, sL)] (some (.int res.1)) [(1, qM, res.2), (2, qP, sP), (0, qL, sL)] := zM_of (by decide +kernel) (Nat.le_of_ble_eq_true rfl) (fun X C hR => wX1_tiePins (F := F) C hR hM50 hM51 ha1 hf)
theorem dX1_isLike_0 : decode cX1_isLike 0 = .ok (.aload_n 0, 1) := by decide +kernel
theorem dX1_isLike_1 : decode cX1_isLike 1 = .ok (.getfield 39, 3) := by decide +kernel
theorem dX1_isLike_4 : decode cX1_isLike 4 = .ok (.aload_n 0, 1) := by decide +kernel
theorem dX1_isLike_5 : decode cX1_isLike 5 = .ok (.getfield 39, 3) := by decide +kernel
theorem dX1_isLike_8 : decode cX1_isLike 8 = .ok (.iload_n 1, 1) := by decide +kernel
theorem dX1_isLike_9 : decode cX1_isLike 9 = .ok (.invokevirtual 91, 3) := by decide +kernel
theorem dX1_isLike_12 : decode cX1_isLike 12 = .ok (.invokevirtual 95, 3) := by decide +kernel
theorem dX1_isLike_15 : decode cX1_isLike 15 = .ok (.aload_n 0, 1) := by decide +kernel
theorem dX1_isLike_16 : decode cX1_isLike 16 = .ok (.getfield 43, 3) := by decide +kernel
theorem dX1_isLike_19 : decode cX1_isLike 19 = .ok (.aload_n 0, 1) := by decide +kernel
theorem dX1_isLike_20 : decode cX1_isLike 20 = .ok (.getfield 43, 3) := by decide +kernel
theorem dX1_isLike_23 : decode cX1_isLike 23 = .ok (.getfield 98, 3) := by decide +kernel
theorem dX1_isLike_26 : decode cX1_isLike 26 = .ok (.iload_n 2, 1) := by decide +kernel
theorem dX1_isLike_27 : decode cX1_isLike 27 = .ok (.iaload, 1) := by decide +kernel
theorem dX1_isLike_28 : decode cX1_isLike 28 = .ok (.invokevirtual 101, 3) := by decide +kernel
theorem dX1_isLike_31 : decode cX1_isLike 31 = .ok (.if_icmp .eq 5, 3) := by decide +kernel
theorem dX1_isLike_34 : decode cX1_isLike 34 = .ok (.iconst 0, 1) := by decide +kernel
theorem dX1_isLike_35 : decode cX1_isLike 35 = .ok (.ireturn, 1) := by decide +kernel
theorem dX1_isLike_36 : decode cX1_isLike 36 = .ok (.aload_n 0, 1) := by decide +kernel
theorem dX1_isLike_37 : decode cX1_isLike 37 = .ok (.getfield 39, 3) := by decide +kernel
theorem dX1_isLike_40 : decode cX1_isLike 40 = .ok (.aload_n 0, 1) := by decide +kernel
theorem dX1_isLike_41 : decode cX1_isLike 41 = .ok (.getfield 39, 3) := by decide +kernel
theorem dX1_isLike_44 : decode cX1_isLike 44 = .ok (.iload_n 1, 1) := by decide +kernel
theorem dX1_isLike_45 : decode cX1_isLike 45 = .ok (.invokevirtual 102, 3) := by decide +kernel
theorem dX1_isLike_48 : decode cX1_isLike 48 = .ok (.invokevirtual 95, 3) := by decide +kernel
theorem dX1_isLike_51 : decode cX1_isLike 51 = .ok (.istore_n 3, 1) := by decide +kernel
theorem dX1_isLike_52 : decode cX1_isLike 52 = .ok (.aload_n 0, 1) := by decide +kernel
theorem dX1_isLike_53 : decode cX1_isLike 53 = .ok (.getfield 39, 3) := by decide +kernel
theorem dX1_isLike_56 : decode cX1_isLike 56 = .ok (.aload_n 0, 1) := by decide +kernel
theorem dX1_isLike_57 : decode cX1_isLike 57 = .ok (.getfield 39, 3) := by decide +kernel
theorem dX1_isLike_60 : decode cX1_isLike 60 = .ok (.iload_n 1, 1) := by decide +kernel
theorem dX1_isLike_61 : decode cX1_isLike 61 = .ok (.invokevirtual 105, 3) := by decide +kernel
theorem dX1_isLike_64 : decode cX1_isLike 64 = .ok (.invokevirtual 95, 3) := by decide +kernel
theorem dX1_isLike_67 : decode cX1_isLike 67 = .ok (.istore 4, 2) := by decide +kernel
theorem dX1_isLike_69 : decode cX1_isLike 69 = .ok (.aload_n 0, 1) := by decide +kernel
theorem dX1_isLike_70 : decode cX1_isLike 70 = .ok (.getfield 43, 3) := by decide +kernel
theorem dX1_isLike_73 : decode cX1_isLike 73 = .ok (.aload_n 0, 1) := by decide +kernel
theorem dX1_isLike_74 : decode cX1_isLike 74 = .ok (.getfield 43, 3) := by decide +kernel
theorem dX1_isLike_77 : decode cX1_isLike 77 = .ok (.getfield 108, 3) := by decide +kernel
theorem dX1_isLike_80 : decode cX1_isLike 80 = .ok (.iload_n 2, 1) := by decide +kernel
theorem dX1_isLike_81 : decode cX1_isLike 81 = .ok (.iaload, 1) := by decide +kernel
theorem dX1_isLike_82 : decode cX1_isLike 82 = .ok (.invokevirtual 101, 3) := by decide +kernel
theorem dX1_isLike_85 : decode cX1_isLike 85 = .ok (.istore 5, 2) := by decide +kernel
theorem dX1_isLike_87 : decode cX1_isLike 87 = .ok (.aload_n 0, 1) := by decide +kernel
theorem dX1_isLike_88 : decode cX1_isLike 88 = .ok (.getfield 43, 3) := by decide +kernel
theorem dX1_isLike_91 : decode cX1_isLike 91 = .ok (.aload_n 0, 1) := by decide +kernel
theorem dX1_isLike_92 : decode cX1_isLike 92 = .ok (.getfield 43, 3) := by decide +kernel
theorem dX1_isLike_95 : decode cX1_isLike 95 = .ok (.getfield 111, 3) := by decide +kernel
theorem dX1_isLike_98 : decode cX1_isLike 98 = .ok (.iload_n 2, 1) := by decide +kernel
theorem dX1_isLike_99 : decode cX1_isLike 99 = .ok (.iaload, 1) := by decide +kernel
theorem dX1_isLike_100 : decode cX1_isLike 100 = .ok (.invokevirtual 101, 3) := by decide +kernel
theorem dX1_isLike_103 : decode cX1_isLike 103 = .ok (.istore 6, 2) := by decide +kernel
theorem dX1_isLike_105 : decode cX1_isLike 105 = .ok (.iload_n 3, 1) := by decide +kernel
theorem dX1_isLike_106 : decode cX1_isLike 106 = .ok (.iload 5, 2) := by decide +kernel
theorem dX1_isLike_108 : decode cX1_isLike 108 = .ok (.if_icmp .ne 10, 3) := by decide +kernel
theorem dX1_isLike_111 : decode cX1_isLike 111 = .ok (.iload 4, 2) := by decide +kernel
theorem dX1_isLike_113 : decode cX1_isLike 113 = .ok (.iload 6, 2) := by decide +kernel
theorem dX1_isLike_115 : decode cX1_isLike 115 = .ok (.if_icmp .eq 16, 3) := by decide +kernel
theorem dX1_isLike_118 : decode cX1_isLike 118 = .ok (.iload_n 3, 1) := by decide +kernel
theorem dX1_isLike_119 : decode cX1_isLike 119 = .ok (.iload 6, 2) := by decide +kernel
theorem dX1_isLike_121 : decode cX1_isLike 121 = .ok (.if_icmp .ne 14, 3) := by decide +kernel
theorem dX1_isLike_124 : decode cX1_isLike 124 = .ok (.iload 4, 2) := by decide +kernel
theorem dX1_isLike_126 : decode cX1_isLike 126 = .ok (.iload 5, 2) := by decide +kernel
theorem dX1_isLike_128 : decode cX1_isLike 128 = .ok (.if_icmp .ne 7, 3) := by decide +kernel
theorem dX1_isLike_131 : decode cX1_isLike 131 = .ok (.iconst 1, 1) := by decide +kernel
theorem dX1_isLike_132 : decode cX1_isLike 132 = .ok (.goto 4, 3) := by decide +kernel
theorem dX1_isLike_135 : decode cX1_isLike 135 = .ok (.iconst 0, 1) := by decide +kernel
theorem dX1_isLike_136 : decode cX1_isLike 136 = .ok (.ireturn, 1) := by decide +kernel
def jX1_isLike_118 (F : Nat) (x3 : Int32) (x4 : Int32) (x5 : Int32) (x6 : Int32) : Option (Int32) := (if x3 = x6 then (if x4 = x5 then (zbk (1 : Int32) (some ((1 : Int32)))) else (zbk (0 : Int32) (some ((0 : Int32))))) else (zbk (0 : Int32) (some ((0 : Int32)))))
set_option maxRecDepth 20000 in
theorem wX1_isLike_118 {X : zCx} {res : Int32} {F : Nat} {qM : Nat → Nat} {qP : Nat → Nat} {qL : Nat → Nat} {sM : zOS} {sP : zOS} {sL : zOS} (C : zC X RX1 cX1_isLike 7 2 44) (hR : zR X (some .boolean) (some (.int res)) [(1, qM, sM), (2, qP, sP), (0, qL, sL)]) (hM50 : qM 50 = qP 0) (hM51 : qM 51 = qL 0) (x3 : Int32) (x4 : Int32) (x5 : Int32) (x6 : Int32) : zJ X 7 res (jX1_isLike_118 F x3 x4 x5 x6) 118 [(3, (.int x3)), (4, (.int x4)), (5, (.int x5)), (6, (.int x6))] [] [(1, qM, sM), (2, qP, sP), (0, qL, sL)] := by
  unfold jX1_isLike_118
  refine z_iload_n (pc := 118) 0 rfl rfl C dX1_isLike_118 ?_
  refine z_iload (pc := 119) 3 rfl C dX1_isLike_119 ?_
  refine z_icmp_ne (pc := 121) 135 C dX1_isLike_121 (by decide) ?_ ?_
  · refine z_iload (pc := 124) 1 rfl C dX1_isLike_124 ?_
    refine z_iload (pc := 126) 2 rfl C dX1_isLike_126 ?_
    refine z_icmp_ne (pc := 128) 135 C dX1_isLike_128 (by decide) ?_ ?_
    · refine z_iconst (pc := 131) (1 : Int32) (by decide) C dX1_isLike_131 ?_
      refine z_goto (pc := 132) 136 C dX1_isLike_132 (by decide) ?_
      exact z_zreturn (pc := 136) C hR dX1_isLike_136 (fun h => by subst h; exact ⟨rfl, rfl⟩)
    · refine z_iconst (pc := 135) (0 : Int32) (by decide) C dX1_isLike_135 ?_
      exact z_zreturn (pc := 136) C hR dX1_isLike_136 (fun h => by subst h; exact ⟨rfl, rfl⟩)
  · refine z_iconst (pc := 135) (0 : Int32) (by decide) C dX1_isLike_135 ?_
    exact z_zreturn (pc := 136) C hR dX1_isLike_136 (fun h => by subst h; exact ⟨rfl, rfl⟩)
def fX1_isLike (F : Nat) (x1 : Int32) (x2 : Int32) (sP : zOS) (sL : zOS) : Option (Int32) := (Option.bind (fX2_gateNet x1 sP) (fun r_1 : Int32 => (Option.bind (fX2_hangOf F r_1 sP) (fun r_3 : Int32 => (zchk x2 32 (Option.bind (fX0_hangOf (zI sL 9 x2.toNatClampNeg) sL) (fun r_5 : Int32 => (if r_3 = r_5 then (Option.bind (fX2_sideA x1 sP) (fun r_7 : Int32 => (Option.bind (fX2_hangOf F r_7 sP) (fun r_9 : Int32 => (Option.bind (fX2_sideB x1 sP) (fun r_11 : Int32 => (Option.bind (fX2_hangOf F r_11 sP) (fun r_13 : Int32 => (zchk x2 32 (Option.bind (fX0_hangOf (zI sL 10 x2.toNatClampNeg) sL) (fun r_15 : Int32 => (zchk x2 32 (Option.bind (fX0_hangOf (zI sL 11 x2.toNatClampNeg) sL) (fun r_17 : Int32 => (if r_9 = r_15 then (if r_13 = r_17 then (zbk (1 : Int32) (some ((1 : Int32)))) else (jX1_isLike_118 F r_9 r_13 r_15 r_17)) else (jX1_isLike_118 F r_9 r_13 r_15 r_17)))))))))))))))) else (zbk (0 : Int32) (some ((0 : Int32))))))))))))
set_option maxRecDepth 20000 in
theorem wX1_isLike {X : zCx} {res : Int32} {F : Nat} {qM : Nat → Nat} {qP : Nat → Nat} {qL : Nat → Nat} {x1 : Int32} {x2 : Int32} {sM : zOS} {sP : zOS} {sL : zOS} (C : zC X RX1 cX1_isLike 7 2 44) (hR : zR X (some .boolean) (some (.int res)) [(1, qM, sM), (2, qP, sP), (0, qL, sL)]) (hM50 : qM 50 = qP 0) (hM51 : qM 51 = qL 0) : zJ X 7 res (fX1_isLike F x1 x2 sP sL) 0 [(0, (.ref (qM 0))), (1, (.int x1)), (2, (.int x2))] [] [(1, qM, sM), (2, qP, sP), (0, qL, sL)] := by
  unfold fX1_isLike
  refine z_aload_n (pc := 0) 0 rfl rfl C dX1_isLike_0 ?_
  refine z_getE (pc := 1) 0 0 50 (qP 0) hM50 C dX1_isLike_1 rfl (by decide) (by decide) rfl zw_204 ?_
  refine z_aload_n (pc := 4) 0 rfl rfl C dX1_isLike_4 ?_
  refine z_getE (pc := 5) 0 0 50 (qP 0) hM50 C dX1_isLike_5 rfl (by decide) (by decide) rfl zw_204 ?_
  refine z_iload_n (pc := 8) 1 rfl rfl C dX1_isLike_8 ?_
  refine z_callV (pc := 9) (rf' := 0) (rl' := 0) (fX2_gateNet x1 sP) [(.int x1)] [(.ref (qP 0))] [(2, qP, sP)] (fun r_1 => (some (.int r_1))) (fun r_1 => [(2, qP, sP)]) [(1, qM, sM), (0, qL, sL)] (fun r_1 => [(1, qM, sM), (2, qP, sP), (0, qL, sL)]) C dX1_isLike_9 zy_X2_gateNet zw_521 (fun _ hr9 => mX2_gateNet  hr9) (by decide) rfl rfl (by decide) rfl (Nat.le_of_ble_eq_true rfl) (z_pm _ [1, 0, 2] (by decide)).symm (fun _ => (z_pm _ [1, 0, 2] (by decide)).symm) rfl (fun r_1 hr_2 => ?_)
  show zJ X 7 res _ 12 [(0, (.ref (qM 0))), (1, (.int x1)), (2, (.int x2))] [(.int r_1), (.ref (qP 0))] [(1, qM, sM), (2, qP, sP), (0, qL, sL)]
  refine z_callV (pc := 12) (rf' := 1) (rl' := 21) (fX2_hangOf F r_1 sP) [(.int r_1)] [] [(2, qP, sP)] (fun r_3 => (some (.int r_3))) (fun r_3 => [(2, qP, sP)]) [(1, qM, sM), (0, qL, sL)] (fun r_3 => [(1, qM, sM), (2, qP, sP), (0, qL, sL)]) C dX1_isLike_12 zy_X2_hangOf zw_525 (fun _ hr9 => mX2_hangOf  hr9) (by decide) rfl rfl (by decide) rfl (Nat.le_of_ble_eq_true rfl) (z_pm _ [1, 0, 2] (by decide)).symm (fun _ => (z_pm _ [1, 0, 2] (by decide)).symm) rfl (fun r_3 hr_4 => ?_)
  show zJ X 7 res _ 15 [(0, (.ref (qM 0))), (1, (.int x1)), (2, (.int x2))] [(.int r_3)] [(1, qM, sM), (2, qP, sP), (0, qL, sL)]
  refine z_aload_n (pc := 15) 0 rfl rfl C dX1_isLike_15 ?_
  refine z_getE (pc := 16) 0 1 51 (qL 0) hM51 C dX1_isLike_16 rfl (by decide) (by decide) rfl zw_205 ?_
  refine z_aload_n (pc := 19) 0 rfl rfl C dX1_isLike_19 ?_
  refine z_getE (pc := 20) 0 1 51 (qL 0) hM51 C dX1_isLike_20 rfl (by decide) (by decide) rfl zw_205 ?_
  refine z_getR (pc := 23) 2 8 9 C dX1_isLike_23 rfl (by decide) (by decide) rfl zw_147 ?_
  refine z_iload_n (pc := 26) 2 rfl rfl C dX1_isLike_26 ?_
  refine z_iald (pc := 27) 2 C dX1_isLike_27 rfl (by unfold zAr; decide) ?_
  refine z_callV (pc := 28) (rf' := 1) (rl' := 21) (fX0_hangOf (zI sL 9 x2.toNatClampNeg) sL) [(.int (zI sL 9 x2.toNatClampNeg))] [(.int r_3)] [(0, qL, sL)] (fun r_5 => (some (.int r_5))) (fun r_5 => [(0, qL, sL)]) [(1, qM, sM), (2, qP, sP)] (fun r_5 => [(1, qM, sM), (2, qP, sP), (0, qL, sL)]) C dX1_isLike_28 zy_X0_hangOf zw_538 (fun _ hr9 => mX0_hangOf  hr9) (by decide) rfl rfl (by decide) rfl (Nat.le_of_ble_eq_true rfl) (z_pm _ [2, 0, 1] (by decide)).symm (fun _ => (z_pm _ [1, 2, 0] (by decide)).symm) rfl (fun r_5 hr_6 => ?_)
  show zJ X 7 res _ 31 [(0, (.ref (qM 0))), (1, (.int x1)), (2, (.int x2))] [(.int r_5), (.int r_3)] [(1, qM, sM), (2, qP, sP), (0, qL, sL)]
  refine z_icmp_eq (pc := 31) 36 C dX1_isLike_31 (by decide) ?_ ?_
  · refine z_aload_n (pc := 36) 0 rfl rfl C dX1_isLike_36 ?_
    refine z_getE (pc := 37) 0 0 50 (qP 0) hM50 C dX1_isLike_37 rfl (by decide) (by decide) rfl zw_204 ?_
    refine z_aload_n (pc := 40) 0 rfl rfl C dX1_isLike_40 ?_
    refine z_getE (pc := 41) 0 0 50 (qP 0) hM50 C dX1_isLike_41 rfl (by decide) (by decide) rfl zw_204 ?_
    refine z_iload_n (pc := 44) 1 rfl rfl C dX1_isLike_44 ?_
    refine z_callV (pc := 45) (rf' := 0) (rl' := 0) (fX2_sideA x1 sP) [(.int x1)] [(.ref (qP 0))] [(2, qP, sP)] (fun r_7 => (some (.int r_7))) (fun r_7 => [(2, qP, sP)]) [(1, qM, sM), (0, qL, sL)] (fun r_7 => [(1, qM, sM), (2, qP, sP), (0, qL, sL)]) C dX1_isLike_45 zy_X2_sideA zw_542 (fun _ hr9 => mX2_sideA  hr9) (by decide) rfl rfl (by decide) rfl (Nat.le_of_ble_eq_true rfl) (z_pm _ [1, 0, 2] (by decide)).symm (fun _ => (z_pm _ [1, 0, 2] (by decide)).symm) rfl (fun r_7 hr_8 => ?_)
    show zJ X 7 res _ 48 [(0, (.ref (qM 0))), (1, (.int x1)), (2, (.int x2))] [(.int r_7), (.ref (qP 0))] [(1, qM, sM), (2, qP, sP), (0, qL, sL)]
    refine z_callV (pc := 48) (rf' := 1) (rl' := 21) (fX2_hangOf F r_7 sP) [(.int r_7)] [] [(2, qP, sP)] (fun r_9 => (some (.int r_9))) (fun r_9 => [(2, qP, sP)]) [(1, qM, sM), (0, qL, sL)] (fun r_9 => [(1, qM, sM), (2, qP, sP), (0, qL, sL)]) C dX1_isLike_48 zy_X2_hangOf zw_525 (fun _ hr9 => mX2_hangOf  hr9) (by decide) rfl rfl (by decide) rfl (Nat.le_of_ble_eq_true rfl) (z_pm _ [1, 0, 2] (by decide)).symm (fun _ => (z_pm _ [1, 0, 2] (by decide)).symm) rfl (fun r_9 hr_10 => ?_)
    show zJ X 7 res _ 51 [(0, (.ref (qM 0))), (1, (.int x1)), (2, (.int x2))] [(.int r_9)] [(1, qM, sM), (2, qP, sP), (0, qL, sL)]
    refine z_istore_n (pc := 51) [(0, (.ref (qM 0))), (1, (.int x1)), (2, (.int x2)), (3, (.int r_9))] [1, 2, 3, 0] (by decide) rfl rfl C dX1_isLike_51 ?_
    refine z_aload_n (pc := 52) 0 rfl rfl C dX1_isLike_52 ?_
    refine z_getE (pc := 53) 0 0 50 (qP 0) hM50 C dX1_isLike_53 rfl (by decide) (by decide) rfl zw_204 ?_
    refine z_aload_n (pc := 56) 0 rfl rfl C dX1_isLike_56 ?_
    refine z_getE (pc := 57) 0 0 50 (qP 0) hM50 C dX1_isLike_57 rfl (by decide) (by decide) rfl zw_204 ?_
    refine z_iload_n (pc := 60) 1 rfl rfl C dX1_isLike_60 ?_
    refine z_callV (pc := 61) (rf' := 0) (rl' := 0) (fX2_sideB x1 sP) [(.int x1)] [(.ref (qP 0))] [(2, qP, sP)] (fun r_11 => (some (.int r_11))) (fun r_11 => [(2, qP, sP)]) [(1, qM, sM), (0, qL, sL)] (fun r_11 => [(1, qM, sM), (2, qP, sP), (0, qL, sL)]) C dX1_isLike_61 zy_X2_sideB zw_543 (fun _ hr9 => mX2_sideB  hr9) (by decide) rfl rfl (by decide) rfl (Nat.le_of_ble_eq_true rfl) (z_pm _ [1, 0, 2] (by decide)).symm (fun _ => (z_pm _ [1, 0, 2] (by decide)).symm) rfl (fun r_11 hr_12 => ?_)
    show zJ X 7 res _ 64 [(0, (.ref (qM 0))), (1, (.int x1)), (2, (.int x2)), (3, (.int r_9))] [(.int r_11), (.ref (qP 0))] [(1, qM, sM), (2, qP, sP), (0, qL, sL)]
    refine z_callV (pc := 64) (rf' := 1) (rl' := 21) (fX2_hangOf F r_11 sP) [(.int r_11)] [] [(2, qP, sP)] (fun r_13 => (some (.int r_13))) (fun r_13 => [(2, qP, sP)]) [(1, qM, sM), (0, qL, sL)] (fun r_13 => [(1, qM, sM), (2, qP, sP), (0, qL, sL)]) C dX1_isLike_64 zy_X2_hangOf zw_525 (fun _ hr9 => mX2_hangOf  hr9) (by decide) rfl rfl (by decide) rfl (Nat.le_of_ble_eq_true rfl) (z_pm _ [1, 0, 2] (by decide)).symm (fun _ => (z_pm _ [1, 0, 2] (by decide)).symm) rfl (fun r_13 hr_14 => ?_)
    show zJ X 7 res _ 67 [(0, (.ref (qM 0))), (1, (.int x1)), (2, (.int x2)), (3, (.int r_9))] [(.int r_13)] [(1, qM, sM), (2, qP, sP), (0, qL, sL)]
    refine z_istore (pc := 67) [(0, (.ref (qM 0))), (1, (.int x1)), (2, (.int x2)), (3, (.int r_9)), (4, (.int r_13))] [1, 2, 3, 4, 0] (by decide) rfl C dX1_isLike_67 ?_
    refine z_aload_n (pc := 69) 0 rfl rfl C dX1_isLike_69 ?_
    refine z_getE (pc := 70) 0 1 51 (qL 0) hM51 C dX1_isLike_70 rfl (by decide) (by decide) rfl zw_205 ?_
    refine z_aload_n (pc := 73) 0 rfl rfl C dX1_isLike_73 ?_
    refine z_getE (pc := 74) 0 1 51 (qL 0) hM51 C dX1_isLike_74 rfl (by decide) (by decide) rfl zw_205 ?_
    refine z_getR (pc := 77) 2 9 10 C dX1_isLike_77 rfl (by decide) (by decide) rfl zw_149 ?_
    refine z_iload_n (pc := 80) 2 rfl rfl C dX1_isLike_80 ?_
    refine z_iald (pc := 81) 2 C dX1_isLike_81 rfl (by unfold zAr; decide) ?_
    refine z_callV (pc := 82) (rf' := 1) (rl' := 21) (fX0_hangOf (zI sL 10 x2.toNatClampNeg) sL) [(.int (zI sL 10 x2.toNatClampNeg))] [] [(0, qL, sL)] (fun r_15 => (some (.int r_15))) (fun r_15 => [(0, qL, sL)]) [(1, qM, sM), (2, qP, sP)] (fun r_15 => [(1, qM, sM), (2, qP, sP), (0, qL, sL)]) C dX1_isLike_82 zy_X0_hangOf zw_538 (fun _ hr9 => mX0_hangOf  hr9) (by decide) rfl rfl (by decide) rfl (Nat.le_of_ble_eq_true rfl) (z_pm _ [2, 0, 1] (by decide)).symm (fun _ => (z_pm _ [1, 2, 0] (by decide)).symm) rfl (fun r_15 hr_16 => ?_)
    show zJ X 7 res _ 85 [(0, (.ref (qM 0))), (1, (.int x1)), (2, (.int x2)), (3, (.int r_9)), (4, (.int r_13))] [(.int r_15)] [(1, qM, sM), (2, qP, sP), (0, qL, sL)]
    refine z_istore (pc := 85) [(0, (.ref (qM 0))), (1, (.int x1)), (2, (.int x2)), (3, (.int r_9)), (4, (.int r_13)), (5, (.int r_15))] [1, 2, 3, 4, 5, 0] (by decide) rfl C dX1_isLike_85 ?_
    refine z_aload_n (pc := 87) 0 rfl rfl C dX1_isLike_87 ?_
    refine z_getE (pc := 88) 0 1 51 (qL 0) hM51 C dX1_isLike_88 rfl (by decide) (by decide) rfl zw_205 ?_
    refine z_aload_n (pc := 91) 0 rfl rfl C dX1_isLike_91 ?_
    refine z_getE (pc := 92) 0 1 51 (qL 0) hM51 C dX1_isLike_92 rfl (by decide) (by decide) rfl zw_205 ?_
    refine z_getR (pc := 95) 2 10 11 C dX1_isLike_95 rfl (by decide) (by decide) rfl zw_151 ?_
    refine z_iload_n (pc := 98) 2 rfl rfl C dX1_isLike_98 ?_
    refine z_iald (pc := 99) 2 C dX1_isLike_99 rfl (by unfold zAr; decide) ?_
    refine z_callV (pc := 100) (rf' := 1) (rl' := 21) (fX0_hangOf (zI sL 11 x2.toNatClampNeg) sL) [(.int (zI sL 11 x2.toNatClampNeg))] [] [(0, qL, sL)] (fun r_17 => (some (.int r_17))) (fun r_17 => [(0, qL, sL)]) [(1, qM, sM), (2, qP, sP)] (fun r_17 => [(1, qM, sM), (2, qP, sP), (0, qL, sL)]) C dX1_isLike_100 zy_X0_hangOf zw_538 (fun _ hr9 => mX0_hangOf  hr9) (by decide) rfl rfl (by decide) rfl (Nat.le_of_ble_eq_true rfl) (z_pm _ [2, 0, 1] (by decide)).symm (fun _ => (z_pm _ [1, 2, 0] (by decide)).symm) rfl (fun r_17 hr_18 => ?_)
    show zJ X 7 res _ 103 [(0, (.ref (qM 0))), (1, (.int x1)), (2, (.int x2)), (3, (.int r_9)), (4, (.int r_13)), (5, (.int r_15))] [(.int r_17)] [(1, qM, sM), (2, qP, sP), (0, qL, sL)]
    refine z_istore (pc := 103) [(0, (.ref (qM 0))), (1, (.int x1)), (2, (.int x2)), (3, (.int r_9)), (4, (.int r_13)), (5, (.int r_15)), (6, (.int r_17))] [1, 2, 3, 4, 5, 6, 0] (by decide) rfl C dX1_isLike_103 ?_
    refine z_iload_n (pc := 105) 3 rfl rfl C dX1_isLike_105 ?_
    refine z_iload (pc := 106) 5 rfl C dX1_isLike_106 ?_
    refine z_icmp_ne (pc := 108) 118 C dX1_isLike_108 (by decide) ?_ ?_
    · refine z_iload (pc := 111) 4 rfl C dX1_isLike_111 ?_
      refine z_iload (pc := 113) 6 rfl C dX1_isLike_113 ?_
      refine z_icmp_eq (pc := 115) 131 C dX1_isLike_115 (by decide) ?_ ?_
      · refine z_iconst (pc := 131) (1 : Int32) (by decide) C dX1_isLike_131 ?_
        refine z_goto (pc := 132) 136 C dX1_isLike_132 (by decide) ?_
        exact z_zreturn (pc := 136) C hR dX1_isLike_136 (fun h => by subst h; exact ⟨rfl, rfl⟩)
      · refine z_lv [(3, (.int r_9)), (4, (.int r_13)), (5, (.int r_15)), (6, (.int r_17))] [3, 4, 5, 6] rfl ?_
        exact wX1_isLike_118 C hR hM50 hM51  _ _ _ _
    · refine z_lv [(3, (.int r_9)), (4, (.int r_13)), (5, (.int r_15)), (6, (.int r_17))] [3, 4, 5, 6] rfl ?_
      exact wX1_isLike_118 C hR hM50 hM51  _ _ _ _
  · refine z_iconst (pc := 34) (0 : Int32) (by decide) C dX1_isLike_34 ?_
    exact z_zreturn (pc := 35) C hR dX1_isLike_35 (fun h => by subst h; exact ⟨rfl, rfl⟩)
theorem mX1_isLike {F : Nat} {qM : Nat → Nat} {qP : Nat → Nat} {qL : Nat → Nat} {x1 : Int32} {x2 : Int32} {sM : zOS} {sP : zOS} {sL : zOS} {res : Int32} (hM50 : qM 50 = qP 0) (hM51 : qM 51 = qL 0) (hf : fX1_isLike F x1 x2 sP sL = some res) : zM yX1_isLike cX1_isLike 7 (some .boolean) 2 44 [(.ref (qM 0)), (.int x1), (.int x2)] [(1, qM, sM), (2, qP, sP), (0, qL, sL)] (some (.int res)) [(1, qM, sM), (2, qP, sP), (0, qL, sL)] := zM_of (by decide +kernel) (Nat.le_of_ble_eq_true rfl) (fun X C hR => wX1_isLike (F := F) C hR hM50 hM51 hf)
theorem dX1_findLikes_0 : decode cX1_findLikes 0 = .ok (.iconst 0, 1) := by decide +kernel
theorem dX1_findLikes_1 : decode cX1_findLikes 1 = .ok (.istore_n 1, 1) := by decide +kernel
theorem dX1_findLikes_2 : decode cX1_findLikes 2 = .ok (.iload_n 1, 1) := by decide +kernel
theorem dX1_findLikes_3 : decode cX1_findLikes 3 = .ok (.aload_n 0, 1) := by decide +kernel
theorem dX1_findLikes_4 : decode cX1_findLikes 4 = .ok (.getfield 39, 3) := by decide +kernel
theorem dX1_findLikes_7 : decode cX1_findLikes 7 = .ok (.getfield 75, 3) := by decide +kernel
theorem dX1_findLikes_10 : decode cX1_findLikes 10 = .ok (.if_icmp .ge 67, 3) := by decide +kernel
theorem dX1_findLikes_13 : decode cX1_findLikes 13 = .ok (.aload_n 0, 1) := by decide +kernel
theorem dX1_findLikes_14 : decode cX1_findLikes 14 = .ok (.getfield 9, 3) := by decide +kernel
theorem dX1_findLikes_17 : decode cX1_findLikes 17 = .ok (.iload_n 1, 1) := by decide +kernel
theorem dX1_findLikes_18 : decode cX1_findLikes 18 = .ok (.iconst 0, 1) := by decide +kernel
theorem dX1_findLikes_19 : decode cX1_findLikes 19 = .ok (.iastore, 1) := by decide +kernel
theorem dX1_findLikes_20 : decode cX1_findLikes 20 = .ok (.iconst 0, 1) := by decide +kernel
theorem dX1_findLikes_21 : decode cX1_findLikes 21 = .ok (.istore_n 2, 1) := by decide +kernel
theorem dX1_findLikes_22 : decode cX1_findLikes 22 = .ok (.iload_n 2, 1) := by decide +kernel
theorem dX1_findLikes_23 : decode cX1_findLikes 23 = .ok (.aload_n 0, 1) := by decide +kernel
theorem dX1_findLikes_24 : decode cX1_findLikes 24 = .ok (.getfield 43, 3) := by decide +kernel
theorem dX1_findLikes_27 : decode cX1_findLikes 27 = .ok (.getfield 80, 3) := by decide +kernel
theorem dX1_findLikes_30 : decode cX1_findLikes 30 = .ok (.if_icmp .ge 41, 3) := by decide +kernel
theorem dX1_findLikes_33 : decode cX1_findLikes 33 = .ok (.aload_n 0, 1) := by decide +kernel
theorem dX1_findLikes_34 : decode cX1_findLikes 34 = .ok (.getfield 43, 3) := by decide +kernel
theorem dX1_findLikes_37 : decode cX1_findLikes 37 = .ok (.iload_n 2, 1) := by decide +kernel
theorem dX1_findLikes_38 : decode cX1_findLikes 38 = .ok (.invokevirtual 83, 3) := by decide +kernel
theorem dX1_findLikes_41 : decode cX1_findLikes 41 = .ok (.ifCond .eq 24, 3) := by decide +kernel
theorem dX1_findLikes_44 : decode cX1_findLikes 44 = .ok (.aload_n 0, 1) := by decide +kernel
theorem dX1_findLikes_45 : decode cX1_findLikes 45 = .ok (.iload_n 1, 1) := by decide +kernel
theorem dX1_findLikes_46 : decode cX1_findLikes 46 = .ok (.iload_n 2, 1) := by decide +kernel
theorem dX1_findLikes_47 : decode cX1_findLikes 47 = .ok (.invokevirtual 87, 3) := by decide +kernel
theorem dX1_findLikes_50 : decode cX1_findLikes 50 = .ok (.ifCond .eq 15, 3) := by decide +kernel
theorem dX1_findLikes_53 : decode cX1_findLikes 53 = .ok (.aload_n 0, 1) := by decide +kernel
theorem dX1_findLikes_54 : decode cX1_findLikes 54 = .ok (.getfield 9, 3) := by decide +kernel
theorem dX1_findLikes_57 : decode cX1_findLikes 57 = .ok (.iload_n 1, 1) := by decide +kernel
theorem dX1_findLikes_58 : decode cX1_findLikes 58 = .ok (.dup2, 1) := by decide +kernel
theorem dX1_findLikes_59 : decode cX1_findLikes 59 = .ok (.iaload, 1) := by decide +kernel
theorem dX1_findLikes_60 : decode cX1_findLikes 60 = .ok (.iconst 1, 1) := by decide +kernel
theorem dX1_findLikes_61 : decode cX1_findLikes 61 = .ok (.iload_n 2, 1) := by decide +kernel
theorem dX1_findLikes_62 : decode cX1_findLikes 62 = .ok (.ishl, 1) := by decide +kernel
theorem dX1_findLikes_63 : decode cX1_findLikes 63 = .ok (.ior, 1) := by decide +kernel
theorem dX1_findLikes_64 : decode cX1_findLikes 64 = .ok (.iastore, 1) := by decide +kernel
theorem dX1_findLikes_65 : decode cX1_findLikes 65 = .ok (.iinc 2 1, 3) := by decide +kernel
theorem dX1_findLikes_68 : decode cX1_findLikes 68 = .ok (.goto (-46), 3) := by decide +kernel
theorem dX1_findLikes_71 : decode cX1_findLikes 71 = .ok (.iinc 1 1, 3) := by decide +kernel
theorem dX1_findLikes_74 : decode cX1_findLikes 74 = .ok (.goto (-72), 3) := by decide +kernel
theorem dX1_findLikes_77 : decode cX1_findLikes 77 = .ok (.return_, 1) := by decide +kernel
def bX1_findLikes_22 (F : Nat) (kc_2 : (Int32 × zOS) → Option (zOS)) (x1 : Int32) (sP : zOS) (sL : zOS) (kc_22 : (Int32 × zOS) → Option (zOS)) (x2 : Int32) (sM : zOS) : Option (zOS) := (if (zF sL 14) ≤ x2 then (kc_2 ((x1 + 1), sM)) else (Option.bind (fX0_isWell x2 sL) (fun r_2 : Int32 => (if r_2 = 0 then (kc_22 ((x2 + 1), sM)) else (Option.bind (fX1_isLike F x1 x2 sP sL) (fun r_4 : Int32 => (if r_4 = 0 then (kc_22 ((x2 + 1), sM)) else (zchk x1 6 (zchk x1 6 (zlet (zsI sM 1 (upd (zI sM 1) x1.toNatClampNeg ((zI sM 1 x1.toNatClampNeg) ||| ((1 : Int32) <<< (x2 &&& 31))))) (fun sM_6 : zOS => (kc_22 ((x2 + 1), sM_6)))))))))))))
set_option maxRecDepth 20000 in
theorem vX1_findLikes_22 {X : zCx} {res : zOS} {F : Nat} {qM : Nat → Nat} {qP : Nat → Nat} {qL : Nat → Nat} {sP : zOS} {sL : zOS} {x1 : Int32} {kc_2 : (Int32 × zOS) → Option (zOS)} {kc_22 : (Int32 × zOS) → Option (zOS)} (C : zC X RX1 cX1_findLikes 3 3 70) (hR : zR X none none [(1, qM, res), (2, qP, sP), (0, qL, sL)]) (hM50 : qM 50 = qP 0) (hM51 : qM 51 = qL 0) (hk_2 : ∀ (y1 : Int32) (tM : zOS), zJ X 3 res (kc_2 (y1, tM)) 2 [(0, (.ref (qM 0))), (1, (.int y1))] [] [(1, qM, tM), (2, qP, sP), (0, qL, sL)]) (hk_22 : ∀ (y2 : Int32) (tM : zOS), zJ X 3 res (kc_22 (y2, tM)) 22 [(0, (.ref (qM 0))), (1, (.int x1)), (2, (.int y2))] [] [(1, qM, tM), (2, qP, sP), (0, qL, sL)]) (x2 : Int32) (sM : zOS) : zJ X 3 res (bX1_findLikes_22 F kc_2 x1 sP sL kc_22 x2 sM) 22 [(0, (.ref (qM 0))), (1, (.int x1)), (2, (.int x2))] [] [(1, qM, sM), (2, qP, sP), (0, qL, sL)] := by
  unfold bX1_findLikes_22
  refine z_iload_n (pc := 22) 2 rfl rfl C dX1_findLikes_22 ?_
  refine z_aload_n (pc := 23) 0 rfl rfl C dX1_findLikes_23 ?_
  refine z_getE (pc := 24) 0 1 51 (qL 0) hM51 C dX1_findLikes_24 rfl (by decide) (by decide) rfl zw_205 ?_
  refine z_getI (pc := 27) 2 14 C dX1_findLikes_27 rfl (by decide) (by decide) rfl zw_158 ?_
  refine z_icmp_ge (pc := 30) 71 C dX1_findLikes_30 (by decide) ?_ ?_
  · refine z_iinc (pc := 71) (x1 + 1) 1 rfl rfl [(0, (.ref (qM 0))), (1, (.int (x1 + 1))), (2, (.int x2))] [1, 0, 2] (by decide) rfl C dX1_findLikes_71 ?_
    refine z_goto (pc := 74) 2 C dX1_findLikes_74 (by decide) ?_
    refine z_lv [(0, (.ref (qM 0))), (1, (.int (x1 + 1)))] [0, 1] rfl ?_
    exact hk_2 _ _
  · refine z_aload_n (pc := 33) 0 rfl rfl C dX1_findLikes_33 ?_
    refine z_getE (pc := 34) 0 1 51 (qL 0) hM51 C dX1_findLikes_34 rfl (by decide) (by decide) rfl zw_205 ?_
    refine z_iload_n (pc := 37) 2 rfl rfl C dX1_findLikes_37 ?_
    refine z_callV (pc := 38) (rf' := 0) (rl' := 0) (fX0_isWell x2 sL) [(.int x2)] [] [(0, qL, sL)] (fun r_2 => (some (.int r_2))) (fun r_2 => [(0, qL, sL)]) [(1, qM, sM), (2, qP, sP)] (fun r_2 => [(1, qM, sM), (2, qP, sP), (0, qL, sL)]) C dX1_findLikes_38 zy_X0_isWell zw_516 (fun _ hr9 => mX0_isWell  hr9) (by decide) rfl rfl (by decide) rfl (Nat.le_of_ble_eq_true rfl) (z_pm _ [2, 0, 1] (by decide)).symm (fun _ => (z_pm _ [1, 2, 0] (by decide)).symm) rfl (fun r_2 hr_3 => ?_)
    show zJ X 3 res _ 41 [(0, (.ref (qM 0))), (1, (.int x1)), (2, (.int x2))] [(.int r_2)] [(1, qM, sM), (2, qP, sP), (0, qL, sL)]
    refine z_if_eq (pc := 41) 65 C dX1_findLikes_41 (by decide) ?_ ?_
    · refine z_iinc (pc := 65) (x2 + 1) 2 rfl rfl [(0, (.ref (qM 0))), (1, (.int x1)), (2, (.int (x2 + 1)))] [1, 2, 0] (by decide) rfl C dX1_findLikes_65 ?_
      refine z_goto (pc := 68) 22 C dX1_findLikes_68 (by decide) ?_
      exact hk_22 _ _
    · refine z_aload_n (pc := 44) 0 rfl rfl C dX1_findLikes_44 ?_
      refine z_iload_n (pc := 45) 1 rfl rfl C dX1_findLikes_45 ?_
      refine z_iload_n (pc := 46) 2 rfl rfl C dX1_findLikes_46 ?_
      refine z_callV (pc := 47) (rf' := 2) (rl' := 44) (fX1_isLike F x1 x2 sP sL) [(.int x1), (.int x2)] [] [(1, qM, sM), (2, qP, sP), (0, qL, sL)] (fun r_4 => (some (.int r_4))) (fun r_4 => [(1, qM, sM), (2, qP, sP), (0, qL, sL)]) [] (fun r_4 => [(1, qM, sM), (2, qP, sP), (0, qL, sL)]) C dX1_findLikes_47 zy_X1_isLike zw_517 (fun _ hr9 => mX1_isLike hM50 hM51 hr9) (by decide) rfl rfl (by decide) rfl (Nat.le_of_ble_eq_true rfl) (List.Perm.refl _) (fun _ => List.Perm.refl _) rfl (fun r_4 hr_5 => ?_)
      show zJ X 3 res _ 50 [(0, (.ref (qM 0))), (1, (.int x1)), (2, (.int x2))] [(.int r_4)] [(1, qM, sM), (2, qP, sP), (0, qL, sL)]
      refine z_if_eq (pc := 50) 65 C dX1_findLikes_50 (by decide) ?_ ?_
      · refine z_iinc (pc := 65) (x2 + 1) 2 rfl rfl [(0, (.ref (qM 0))), (1, (.int x1)), (2, (.int (x2 + 1)))] [1, 2, 0] (by decide) rfl C dX1_findLikes_65 ?_
        refine z_goto (pc := 68) 22 C dX1_findLikes_68 (by decide) ?_
        exact hk_22 _ _
      · refine z_aload_n (pc := 53) 0 rfl rfl C dX1_findLikes_53 ?_
        refine z_getR (pc := 54) 0 2 1 C dX1_findLikes_54 rfl (by decide) (by decide) rfl zw_206 ?_
        refine z_iload_n (pc := 57) 1 rfl rfl C dX1_findLikes_57 ?_
        refine z_dup2 (pc := 58) rfl rfl C dX1_findLikes_58 ?_
        refine z_iald (pc := 59) 0 C dX1_findLikes_59 rfl (by unfold zAr; decide) ?_
        refine z_iconst (pc := 60) (1 : Int32) (by decide) C dX1_findLikes_60 ?_
        refine z_iload_n (pc := 61) 2 rfl rfl C dX1_findLikes_61 ?_
        refine z_ishl (pc := 62) C dX1_findLikes_62 ?_
        refine z_ior (pc := 63) C dX1_findLikes_63 ?_
        refine z_iast (pc := 64) 0 C dX1_findLikes_64 rfl (by unfold zAr; decide) [(1, qM, (zsI sM 1 (upd (zI sM 1) x1.toNatClampNeg ((zI sM 1 x1.toNatClampNeg) ||| ((1 : Int32) <<< (x2 &&& 31)))))), (2, qP, sP), (0, qL, sL)] rfl ?_
        refine z_letc (fun z9 => [(1, qM, z9), (2, qP, sP), (0, qL, sL)]) (fun sM_6 => ?_)
        refine z_iinc (pc := 65) (x2 + 1) 2 rfl rfl [(0, (.ref (qM 0))), (1, (.int x1)), (2, (.int (x2 + 1)))] [1, 2, 0] (by decide) rfl C dX1_findLikes_65 ?_
        refine z_goto (pc := 68) 22 C dX1_findLikes_68 (by decide) ?_
        exact hk_22 _ _
def bX1_findLikes_2 (F : Nat) (sP : zOS) (sL : zOS) (kc_2 : (Int32 × zOS) → Option (zOS)) (x1 : Int32) (sM : zOS) : Option (zOS) := (if (zF sP 3) ≤ x1 then (some (sM)) else (zchk x1 6 (zlet (zsI sM 1 (upd (zI sM 1) x1.toNatClampNeg (0 : Int32))) (fun sM_1 : zOS => (zit (P := Int32 × zOS) (R := zOS) (fun kc9 p9 => bX1_findLikes_22 F kc_2 x1 sP sL kc9 p9.1 p9.2) F ((0 : Int32), sM_1))))))
set_option maxRecDepth 20000 in
theorem vX1_findLikes_2 {X : zCx} {res : zOS} {F : Nat} {qM : Nat → Nat} {qP : Nat → Nat} {qL : Nat → Nat} {sP : zOS} {sL : zOS} {kc_2 : (Int32 × zOS) → Option (zOS)} (C : zC X RX1 cX1_findLikes 3 3 70) (hR : zR X none none [(1, qM, res), (2, qP, sP), (0, qL, sL)]) (hM50 : qM 50 = qP 0) (hM51 : qM 51 = qL 0) (hk_2 : ∀ (y1 : Int32) (tM : zOS), zJ X 3 res (kc_2 (y1, tM)) 2 [(0, (.ref (qM 0))), (1, (.int y1))] [] [(1, qM, tM), (2, qP, sP), (0, qL, sL)]) (x1 : Int32) (sM : zOS) : zJ X 3 res (bX1_findLikes_2 F sP sL kc_2 x1 sM) 2 [(0, (.ref (qM 0))), (1, (.int x1))] [] [(1, qM, sM), (2, qP, sP), (0, qL, sL)] := by
  unfold bX1_findLikes_2
  refine z_iload_n (pc := 2) 1 rfl rfl C dX1_findLikes_2 ?_
  refine z_aload_n (pc := 3) 0 rfl rfl C dX1_findLikes_3 ?_
  refine z_getE (pc := 4) 0 0 50 (qP 0) hM50 C dX1_findLikes_4 rfl (by decide) (by decide) rfl zw_204 ?_
  refine z_getI (pc := 7) 1 3 C dX1_findLikes_7 rfl (by decide) (by decide) rfl zw_110 ?_
  refine z_icmp_ge (pc := 10) 77 C dX1_findLikes_10 (by decide) ?_ ?_
  · exact z_return (pc := 77) C hR dX1_findLikes_77 (fun h => by subst h; exact ⟨rfl, rfl⟩)
  · refine z_aload_n (pc := 13) 0 rfl rfl C dX1_findLikes_13 ?_
    refine z_getR (pc := 14) 0 2 1 C dX1_findLikes_14 rfl (by decide) (by decide) rfl zw_206 ?_
    refine z_iload_n (pc := 17) 1 rfl rfl C dX1_findLikes_17 ?_
    refine z_iconst (pc := 18) (0 : Int32) (by decide) C dX1_findLikes_18 ?_
    refine z_iast (pc := 19) 0 C dX1_findLikes_19 rfl (by unfold zAr; decide) [(1, qM, (zsI sM 1 (upd (zI sM 1) x1.toNatClampNeg (0 : Int32)))), (2, qP, sP), (0, qL, sL)] rfl ?_
    refine z_letc (fun z9 => [(1, qM, z9), (2, qP, sP), (0, qL, sL)]) (fun sM_1 => ?_)
    refine z_iconst (pc := 20) (0 : Int32) (by decide) C dX1_findLikes_20 ?_
    refine z_istore_n (pc := 21) [(0, (.ref (qM 0))), (1, (.int x1)), (2, (.int (0 : Int32)))] [1, 2, 0] (by decide) rfl rfl C dX1_findLikes_21 ?_
    exact zit_J (fun p9 => [(0, (.ref (qM 0))), (1, (.int x1)), (2, (.int p9.1))]) (fun p9 => [(1, qM, p9.2), (2, qP, sP), (0, qL, sL)]) (fun kc9 hk9 p9 => vX1_findLikes_22 C hR hM50 hM51 hk_2 (fun a0 a1 => hk9 (a0, a1)) _ _) F _
def fX1_findLikes (F : Nat) (sM : zOS) (sP : zOS) (sL : zOS) : Option (zOS) := (zit (P := Int32 × zOS) (R := zOS) (fun kc9 p9 => bX1_findLikes_2 F sP sL kc9 p9.1 p9.2) F ((0 : Int32), sM))
set_option maxRecDepth 20000 in
theorem wX1_findLikes {X : zCx} {res : zOS} {F : Nat} {qM : Nat → Nat} {qP : Nat → Nat} {qL : Nat → Nat} {sM : zOS} {sP : zOS} {sL : zOS} (C : zC X RX1 cX1_findLikes 3 3 70) (hR : zR X none none [(1, qM, res), (2, qP, sP), (0, qL, sL)]) (hM50 : qM 50 = qP 0) (hM51 : qM 51 = qL 0) : zJ X 3 res (fX1_findLikes F sM sP sL) 0 [(0, (.ref (qM 0)))] [] [(1, qM, sM), (2, qP, sP), (0, qL, sL)] := by
  unfold fX1_findLikes
  refine z_iconst (pc := 0) (0 : Int32) (by decide) C dX1_findLikes_0 ?_
  refine z_istore_n (pc := 1) [(0, (.ref (qM 0))), (1, (.int (0 : Int32)))] [1, 0] (by decide) rfl rfl C dX1_findLikes_1 ?_
  exact zit_J (fun p9 => [(0, (.ref (qM 0))), (1, (.int p9.1))]) (fun p9 => [(1, qM, p9.2), (2, qP, sP), (0, qL, sL)]) (fun kc9 hk9 p9 => vX1_findLikes_2 C hR hM50 hM51  (fun a0 a1 => hk9 (a0, a1)) _ _) F _
theorem mX1_findLikes {F : Nat} {qM : Nat → Nat} {qP : Nat → Nat} {qL : Nat → Nat} {sM : zOS} {sP : zOS} {sL : zOS} {res : zOS} (hM50 : qM 50 = qP 0) (hM51 : qM 51 = qL 0) (hf : fX1_findLikes F sM sP sL = some res) : zM yX1_findLikes cX1_findLikes 3 none 3 70 [(.ref (qM 0))] [(1, qM, sM), (2, qP, sP), (0, qL, sL)] none [(1, qM, res), (2, qP, sP), (0, qL, sL)] := zM_of (by decide +kernel) (Nat.le_of_ble_eq_true rfl) (fun X C hR => wX1_findLikes (F := F) C hR hM50 hM51 hf)
theorem dX1_countLeftOver_0 : decode cX1_countLeftOver 0 = .ok (.iconst 0, 1) := by decide +kernel
theorem dX1_countLeftOver_1 : decode cX1_countLeftOver 1 = .ok (.istore_n 1, 1) := by decide +kernel
theorem dX1_countLeftOver_2 : decode cX1_countLeftOver 2 = .ok (.iconst 0, 1) := by decide +kernel
theorem dX1_countLeftOver_3 : decode cX1_countLeftOver 3 = .ok (.istore_n 2, 1) := by decide +kernel
theorem dX1_countLeftOver_4 : decode cX1_countLeftOver 4 = .ok (.iconst 0, 1) := by decide +kernel
theorem dX1_countLeftOver_5 : decode cX1_countLeftOver 5 = .ok (.istore_n 3, 1) := by decide +kernel
theorem dX1_countLeftOver_6 : decode cX1_countLeftOver 6 = .ok (.iload_n 3, 1) := by decide +kernel
theorem dX1_countLeftOver_7 : decode cX1_countLeftOver 7 = .ok (.aload_n 0, 1) := by decide +kernel
theorem dX1_countLeftOver_8 : decode cX1_countLeftOver 8 = .ok (.getfield 39, 3) := by decide +kernel
theorem dX1_countLeftOver_11 : decode cX1_countLeftOver 11 = .ok (.getfield 75, 3) := by decide +kernel
theorem dX1_countLeftOver_14 : decode cX1_countLeftOver 14 = .ok (.if_icmp .ge 38, 3) := by decide +kernel
theorem dX1_countLeftOver_17 : decode cX1_countLeftOver 17 = .ok (.aload_n 0, 1) := by decide +kernel
theorem dX1_countLeftOver_18 : decode cX1_countLeftOver 18 = .ok (.getfield 9, 3) := by decide +kernel
theorem dX1_countLeftOver_21 : decode cX1_countLeftOver 21 = .ok (.iload_n 3, 1) := by decide +kernel
theorem dX1_countLeftOver_22 : decode cX1_countLeftOver 22 = .ok (.iaload, 1) := by decide +kernel
theorem dX1_countLeftOver_23 : decode cX1_countLeftOver 23 = .ok (.iload_n 1, 1) := by decide +kernel
theorem dX1_countLeftOver_24 : decode cX1_countLeftOver 24 = .ok (.iconst (-1), 1) := by decide +kernel
theorem dX1_countLeftOver_25 : decode cX1_countLeftOver 25 = .ok (.ixor, 1) := by decide +kernel
theorem dX1_countLeftOver_26 : decode cX1_countLeftOver 26 = .ok (.iand, 1) := by decide +kernel
theorem dX1_countLeftOver_27 : decode cX1_countLeftOver 27 = .ok (.istore 4, 2) := by decide +kernel
theorem dX1_countLeftOver_29 : decode cX1_countLeftOver 29 = .ok (.iload 4, 2) := by decide +kernel
theorem dX1_countLeftOver_31 : decode cX1_countLeftOver 31 = .ok (.ifCond .eq 15, 3) := by decide +kernel
theorem dX1_countLeftOver_34 : decode cX1_countLeftOver 34 = .ok (.iload_n 1, 1) := by decide +kernel
theorem dX1_countLeftOver_35 : decode cX1_countLeftOver 35 = .ok (.iload 4, 2) := by decide +kernel
theorem dX1_countLeftOver_37 : decode cX1_countLeftOver 37 = .ok (.iload 4, 2) := by decide +kernel
theorem dX1_countLeftOver_39 : decode cX1_countLeftOver 39 = .ok (.ineg, 1) := by decide +kernel
theorem dX1_countLeftOver_40 : decode cX1_countLeftOver 40 = .ok (.iand, 1) := by decide +kernel
theorem dX1_countLeftOver_41 : decode cX1_countLeftOver 41 = .ok (.ior, 1) := by decide +kernel
theorem dX1_countLeftOver_42 : decode cX1_countLeftOver 42 = .ok (.istore_n 1, 1) := by decide +kernel
theorem dX1_countLeftOver_43 : decode cX1_countLeftOver 43 = .ok (.iinc 2 1, 3) := by decide +kernel
theorem dX1_countLeftOver_46 : decode cX1_countLeftOver 46 = .ok (.iinc 3 1, 3) := by decide +kernel
theorem dX1_countLeftOver_49 : decode cX1_countLeftOver 49 = .ok (.goto (-43), 3) := by decide +kernel
theorem dX1_countLeftOver_52 : decode cX1_countLeftOver 52 = .ok (.aload_n 0, 1) := by decide +kernel
theorem dX1_countLeftOver_53 : decode cX1_countLeftOver 53 = .ok (.getfield 43, 3) := by decide +kernel
theorem dX1_countLeftOver_56 : decode cX1_countLeftOver 56 = .ok (.getfield 80, 3) := by decide +kernel
theorem dX1_countLeftOver_59 : decode cX1_countLeftOver 59 = .ok (.aload_n 0, 1) := by decide +kernel
theorem dX1_countLeftOver_60 : decode cX1_countLeftOver 60 = .ok (.getfield 43, 3) := by decide +kernel
theorem dX1_countLeftOver_63 : decode cX1_countLeftOver 63 = .ok (.getfield 54, 3) := by decide +kernel
theorem dX1_countLeftOver_66 : decode cX1_countLeftOver 66 = .ok (.isub, 1) := by decide +kernel
theorem dX1_countLeftOver_67 : decode cX1_countLeftOver 67 = .ok (.istore_n 3, 1) := by decide +kernel
theorem dX1_countLeftOver_68 : decode cX1_countLeftOver 68 = .ok (.aload_n 0, 1) := by decide +kernel
theorem dX1_countLeftOver_69 : decode cX1_countLeftOver 69 = .ok (.getfield 39, 3) := by decide +kernel
theorem dX1_countLeftOver_72 : decode cX1_countLeftOver 72 = .ok (.getfield 75, 3) := by decide +kernel
theorem dX1_countLeftOver_75 : decode cX1_countLeftOver 75 = .ok (.iload_n 3, 1) := by decide +kernel
theorem dX1_countLeftOver_76 : decode cX1_countLeftOver 76 = .ok (.iadd, 1) := by decide +kernel
theorem dX1_countLeftOver_77 : decode cX1_countLeftOver 77 = .ok (.iconst 2, 1) := by decide +kernel
theorem dX1_countLeftOver_78 : decode cX1_countLeftOver 78 = .ok (.iload_n 2, 1) := by decide +kernel
theorem dX1_countLeftOver_79 : decode cX1_countLeftOver 79 = .ok (.imul, 1) := by decide +kernel
theorem dX1_countLeftOver_80 : decode cX1_countLeftOver 80 = .ok (.isub, 1) := by decide +kernel
theorem dX1_countLeftOver_81 : decode cX1_countLeftOver 81 = .ok (.ireturn, 1) := by decide +kernel
def bX1_countLeftOver_6 (F : Nat) (sM : zOS) (sP : zOS) (sL : zOS) (kc_6 : (Int32 × Int32 × Int32) → Option (Int32)) (x1 : Int32) (x2 : Int32) (x3 : Int32) : Option (Int32) := (if (zF sP 3) ≤ x3 then (zlet ((zF sL 14) - (zF sL 15)) (fun x3_1 : Int32 => (some (((zF sP 3) + x3_1) - ((2 : Int32) * x2))))) else (zchk x3 6 (zlet ((zI sM 1 x3.toNatClampNeg) &&& (x1 ^^^ (-1 : Int32))) (fun x4_2 : Int32 => (if x4_2 = 0 then (kc_6 (x1, x2, (x3 + 1))) else (zlet (x1 ||| (x4_2 &&& (-x4_2))) (fun x1_3 : Int32 => (kc_6 (x1_3, (x2 + 1), (x3 + 1))))))))))
set_option maxRecDepth 20000 in
theorem vX1_countLeftOver_6 {X : zCx} {res : Int32} {F : Nat} {qM : Nat → Nat} {qP : Nat → Nat} {qL : Nat → Nat} {sM : zOS} {sP : zOS} {sL : zOS} {kc_6 : (Int32 × Int32 × Int32) → Option (Int32)} (C : zC X RX1 cX1_countLeftOver 5 0 0) (hR : zR X (some .int) (some (.int res)) [(1, qM, sM), (2, qP, sP), (0, qL, sL)]) (hM50 : qM 50 = qP 0) (hM51 : qM 51 = qL 0) (hk_6 : ∀ (y1 : Int32) (y2 : Int32) (y3 : Int32), zJ X 5 res (kc_6 (y1, y2, y3)) 6 [(0, (.ref (qM 0))), (1, (.int y1)), (2, (.int y2)), (3, (.int y3))] [] [(1, qM, sM), (2, qP, sP), (0, qL, sL)]) (x1 : Int32) (x2 : Int32) (x3 : Int32) : zJ X 5 res (bX1_countLeftOver_6 F sM sP sL kc_6 x1 x2 x3) 6 [(0, (.ref (qM 0))), (1, (.int x1)), (2, (.int x2)), (3, (.int x3))] [] [(1, qM, sM), (2, qP, sP), (0, qL, sL)] := by
  unfold bX1_countLeftOver_6
  refine z_iload_n (pc := 6) 3 rfl rfl C dX1_countLeftOver_6 ?_
  refine z_aload_n (pc := 7) 0 rfl rfl C dX1_countLeftOver_7 ?_
  refine z_getE (pc := 8) 0 0 50 (qP 0) hM50 C dX1_countLeftOver_8 rfl (by decide) (by decide) rfl zw_204 ?_
  refine z_getI (pc := 11) 1 3 C dX1_countLeftOver_11 rfl (by decide) (by decide) rfl zw_110 ?_
  refine z_icmp_ge (pc := 14) 52 C dX1_countLeftOver_14 (by decide) ?_ ?_
  · refine z_aload_n (pc := 52) 0 rfl rfl C dX1_countLeftOver_52 ?_
    refine z_getE (pc := 53) 0 1 51 (qL 0) hM51 C dX1_countLeftOver_53 rfl (by decide) (by decide) rfl zw_205 ?_
    refine z_getI (pc := 56) 2 14 C dX1_countLeftOver_56 rfl (by decide) (by decide) rfl zw_158 ?_
    refine z_aload_n (pc := 59) 0 rfl rfl C dX1_countLeftOver_59 ?_
    refine z_getE (pc := 60) 0 1 51 (qL 0) hM51 C dX1_countLeftOver_60 rfl (by decide) (by decide) rfl zw_205 ?_
    refine z_getI (pc := 63) 2 15 C dX1_countLeftOver_63 rfl (by decide) (by decide) rfl zw_161 ?_
    refine z_isub (pc := 66) C dX1_countLeftOver_66 ?_
    refine z_leti (fun x3_1 => ?_)
    refine z_istore_n (pc := 67) [(0, (.ref (qM 0))), (1, (.int x1)), (2, (.int x2)), (3, (.int x3_1))] [1, 2, 3, 0] (by decide) rfl rfl C dX1_countLeftOver_67 ?_
    refine z_aload_n (pc := 68) 0 rfl rfl C dX1_countLeftOver_68 ?_
    refine z_getE (pc := 69) 0 0 50 (qP 0) hM50 C dX1_countLeftOver_69 rfl (by decide) (by decide) rfl zw_204 ?_
    refine z_getI (pc := 72) 1 3 C dX1_countLeftOver_72 rfl (by decide) (by decide) rfl zw_110 ?_
    refine z_iload_n (pc := 75) 3 rfl rfl C dX1_countLeftOver_75 ?_
    refine z_iadd (pc := 76) C dX1_countLeftOver_76 ?_
    refine z_iconst (pc := 77) (2 : Int32) (by decide) C dX1_countLeftOver_77 ?_
    refine z_iload_n (pc := 78) 2 rfl rfl C dX1_countLeftOver_78 ?_
    refine z_imul (pc := 79) C dX1_countLeftOver_79 ?_
    refine z_isub (pc := 80) C dX1_countLeftOver_80 ?_
    exact z_ireturn (pc := 81) C hR dX1_countLeftOver_81 (fun h => by subst h; exact ⟨rfl, rfl⟩)
  · refine z_aload_n (pc := 17) 0 rfl rfl C dX1_countLeftOver_17 ?_
    refine z_getR (pc := 18) 0 2 1 C dX1_countLeftOver_18 rfl (by decide) (by decide) rfl zw_206 ?_
    refine z_iload_n (pc := 21) 3 rfl rfl C dX1_countLeftOver_21 ?_
    refine z_iald (pc := 22) 0 C dX1_countLeftOver_22 rfl (by unfold zAr; decide) ?_
    refine z_iload_n (pc := 23) 1 rfl rfl C dX1_countLeftOver_23 ?_
    refine z_iconst (pc := 24) (-1 : Int32) (by decide) C dX1_countLeftOver_24 ?_
    refine z_ixor (pc := 25) C dX1_countLeftOver_25 ?_
    refine z_iand (pc := 26) C dX1_countLeftOver_26 ?_
    refine z_leti (fun x4_2 => ?_)
    refine z_istore (pc := 27) [(0, (.ref (qM 0))), (1, (.int x1)), (2, (.int x2)), (3, (.int x3)), (4, (.int x4_2))] [1, 2, 3, 4, 0] (by decide) rfl C dX1_countLeftOver_27 ?_
    refine z_iload (pc := 29) 4 rfl C dX1_countLeftOver_29 ?_
    refine z_if_eq (pc := 31) 46 C dX1_countLeftOver_31 (by decide) ?_ ?_
    · refine z_iinc (pc := 46) (x3 + 1) 3 rfl rfl [(0, (.ref (qM 0))), (1, (.int x1)), (2, (.int x2)), (3, (.int (x3 + 1))), (4, (.int x4_2))] [1, 2, 3, 0, 4] (by decide) rfl C dX1_countLeftOver_46 ?_
      refine z_goto (pc := 49) 6 C dX1_countLeftOver_49 (by decide) ?_
      refine z_lv [(0, (.ref (qM 0))), (1, (.int x1)), (2, (.int x2)), (3, (.int (x3 + 1)))] [0, 1, 2, 3] rfl ?_
      exact hk_6 _ _ _
    · refine z_iload_n (pc := 34) 1 rfl rfl C dX1_countLeftOver_34 ?_
      refine z_iload (pc := 35) 4 rfl C dX1_countLeftOver_35 ?_
      refine z_iload (pc := 37) 4 rfl C dX1_countLeftOver_37 ?_
      refine z_ineg (pc := 39) C dX1_countLeftOver_39 ?_
      refine z_iand (pc := 40) C dX1_countLeftOver_40 ?_
      refine z_ior (pc := 41) C dX1_countLeftOver_41 ?_
      refine z_leti (fun x1_3 => ?_)
      refine z_istore_n (pc := 42) [(0, (.ref (qM 0))), (1, (.int x1_3)), (2, (.int x2)), (3, (.int x3)), (4, (.int x4_2))] [1, 0, 2, 3, 4] (by decide) rfl rfl C dX1_countLeftOver_42 ?_
      refine z_iinc (pc := 43) (x2 + 1) 2 rfl rfl [(0, (.ref (qM 0))), (1, (.int x1_3)), (2, (.int (x2 + 1))), (3, (.int x3)), (4, (.int x4_2))] [1, 2, 0, 3, 4] (by decide) rfl C dX1_countLeftOver_43 ?_
      refine z_iinc (pc := 46) (x3 + 1) 3 rfl rfl [(0, (.ref (qM 0))), (1, (.int x1_3)), (2, (.int (x2 + 1))), (3, (.int (x3 + 1))), (4, (.int x4_2))] [1, 2, 3, 0, 4] (by decide) rfl C dX1_countLeftOver_46 ?_
      refine z_goto (pc := 49) 6 C dX1_countLeftOver_49 (by decide) ?_
      refine z_lv [(0, (.ref (qM 0))), (1, (.int x1_3)), (2, (.int (x2 + 1))), (3, (.int (x3 + 1)))] [0, 1, 2, 3] rfl ?_
      exact hk_6 _ _ _
def fX1_countLeftOver (F : Nat) (sM : zOS) (sP : zOS) (sL : zOS) : Option (Int32) := (zit (P := Int32 × Int32 × Int32) (R := Int32) (fun kc9 p9 => bX1_countLeftOver_6 F sM sP sL kc9 p9.1 p9.2.1 p9.2.2) F ((0 : Int32), (0 : Int32), (0 : Int32)))
set_option maxRecDepth 20000 in
theorem wX1_countLeftOver {X : zCx} {res : Int32} {F : Nat} {qM : Nat → Nat} {qP : Nat → Nat} {qL : Nat → Nat} {sM : zOS} {sP : zOS} {sL : zOS} (C : zC X RX1 cX1_countLeftOver 5 0 0) (hR : zR X (some .int) (some (.int res)) [(1, qM, sM), (2, qP, sP), (0, qL, sL)]) (hM50 : qM 50 = qP 0) (hM51 : qM 51 = qL 0) : zJ X 5 res (fX1_countLeftOver F sM sP sL) 0 [(0, (.ref (qM 0)))] [] [(1, qM, sM), (2, qP, sP), (0, qL, sL)] := by
  unfold fX1_countLeftOver
  refine z_iconst (pc := 0) (0 : Int32) (by decide) C dX1_countLeftOver_0 ?_
  refine z_istore_n (pc := 1) [(0, (.ref (qM 0))), (1, (.int (0 : Int32)))] [1, 0] (by decide) rfl rfl C dX1_countLeftOver_1 ?_
  refine z_iconst (pc := 2) (0 : Int32) (by decide) C dX1_countLeftOver_2 ?_
  refine z_istore_n (pc := 3) [(0, (.ref (qM 0))), (1, (.int (0 : Int32))), (2, (.int (0 : Int32)))] [1, 2, 0] (by decide) rfl rfl C dX1_countLeftOver_3 ?_
  refine z_iconst (pc := 4) (0 : Int32) (by decide) C dX1_countLeftOver_4 ?_
  refine z_istore_n (pc := 5) [(0, (.ref (qM 0))), (1, (.int (0 : Int32))), (2, (.int (0 : Int32))), (3, (.int (0 : Int32)))] [1, 2, 3, 0] (by decide) rfl rfl C dX1_countLeftOver_5 ?_
  exact zit_J (fun p9 => [(0, (.ref (qM 0))), (1, (.int p9.1)), (2, (.int p9.2.1)), (3, (.int p9.2.2))]) (fun p9 => [(1, qM, sM), (2, qP, sP), (0, qL, sL)]) (fun kc9 hk9 p9 => vX1_countLeftOver_6 C hR hM50 hM51  (fun a0 a1 a2 => hk9 (a0, a1, a2)) _ _ _) F _
theorem mX1_countLeftOver {F : Nat} {qM : Nat → Nat} {qP : Nat → Nat} {qL : Nat → Nat} {sM : zOS} {sP : zOS} {sL : zOS} {res : Int32} (hM50 : qM 50 = qP 0) (hM51 : qM 51 = qL 0) (hf : fX1_countLeftOver F sM sP sL = some res) : zM yX1_countLeftOver cX1_countLeftOver 5 (some .int) 0 0 [(.ref (qM 0))] [(1, qM, sM), (2, qP, sP), (0, qL, sL)] (some (.int res)) [(1, qM, sM), (2, qP, sP), (0, qL, sL)] := zM_of (by decide +kernel) (Nat.le_of_ble_eq_true rfl) (fun X C hR => wX1_countLeftOver (F := F) C hR hM50 hM51 hf)
theorem dX1_mixInto_0 : decode cX1_mixInto 0 = .ok (.ldc2_w 73, 3) := by decide +kernel
theorem dX1_mixInto_3 : decode cX1_mixInto 3 = .ok (.lload_n 1, 1) := by decide +kernel
theorem dX1_mixInto_4 : decode cX1_mixInto 4 = .ok (.lmul, 1) := by decide +kernel
theorem dX1_mixInto_5 : decode cX1_mixInto 5 = .ok (.aload_n 0, 1) := by decide +kernel
theorem dX1_mixInto_6 : decode cX1_mixInto 6 = .ok (.getfield 33, 3) := by decide +kernel
theorem dX1_mixInto_9 : decode cX1_mixInto 9 = .ok (.i2l, 1) := by decide +kernel
theorem dX1_mixInto_10 : decode cX1_mixInto 10 = .ok (.ladd, 1) := by decide +kernel
theorem dX1_mixInto_11 : decode cX1_mixInto 11 = .ok (.lstore_n 3, 1) := by decide +kernel
theorem dX1_mixInto_12 : decode cX1_mixInto 12 = .ok (.aload_n 0, 1) := by decide +kernel
theorem dX1_mixInto_13 : decode cX1_mixInto 13 = .ok (.getfield 33, 3) := by decide +kernel
theorem dX1_mixInto_16 : decode cX1_mixInto 16 = .ok (.ifCond .ne 5, 3) := by decide +kernel
theorem dX1_mixInto_19 : decode cX1_mixInto 19 = .ok (.lload_n 3, 1) := by decide +kernel
theorem dX1_mixInto_20 : decode cX1_mixInto 20 = .ok (.lreturn, 1) := by decide +kernel
theorem dX1_mixInto_21 : decode cX1_mixInto 21 = .ok (.iconst 0, 1) := by decide +kernel
theorem dX1_mixInto_22 : decode cX1_mixInto 22 = .ok (.istore 5, 2) := by decide +kernel
theorem dX1_mixInto_24 : decode cX1_mixInto 24 = .ok (.iload 5, 2) := by decide +kernel
theorem dX1_mixInto_26 : decode cX1_mixInto 26 = .ok (.aload_n 0, 1) := by decide +kernel
theorem dX1_mixInto_27 : decode cX1_mixInto 27 = .ok (.getfield 39, 3) := by decide +kernel
theorem dX1_mixInto_30 : decode cX1_mixInto 30 = .ok (.getfield 75, 3) := by decide +kernel
theorem dX1_mixInto_33 : decode cX1_mixInto 33 = .ok (.if_icmp .ge 24, 3) := by decide +kernel
theorem dX1_mixInto_36 : decode cX1_mixInto 36 = .ok (.ldc2_w 73, 3) := by decide +kernel
theorem dX1_mixInto_39 : decode cX1_mixInto 39 = .ok (.lload_n 3, 1) := by decide +kernel
theorem dX1_mixInto_40 : decode cX1_mixInto 40 = .ok (.lmul, 1) := by decide +kernel
theorem dX1_mixInto_41 : decode cX1_mixInto 41 = .ok (.aload_n 0, 1) := by decide +kernel
theorem dX1_mixInto_42 : decode cX1_mixInto 42 = .ok (.getfield 27, 3) := by decide +kernel
theorem dX1_mixInto_45 : decode cX1_mixInto 45 = .ok (.iload 5, 2) := by decide +kernel
theorem dX1_mixInto_47 : decode cX1_mixInto 47 = .ok (.iaload, 1) := by decide +kernel
theorem dX1_mixInto_48 : decode cX1_mixInto 48 = .ok (.i2l, 1) := by decide +kernel
theorem dX1_mixInto_49 : decode cX1_mixInto 49 = .ok (.ladd, 1) := by decide +kernel
theorem dX1_mixInto_50 : decode cX1_mixInto 50 = .ok (.lstore_n 3, 1) := by decide +kernel
theorem dX1_mixInto_51 : decode cX1_mixInto 51 = .ok (.iinc 5 1, 3) := by decide +kernel
theorem dX1_mixInto_54 : decode cX1_mixInto 54 = .ok (.goto (-30), 3) := by decide +kernel
theorem dX1_mixInto_57 : decode cX1_mixInto 57 = .ok (.iconst 0, 1) := by decide +kernel
theorem dX1_mixInto_58 : decode cX1_mixInto 58 = .ok (.istore 5, 2) := by decide +kernel
theorem dX1_mixInto_60 : decode cX1_mixInto 60 = .ok (.iload 5, 2) := by decide +kernel
theorem dX1_mixInto_62 : decode cX1_mixInto 62 = .ok (.bipush 10, 2) := by decide +kernel
theorem dX1_mixInto_64 : decode cX1_mixInto 64 = .ok (.if_icmp .ge 24, 3) := by decide +kernel
theorem dX1_mixInto_67 : decode cX1_mixInto 67 = .ok (.ldc2_w 73, 3) := by decide +kernel
theorem dX1_mixInto_70 : decode cX1_mixInto 70 = .ok (.lload_n 3, 1) := by decide +kernel
theorem dX1_mixInto_71 : decode cX1_mixInto 71 = .ok (.lmul, 1) := by decide +kernel
theorem dX1_mixInto_72 : decode cX1_mixInto 72 = .ok (.aload_n 0, 1) := by decide +kernel
theorem dX1_mixInto_73 : decode cX1_mixInto 73 = .ok (.getfield 30, 3) := by decide +kernel
theorem dX1_mixInto_76 : decode cX1_mixInto 76 = .ok (.iload 5, 2) := by decide +kernel
theorem dX1_mixInto_78 : decode cX1_mixInto 78 = .ok (.iaload, 1) := by decide +kernel
theorem dX1_mixInto_79 : decode cX1_mixInto 79 = .ok (.i2l, 1) := by decide +kernel
theorem dX1_mixInto_80 : decode cX1_mixInto 80 = .ok (.ladd, 1) := by decide +kernel
theorem dX1_mixInto_81 : decode cX1_mixInto 81 = .ok (.lstore_n 3, 1) := by decide +kernel
theorem dX1_mixInto_82 : decode cX1_mixInto 82 = .ok (.iinc 5 1, 3) := by decide +kernel
theorem dX1_mixInto_85 : decode cX1_mixInto 85 = .ok (.goto (-25), 3) := by decide +kernel
theorem dX1_mixInto_88 : decode cX1_mixInto 88 = .ok (.lload_n 3, 1) := by decide +kernel
theorem dX1_mixInto_89 : decode cX1_mixInto 89 = .ok (.lreturn, 1) := by decide +kernel
def bX1_mixInto_60 (F : Nat) (sM : zOS) (kc_60 : (Int64 × Int32) → Option (Int64)) (x3 : Int64) (x5 : Int32) : Option (Int64) := (if (10 : Int32) ≤ x5 then (some (x3)) else (zchk x5 10 (zlet (((31 : Int64) * x3) + ((zI sM 5 x5.toNatClampNeg).toInt64)) (fun x3_2 : Int64 => (kc_60 (x3_2, (x5 + 1)))))))
set_option maxRecDepth 20000 in
theorem vX1_mixInto_60 {X : zCx} {res : Int64} {F : Nat} {qM : Nat → Nat} {qP : Nat → Nat} {sM : zOS} {sP : zOS} {kc_60 : (Int64 × Int32) → Option (Int64)} (C : zC X RX1 cX1_mixInto 6 0 0) (hR : zR X (some .long) (some (.long res)) [(1, qM, sM), (2, qP, sP)]) (hM50 : qM 50 = qP 0) (hk_60 : ∀ (y3 : Int64) (y5 : Int32), zJ X 6 res (kc_60 (y3, y5)) 60 [(0, (.ref (qM 0))), (3, (.long y3)), (5, (.int y5))] [] [(1, qM, sM), (2, qP, sP)]) (x3 : Int64) (x5 : Int32) : zJ X 6 res (bX1_mixInto_60 F sM kc_60 x3 x5) 60 [(0, (.ref (qM 0))), (3, (.long x3)), (5, (.int x5))] [] [(1, qM, sM), (2, qP, sP)] := by
  unfold bX1_mixInto_60
  refine z_iload (pc := 60) 2 rfl C dX1_mixInto_60 ?_
  refine z_bipush (pc := 62) (10 : Int32) (by decide) C dX1_mixInto_62 ?_
  refine z_icmp_ge (pc := 64) 88 C dX1_mixInto_64 (by decide) ?_ ?_
  · refine z_lload_n (pc := 88) 1 rfl rfl C dX1_mixInto_88 ?_
    exact z_lreturn (pc := 89) C hR dX1_mixInto_89 (fun h => by subst h; exact ⟨rfl, rfl⟩)
  · refine z_ldc2_w (pc := 67) (31 : Int64) zw_704 C dX1_mixInto_67 ?_
    refine z_lload_n (pc := 70) 1 rfl rfl C dX1_mixInto_70 ?_
    refine z_lmul (pc := 71) C dX1_mixInto_71 ?_
    refine z_aload_n (pc := 72) 0 rfl rfl C dX1_mixInto_72 ?_
    refine z_getR (pc := 73) 0 7 5 C dX1_mixInto_73 rfl (by decide) (by decide) rfl zw_212 ?_
    refine z_iload (pc := 76) 2 rfl C dX1_mixInto_76 ?_
    refine z_iald (pc := 78) 0 C dX1_mixInto_78 rfl (by unfold zAr; decide) ?_
    refine z_i2l (pc := 79) C dX1_mixInto_79 ?_
    refine z_ladd (pc := 80) C dX1_mixInto_80 ?_
    refine z_letl (fun x3_2 => ?_)
    refine z_lstore_n (pc := 81) [(0, (.ref (qM 0))), (3, (.long x3_2)), (5, (.int x5))] [1, 0, 2] (by decide) rfl rfl C dX1_mixInto_81 ?_
    refine z_iinc (pc := 82) (x5 + 1) 2 rfl rfl [(0, (.ref (qM 0))), (3, (.long x3_2)), (5, (.int (x5 + 1)))] [1, 2, 0] (by decide) rfl C dX1_mixInto_82 ?_
    refine z_goto (pc := 85) 60 C dX1_mixInto_85 (by decide) ?_
    exact hk_60 _ _
def bX1_mixInto_24 (F : Nat) (sM : zOS) (sP : zOS) (kc_24 : (Int64 × Int32) → Option (Int64)) (x3 : Int64) (x5 : Int32) : Option (Int64) := (if (zF sP 3) ≤ x5 then (zit (P := Int64 × Int32) (R := Int64) (fun kc9 p9 => bX1_mixInto_60 F sM kc9 p9.1 p9.2) F (x3, (0 : Int32))) else (zchk x5 6 (zlet (((31 : Int64) * x3) + ((zI sM 4 x5.toNatClampNeg).toInt64)) (fun x3_3 : Int64 => (kc_24 (x3_3, (x5 + 1)))))))
set_option maxRecDepth 20000 in
theorem vX1_mixInto_24 {X : zCx} {res : Int64} {F : Nat} {qM : Nat → Nat} {qP : Nat → Nat} {sM : zOS} {sP : zOS} {kc_24 : (Int64 × Int32) → Option (Int64)} (C : zC X RX1 cX1_mixInto 6 0 0) (hR : zR X (some .long) (some (.long res)) [(1, qM, sM), (2, qP, sP)]) (hM50 : qM 50 = qP 0) (hk_24 : ∀ (y3 : Int64) (y5 : Int32), zJ X 6 res (kc_24 (y3, y5)) 24 [(0, (.ref (qM 0))), (3, (.long y3)), (5, (.int y5))] [] [(1, qM, sM), (2, qP, sP)]) (x3 : Int64) (x5 : Int32) : zJ X 6 res (bX1_mixInto_24 F sM sP kc_24 x3 x5) 24 [(0, (.ref (qM 0))), (3, (.long x3)), (5, (.int x5))] [] [(1, qM, sM), (2, qP, sP)] := by
  unfold bX1_mixInto_24
  refine z_iload (pc := 24) 2 rfl C dX1_mixInto_24 ?_
  refine z_aload_n (pc := 26) 0 rfl rfl C dX1_mixInto_26 ?_
  refine z_getE (pc := 27) 0 0 50 (qP 0) hM50 C dX1_mixInto_27 rfl (by decide) (by decide) rfl zw_204 ?_
  refine z_getI (pc := 30) 1 3 C dX1_mixInto_30 rfl (by decide) (by decide) rfl zw_110 ?_
  refine z_icmp_ge (pc := 33) 57 C dX1_mixInto_33 (by decide) ?_ ?_
  · refine z_iconst (pc := 57) (0 : Int32) (by decide) C dX1_mixInto_57 ?_
    refine z_istore (pc := 58) [(0, (.ref (qM 0))), (3, (.long x3)), (5, (.int (0 : Int32)))] [1, 2, 0] (by decide) rfl C dX1_mixInto_58 ?_
    exact zit_J (fun p9 => [(0, (.ref (qM 0))), (3, (.long p9.1)), (5, (.int p9.2))]) (fun p9 => [(1, qM, sM), (2, qP, sP)]) (fun kc9 hk9 p9 => vX1_mixInto_60 C hR hM50  (fun a0 a1 => hk9 (a0, a1)) _ _) F _
  · refine z_ldc2_w (pc := 36) (31 : Int64) zw_704 C dX1_mixInto_36 ?_
    refine z_lload_n (pc := 39) 1 rfl rfl C dX1_mixInto_39 ?_
    refine z_lmul (pc := 40) C dX1_mixInto_40 ?_
    refine z_aload_n (pc := 41) 0 rfl rfl C dX1_mixInto_41 ?_
    refine z_getR (pc := 42) 0 6 4 C dX1_mixInto_42 rfl (by decide) (by decide) rfl zw_210 ?_
    refine z_iload (pc := 45) 2 rfl C dX1_mixInto_45 ?_
    refine z_iald (pc := 47) 0 C dX1_mixInto_47 rfl (by unfold zAr; decide) ?_
    refine z_i2l (pc := 48) C dX1_mixInto_48 ?_
    refine z_ladd (pc := 49) C dX1_mixInto_49 ?_
    refine z_letl (fun x3_3 => ?_)
    refine z_lstore_n (pc := 50) [(0, (.ref (qM 0))), (3, (.long x3_3)), (5, (.int x5))] [1, 0, 2] (by decide) rfl rfl C dX1_mixInto_50 ?_
    refine z_iinc (pc := 51) (x5 + 1) 2 rfl rfl [(0, (.ref (qM 0))), (3, (.long x3_3)), (5, (.int (x5 + 1)))] [1, 2, 0] (by decide) rfl C dX1_mixInto_51 ?_
    refine z_goto (pc := 54) 24 C dX1_mixInto_54 (by decide) ?_
    exact hk_24 _ _
def fX1_mixInto (F : Nat) (x1 : Int64) (sM : zOS) (sP : zOS) : Option (Int64) := (zlet (((31 : Int64) * x1) + ((zF sM 8).toInt64)) (fun x3_1 : Int64 => (if (zF sM 8) = 0 then (some (x3_1)) else (zit (P := Int64 × Int32) (R := Int64) (fun kc9 p9 => bX1_mixInto_24 F sM sP kc9 p9.1 p9.2) F (x3_1, (0 : Int32))))))
set_option maxRecDepth 20000 in
theorem wX1_mixInto {X : zCx} {res : Int64} {F : Nat} {qM : Nat → Nat} {qP : Nat → Nat} {x1 : Int64} {sM : zOS} {sP : zOS} (C : zC X RX1 cX1_mixInto 6 0 0) (hR : zR X (some .long) (some (.long res)) [(1, qM, sM), (2, qP, sP)]) (hM50 : qM 50 = qP 0) : zJ X 6 res (fX1_mixInto F x1 sM sP) 0 [(0, (.ref (qM 0))), (1, (.long x1))] [] [(1, qM, sM), (2, qP, sP)] := by
  unfold fX1_mixInto
  refine z_ldc2_w (pc := 0) (31 : Int64) zw_704 C dX1_mixInto_0 ?_
  refine z_lload_n (pc := 3) 1 rfl rfl C dX1_mixInto_3 ?_
  refine z_lmul (pc := 4) C dX1_mixInto_4 ?_
  refine z_aload_n (pc := 5) 0 rfl rfl C dX1_mixInto_5 ?_
  refine z_getI (pc := 6) 0 8 C dX1_mixInto_6 rfl (by decide) (by decide) rfl zw_214 ?_
  refine z_i2l (pc := 9) C dX1_mixInto_9 ?_
  refine z_ladd (pc := 10) C dX1_mixInto_10 ?_
  refine z_letl (fun x3_1 => ?_)
  refine z_lstore_n (pc := 11) [(0, (.ref (qM 0))), (1, (.long x1)), (3, (.long x3_1))] [1, 2, 0] (by decide) rfl rfl C dX1_mixInto_11 ?_
  refine z_aload_n (pc := 12) 0 rfl rfl C dX1_mixInto_12 ?_
  refine z_getI (pc := 13) 0 8 C dX1_mixInto_13 rfl (by decide) (by decide) rfl zw_214 ?_
  refine z_if_ne (pc := 16) 21 C dX1_mixInto_16 (by decide) ?_ ?_
  · refine z_lload_n (pc := 19) 2 rfl rfl C dX1_mixInto_19 ?_
    exact z_lreturn (pc := 20) C hR dX1_mixInto_20 (fun h => by subst h; exact ⟨rfl, rfl⟩)
  · refine z_iconst (pc := 21) (0 : Int32) (by decide) C dX1_mixInto_21 ?_
    refine z_istore (pc := 22) [(0, (.ref (qM 0))), (1, (.long x1)), (3, (.long x3_1)), (5, (.int (0 : Int32)))] [1, 2, 3, 0] (by decide) rfl C dX1_mixInto_22 ?_
    refine z_lv [(0, (.ref (qM 0))), (3, (.long x3_1)), (5, (.int (0 : Int32)))] [0, 2, 3] rfl ?_
    exact zit_J (fun p9 => [(0, (.ref (qM 0))), (3, (.long p9.1)), (5, (.int p9.2))]) (fun p9 => [(1, qM, sM), (2, qP, sP)]) (fun kc9 hk9 p9 => vX1_mixInto_24 C hR hM50  (fun a0 a1 => hk9 (a0, a1)) _ _) F _
theorem mX1_mixInto {F : Nat} {qM : Nat → Nat} {qP : Nat → Nat} {x1 : Int64} {sM : zOS} {sP : zOS} {res : Int64} (hM50 : qM 50 = qP 0) (hf : fX1_mixInto F x1 sM sP = some res) : zM yX1_mixInto cX1_mixInto 6 (some .long) 0 0 [(.ref (qM 0)), (.long x1)] [(1, qM, sM), (2, qP, sP)] (some (.long res)) [(1, qM, sM), (2, qP, sP)] := zM_of (by decide +kernel) (Nat.le_of_ble_eq_true rfl) (fun X C hR => wX1_mixInto (F := F) C hR hM50 hf)
end
