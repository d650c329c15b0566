section
-- ===== PART A: goes FIRST, ahead of the names: the tables' words, and 'selects' of the private methods out of them =====
/-- a private method of a class that the tables say can be made, by its rows of tables_1 -/
def lw_okq (q : MethodName × Nat) : Prop := (q.1.cls ≠ "java/lang/invoke/MethodHandle" ∧ q.1.cls ≠ "java/lang/invoke/VarHandle") ∧ Cond.instantiable q.1.cls q.2 ∈ tables_1 ∧ Cond.privateMethod q.1 ∈ tables_1 ∧ Cond.instanceMethod q.1 ∈ tables_1
theorem lw_p0 : lw_okq (⟨"DrawnGates", "settle", "(I)I"⟩, 9) := ⟨⟨by decide +kernel, by decide +kernel⟩, List.mem_of_getElem? (i := 14) (by decide +kernel), List.mem_of_getElem? (i := 245) (by decide +kernel), List.mem_of_getElem? (i := 246) (by decide +kernel)⟩
theorem lw_p1 : lw_okq (⟨"DrawnGates", "refuse", "(I)I"⟩, 9) := ⟨⟨by decide +kernel, by decide +kernel⟩, List.mem_of_getElem? (i := 14) (by decide +kernel), List.mem_of_getElem? (i := 249) (by decide +kernel), List.mem_of_getElem? (i := 250) (by decide +kernel)⟩
theorem lw_p2 : lw_okq (⟨"DrawnGates", "keepBefore", "()V"⟩, 9) := ⟨⟨by decide +kernel, by decide +kernel⟩, List.mem_of_getElem? (i := 14) (by decide +kernel), List.mem_of_getElem? (i := 253) (by decide +kernel), List.mem_of_getElem? (i := 254) (by decide +kernel)⟩
theorem lw_p3 : lw_okq (⟨"DrawnGates", "dropOldestState", "()V"⟩, 9) := ⟨⟨by decide +kernel, by decide +kernel⟩, List.mem_of_getElem? (i := 14) (by decide +kernel), List.mem_of_getElem? (i := 257) (by decide +kernel), List.mem_of_getElem? (i := 258) (by decide +kernel)⟩
theorem lw_p4 : lw_okq (⟨"DrawnGates", "readLayout", "()LDrawnGates$Layout;"⟩, 9) := ⟨⟨by decide +kernel, by decide +kernel⟩, List.mem_of_getElem? (i := 14) (by decide +kernel), List.mem_of_getElem? (i := 320) (by decide +kernel), List.mem_of_getElem? (i := 321) (by decide +kernel)⟩
theorem lw_p5 : lw_okq (⟨"DrawnGates$Layout", "isAsRead", "([J)Z"⟩, 16) := ⟨⟨by decide +kernel, by decide +kernel⟩, List.mem_of_getElem? (i := 55) (by decide +kernel), List.mem_of_getElem? (i := 328) (by decide +kernel), List.mem_of_getElem? (i := 329) (by decide +kernel)⟩
theorem lw_p6 : lw_okq (⟨"DrawnGates$Layout", "findPieces", "()V"⟩, 16) := ⟨⟨by decide +kernel, by decide +kernel⟩, List.mem_of_getElem? (i := 55) (by decide +kernel), List.mem_of_getElem? (i := 333) (by decide +kernel), List.mem_of_getElem? (i := 334) (by decide +kernel)⟩
theorem lw_p7 : lw_okq (⟨"DrawnGates$Layout", "cellsOf", "(I)J"⟩, 16) := ⟨⟨by decide +kernel, by decide +kernel⟩, List.mem_of_getElem? (i := 55) (by decide +kernel), List.mem_of_getElem? (i := 337) (by decide +kernel), List.mem_of_getElem? (i := 338) (by decide +kernel)⟩
theorem lw_p8 : lw_okq (⟨"DrawnGates$Layout", "joinPieces", "()V"⟩, 16) := ⟨⟨by decide +kernel, by decide +kernel⟩, List.mem_of_getElem? (i := 55) (by decide +kernel), List.mem_of_getElem? (i := 350) (by decide +kernel), List.mem_of_getElem? (i := 351) (by decide +kernel)⟩
theorem lw_p9 : lw_okq (⟨"DrawnGates$Layout", "joinBelow", "(I)V"⟩, 16) := ⟨⟨by decide +kernel, by decide +kernel⟩, List.mem_of_getElem? (i := 55) (by decide +kernel), List.mem_of_getElem? (i := 354) (by decide +kernel), List.mem_of_getElem? (i := 355) (by decide +kernel)⟩
theorem lw_p10 : lw_okq (⟨"DrawnGates$Layout", "join", "(II)V"⟩, 16) := ⟨⟨by decide +kernel, by decide +kernel⟩, List.mem_of_getElem? (i := 55) (by decide +kernel), List.mem_of_getElem? (i := 358) (by decide +kernel), List.mem_of_getElem? (i := 359) (by decide +kernel)⟩
theorem lw_p11 : lw_okq (⟨"DrawnGates$Layout", "numberNodes", "()V"⟩, 16) := ⟨⟨by decide +kernel, by decide +kernel⟩, List.mem_of_getElem? (i := 55) (by decide +kernel), List.mem_of_getElem? (i := 368) (by decide +kernel), List.mem_of_getElem? (i := 369) (by decide +kernel)⟩
theorem lw_p12 : lw_okq (⟨"DrawnGates$Layout", "openNode", "()V"⟩, 16) := ⟨⟨by decide +kernel, by decide +kernel⟩, List.mem_of_getElem? (i := 55) (by decide +kernel), List.mem_of_getElem? (i := 372) (by decide +kernel), List.mem_of_getElem? (i := 373) (by decide +kernel)⟩
theorem lw_p13 : lw_okq (⟨"DrawnGates$Layout", "findGates", "()V"⟩, 16) := ⟨⟨by decide +kernel, by decide +kernel⟩, List.mem_of_getElem? (i := 55) (by decide +kernel), List.mem_of_getElem? (i := 376) (by decide +kernel), List.mem_of_getElem? (i := 377) (by decide +kernel)⟩
theorem lw_p14 : lw_okq (⟨"DrawnGates$Layout", "findSides", "(I)V"⟩, 16) := ⟨⟨by decide +kernel, by decide +kernel⟩, List.mem_of_getElem? (i := 55) (by decide +kernel), List.mem_of_getElem? (i := 384) (by decide +kernel), List.mem_of_getElem? (i := 385) (by decide +kernel)⟩
theorem lw_p15 : lw_okq (⟨"DrawnGates$Layout", "weighNodes", "()V"⟩, 16) := ⟨⟨by decide +kernel, by decide +kernel⟩, List.mem_of_getElem? (i := 55) (by decide +kernel), List.mem_of_getElem? (i := 392) (by decide +kernel), List.mem_of_getElem? (i := 393) (by decide +kernel)⟩
def lw_privs_1 : List (MethodName × Nat) := [(⟨"DrawnGates", "settle", "(I)I"⟩, 9), (⟨"DrawnGates", "refuse", "(I)I"⟩, 9), (⟨"DrawnGates", "keepBefore", "()V"⟩, 9), (⟨"DrawnGates", "dropOldestState", "()V"⟩, 9), (⟨"DrawnGates", "readLayout", "()LDrawnGates$Layout;"⟩, 9), (⟨"DrawnGates$Layout", "isAsRead", "([J)Z"⟩, 16), (⟨"DrawnGates$Layout", "findPieces", "()V"⟩, 16), (⟨"DrawnGates$Layout", "cellsOf", "(I)J"⟩, 16), (⟨"DrawnGates$Layout", "joinPieces", "()V"⟩, 16), (⟨"DrawnGates$Layout", "joinBelow", "(I)V"⟩, 16), (⟨"DrawnGates$Layout", "join", "(II)V"⟩, 16), (⟨"DrawnGates$Layout", "numberNodes", "()V"⟩, 16), (⟨"DrawnGates$Layout", "openNode", "()V"⟩, 16), (⟨"DrawnGates$Layout", "findGates", "()V"⟩, 16), (⟨"DrawnGates$Layout", "findSides", "(I)V"⟩, 16), (⟨"DrawnGates$Layout", "weighNodes", "()V"⟩, 16)]
theorem lw_r1 : ∀ q ∈ lw_privs_1, lw_okq q := List.forall_mem_cons.mpr ⟨lw_p0, List.forall_mem_cons.mpr ⟨lw_p1, List.forall_mem_cons.mpr ⟨lw_p2, List.forall_mem_cons.mpr ⟨lw_p3, List.forall_mem_cons.mpr ⟨lw_p4, List.forall_mem_cons.mpr ⟨lw_p5, List.forall_mem_cons.mpr ⟨lw_p6, List.forall_mem_cons.mpr ⟨lw_p7, List.forall_mem_cons.mpr ⟨lw_p8, List.forall_mem_cons.mpr ⟨lw_p9, List.forall_mem_cons.mpr ⟨lw_p10, List.forall_mem_cons.mpr ⟨lw_p11, List.forall_mem_cons.mpr ⟨lw_p12, List.forall_mem_cons.mpr ⟨lw_p13, List.forall_mem_cons.mpr ⟨lw_p14, List.forall_mem_cons.mpr ⟨lw_p15, fun _ h => absurd h List.not_mem_nil⟩⟩⟩⟩⟩⟩⟩⟩⟩⟩⟩⟩⟩⟩⟩⟩
theorem lw_p16 : lw_okq (⟨"DrawnGates$Layout", "addHang", "(II)V"⟩, 16) := ⟨⟨by decide +kernel, by decide +kernel⟩, List.mem_of_getElem? (i := 55) (by decide +kernel), List.mem_of_getElem? (i := 399) (by decide +kernel), List.mem_of_getElem? (i := 400) (by decide +kernel)⟩
theorem lw_p17 : lw_okq (⟨"DrawnGates", "search", "()LDrawnGates$Matching;"⟩, 9) := ⟨⟨by decide +kernel, by decide +kernel⟩, List.mem_of_getElem? (i := 14) (by decide +kernel), List.mem_of_getElem? (i := 429) (by decide +kernel), List.mem_of_getElem? (i := 430) (by decide +kernel)⟩
theorem lw_p18 : lw_okq (⟨"DrawnGates$Matching", "findLikes", "()V"⟩, 10) := ⟨⟨by decide +kernel, by decide +kernel⟩, List.mem_of_getElem? (i := 121) (by decide +kernel), List.mem_of_getElem? (i := 437) (by decide +kernel), List.mem_of_getElem? (i := 438) (by decide +kernel)⟩
theorem lw_p19 : lw_okq (⟨"DrawnGates$Matching", "isLike", "(II)Z"⟩, 10) := ⟨⟨by decide +kernel, by decide +kernel⟩, List.mem_of_getElem? (i := 121) (by decide +kernel), List.mem_of_getElem? (i := 442) (by decide +kernel), List.mem_of_getElem? (i := 443) (by decide +kernel)⟩
theorem lw_p20 : lw_okq (⟨"DrawnGates$Matching", "countLeftOver", "()I"⟩, 10) := ⟨⟨by decide +kernel, by decide +kernel⟩, List.mem_of_getElem? (i := 121) (by decide +kernel), List.mem_of_getElem? (i := 469) (by decide +kernel), List.mem_of_getElem? (i := 470) (by decide +kernel)⟩
theorem lw_p21 : lw_okq (⟨"DrawnGates$Matching", "tiePins", "([I)Z"⟩, 10) := ⟨⟨by decide +kernel, by decide +kernel⟩, List.mem_of_getElem? (i := 121) (by decide +kernel), List.mem_of_getElem? (i := 474) (by decide +kernel), List.mem_of_getElem? (i := 475) (by decide +kernel)⟩
theorem lw_p22 : lw_okq (⟨"DrawnGates$Matching", "record", "([I)V"⟩, 10) := ⟨⟨by decide +kernel, by decide +kernel⟩, List.mem_of_getElem? (i := 121) (by decide +kernel), List.mem_of_getElem? (i := 489) (by decide +kernel), List.mem_of_getElem? (i := 490) (by decide +kernel)⟩
theorem lw_p23 : lw_okq (⟨"DrawnGates$Matching", "isBeforeFirst", "([I)Z"⟩, 10) := ⟨⟨by decide +kernel, by decide +kernel⟩, List.mem_of_getElem? (i := 121) (by decide +kernel), List.mem_of_getElem? (i := 493) (by decide +kernel), List.mem_of_getElem? (i := 494) (by decide +kernel)⟩
theorem lw_p24 : lw_okq (⟨"DrawnGates$Matching", "tieSides", "(III)Z"⟩, 10) := ⟨⟨by decide +kernel, by decide +kernel⟩, List.mem_of_getElem? (i := 121) (by decide +kernel), List.mem_of_getElem? (i := 499) (by decide +kernel), List.mem_of_getElem? (i := 500) (by decide +kernel)⟩
theorem lw_p25 : lw_okq (⟨"DrawnGates$Text", "performOne", "(LDrawnGates$Plan;I)I"⟩, 3) := ⟨⟨by decide +kernel, by decide +kernel⟩, List.mem_of_getElem? (i := 164) (by decide +kernel), List.mem_of_getElem? (i := 592) (by decide +kernel), List.mem_of_getElem? (i := 593) (by decide +kernel)⟩
theorem lw_p26 : lw_okq (⟨"DrawnGatesModel", "refuses", "(I)I"⟩, 26) := ⟨⟨by decide +kernel, by decide +kernel⟩, List.mem_of_getElem? (i := 630) (by decide +kernel), List.mem_of_getElem? (i := 719) (by decide +kernel), List.mem_of_getElem? (i := 720) (by decide +kernel)⟩
theorem lw_p27 : lw_okq (⟨"DrawnGatesModel", "hold", "()V"⟩, 26) := ⟨⟨by decide +kernel, by decide +kernel⟩, List.mem_of_getElem? (i := 630) (by decide +kernel), List.mem_of_getElem? (i := 727) (by decide +kernel), List.mem_of_getElem? (i := 728) (by decide +kernel)⟩
theorem lw_p28 : lw_okq (⟨"DrawnGatesModel", "paint", "(IIIIIZ)I"⟩, 26) := ⟨⟨by decide +kernel, by decide +kernel⟩, List.mem_of_getElem? (i := 630) (by decide +kernel), List.mem_of_getElem? (i := 731) (by decide +kernel), List.mem_of_getElem? (i := 732) (by decide +kernel)⟩
theorem lw_p29 : lw_okq (⟨"DrawnGatesModel", "isDrawn", "(II)Z"⟩, 26) := ⟨⟨by decide +kernel, by decide +kernel⟩, List.mem_of_getElem? (i := 630) (by decide +kernel), List.mem_of_getElem? (i := 741) (by decide +kernel), List.mem_of_getElem? (i := 742) (by decide +kernel)⟩
theorem lw_p30 : lw_okq (⟨"DrawnGatesModel", "flip", "(II)V"⟩, 26) := ⟨⟨by decide +kernel, by decide +kernel⟩, List.mem_of_getElem? (i := 630) (by decide +kernel), List.mem_of_getElem? (i := 745) (by decide +kernel), List.mem_of_getElem? (i := 746) (by decide +kernel)⟩
theorem lw_p31 : lw_okq (⟨"DrawnGatesModel", "ends", "(I)I"⟩, 26) := ⟨⟨by decide +kernel, by decide +kernel⟩, List.mem_of_getElem? (i := 630) (by decide +kernel), List.mem_of_getElem? (i := 749) (by decide +kernel), List.mem_of_getElem? (i := 750) (by decide +kernel)⟩
def lw_privs_2 : List (MethodName × Nat) := [(⟨"DrawnGates$Layout", "addHang", "(II)V"⟩, 16), (⟨"DrawnGates", "search", "()LDrawnGates$Matching;"⟩, 9), (⟨"DrawnGates$Matching", "findLikes", "()V"⟩, 10), (⟨"DrawnGates$Matching", "isLike", "(II)Z"⟩, 10), (⟨"DrawnGates$Matching", "countLeftOver", "()I"⟩, 10), (⟨"DrawnGates$Matching", "tiePins", "([I)Z"⟩, 10), (⟨"DrawnGates$Matching", "record", "([I)V"⟩, 10), (⟨"DrawnGates$Matching", "isBeforeFirst", "([I)Z"⟩, 10), (⟨"DrawnGates$Matching", "tieSides", "(III)Z"⟩, 10), (⟨"DrawnGates$Text", "performOne", "(LDrawnGates$Plan;I)I"⟩, 3), (⟨"DrawnGatesModel", "refuses", "(I)I"⟩, 26), (⟨"DrawnGatesModel", "hold", "()V"⟩, 26), (⟨"DrawnGatesModel", "paint", "(IIIIIZ)I"⟩, 26), (⟨"DrawnGatesModel", "isDrawn", "(II)Z"⟩, 26), (⟨"DrawnGatesModel", "flip", "(II)V"⟩, 26), (⟨"DrawnGatesModel", "ends", "(I)I"⟩, 26)]
theorem lw_r2 : ∀ q ∈ lw_privs_2, lw_okq q := List.forall_mem_cons.mpr ⟨lw_p16, List.forall_mem_cons.mpr ⟨lw_p17, List.forall_mem_cons.mpr ⟨lw_p18, List.forall_mem_cons.mpr ⟨lw_p19, List.forall_mem_cons.mpr ⟨lw_p20, List.forall_mem_cons.mpr ⟨lw_p21, List.forall_mem_cons.mpr ⟨lw_p22, List.forall_mem_cons.mpr ⟨lw_p23, List.forall_mem_cons.mpr ⟨lw_p24, List.forall_mem_cons.mpr ⟨lw_p25, List.forall_mem_cons.mpr ⟨lw_p26, List.forall_mem_cons.mpr ⟨lw_p27, List.forall_mem_cons.mpr ⟨lw_p28, List.forall_mem_cons.mpr ⟨lw_p29, List.forall_mem_cons.mpr ⟨lw_p30, List.forall_mem_cons.mpr ⟨lw_p31, fun _ h => absurd h List.not_mem_nil⟩⟩⟩⟩⟩⟩⟩⟩⟩⟩⟩⟩⟩⟩⟩⟩
theorem lw_p32 : lw_okq (⟨"DrawnGatesModel", "push", "()V"⟩, 26) := ⟨⟨by decide +kernel, by decide +kernel⟩, List.mem_of_getElem? (i := 630) (by decide +kernel), List.mem_of_getElem? (i := 753) (by decide +kernel), List.mem_of_getElem? (i := 754) (by decide +kernel)⟩
theorem lw_p33 : lw_okq (⟨"DrawnGatesModel", "doMoves", "(III)I"⟩, 26) := ⟨⟨by decide +kernel, by decide +kernel⟩, List.mem_of_getElem? (i := 630) (by decide +kernel), List.mem_of_getElem? (i := 765) (by decide +kernel), List.mem_of_getElem? (i := 766) (by decide +kernel)⟩
theorem lw_p34 : lw_okq (⟨"DrawnGatesModel", "doMeans", "(III)I"⟩, 26) := ⟨⟨by decide +kernel, by decide +kernel⟩, List.mem_of_getElem? (i := 630) (by decide +kernel), List.mem_of_getElem? (i := 773) (by decide +kernel), List.mem_of_getElem? (i := 774) (by decide +kernel)⟩
theorem lw_p35 : lw_okq (⟨"DrawnGatesModel", "add", "(IIII)I"⟩, 26) := ⟨⟨by decide +kernel, by decide +kernel⟩, List.mem_of_getElem? (i := 630) (by decide +kernel), List.mem_of_getElem? (i := 780) (by decide +kernel), List.mem_of_getElem? (i := 781) (by decide +kernel)⟩
theorem lw_p36 : lw_okq (⟨"DrawnGatesModel", "doPins", "(III)I"⟩, 26) := ⟨⟨by decide +kernel, by decide +kernel⟩, List.mem_of_getElem? (i := 630) (by decide +kernel), List.mem_of_getElem? (i := 788) (by decide +kernel), List.mem_of_getElem? (i := 789) (by decide +kernel)⟩
theorem lw_p37 : lw_okq (⟨"DrawnGatesModel", "doForgets", "()I"⟩, 26) := ⟨⟨by decide +kernel, by decide +kernel⟩, List.mem_of_getElem? (i := 630) (by decide +kernel), List.mem_of_getElem? (i := 796) (by decide +kernel), List.mem_of_getElem? (i := 797) (by decide +kernel)⟩
theorem lw_p38 : lw_okq (⟨"DrawnGatesModel", "lay", "()V"⟩, 26) := ⟨⟨by decide +kernel, by decide +kernel⟩, List.mem_of_getElem? (i := 630) (by decide +kernel), List.mem_of_getElem? (i := 808) (by decide +kernel), List.mem_of_getElem? (i := 809) (by decide +kernel)⟩
theorem lw_p39 : lw_okq (⟨"DrawnGatesModel", "hang", "(Z)I"⟩, 26) := ⟨⟨by decide +kernel, by decide +kernel⟩, List.mem_of_getElem? (i := 630) (by decide +kernel), List.mem_of_getElem? (i := 812) (by decide +kernel), List.mem_of_getElem? (i := 813) (by decide +kernel)⟩
theorem lw_p40 : lw_okq (⟨"DrawnGatesModel", "isWire", "(I)Z"⟩, 26) := ⟨⟨by decide +kernel, by decide +kernel⟩, List.mem_of_getElem? (i := 630) (by decide +kernel), List.mem_of_getElem? (i := 816) (by decide +kernel), List.mem_of_getElem? (i := 817) (by decide +kernel)⟩
theorem lw_p41 : lw_okq (⟨"DrawnGatesModel", "take", "(II)V"⟩, 26) := ⟨⟨by decide +kernel, by decide +kernel⟩, List.mem_of_getElem? (i := 630) (by decide +kernel), List.mem_of_getElem? (i := 820) (by decide +kernel), List.mem_of_getElem? (i := 821) (by decide +kernel)⟩
theorem lw_p42 : lw_okq (⟨"DrawnGatesModel", "goFrom", "(IIZ)V"⟩, 26) := ⟨⟨by decide +kernel, by decide +kernel⟩, List.mem_of_getElem? (i := 630) (by decide +kernel), List.mem_of_getElem? (i := 824) (by decide +kernel), List.mem_of_getElem? (i := 825) (by decide +kernel)⟩
theorem lw_p43 : lw_okq (⟨"DrawnGatesModel", "findGates", "()V"⟩, 26) := ⟨⟨by decide +kernel, by decide +kernel⟩, List.mem_of_getElem? (i := 630) (by decide +kernel), List.mem_of_getElem? (i := 831) (by decide +kernel), List.mem_of_getElem? (i := 832) (by decide +kernel)⟩
theorem lw_p44 : lw_okq (⟨"DrawnGatesModel", "isGateCell", "(I)Z"⟩, 26) := ⟨⟨by decide +kernel, by decide +kernel⟩, List.mem_of_getElem? (i := 630) (by decide +kernel), List.mem_of_getElem? (i := 835) (by decide +kernel), List.mem_of_getElem? (i := 836) (by decide +kernel)⟩
theorem lw_p45 : lw_okq (⟨"DrawnGatesModel", "goGate", "(I)V"⟩, 26) := ⟨⟨by decide +kernel, by decide +kernel⟩, List.mem_of_getElem? (i := 630) (by decide +kernel), List.mem_of_getElem? (i := 839) (by decide +kernel), List.mem_of_getElem? (i := 840) (by decide +kernel)⟩
theorem lw_p46 : lw_okq (⟨"DrawnGatesModel", "findSides", "()V"⟩, 26) := ⟨⟨by decide +kernel, by decide +kernel⟩, List.mem_of_getElem? (i := 630) (by decide +kernel), List.mem_of_getElem? (i := 843) (by decide +kernel), List.mem_of_getElem? (i := 844) (by decide +kernel)⟩
theorem lw_p47 : lw_okq (⟨"DrawnGatesModel", "countSides", "(I)V"⟩, 26) := ⟨⟨by decide +kernel, by decide +kernel⟩, List.mem_of_getElem? (i := 630) (by decide +kernel), List.mem_of_getElem? (i := 847) (by decide +kernel), List.mem_of_getElem? (i := 848) (by decide +kernel)⟩
def lw_privs_3 : List (MethodName × Nat) := [(⟨"DrawnGatesModel", "push", "()V"⟩, 26), (⟨"DrawnGatesModel", "doMoves", "(III)I"⟩, 26), (⟨"DrawnGatesModel", "doMeans", "(III)I"⟩, 26), (⟨"DrawnGatesModel", "add", "(IIII)I"⟩, 26), (⟨"DrawnGatesModel", "doPins", "(III)I"⟩, 26), (⟨"DrawnGatesModel", "doForgets", "()I"⟩, 26), (⟨"DrawnGatesModel", "lay", "()V"⟩, 26), (⟨"DrawnGatesModel", "hang", "(Z)I"⟩, 26), (⟨"DrawnGatesModel", "isWire", "(I)Z"⟩, 26), (⟨"DrawnGatesModel", "take", "(II)V"⟩, 26), (⟨"DrawnGatesModel", "goFrom", "(IIZ)V"⟩, 26), (⟨"DrawnGatesModel", "findGates", "()V"⟩, 26), (⟨"DrawnGatesModel", "isGateCell", "(I)Z"⟩, 26), (⟨"DrawnGatesModel", "goGate", "(I)V"⟩, 26), (⟨"DrawnGatesModel", "findSides", "()V"⟩, 26), (⟨"DrawnGatesModel", "countSides", "(I)V"⟩, 26)]
theorem lw_r3 : ∀ q ∈ lw_privs_3, lw_okq q := List.forall_mem_cons.mpr ⟨lw_p32, List.forall_mem_cons.mpr ⟨lw_p33, List.forall_mem_cons.mpr ⟨lw_p34, List.forall_mem_cons.mpr ⟨lw_p35, List.forall_mem_cons.mpr ⟨lw_p36, List.forall_mem_cons.mpr ⟨lw_p37, List.forall_mem_cons.mpr ⟨lw_p38, List.forall_mem_cons.mpr ⟨lw_p39, List.forall_mem_cons.mpr ⟨lw_p40, List.forall_mem_cons.mpr ⟨lw_p41, List.forall_mem_cons.mpr ⟨lw_p42, List.forall_mem_cons.mpr ⟨lw_p43, List.forall_mem_cons.mpr ⟨lw_p44, List.forall_mem_cons.mpr ⟨lw_p45, List.forall_mem_cons.mpr ⟨lw_p46, List.forall_mem_cons.mpr ⟨lw_p47, fun _ h => absurd h List.not_mem_nil⟩⟩⟩⟩⟩⟩⟩⟩⟩⟩⟩⟩⟩⟩⟩⟩
theorem lw_p48 : lw_okq (⟨"DrawnGatesModel", "isSide", "(II)Z"⟩, 26) := ⟨⟨by decide +kernel, by decide +kernel⟩, List.mem_of_getElem? (i := 630) (by decide +kernel), List.mem_of_getElem? (i := 851) (by decide +kernel), List.mem_of_getElem? (i := 852) (by decide +kernel)⟩
theorem lw_p49 : lw_okq (⟨"DrawnGatesModel", "findMatches", "()V"⟩, 26) := ⟨⟨by decide +kernel, by decide +kernel⟩, List.mem_of_getElem? (i := 630) (by decide +kernel), List.mem_of_getElem? (i := 855) (by decide +kernel), List.mem_of_getElem? (i := 856) (by decide +kernel)⟩
theorem lw_p50 : lw_okq (⟨"DrawnGatesModel", "wells", "()I"⟩, 26) := ⟨⟨by decide +kernel, by decide +kernel⟩, List.mem_of_getElem? (i := 630) (by decide +kernel), List.mem_of_getElem? (i := 859) (by decide +kernel), List.mem_of_getElem? (i := 860) (by decide +kernel)⟩
theorem lw_p51 : lw_okq (⟨"DrawnGatesModel", "isWell", "(I)Z"⟩, 26) := ⟨⟨by decide +kernel, by decide +kernel⟩, List.mem_of_getElem? (i := 630) (by decide +kernel), List.mem_of_getElem? (i := 863) (by decide +kernel), List.mem_of_getElem? (i := 864) (by decide +kernel)⟩
theorem lw_p52 : lw_okq (⟨"DrawnGatesModel", "ofGate", "(II)I"⟩, 26) := ⟨⟨by decide +kernel, by decide +kernel⟩, List.mem_of_getElem? (i := 630) (by decide +kernel), List.mem_of_getElem? (i := 867) (by decide +kernel), List.mem_of_getElem? (i := 868) (by decide +kernel)⟩
theorem lw_p53 : lw_okq (⟨"DrawnGatesModel", "isBegun", "()Z"⟩, 26) := ⟨⟨by decide +kernel, by decide +kernel⟩, List.mem_of_getElem? (i := 630) (by decide +kernel), List.mem_of_getElem? (i := 871) (by decide +kernel), List.mem_of_getElem? (i := 872) (by decide +kernel)⟩
theorem lw_p54 : lw_okq (⟨"DrawnGatesModel", "pinNode", "(I)I"⟩, 26) := ⟨⟨by decide +kernel, by decide +kernel⟩, List.mem_of_getElem? (i := 630) (by decide +kernel), List.mem_of_getElem? (i := 875) (by decide +kernel), List.mem_of_getElem? (i := 876) (by decide +kernel)⟩
theorem lw_p55 : lw_okq (⟨"DrawnGatesModel", "ofPin", "(II)I"⟩, 26) := ⟨⟨by decide +kernel, by decide +kernel⟩, List.mem_of_getElem? (i := 630) (by decide +kernel), List.mem_of_getElem? (i := 879) (by decide +kernel), List.mem_of_getElem? (i := 880) (by decide +kernel)⟩
theorem lw_p56 : lw_okq (⟨"DrawnGatesModel", "isPut", "(III)Z"⟩, 26) := ⟨⟨by decide +kernel, by decide +kernel⟩, List.mem_of_getElem? (i := 630) (by decide +kernel), List.mem_of_getElem? (i := 883) (by decide +kernel), List.mem_of_getElem? (i := 884) (by decide +kernel)⟩
theorem lw_p57 : lw_okq (⟨"DrawnGatesModel", "found", "()V"⟩, 26) := ⟨⟨by decide +kernel, by decide +kernel⟩, List.mem_of_getElem? (i := 630) (by decide +kernel), List.mem_of_getElem? (i := 887) (by decide +kernel), List.mem_of_getElem? (i := 888) (by decide +kernel)⟩
theorem lw_p58 : lw_okq (⟨"DrawnGatesModel", "isChosen", "(II)Z"⟩, 26) := ⟨⟨by decide +kernel, by decide +kernel⟩, List.mem_of_getElem? (i := 630) (by decide +kernel), List.mem_of_getElem? (i := 891) (by decide +kernel), List.mem_of_getElem? (i := 892) (by decide +kernel)⟩
theorem lw_p59 : lw_okq (⟨"DrawnGatesModel", "ofDevice", "(II)I"⟩, 26) := ⟨⟨by decide +kernel, by decide +kernel⟩, List.mem_of_getElem? (i := 630) (by decide +kernel), List.mem_of_getElem? (i := 895) (by decide +kernel), List.mem_of_getElem? (i := 896) (by decide +kernel)⟩
theorem lw_p60 : lw_okq (⟨"DrawnGatesModel", "counted", "(I)I"⟩, 26) := ⟨⟨by decide +kernel, by decide +kernel⟩, List.mem_of_getElem? (i := 630) (by decide +kernel), List.mem_of_getElem? (i := 903) (by decide +kernel), List.mem_of_getElem? (i := 904) (by decide +kernel)⟩
theorem lw_p61 : lw_okq (⟨"DrawnGatesModel", "pairs", "(Z)I"⟩, 26) := ⟨⟨by decide +kernel, by decide +kernel⟩, List.mem_of_getElem? (i := 630) (by decide +kernel), List.mem_of_getElem? (i := 907) (by decide +kernel), List.mem_of_getElem? (i := 908) (by decide +kernel)⟩
theorem lw_p62 : lw_okq (⟨"DrawnGatesModel", "unlike", "()I"⟩, 26) := ⟨⟨by decide +kernel, by decide +kernel⟩, List.mem_of_getElem? (i := 630) (by decide +kernel), List.mem_of_getElem? (i := 911) (by decide +kernel), List.mem_of_getElem? (i := 912) (by decide +kernel)⟩
theorem lw_p63 : lw_okq (⟨"DrawnGatesModel", "kindOfDevice", "(I)I"⟩, 26) := ⟨⟨by decide +kernel, by decide +kernel⟩, List.mem_of_getElem? (i := 630) (by decide +kernel), List.mem_of_getElem? (i := 915) (by decide +kernel), List.mem_of_getElem? (i := 916) (by decide +kernel)⟩
def lw_privs_4 : List (MethodName × Nat) := [(⟨"DrawnGatesModel", "isSide", "(II)Z"⟩, 26), (⟨"DrawnGatesModel", "findMatches", "()V"⟩, 26), (⟨"DrawnGatesModel", "wells", "()I"⟩, 26), (⟨"DrawnGatesModel", "isWell", "(I)Z"⟩, 26), (⟨"DrawnGatesModel", "ofGate", "(II)I"⟩, 26), (⟨"DrawnGatesModel", "isBegun", "()Z"⟩, 26), (⟨"DrawnGatesModel", "pinNode", "(I)I"⟩, 26), (⟨"DrawnGatesModel", "ofPin", "(II)I"⟩, 26), (⟨"DrawnGatesModel", "isPut", "(III)Z"⟩, 26), (⟨"DrawnGatesModel", "found", "()V"⟩, 26), (⟨"DrawnGatesModel", "isChosen", "(II)Z"⟩, 26), (⟨"DrawnGatesModel", "ofDevice", "(II)I"⟩, 26), (⟨"DrawnGatesModel", "counted", "(I)I"⟩, 26), (⟨"DrawnGatesModel", "pairs", "(Z)I"⟩, 26), (⟨"DrawnGatesModel", "unlike", "()I"⟩, 26), (⟨"DrawnGatesModel", "kindOfDevice", "(I)I"⟩, 26)]
theorem lw_r4 : ∀ q ∈ lw_privs_4, lw_okq q := List.forall_mem_cons.mpr ⟨lw_p48, List.forall_mem_cons.mpr ⟨lw_p49, List.forall_mem_cons.mpr ⟨lw_p50, List.forall_mem_cons.mpr ⟨lw_p51, List.forall_mem_cons.mpr ⟨lw_p52, List.forall_mem_cons.mpr ⟨lw_p53, List.forall_mem_cons.mpr ⟨lw_p54, List.forall_mem_cons.mpr ⟨lw_p55, List.forall_mem_cons.mpr ⟨lw_p56, List.forall_mem_cons.mpr ⟨lw_p57, List.forall_mem_cons.mpr ⟨lw_p58, List.forall_mem_cons.mpr ⟨lw_p59, List.forall_mem_cons.mpr ⟨lw_p60, List.forall_mem_cons.mpr ⟨lw_p61, List.forall_mem_cons.mpr ⟨lw_p62, List.forall_mem_cons.mpr ⟨lw_p63, fun _ h => absurd h List.not_mem_nil⟩⟩⟩⟩⟩⟩⟩⟩⟩⟩⟩⟩⟩⟩⟩⟩
theorem lw_p64 : lw_okq (⟨"DrawnGatesModel", "netHangs", "(I)I"⟩, 26) := ⟨⟨by decide +kernel, by decide +kernel⟩, List.mem_of_getElem? (i := 630) (by decide +kernel), List.mem_of_getElem? (i := 919) (by decide +kernel), List.mem_of_getElem? (i := 920) (by decide +kernel)⟩
theorem lw_p65 : lw_okq (⟨"DrawnGatesModel", "kindOfGate", "(I)I"⟩, 26) := ⟨⟨by decide +kernel, by decide +kernel⟩, List.mem_of_getElem? (i := 630) (by decide +kernel), List.mem_of_getElem? (i := 927) (by decide +kernel), List.mem_of_getElem? (i := 928) (by decide +kernel)⟩
theorem lw_p66 : lw_okq (⟨"DrawnGatesModel", "nodeHangs", "(I)I"⟩, 26) := ⟨⟨by decide +kernel, by decide +kernel⟩, List.mem_of_getElem? (i := 630) (by decide +kernel), List.mem_of_getElem? (i := 931) (by decide +kernel), List.mem_of_getElem? (i := 932) (by decide +kernel)⟩
theorem lw_p67 : lw_okq (⟨"DrawnGatesModel", "wireOf", "(II)I"⟩, 26) := ⟨⟨by decide +kernel, by decide +kernel⟩, List.mem_of_getElem? (i := 630) (by decide +kernel), List.mem_of_getElem? (i := 947) (by decide +kernel), List.mem_of_getElem? (i := 948) (by decide +kernel)⟩
theorem lw_p68 : lw_okq (⟨"DrawnGatesModel", "waysOf", "()I"⟩, 26) := ⟨⟨by decide +kernel, by decide +kernel⟩, List.mem_of_getElem? (i := 630) (by decide +kernel), List.mem_of_getElem? (i := 955) (by decide +kernel), List.mem_of_getElem? (i := 956) (by decide +kernel)⟩
theorem lw_p69 : lw_okq (⟨"DrawnGatesModel", "isDevice", "(I)Z"⟩, 26) := ⟨⟨by decide +kernel, by decide +kernel⟩, List.mem_of_getElem? (i := 630) (by decide +kernel), List.mem_of_getElem? (i := 963) (by decide +kernel), List.mem_of_getElem? (i := 964) (by decide +kernel)⟩
theorem lw_p70 : lw_okq (⟨"DrawnGatesModel", "here", "()I"⟩, 26) := ⟨⟨by decide +kernel, by decide +kernel⟩, List.mem_of_getElem? (i := 630) (by decide +kernel), List.mem_of_getElem? (i := 995) (by decide +kernel), List.mem_of_getElem? (i := 996) (by decide +kernel)⟩
theorem lw_p71 : lw_okq (⟨"DrawnGatesModel", "readOrder", "()V"⟩, 26) := ⟨⟨by decide +kernel, by decide +kernel⟩, List.mem_of_getElem? (i := 630) (by decide +kernel), List.mem_of_getElem? (i := 999) (by decide +kernel), List.mem_of_getElem? (i := 1000) (by decide +kernel)⟩
theorem lw_p72 : lw_okq (⟨"DrawnGatesModel", "must", "(Z)V"⟩, 26) := ⟨⟨by decide +kernel, by decide +kernel⟩, List.mem_of_getElem? (i := 630) (by decide +kernel), List.mem_of_getElem? (i := 1006) (by decide +kernel), List.mem_of_getElem? (i := 1007) (by decide +kernel)⟩
theorem lw_p73 : lw_okq (⟨"DrawnGatesModel", "doOrder", "(I)I"⟩, 26) := ⟨⟨by decide +kernel, by decide +kernel⟩, List.mem_of_getElem? (i := 630) (by decide +kernel), List.mem_of_getElem? (i := 1010) (by decide +kernel), List.mem_of_getElem? (i := 1011) (by decide +kernel)⟩
theorem lw_p74 : lw_okq (⟨"DrawnGatesModel", "toldOf", "(I)I"⟩, 26) := ⟨⟨by decide +kernel, by decide +kernel⟩, List.mem_of_getElem? (i := 630) (by decide +kernel), List.mem_of_getElem? (i := 1018) (by decide +kernel), List.mem_of_getElem? (i := 1019) (by decide +kernel)⟩
theorem lw_p75 : lw_okq (⟨"DrawnGatesModel", "mix", "(J)V"⟩, 26) := ⟨⟨by decide +kernel, by decide +kernel⟩, List.mem_of_getElem? (i := 630) (by decide +kernel), List.mem_of_getElem? (i := 1027) (by decide +kernel), List.mem_of_getElem? (i := 1028) (by decide +kernel)⟩
def lw_privs_5 : List (MethodName × Nat) := [(⟨"DrawnGatesModel", "netHangs", "(I)I"⟩, 26), (⟨"DrawnGatesModel", "kindOfGate", "(I)I"⟩, 26), (⟨"DrawnGatesModel", "nodeHangs", "(I)I"⟩, 26), (⟨"DrawnGatesModel", "wireOf", "(II)I"⟩, 26), (⟨"DrawnGatesModel", "waysOf", "()I"⟩, 26), (⟨"DrawnGatesModel", "isDevice", "(I)Z"⟩, 26), (⟨"DrawnGatesModel", "here", "()I"⟩, 26), (⟨"DrawnGatesModel", "readOrder", "()V"⟩, 26), (⟨"DrawnGatesModel", "must", "(Z)V"⟩, 26), (⟨"DrawnGatesModel", "doOrder", "(I)I"⟩, 26), (⟨"DrawnGatesModel", "toldOf", "(I)I"⟩, 26), (⟨"DrawnGatesModel", "mix", "(J)V"⟩, 26)]
theorem lw_r5 : ∀ q ∈ lw_privs_5, lw_okq q := List.forall_mem_cons.mpr ⟨lw_p64, List.forall_mem_cons.mpr ⟨lw_p65, List.forall_mem_cons.mpr ⟨lw_p66, List.forall_mem_cons.mpr ⟨lw_p67, List.forall_mem_cons.mpr ⟨lw_p68, List.forall_mem_cons.mpr ⟨lw_p69, List.forall_mem_cons.mpr ⟨lw_p70, List.forall_mem_cons.mpr ⟨lw_p71, List.forall_mem_cons.mpr ⟨lw_p72, List.forall_mem_cons.mpr ⟨lw_p73, List.forall_mem_cons.mpr ⟨lw_p74, List.forall_mem_cons.mpr ⟨lw_p75, fun _ h => absurd h List.not_mem_nil⟩⟩⟩⟩⟩⟩⟩⟩⟩⟩⟩⟩
def lw_privs : List (MethodName × Nat) := lw_privs_1 ++ (lw_privs_2 ++ (lw_privs_3 ++ (lw_privs_4 ++ (lw_privs_5))))
def lw_tbl : List Cond := k2_sels lw_privs ++ tables_1
theorem lw_privs_ok : ∀ q ∈ lw_privs, lw_okq q := by
  show ∀ q ∈ lw_privs_1 ++ (lw_privs_2 ++ (lw_privs_3 ++ (lw_privs_4 ++ (lw_privs_5)))), lw_okq q
  exact List.forall_mem_append.mpr ⟨lw_r1, List.forall_mem_append.mpr ⟨lw_r2, List.forall_mem_append.mpr ⟨lw_r3, List.forall_mem_append.mpr ⟨lw_r4, lw_r5⟩⟩⟩⟩
end
section
def RX0 : String := "DrawnGates$Layout"
def TX0 : u_T := fun k => match k with
  | 0 => ("DrawnGates$Layout", "layers", "[J", true)
  | 1 => ("DrawnGates$Layout", "pieces", "[J", true)
  | 2 => ("DrawnGates$Layout", "pieceLayer", "[I", true)
  | 3 => ("DrawnGates$Layout", "leastJoined", "[I", true)
  | 4 => ("DrawnGates$Layout", "pieceNode", "[I", true)
  | 5 => ("DrawnGates$Layout", "wires", "[[J", true)
  | 6 => ("DrawnGates$Layout", "nodeHang", "[I", true)
  | 7 => ("DrawnGates$Layout", "gateCells", "[J", true)
  | 8 => ("DrawnGates$Layout", "gateNode", "[I", true)
  | 9 => ("DrawnGates$Layout", "gateA", "[I", true)
  | 10 => ("DrawnGates$Layout", "gateB", "[I", true)
  | 11 => ("DrawnGates$Layout", "gateSides", "[I", true)
  | 12 => ("DrawnGates$Layout", "pieceCount", "I", false)
  | 13 => ("DrawnGates$Layout", "nodeCount", "I", false)
  | 14 => ("DrawnGates$Layout", "gateCount", "I", false)
  | _ => ("DrawnGates$Layout", "brokenCount", "I", false)
def tyX0 : Nat → FieldType := fun k => match k with
  | 0 => .array .long
  | 1 => .array .long
  | 2 => .array .int
  | 3 => .array .int
  | 4 => .array .int
  | 5 => .array (.array .long)
  | 6 => .array .int
  | 7 => .array .long
  | 8 => .array .int
  | 9 => .array .int
  | 10 => .array .int
  | 11 => .array .int
  | 12 => .int
  | 13 => .int
  | 14 => .int
  | _ => .int
theorem nmX0 : ∀ a, a < 16 → ∀ b, b < 16 → a ≠ b → (TX0 a).2.1 ≠ (TX0 b).2.1 := by decide +kernel
theorem tyX0_ok : ∀ k, k < 16 → parseFieldDescriptor (TX0 k).2.2.1 = some (tyX0 k) := by decide +kernel
abbrev cX0_init : ByteArray := prog_2_method_1_code
def yX0_init : MethodName := ⟨RX0, "<init>", "()V"⟩
abbrev cX0_refresh : ByteArray := prog_2_method_2_code
def yX0_refresh : MethodName := ⟨RX0, "refresh", "([J)V"⟩
abbrev cX0_nodeWith : ByteArray := prog_2_method_3_code
def yX0_nodeWith : MethodName := ⟨RX0, "nodeWith", "(IJ)I"⟩
abbrev cX0_gateWith : ByteArray := prog_2_method_4_code
def yX0_gateWith : MethodName := ⟨RX0, "gateWith", "(J)I"⟩
abbrev cX0_pinNode : ByteArray := prog_2_method_5_code
def yX0_pinNode : MethodName := ⟨RX0, "pinNode", "(LDrawnGates$Plan;I)I"⟩
abbrev cX0_countShorts : ByteArray := prog_2_method_6_code
def yX0_countShorts : MethodName := ⟨RX0, "countShorts", "(LDrawnGates$Plan;)I"⟩
abbrev cX0_countOpens : ByteArray := prog_2_method_7_code
def yX0_countOpens : MethodName := ⟨RX0, "countOpens", "(LDrawnGates$Plan;)I"⟩
abbrev cX0_tellGate : ByteArray := prog_2_method_8_code
def yX0_tellGate : MethodName := ⟨RX0, "tellGate", "(II)I"⟩
abbrev cX0_mixInto : ByteArray := prog_2_method_9_code
def yX0_mixInto : MethodName := ⟨RX0, "mixInto", "(J)J"⟩
abbrev cX0_sizeOf : ByteArray := prog_2_method_10_code
def yX0_sizeOf : MethodName := ⟨RX0, "sizeOf", "(I)I"⟩
abbrev cX0_hangOf : ByteArray := prog_2_method_11_code
def yX0_hangOf : MethodName := ⟨RX0, "hangOf", "(I)I"⟩
abbrev cX0_isWell : ByteArray := prog_2_method_12_code
def yX0_isWell : MethodName := ⟨RX0, "isWell", "(I)Z"⟩
abbrev cX0_isAsRead : ByteArray := prog_2_method_13_code
def yX0_isAsRead : MethodName := ⟨RX0, "isAsRead", "([J)Z"⟩
abbrev cX0_cellsOf : ByteArray := prog_2_method_14_code
def yX0_cellsOf : MethodName := ⟨RX0, "cellsOf", "(I)J"⟩
abbrev cX0_findPieces : ByteArray := prog_2_method_15_code
def yX0_findPieces : MethodName := ⟨RX0, "findPieces", "()V"⟩
abbrev cX0_joinPieces : ByteArray := prog_2_method_16_code
def yX0_joinPieces : MethodName := ⟨RX0, "joinPieces", "()V"⟩
abbrev cX0_joinBelow : ByteArray := prog_2_method_17_code
def yX0_joinBelow : MethodName := ⟨RX0, "joinBelow", "(I)V"⟩
abbrev cX0_join : ByteArray := prog_2_method_18_code
def yX0_join : MethodName := ⟨RX0, "join", "(II)V"⟩
abbrev cX0_numberNodes : ByteArray := prog_2_method_19_code
def yX0_numberNodes : MethodName := ⟨RX0, "numberNodes", "()V"⟩
abbrev cX0_openNode : ByteArray := prog_2_method_20_code
def yX0_openNode : MethodName := ⟨RX0, "openNode", "()V"⟩
abbrev cX0_findGates : ByteArray := prog_2_method_21_code
def yX0_findGates : MethodName := ⟨RX0, "findGates", "()V"⟩
abbrev cX0_findSides : ByteArray := prog_2_method_22_code
def yX0_findSides : MethodName := ⟨RX0, "findSides", "(I)V"⟩
abbrev cX0_weighNodes : ByteArray := prog_2_method_23_code
def yX0_weighNodes : MethodName := ⟨RX0, "weighNodes", "()V"⟩
abbrev cX0_addHang : ByteArray := prog_2_method_24_code
def yX0_addHang : MethodName := ⟨RX0, "addHang", "(II)V"⟩
abbrev cX0_hangingTogether : ByteArray := prog_2_method_25_code
def yX0_hangingTogether : MethodName := ⟨RX0, "hangingTogether", "(J)J"⟩
abbrev cX0_besideOf : ByteArray := prog_2_method_26_code
def yX0_besideOf : MethodName := ⟨RX0, "besideOf", "(J)J"⟩
def RX1 : String := "DrawnGates$Matching"
def TX1 : u_T := fun k => match k with
  | 0 => ("DrawnGates$Matching", "plan", "LDrawnGates$Plan;", true)
  | 1 => ("DrawnGates$Matching", "drawn", "LDrawnGates$Layout;", true)
  | 2 => ("DrawnGates$Matching", "likes", "[I", true)
  | 3 => ("DrawnGates$Matching", "gateOf", "[I", true)
  | 4 => ("DrawnGates$Matching", "nodesOf", "[[I", true)
  | 5 => ("DrawnGates$Matching", "taken", "I", false)
  | 6 => ("DrawnGates$Matching", "firstGates", "[I", true)
  | 7 => ("DrawnGates$Matching", "firstNodes", "[I", true)
  | 8 => ("DrawnGates$Matching", "found", "I", false)
  | _ => ("DrawnGates$Matching", "unlike", "I", false)
def tyX1 : Nat → FieldType := fun k => match k with
  | 0 => .object "DrawnGates$Plan"
  | 1 => .object "DrawnGates$Layout"
  | 2 => .array .int
  | 3 => .array .int
  | 4 => .array (.array .int)
  | 5 => .int
  | 6 => .array .int
  | 7 => .array .int
  | 8 => .int
  | _ => .int
theorem nmX1 : ∀ a, a < 10 → ∀ b, b < 10 → a ≠ b → (TX1 a).2.1 ≠ (TX1 b).2.1 := by decide +kernel
theorem tyX1_ok : ∀ k, k < 10 → parseFieldDescriptor (TX1 k).2.2.1 = some (tyX1 k) := by decide +kernel
abbrev cX1_init : ByteArray := prog_3_method_1_code
def yX1_init : MethodName := ⟨RX1, "<init>", "(LDrawnGates$Plan;LDrawnGates$Layout;)V"⟩
abbrev cX1_run : ByteArray := prog_3_method_2_code
def yX1_run : MethodName := ⟨RX1, "run", "()V"⟩
abbrev cX1_mixInto : ByteArray := prog_3_method_3_code
def yX1_mixInto : MethodName := ⟨RX1, "mixInto", "(J)J"⟩
abbrev cX1_findLikes : ByteArray := prog_3_method_4_code
def yX1_findLikes : MethodName := ⟨RX1, "findLikes", "()V"⟩
abbrev cX1_isLike : ByteArray := prog_3_method_5_code
def yX1_isLike : MethodName := ⟨RX1, "isLike", "(II)Z"⟩
abbrev cX1_countLeftOver : ByteArray := prog_3_method_6_code
def yX1_countLeftOver : MethodName := ⟨RX1, "countLeftOver", "()I"⟩
abbrev cX1_tiePins : ByteArray := prog_3_method_7_code
def yX1_tiePins : MethodName := ⟨RX1, "tiePins", "([I)Z"⟩
abbrev cX1_place : ByteArray := prog_3_method_8_code
def yX1_place : MethodName := ⟨RX1, "place", "(LDrawnGates$Matching;I)V"⟩
abbrev cX1_turn : ByteArray := prog_3_method_9_code
def yX1_turn : MethodName := ⟨RX1, "turn", "(LDrawnGates$Matching;I)V"⟩
abbrev cX1_tieSides : ByteArray := prog_3_method_10_code
def yX1_tieSides : MethodName := ⟨RX1, "tieSides", "(III)Z"⟩
abbrev cX1_tie : ByteArray := prog_3_method_11_code
def yX1_tie : MethodName := ⟨RX1, "tie", "([III)Z"⟩
abbrev cX1_record : ByteArray := prog_3_method_12_code
def yX1_record : MethodName := ⟨RX1, "record", "([I)V"⟩
abbrev cX1_isBeforeFirst : ByteArray := prog_3_method_13_code
def yX1_isBeforeFirst : MethodName := ⟨RX1, "isBeforeFirst", "([I)Z"⟩
def RX2 : String := "DrawnGates$Plan"
def TX2 : u_T := fun k => match k with
  | 0 => ("DrawnGates$Plan", "layers", "[J", true)
  | 1 => ("DrawnGates$Plan", "devices", "[I", true)
  | 2 => ("DrawnGates$Plan", "ties", "[I", true)
  | 3 => ("DrawnGates$Plan", "deviceCount", "I", false)
  | _ => ("DrawnGates$Plan", "pinCount", "I", false)
def tyX2 : Nat → FieldType := fun k => match k with
  | 0 => .array .long
  | 1 => .array .int
  | 2 => .array .int
  | 3 => .int
  | _ => .int
theorem nmX2 : ∀ a, a < 5 → ∀ b, b < 5 → a ≠ b → (TX2 a).2.1 ≠ (TX2 b).2.1 := by decide +kernel
theorem tyX2_ok : ∀ k, k < 5 → parseFieldDescriptor (TX2 k).2.2.1 = some (tyX2 k) := by decide +kernel
abbrev cX2_init : ByteArray := prog_4_method_1_code
def yX2_init : MethodName := ⟨RX2, "<init>", "()V"⟩
abbrev cX2_take : ByteArray := prog_4_method_2_code
def yX2_take : MethodName := ⟨RX2, "take", "(LDrawnGates$Plan;)V"⟩
abbrev cX2_paint : ByteArray := prog_4_method_3_code
def yX2_paint : MethodName := ⟨RX2, "paint", "(IIIII)I"⟩
abbrev cX2_erase : ByteArray := prog_4_method_4_code
def yX2_erase : MethodName := ⟨RX2, "erase", "(IIIII)I"⟩
abbrev cX2_shift : ByteArray := prog_4_method_5_code
def yX2_shift : MethodName := ⟨RX2, "shift", "(III)I"⟩
abbrev cX2_addDevice : ByteArray := prog_4_method_6_code
def yX2_addDevice : MethodName := ⟨RX2, "addDevice", "(III)I"⟩
abbrev cX2_addPin : ByteArray := prog_4_method_7_code
def yX2_addPin : MethodName := ⟨RX2, "addPin", "(III)I"⟩
abbrev cX2_dropMeant : ByteArray := prog_4_method_8_code
def yX2_dropMeant : MethodName := ⟨RX2, "dropMeant", "()I"⟩
abbrev cX2_gateNet : ByteArray := prog_4_method_9_code
def yX2_gateNet : MethodName := ⟨RX2, "gateNet", "(I)I"⟩
abbrev cX2_sideA : ByteArray := prog_4_method_10_code
def yX2_sideA : MethodName := ⟨RX2, "sideA", "(I)I"⟩
abbrev cX2_sideB : ByteArray := prog_4_method_11_code
def yX2_sideB : MethodName := ⟨RX2, "sideB", "(I)I"⟩
abbrev cX2_pinBit : ByteArray := prog_4_method_12_code
def yX2_pinBit : MethodName := ⟨RX2, "pinBit", "(I)J"⟩
abbrev cX2_pinNet : ByteArray := prog_4_method_13_code
def yX2_pinNet : MethodName := ⟨RX2, "pinNet", "(I)I"⟩
abbrev cX2_hangOf : ByteArray := prog_4_method_14_code
def yX2_hangOf : MethodName := ⟨RX2, "hangOf", "(I)I"⟩
abbrev cX2_putThree : ByteArray := prog_4_method_15_code
def yX2_putThree : MethodName := ⟨RX2, "putThree", "([IIIII)V"⟩
abbrev cX2_isStep : ByteArray := prog_4_method_16_code
def yX2_isStep : MethodName := ⟨RX2, "isStep", "(I)Z"⟩
abbrev cX2_isBox : ByteArray := prog_4_method_17_code
def yX2_isBox : MethodName := ⟨RX2, "isBox", "(IIII)Z"⟩
abbrev cX2_boxBits : ByteArray := prog_4_method_18_code
def yX2_boxBits : MethodName := ⟨RX2, "boxBits", "(IIII)J"⟩
def RX3 : String := "DrawnGates$Text"
def TX3 : u_T := fun k => match k with
  | 0 => ("DrawnGates$Text", "bytes", "[B", true)
  | 1 => ("DrawnGates$Text", "figures", "[I", true)
  | _ => ("DrawnGates$Text", "length", "I", false)
def tyX3 : Nat → FieldType := fun k => match k with
  | 0 => .array .byte
  | 1 => .array .int
  | _ => .int
theorem nmX3 : ∀ a, a < 3 → ∀ b, b < 3 → a ≠ b → (TX3 a).2.1 ≠ (TX3 b).2.1 := by decide +kernel
theorem tyX3_ok : ∀ k, k < 3 → parseFieldDescriptor (TX3 k).2.2.1 = some (tyX3 k) := by decide +kernel
abbrev cX3_init : ByteArray := prog_5_method_1_code
def yX3_init : MethodName := ⟨RX3, "<init>", "()V"⟩
abbrev cX3_add : ByteArray := prog_5_method_2_code
def yX3_add : MethodName := ⟨RX3, "add", "(I)I"⟩
abbrev cX3_findFault : ByteArray := prog_5_method_3_code
def yX3_findFault : MethodName := ⟨RX3, "findFault", "()I"⟩
abbrev cX3_perform : ByteArray := prog_5_method_4_code
def yX3_perform : MethodName := ⟨RX3, "perform", "(LDrawnGates$Plan;)I"⟩
abbrev cX3_performOne : ByteArray := prog_5_method_5_code
def yX3_performOne : MethodName := ⟨RX3, "performOne", "(LDrawnGates$Plan;I)I"⟩
abbrev cX3_canStand : ByteArray := prog_5_method_6_code
def yX3_canStand : MethodName := ⟨RX3, "canStand", "(II)Z"⟩
abbrev cX3_figuresOf : ByteArray := prog_5_method_7_code
def yX3_figuresOf : MethodName := ⟨RX3, "figuresOf", "(I)I"⟩
def RX4 : String := "DrawnGates"
def TX4 : u_T := fun k => match k with
  | 0 => ("DrawnGates", "plan", "LDrawnGates$Plan;", true)
  | 1 => ("DrawnGates", "before", "LDrawnGates$Plan;", true)
  | 2 => ("DrawnGates", "states", "[LDrawnGates$Plan;", true)
  | 3 => ("DrawnGates", "layout", "LDrawnGates$Layout;", true)
  | 4 => ("DrawnGates", "matching", "LDrawnGates$Matching;", true)
  | 5 => ("DrawnGates", "text", "LDrawnGates$Text;", true)
  | 6 => ("DrawnGates", "refusals", "[I", true)
  | 7 => ("DrawnGates", "stateCount", "I", false)
  | _ => ("DrawnGates", "searched", "Z", false)
def tyX4 : Nat → FieldType := fun k => match k with
  | 0 => .object "DrawnGates$Plan"
  | 1 => .object "DrawnGates$Plan"
  | 2 => .array (.object "DrawnGates$Plan")
  | 3 => .object "DrawnGates$Layout"
  | 4 => .object "DrawnGates$Matching"
  | 5 => .object "DrawnGates$Text"
  | 6 => .array .int
  | 7 => .int
  | _ => .boolean
theorem nmX4 : ∀ a, a < 9 → ∀ b, b < 9 → a ≠ b → (TX4 a).2.1 ≠ (TX4 b).2.1 := by decide +kernel
theorem tyX4_ok : ∀ k, k < 9 → parseFieldDescriptor (TX4 k).2.2.1 = some (tyX4 k) := by decide +kernel
abbrev cX4_init : ByteArray := prog_1_method_1_code
def yX4_init : MethodName := ⟨RX4, "<init>", "()V"⟩
abbrev cX4_draws : ByteArray := prog_1_method_2_code
def yX4_draws : MethodName := ⟨RX4, "draws", "(IIIII)I"⟩
abbrev cX4_rubs : ByteArray := prog_1_method_3_code
def yX4_rubs : MethodName := ⟨RX4, "rubs", "(IIIII)I"⟩
abbrev cX4_moves : ByteArray := prog_1_method_4_code
def yX4_moves : MethodName := ⟨RX4, "moves", "(III)I"⟩
abbrev cX4_means : ByteArray := prog_1_method_5_code
def yX4_means : MethodName := ⟨RX4, "means", "(III)I"⟩
abbrev cX4_pins : ByteArray := prog_1_method_6_code
def yX4_pins : MethodName := ⟨RX4, "pins", "(III)I"⟩
abbrev cX4_forgets : ByteArray := prog_1_method_7_code
def yX4_forgets : MethodName := ⟨RX4, "forgets", "()I"⟩
abbrev cX4_at : ByteArray := prog_1_method_8_code
def yX4_at : MethodName := ⟨RX4, "at", "(III)I"⟩
abbrev cX4_node : ByteArray := prog_1_method_9_code
def yX4_node : MethodName := ⟨RX4, "node", "(III)I"⟩
abbrev cX4_count : ByteArray := prog_1_method_10_code
def yX4_count : MethodName := ⟨RX4, "count", "(I)I"⟩
abbrev cX4_gateAt : ByteArray := prog_1_method_11_code
def yX4_gateAt : MethodName := ⟨RX4, "gateAt", "(II)I"⟩
abbrev cX4_gate : ByteArray := prog_1_method_12_code
def yX4_gate : MethodName := ⟨RX4, "gate", "(II)I"⟩
abbrev cX4_wire : ByteArray := prog_1_method_13_code
def yX4_wire : MethodName := ⟨RX4, "wire", "(II)I"⟩
abbrev cX4_ways : ByteArray := prog_1_method_14_code
def yX4_ways : MethodName := ⟨RX4, "ways", "()I"⟩
abbrev cX4_matched : ByteArray := prog_1_method_15_code
def yX4_matched : MethodName := ⟨RX4, "matched", "(I)I"⟩
abbrev cX4_net : ByteArray := prog_1_method_16_code
def yX4_net : MethodName := ⟨RX4, "net", "(I)I"⟩
abbrev cX4_device : ByteArray := prog_1_method_17_code
def yX4_device : MethodName := ⟨RX4, "device", "(II)I"⟩
abbrev cX4_pin : ByteArray := prog_1_method_18_code
def yX4_pin : MethodName := ⟨RX4, "pin", "(II)I"⟩
abbrev cX4_hangs : ByteArray := prog_1_method_19_code
def yX4_hangs : MethodName := ⟨RX4, "hangs", "(I)I"⟩
abbrev cX4_type : ByteArray := prog_1_method_20_code
def yX4_type : MethodName := ⟨RX4, "type", "(I)I"⟩
abbrev cX4_clear : ByteArray := prog_1_method_21_code
def yX4_clear : MethodName := ⟨RX4, "clear", "()I"⟩
abbrev cX4_does : ByteArray := prog_1_method_22_code
def yX4_does : MethodName := ⟨RX4, "does", "()I"⟩
abbrev cX4_back : ByteArray := prog_1_method_23_code
def yX4_back : MethodName := ⟨RX4, "back", "()I"⟩
abbrev cX4_told : ByteArray := prog_1_method_24_code
def yX4_told : MethodName := ⟨RX4, "told", "(I)I"⟩
abbrev cX4_digest : ByteArray := prog_1_method_25_code
def yX4_digest : MethodName := ⟨RX4, "digest", "()J"⟩
abbrev cX4_settle : ByteArray := prog_1_method_26_code
def yX4_settle : MethodName := ⟨RX4, "settle", "(I)I"⟩
abbrev cX4_keepBefore : ByteArray := prog_1_method_27_code
def yX4_keepBefore : MethodName := ⟨RX4, "keepBefore", "()V"⟩
abbrev cX4_dropOldestState : ByteArray := prog_1_method_28_code
def yX4_dropOldestState : MethodName := ⟨RX4, "dropOldestState", "()V"⟩
abbrev cX4_refuse : ByteArray := prog_1_method_29_code
def yX4_refuse : MethodName := ⟨RX4, "refuse", "(I)I"⟩
abbrev cX4_readLayout : ByteArray := prog_1_method_30_code
def yX4_readLayout : MethodName := ⟨RX4, "readLayout", "()LDrawnGates$Layout;"⟩
abbrev cX4_search : ByteArray := prog_1_method_31_code
def yX4_search : MethodName := ⟨RX4, "search", "()LDrawnGates$Matching;"⟩
abbrev cX4_isWithin : ByteArray := prog_1_method_32_code
def yX4_isWithin : MethodName := ⟨RX4, "isWithin", "(II)Z"⟩
abbrev cX4_isCell : ByteArray := prog_1_method_33_code
def yX4_isCell : MethodName := ⟨RX4, "isCell", "(II)Z"⟩
abbrev cX4_cellBit : ByteArray := prog_1_method_34_code
def yX4_cellBit : MethodName := ⟨RX4, "cellBit", "(II)J"⟩
def RX5 : String := "DrawnGatesModel"
def TX5 : u_T := fun k => match k with
  | 0 => ("DrawnGatesModel", "now", "[I", true)
  | 1 => ("DrawnGatesModel", "held", "[I", true)
  | 2 => ("DrawnGatesModel", "past", "[I", true)
  | 3 => ("DrawnGatesModel", "pasts", "I", false)
  | 4 => ("DrawnGatesModel", "refused", "[I", true)
  | 5 => ("DrawnGatesModel", "isLaid", "Z", false)
  | 6 => ("DrawnGatesModel", "nodeOf", "[I", true)
  | 7 => ("DrawnGatesModel", "nodeMany", "I", false)
  | 8 => ("DrawnGatesModel", "pieceMany", "I", false)
  | 9 => ("DrawnGatesModel", "gateOf", "[I", true)
  | 10 => ("DrawnGatesModel", "gateMany", "I", false)
  | 11 => ("DrawnGatesModel", "row", "[I", true)
  | 12 => ("DrawnGatesModel", "rowMany", "I", false)
  | 13 => ("DrawnGatesModel", "gates", "[I", true)
  | 14 => ("DrawnGatesModel", "wayMany", "I", false)
  | 15 => ("DrawnGatesModel", "best", "[I", true)
  | 16 => ("DrawnGatesModel", "choice", "[I", true)
  | 17 => ("DrawnGatesModel", "netAt", "[I", true)
  | 18 => ("DrawnGatesModel", "text", "[I", true)
  | 19 => ("DrawnGatesModel", "typed", "I", false)
  | 20 => ("DrawnGatesModel", "at", "I", false)
  | 21 => ("DrawnGatesModel", "fault", "I", false)
  | 22 => ("DrawnGatesModel", "orders", "I", false)
  | 23 => ("DrawnGatesModel", "letters", "[I", true)
  | 24 => ("DrawnGatesModel", "numbers", "[I", true)
  | _ => ("DrawnGatesModel", "h", "J", false)
def tyX5 : Nat → FieldType := fun k => match k with
  | 0 => .array .int
  | 1 => .array .int
  | 2 => .array .int
  | 3 => .int
  | 4 => .array .int
  | 5 => .boolean
  | 6 => .array .int
  | 7 => .int
  | 8 => .int
  | 9 => .array .int
  | 10 => .int
  | 11 => .array .int
  | 12 => .int
  | 13 => .array .int
  | 14 => .int
  | 15 => .array .int
  | 16 => .array .int
  | 17 => .array .int
  | 18 => .array .int
  | 19 => .int
  | 20 => .int
  | 21 => .int
  | 22 => .int
  | 23 => .array .int
  | 24 => .array .int
  | _ => .long
theorem nmX5 : ∀ a, a < 26 → ∀ b, b < 26 → a ≠ b → (TX5 a).2.1 ≠ (TX5 b).2.1 := by decide +kernel
theorem tyX5_ok : ∀ k, k < 26 → parseFieldDescriptor (TX5 k).2.2.1 = some (tyX5 k) := by decide +kernel
abbrev cX5_init : ByteArray := prog_7_method_1_code
def yX5_init : MethodName := ⟨RX5, "<init>", "()V"⟩
abbrev cX5_in : ByteArray := prog_7_method_2_code
def yX5_in : MethodName := ⟨RX5, "in", "(III)Z"⟩
abbrev cX5_refuses : ByteArray := prog_7_method_3_code
def yX5_refuses : MethodName := ⟨RX5, "refuses", "(I)I"⟩
abbrev cX5_hold : ByteArray := prog_7_method_4_code
def yX5_hold : MethodName := ⟨RX5, "hold", "()V"⟩
abbrev cX5_push : ByteArray := prog_7_method_5_code
def yX5_push : MethodName := ⟨RX5, "push", "()V"⟩
abbrev cX5_ends : ByteArray := prog_7_method_6_code
def yX5_ends : MethodName := ⟨RX5, "ends", "(I)I"⟩
abbrev cX5_back : ByteArray := prog_7_method_7_code
def yX5_back : MethodName := ⟨RX5, "back", "()I"⟩
abbrev cX5_isDrawn : ByteArray := prog_7_method_8_code
def yX5_isDrawn : MethodName := ⟨RX5, "isDrawn", "(II)Z"⟩
abbrev cX5_flip : ByteArray := prog_7_method_9_code
def yX5_flip : MethodName := ⟨RX5, "flip", "(II)V"⟩
abbrev cX5_isCell : ByteArray := prog_7_method_10_code
def yX5_isCell : MethodName := ⟨RX5, "isCell", "(II)Z"⟩
abbrev cX5_paint : ByteArray := prog_7_method_11_code
def yX5_paint : MethodName := ⟨RX5, "paint", "(IIIIIZ)I"⟩
abbrev cX5_doMoves : ByteArray := prog_7_method_12_code
def yX5_doMoves : MethodName := ⟨RX5, "doMoves", "(III)I"⟩
abbrev cX5_isNet : ByteArray := prog_7_method_13_code
def yX5_isNet : MethodName := ⟨RX5, "isNet", "(I)Z"⟩
abbrev cX5_doMeans : ByteArray := prog_7_method_14_code
def yX5_doMeans : MethodName := ⟨RX5, "doMeans", "(III)I"⟩
abbrev cX5_add : ByteArray := prog_7_method_15_code
def yX5_add : MethodName := ⟨RX5, "add", "(IIII)I"⟩
abbrev cX5_doPins : ByteArray := prog_7_method_16_code
def yX5_doPins : MethodName := ⟨RX5, "doPins", "(III)I"⟩
abbrev cX5_doForgets : ByteArray := prog_7_method_17_code
def yX5_doForgets : MethodName := ⟨RX5, "doForgets", "()I"⟩
abbrev cX5_draws : ByteArray := prog_7_method_18_code
def yX5_draws : MethodName := ⟨RX5, "draws", "(IIIII)I"⟩
abbrev cX5_rubs : ByteArray := prog_7_method_19_code
def yX5_rubs : MethodName := ⟨RX5, "rubs", "(IIIII)I"⟩
abbrev cX5_moves : ByteArray := prog_7_method_20_code
def yX5_moves : MethodName := ⟨RX5, "moves", "(III)I"⟩
abbrev cX5_means : ByteArray := prog_7_method_21_code
def yX5_means : MethodName := ⟨RX5, "means", "(III)I"⟩
abbrev cX5_pins : ByteArray := prog_7_method_22_code
def yX5_pins : MethodName := ⟨RX5, "pins", "(III)I"⟩
abbrev cX5_forgets : ByteArray := prog_7_method_23_code
def yX5_forgets : MethodName := ⟨RX5, "forgets", "()I"⟩
abbrev cX5_isGateCell : ByteArray := prog_7_method_24_code
def yX5_isGateCell : MethodName := ⟨RX5, "isGateCell", "(I)Z"⟩
abbrev cX5_isWire : ByteArray := prog_7_method_25_code
def yX5_isWire : MethodName := ⟨RX5, "isWire", "(I)Z"⟩
abbrev cX5_beside : ByteArray := prog_7_method_26_code
def yX5_beside : MethodName := ⟨RX5, "beside", "(II)I"⟩
abbrev cX5_take : ByteArray := prog_7_method_27_code
def yX5_take : MethodName := ⟨RX5, "take", "(II)V"⟩
abbrev cX5_hang : ByteArray := prog_7_method_28_code
def yX5_hang : MethodName := ⟨RX5, "hang", "(Z)I"⟩
abbrev cX5_goFrom : ByteArray := prog_7_method_29_code
def yX5_goFrom : MethodName := ⟨RX5, "goFrom", "(IIZ)V"⟩
abbrev cX5_findGates : ByteArray := prog_7_method_30_code
def yX5_findGates : MethodName := ⟨RX5, "findGates", "()V"⟩
abbrev cX5_goGate : ByteArray := prog_7_method_31_code
def yX5_goGate : MethodName := ⟨RX5, "goGate", "(I)V"⟩
abbrev cX5_ofGate : ByteArray := prog_7_method_32_code
def yX5_ofGate : MethodName := ⟨RX5, "ofGate", "(II)I"⟩
abbrev cX5_findSides : ByteArray := prog_7_method_33_code
def yX5_findSides : MethodName := ⟨RX5, "findSides", "()V"⟩
abbrev cX5_isSide : ByteArray := prog_7_method_34_code
def yX5_isSide : MethodName := ⟨RX5, "isSide", "(II)Z"⟩
abbrev cX5_countSides : ByteArray := prog_7_method_35_code
def yX5_countSides : MethodName := ⟨RX5, "countSides", "(I)V"⟩
abbrev cX5_isWell : ByteArray := prog_7_method_36_code
def yX5_isWell : MethodName := ⟨RX5, "isWell", "(I)Z"⟩
abbrev cX5_lay : ByteArray := prog_7_method_37_code
def yX5_lay : MethodName := ⟨RX5, "lay", "()V"⟩
abbrev cX5_at : ByteArray := prog_7_method_38_code
def yX5_at : MethodName := ⟨RX5, "at", "(III)I"⟩
abbrev cX5_node : ByteArray := prog_7_method_39_code
def yX5_node : MethodName := ⟨RX5, "node", "(III)I"⟩
abbrev cX5_ofDevice : ByteArray := prog_7_method_40_code
def yX5_ofDevice : MethodName := ⟨RX5, "ofDevice", "(II)I"⟩
abbrev cX5_ofPin : ByteArray := prog_7_method_41_code
def yX5_ofPin : MethodName := ⟨RX5, "ofPin", "(II)I"⟩
abbrev cX5_pinNode : ByteArray := prog_7_method_42_code
def yX5_pinNode : MethodName := ⟨RX5, "pinNode", "(I)I"⟩
abbrev cX5_pairs : ByteArray := prog_7_method_43_code
def yX5_pairs : MethodName := ⟨RX5, "pairs", "(Z)I"⟩
abbrev cX5_netHangs : ByteArray := prog_7_method_44_code
def yX5_netHangs : MethodName := ⟨RX5, "netHangs", "(I)I"⟩
abbrev cX5_nodeHangs : ByteArray := prog_7_method_45_code
def yX5_nodeHangs : MethodName := ⟨RX5, "nodeHangs", "(I)I"⟩
abbrev cX5_kind : ByteArray := prog_7_method_46_code
def yX5_kind : MethodName := ⟨RX5, "kind", "(III)I"⟩
abbrev cX5_kindOfDevice : ByteArray := prog_7_method_47_code
def yX5_kindOfDevice : MethodName := ⟨RX5, "kindOfDevice", "(I)I"⟩
abbrev cX5_kindOfGate : ByteArray := prog_7_method_48_code
def yX5_kindOfGate : MethodName := ⟨RX5, "kindOfGate", "(I)I"⟩
abbrev cX5_wells : ByteArray := prog_7_method_49_code
def yX5_wells : MethodName := ⟨RX5, "wells", "()I"⟩
abbrev cX5_unlike : ByteArray := prog_7_method_50_code
def yX5_unlike : MethodName := ⟨RX5, "unlike", "()I"⟩
abbrev cX5_counted : ByteArray := prog_7_method_51_code
def yX5_counted : MethodName := ⟨RX5, "counted", "(I)I"⟩
abbrev cX5_count : ByteArray := prog_7_method_52_code
def yX5_count : MethodName := ⟨RX5, "count", "(I)I"⟩
abbrev cX5_gateAt : ByteArray := prog_7_method_53_code
def yX5_gateAt : MethodName := ⟨RX5, "gateAt", "(II)I"⟩
abbrev cX5_gate : ByteArray := prog_7_method_54_code
def yX5_gate : MethodName := ⟨RX5, "gate", "(II)I"⟩
abbrev cX5_wireOf : ByteArray := prog_7_method_55_code
def yX5_wireOf : MethodName := ⟨RX5, "wireOf", "(II)I"⟩
abbrev cX5_wire : ByteArray := prog_7_method_56_code
def yX5_wire : MethodName := ⟨RX5, "wire", "(II)I"⟩
abbrev cX5_isBegun : ByteArray := prog_7_method_57_code
def yX5_isBegun : MethodName := ⟨RX5, "isBegun", "()Z"⟩
abbrev cX5_isPut : ByteArray := prog_7_method_58_code
def yX5_isPut : MethodName := ⟨RX5, "isPut", "(III)Z"⟩
abbrev cX5_isChosen : ByteArray := prog_7_method_59_code
def yX5_isChosen : MethodName := ⟨RX5, "isChosen", "(II)Z"⟩
abbrev cX5_found : ByteArray := prog_7_method_60_code
def yX5_found : MethodName := ⟨RX5, "found", "()V"⟩
abbrev cX5_findMatches : ByteArray := prog_7_method_61_code
def yX5_findMatches : MethodName := ⟨RX5, "findMatches", "()V"⟩
abbrev cX5_waysOf : ByteArray := prog_7_method_62_code
def yX5_waysOf : MethodName := ⟨RX5, "waysOf", "()I"⟩
abbrev cX5_ways : ByteArray := prog_7_method_63_code
def yX5_ways : MethodName := ⟨RX5, "ways", "()I"⟩
abbrev cX5_isDevice : ByteArray := prog_7_method_64_code
def yX5_isDevice : MethodName := ⟨RX5, "isDevice", "(I)Z"⟩
abbrev cX5_matched : ByteArray := prog_7_method_65_code
def yX5_matched : MethodName := ⟨RX5, "matched", "(I)I"⟩
abbrev cX5_net : ByteArray := prog_7_method_66_code
def yX5_net : MethodName := ⟨RX5, "net", "(I)I"⟩
abbrev cX5_device : ByteArray := prog_7_method_67_code
def yX5_device : MethodName := ⟨RX5, "device", "(II)I"⟩
abbrev cX5_pin : ByteArray := prog_7_method_68_code
def yX5_pin : MethodName := ⟨RX5, "pin", "(II)I"⟩
abbrev cX5_hangs : ByteArray := prog_7_method_69_code
def yX5_hangs : MethodName := ⟨RX5, "hangs", "(I)I"⟩
abbrev cX5_type : ByteArray := prog_7_method_70_code
def yX5_type : MethodName := ⟨RX5, "type", "(I)I"⟩
abbrev cX5_clear : ByteArray := prog_7_method_71_code
def yX5_clear : MethodName := ⟨RX5, "clear", "()I"⟩
abbrev cX5_here : ByteArray := prog_7_method_72_code
def yX5_here : MethodName := ⟨RX5, "here", "()I"⟩
abbrev cX5_must : ByteArray := prog_7_method_73_code
def yX5_must : MethodName := ⟨RX5, "must", "(Z)V"⟩
abbrev cX5_numbersOf : ByteArray := prog_7_method_74_code
def yX5_numbersOf : MethodName := ⟨RX5, "numbersOf", "(I)I"⟩
abbrev cX5_readOrder : ByteArray := prog_7_method_75_code
def yX5_readOrder : MethodName := ⟨RX5, "readOrder", "()V"⟩
abbrev cX5_doOrder : ByteArray := prog_7_method_76_code
def yX5_doOrder : MethodName := ⟨RX5, "doOrder", "(I)I"⟩
abbrev cX5_does : ByteArray := prog_7_method_77_code
def yX5_does : MethodName := ⟨RX5, "does", "()I"⟩
abbrev cX5_toldOf : ByteArray := prog_7_method_78_code
def yX5_toldOf : MethodName := ⟨RX5, "toldOf", "(I)I"⟩
abbrev cX5_told : ByteArray := prog_7_method_79_code
def yX5_told : MethodName := ⟨RX5, "told", "(I)I"⟩
abbrev cX5_mix : ByteArray := prog_7_method_80_code
def yX5_mix : MethodName := ⟨RX5, "mix", "(J)V"⟩
abbrev cX5_digest : ByteArray := prog_7_method_81_code
def yX5_digest : MethodName := ⟨RX5, "digest", "()J"⟩
def RJ6 : String := "java/lang/Integer"
abbrev cJ6_numberOfTrailingZeros_0f7a4 : ByteArray := prog_8_method_48_code
def yJ6_numberOfTrailingZeros_0f7a4 : MethodName := ⟨RJ6, "numberOfTrailingZeros", "(I)I"⟩
def RJ13 : String := "java/lang/Long"
abbrev cJ13_numberOfTrailingZeros_95d88 : ByteArray := prog_9_method_49_code
def yJ13_numberOfTrailingZeros_95d88 : MethodName := ⟨RJ13, "numberOfTrailingZeros", "(J)I"⟩
abbrev cJ13_bitCount_95d88 : ByteArray := prog_9_method_50_code
def yJ13_bitCount_95d88 : MethodName := ⟨RJ13, "bitCount", "(J)I"⟩
def RJ9 : String := "java/lang/Math"
abbrev cJ9_max_7cf53 : ByteArray := prog_10_method_65_code
def yJ9_max_7cf53 : MethodName := ⟨RJ9, "max", "(II)I"⟩
abbrev cJ9_min_7cf53 : ByteArray := prog_10_method_69_code
def yJ9_min_7cf53 : MethodName := ⟨RJ9, "min", "(II)I"⟩
def RJ10 : String := "java/lang/System"
def RJ7 : String := "java/util/Arrays"
abbrev cJ7_fill_53178 : ByteArray := prog_13_method_103_code
def yJ7_fill_53178 : MethodName := ⟨RJ7, "fill", "([II)V"⟩
def RL : String := "DrawnGatesLaw"
abbrev cL_law : ByteArray := code
def yL_law : MethodName := ⟨RL, "law", "([I)Z"⟩
end
section
/-! the words of the tables are all good; the fields' words -/
/-- the words that a call may hand on -/
def zTb : List Cond := lw_tbl.filter goodWord
theorem zk_in {w : Cond} (i : Nat) (h : lw_tbl[i]? = some w) (g : goodWord w = true) : w ∈ zTb := List.mem_filter.mpr ⟨List.mem_of_getElem? h, g⟩
theorem zk_gi {y : MethodName} {cc : ByteArray} {nL : Nat} {ret : Option FieldType} (h : Cond.code y cc nL ret ∈ zTb) : GoodIn zTb (Cond.code y cc nL ret :: zTb) := by
  intro w hw
  have hm : w ∈ zTb := by
    rcases List.mem_cons.mp hw with h' | h'
    · rw [h']; exact h
    · exact h'
  exact ⟨hm, good_of_word (List.mem_filter.mp hm).2⟩
set_option maxRecDepth 100000 in
theorem zk_w0 : ∀ w ∈ u_ws RX0 TX0 16, w ∈ zTb := by decide +kernel
set_option maxRecDepth 100000 in
theorem zk_w1 : ∀ w ∈ u_ws RX1 TX1 10, w ∈ zTb := by decide +kernel
set_option maxRecDepth 100000 in
theorem zk_w2 : ∀ w ∈ u_ws RX2 TX2 5, w ∈ zTb := by decide +kernel
set_option maxRecDepth 100000 in
theorem zk_w3 : ∀ w ∈ u_ws RX3 TX3 3, w ∈ zTb := by decide +kernel
set_option maxRecDepth 100000 in
theorem zk_w4 : ∀ w ∈ u_ws RX4 TX4 9, w ∈ zTb := by decide +kernel
set_option maxRecDepth 100000 in
theorem zk_w5 : ∀ w ∈ u_ws RX5 TX5 26, w ∈ zTb := by decide +kernel
/-! the state of an object: its int arrays by place, its long arrays by place, its int fields by slot, its long field -/
abbrev zOS : Type := (Nat → Nat → Int32) × (Nat → Nat → Int64) × (Nat → Int32) × Int64
/-- a component: the number of its class, its addresses (0 the object, then its arrays; others that it holds from 50 on), its state -/
abbrev zCm : Type := Nat × (Nat → Nat) × zOS
def zI (σ : zOS) (k : Nat) : Nat → Int32 := σ.1 k
def zL (σ : zOS) (k : Nat) : Nat → Int64 := σ.2.1 k
def zF (σ : zOS) (f : Nat) : Int32 := σ.2.2.1 f
def zH (σ : zOS) : Int64 := σ.2.2.2
def zsI (σ : zOS) (k : Nat) (a : Nat → Int32) : zOS := (va_up σ.1 k a, σ.2.1, σ.2.2.1, σ.2.2.2)
def zsL (σ : zOS) (k : Nat) (a : Nat → Int64) : zOS := (σ.1, va_up σ.2.1 k a, σ.2.2.1, σ.2.2.2)
def zsF (σ : zOS) (f : Nat) (v : Int32) : zOS := (σ.1, σ.2.1, va_up σ.2.2.1 f v, σ.2.2.2)
def zsH (σ : zOS) (v : Int64) : zOS := (σ.1, σ.2.1, σ.2.2.1, v)
/-! the classes -/
abbrev zcl : List vw_C := [(RX0, TX0, 16), (RX1, TX1, 10), (RX2, TX2, 5), (RX3, TX3, 3), (RX4, TX4, 9), (RX5, TX5, 26)]
def zRn (c : Nat) : String := match c with | 0 => RX0 | 1 => RX1 | 2 => RX2 | 3 => RX3 | 4 => RX4 | _ => RX5
def zTn (c : Nat) : u_T := match c with | 0 => TX0 | 1 => TX1 | 2 => TX2 | 3 => TX3 | 4 => TX4 | _ => TX5
def zTy (c : Nat) : Nat → FieldType := match c with | 0 => tyX0 | 1 => tyX1 | 2 => tyX2 | 3 => tyX3 | 4 => tyX4 | _ => tyX5
def znF (c : Nat) : Nat := match c with | 0 => 16 | 1 => 10 | 2 => 5 | 3 => 3 | 4 => 9 | _ => 26
def znA (c : Nat) : Nat := match c with | 0 => 15 | 1 => 18 | 2 => 3 | 3 => 2 | 4 => 2 | _ => 14
/-- what a field holds: 0 an int of the state, 1 the long, k + 2 the reference to address k -/
def zfk (c f : Nat) : Nat := match c with
  | 0 => if f < 12 then f + 3 else 0
  | 1 => match f with | 0 => 52 | 1 => 53 | 2 => 3 | 3 => 4 | 4 => 5 | 6 => 6 | 7 => 7 | _ => 0
  | 2 => if f < 3 then f + 3 else 0
  | 3 => if f < 2 then f + 3 else 0
  | 4 => match f with | 0 => 52 | 1 => 53 | 2 => 3 | 3 => 54 | 4 => 55 | 5 => 56 | 6 => 4 | _ => 0
  | _ => match f with | 0 => 3 | 1 => 4 | 2 => 5 | 4 => 6 | 6 => 7 | 9 => 8 | 11 => 9 | 13 => 10 | 15 => 11 | 16 => 12 | 17 => 13 | 18 => 14 | 23 => 15 | 24 => 16 | 25 => 1 | _ => 0
/-- an array's kind: 0 int, 1 long, 2 byte, 3 int[], 4 long[], 5 Plan -/
def zak (c k : Nat) : Nat := match c with
  | 0 => if k = 1 ∨ k = 2 ∨ k = 8 ∨ 13 ≤ k then 1 else if k = 6 then 4 else 0
  | 1 => if k = 3 then 3 else 0
  | 2 => if k = 1 then 1 else 0
  | 3 => if k = 1 then 2 else 0
  | 4 => if k = 1 then 5 else 0
  | _ => 0
def zln (c k : Nat) : Nat := match c with
  | 0 => if k = 1 then 4 else if k = 6 then 3 else if 8 ≤ k ∧ k ≤ 12 then 32 else 96
  | 1 => if k = 3 then 13 else if k = 1 ∨ k = 2 ∨ k = 4 then 6 else 10
  | 2 => if k = 1 then 4 else 18
  | 3 => if k = 1 then 150 else 5
  | 4 => if k = 1 then 5 else 3
  | _ => match k with | 1 => 46 | 2 => 46 | 3 => 230 | 4 => 3 | 5 => 192 | 6 => 64 | 7 => 192 | 8 => 192 | 9 => 16 | 10 => 7 | 11 => 70 | 12 => 150 | 13 => 80 | _ => 400
def zbs (c : Nat) : Nat := match c with | 0 => 13 | 1 => 6 | _ => 60
def zAr (c k kd n : Nat) : Prop := (0 < k ∧ k ≤ znA c) ∧ zak c k = kd ∧ zln c k = n
def zfv (c : Nat) (q : Nat → Nat) (σ : zOS) (f : Nat) : Value := match zfk c f with
  | 0 => .int (zF σ f)
  | 1 => .long (zH σ)
  | k + 2 => .ref (q k)
def zty (kA : Nat → ClassId) : List (ClassId × FieldType) := [(kA 0, .int), (kA 1, .long), (kA 2, .byte), (kA 3, .array .int), (kA 4, .array .long), (kA 5, .object RX2)]
def zce (kA : Nat → ClassId) (c : Nat) (q : Nat → Nat) (σ : zOS) (k : Nat) : va_E :=
  if k = 0 then .inr (c, (List.range (znF c)).map (zfv c q σ))
  else if zak c k = 1 then .inl (kA 1, zln c k, .inr (.inl (zL σ k)))
  else if zak c k < 3 then .inl (kA (zak c k), zln c k, .inl (zI σ k))
  else .inl (kA (zak c k), zln c k, .inr (.inr (.inr (.inr (fun i => if i < zln c k then some (q (zbs c + i)) else none)))))
def zco (kA : Nat → ClassId) (x : zCm) : va_W := (List.range (znA x.1 + 1)).map fun k => (x.2.1 k, zce kA x.1 x.2.1 x.2.2 k)
def zgw (kA : Nat → ClassId) (cs : List zCm) : va_W := cs.flatMap (zco kA)
theorem zcl_at {c : Nat} (h : c < 6) : zcl[c]? = some (zRn c, zTn c, znF c) := by
  match c, h with
  | 0, _ => rfl
  | 1, _ => rfl
  | 2, _ => rfl
  | 3, _ => rfl
  | 4, _ => rfl
  | 5, _ => rfl
theorem zk_w {c : Nat} (h : c < 6) : ∀ w ∈ u_ws (zRn c) (zTn c) (znF c), w ∈ zTb := by
  match c, h with
  | 0, _ => exact zk_w0
  | 1, _ => exact zk_w1
  | 2, _ => exact zk_w2
  | 3, _ => exact zk_w3
  | 4, _ => exact zk_w4
  | 5, _ => exact zk_w5
theorem zk_ty {c : Nat} (h : c < 6) : ∀ k, k < znF c → parseFieldDescriptor (zTn c k).2.2.1 = some (zTy c k) := by
  match c, h with
  | 0, _ => exact tyX0_ok
  | 1, _ => exact tyX1_ok
  | 2, _ => exact tyX2_ok
  | 3, _ => exact tyX3_ok
  | 4, _ => exact tyX4_ok
  | 5, _ => exact tyX5_ok
theorem zk_nm {c : Nat} (h : c < 6) : ∀ a, a < znF c → ∀ b, b < znF c → a ≠ b → (zTn c a).2.1 ≠ (zTn c b).2.1 := by
  match c, h with
  | 0, _ => exact nmX0
  | 1, _ => exact nmX1
  | 2, _ => exact nmX2
  | 3, _ => exact nmX3
  | 4, _ => exact nmX4
  | 5, _ => exact nmX5
theorem zset {α : Type} {f f' : Nat → α} {n k : Nat} (hk : k < n) (h : ∀ j, j < n → j ≠ k → f' j = f j) : ((List.range n).map f).set k (f' k) = (List.range n).map f' := by
  apply List.ext_getElem?
  intro j
  by_cases hj : j < n
  · by_cases e : j = k
    · subst e; simp [hj]
    · rw [List.getElem?_set_ne (Ne.symm e)]; simp [hj, h j hj e]
  · rw [List.getElem?_eq_none (by simp; omega), List.getElem?_eq_none (by simp; omega)]
theorem zco_at {kA : Nat → ClassId} {c : Nat} {q : Nat → Nat} {σ : zOS} {k : Nat} (hk : k ≤ znA c) : (zco kA (c, q, σ))[k]? = some (q k, zce kA c q σ k) := by
  unfold zco
  rw [List.getElem?_map, List.getElem?_range (by show k < znA c + 1; omega)]
  rfl
theorem zco_len {kA : Nat → ClassId} {x : zCm} : (zco kA x).length = znA x.1 + 1 := by simp [zco]
theorem zgw_at {kA : Nat → ClassId} : ∀ {cs : List zCm} {i c : Nat} {q : Nat → Nat} {σ : zOS}, cs[i]? = some (c, q, σ) → ∀ {k : Nat}, k ≤ znA c →
    ∃ pos, (zgw kA cs)[pos]? = some (q k, zce kA c q σ k) ∧ ∀ (q' : Nat → Nat) (σ' : zOS), (∀ j, j ≤ znA c → q' j = q j) → (∀ j, j ≤ znA c → j ≠ k → zce kA c q' σ' j = zce kA c q σ j) →
      (zgw kA cs).set pos (q k, zce kA c q' σ' k) = zgw kA (cs.set i (c, q', σ'))
  | [], i, c, q, σ, hc, k, hk => by simp at hc
  | x :: cs, 0, c, q, σ, hc, k, hk => by
    have hx : x = (c, q, σ) := by simpa using hc
    subst hx
    refine ⟨k, ?_, ?_⟩
    · show (zco kA (c, q, σ) ++ zgw kA cs)[k]? = _
      rw [List.getElem?_append_left (by rw [zco_len]; show k < znA c + 1; omega)]
      exact zco_at hk
    · intro q' σ' hq he
      show (zco kA (c, q, σ) ++ zgw kA cs).set k _ = zco kA (c, q', σ') ++ zgw kA cs
      rw [List.set_append_left _ _ (by rw [zco_len]; show k < znA c + 1; omega)]
      congr 1
      have h := zset (f := fun k => (q k, zce kA c q σ k)) (f' := fun k => (q' k, zce kA c q' σ' k)) (n := znA c + 1) (k := k) (by omega) (fun j hj hjk => by
        show (q' j, _) = (q j, _)
        rw [hq j (by omega), he j (by omega) hjk])
      rw [show (q k, zce kA c q' σ' k) = (q' k, zce kA c q' σ' k) by rw [hq k hk]]
      exact h
  | x :: cs, i + 1, c, q, σ, hc, k, hk => by
    obtain ⟨pos, h1, h2⟩ := zgw_at (cs := cs) (i := i) (by simpa using hc) hk (kA := kA)
    refine ⟨(zco kA x).length + pos, ?_, ?_⟩
    · show (zco kA x ++ zgw kA cs)[_]? = _
      rw [List.getElem?_append_right (by omega), Nat.add_sub_cancel_left]
      exact h1
    · intro q' σ' hq he
      show (zco kA x ++ zgw kA cs).set _ _ = zco kA x ++ zgw kA (cs.set i (c, q', σ'))
      rw [List.set_append_right _ _ (by omega), Nat.add_sub_cancel_left, h2 q' σ' hq he]
/-! what changes of a component's cells -/
theorem zce_0 {kA : Nat → ClassId} {c : Nat} {q : Nat → Nat} {σ : zOS} : zce kA c q σ 0 = .inr (c, (List.range (znF c)).map (zfv c q σ)) := rfl
theorem zce_i {kA : Nat → ClassId} {c : Nat} {q : Nat → Nat} {σ : zOS} {k n : Nat} (h : zAr c k 0 n) : zce kA c q σ k = .inl (kA 0, n, .inl (zI σ k)) := by
  obtain ⟨⟨h1, h2⟩, h3, h4⟩ := h
  unfold zce
  rw [if_neg (by omega), h3, if_neg (by decide), if_pos (by decide), h4]
theorem zce_b {kA : Nat → ClassId} {c : Nat} {q : Nat → Nat} {σ : zOS} {k n : Nat} (h : zAr c k 2 n) : zce kA c q σ k = .inl (kA 2, n, .inl (zI σ k)) := by
  obtain ⟨⟨h1, h2⟩, h3, h4⟩ := h
  unfold zce
  rw [if_neg (by omega), h3, if_neg (by decide), if_pos (by decide), h4]
theorem zce_l {kA : Nat → ClassId} {c : Nat} {q : Nat → Nat} {σ : zOS} {k n : Nat} (h : zAr c k 1 n) : zce kA c q σ k = .inl (kA 1, n, .inr (.inl (zL σ k))) := by
  obtain ⟨⟨h1, h2⟩, h3, h4⟩ := h
  unfold zce
  rw [if_neg (by omega), h3, if_pos rfl, h4]
theorem zce_r {kA : Nat → ClassId} {c : Nat} {q : Nat → Nat} {σ : zOS} {k kd n : Nat} (h : zAr c k kd n) (hd : 3 ≤ kd) : zce kA c q σ k = .inl (kA kd, n, .inr (.inr (.inr (.inr (fun i => if i < n then some (q (zbs c + i)) else none))))) := by
  obtain ⟨⟨h1, h2⟩, h3, h4⟩ := h
  unfold zce
  rw [if_neg (by omega), h3, if_neg (by omega), if_neg (by omega), h4]
theorem zfv_sI {c : Nat} {q : Nat → Nat} {σ : zOS} {k : Nat} {a : Nat → Int32} : zfv c q (zsI σ k a) = zfv c q σ := rfl
theorem zfv_sL {c : Nat} {q : Nat → Nat} {σ : zOS} {k : Nat} {a : Nat → Int64} : zfv c q (zsL σ k a) = zfv c q σ := rfl
theorem zI_s {σ : zOS} {k j : Nat} {a : Nat → Int32} (h : j ≠ k) : zI (zsI σ k a) j = zI σ j := if_neg h
theorem zI_e {σ : zOS} {k : Nat} {a : Nat → Int32} : zI (zsI σ k a) k = a := if_pos rfl
theorem zL_s {σ : zOS} {k j : Nat} {a : Nat → Int64} (h : j ≠ k) : zL (zsL σ k a) j = zL σ j := if_neg h
theorem zL_e {σ : zOS} {k : Nat} {a : Nat → Int64} : zL (zsL σ k a) k = a := if_pos rfl
theorem zF_s {σ : zOS} {k j : Nat} {a : Int32} (h : j ≠ k) : zF (zsF σ k a) j = zF σ j := if_neg h
theorem zF_e {σ : zOS} {k : Nat} {a : Int32} : zF (zsF σ k a) k = a := if_pos rfl
theorem zce_sI {kA : Nat → ClassId} {c : Nat} {q : Nat → Nat} {σ : zOS} {k j : Nat} {a : Nat → Int32} (h : j ≠ k) : zce kA c q (zsI σ k a) j = zce kA c q σ j := by
  unfold zce
  rw [zfv_sI, zI_s h]
  rfl
theorem zce_sL {kA : Nat → ClassId} {c : Nat} {q : Nat → Nat} {σ : zOS} {k j : Nat} {a : Nat → Int64} (h : j ≠ k) : zce kA c q (zsL σ k a) j = zce kA c q σ j := by
  unfold zce
  rw [zfv_sL, zL_s h]
  rfl
theorem zce_sF {kA : Nat → ClassId} {c : Nat} {q : Nat → Nat} {σ : zOS} {k j : Nat} {a : Int32} (h : j ≠ 0) : zce kA c q (zsF σ k a) j = zce kA c q σ j := by
  unfold zce
  rw [if_neg h, if_neg h]
  rfl
theorem zce_sH {kA : Nat → ClassId} {c : Nat} {q : Nat → Nat} {σ : zOS} {j : Nat} {a : Int64} (h : j ≠ 0) : zce kA c q (zsH σ a) j = zce kA c q σ j := by
  unfold zce
  rw [if_neg h, if_neg h]
  rfl
theorem zfl_F {c f : Nat} {q : Nat → Nat} {σ : zOS} {v : Int32} (hf : f < znF c) (hk : zfk c f = 0) : ((List.range (znF c)).map (zfv c q σ)).set f (.int v) = (List.range (znF c)).map (zfv c q (zsF σ f v)) := by
  have h := zset (f := zfv c q σ) (f' := zfv c q (zsF σ f v)) hf (fun j hj hjk => by
    unfold zfv
    split
    · rw [zF_s hjk]
    · rfl
    · rfl)
  rw [← h]
  congr 1
  unfold zfv
  rw [hk]
  show Value.int v = .int (zF (zsF σ f v) f)
  rw [zF_e]
theorem zfl_H {c f : Nat} {q : Nat → Nat} {σ : zOS} {v : Int64} (hf : f < znF c) (hk : zfk c f = 1) (hu : ∀ j, j < znF c → j ≠ f → zfk c j ≠ 1) : ((List.range (znF c)).map (zfv c q σ)).set f (.long v) = (List.range (znF c)).map (zfv c q (zsH σ v)) := by
  have h := zset (f := zfv c q σ) (f' := zfv c q (zsH σ v)) hf (fun j hj hjk => by
    unfold zfv
    split
    · rfl
    · exact absurd ‹_› (hu j hj hjk)
    · rfl)
  rw [← h]
  congr 1
  unfold zfv
  rw [hk]
  rfl
end
section
/-! the machine at a frame, over a world of components: everything else that is fixed in a method stands in X -/
abbrev zCx : Type := Program × Launch × Env × Room × State × MethodId × Array Value × List Frame × Method × Code × va_G × (Nat → ClassId) × (Nat → Prop) × (State → Prop)
def zN (X : zCx) (nL pc : Nat) (lv : List (Nat × Value)) (st : List Value) (cs : List zCm) : Prop := match X with
  | (p, l, e, R, s, m, args, below, meth, c, D, kA, A, Q) => ∀ (H : Heap) (locs : List Loc) (ls : Array Slot), va_P D zcl (zgw kA cs) H → va_D A (zgw kA cs) → va_S A s.heap H locs → lv_has ls nL lv → W p l e R s m args below meth c H locs 0 0 Q (F0 m pc ls st)
/-- the links to private methods of the nest's host -/
def zNw (U : State) : Prop := va_Nw (.methodLinkNest RX2 35 yX4_isWithin RX4) U ∧ va_Nw (.methodLinkNest RX2 63 yX4_isCell RX4) U ∧ va_Nw (.methodLinkNest RX2 59 yX4_cellBit RX4) U ∧ va_Nw (.methodLinkNest RX0 131 yX4_isWithin RX4) U
theorem zNw.warm {s U : State} (hW : s.WarmedH U.vm) (h : zNw s) : zNw U := ⟨va_Nw.warmM hW h.1, va_Nw.warmM hW h.2.1, va_Nw.warmM hW h.2.2.1, va_Nw.warmM hW h.2.2.2⟩
theorem zNw.same {s U : State} (hv : s.vm = U.vm) (h : zNw s) : zNw U := ⟨va_Nw.same rfl hv h.1, va_Nw.same rfl hv h.2.1, va_Nw.same rfl hv h.2.2.1, va_Nw.same rfl hv h.2.2.2⟩
def zC (X : zCx) (own : String) (cc : ByteArray) (nL rf rl : Nat) : Prop := match X with
  | (p, l, e, R, s, m, args, below, meth, c, D, kA, A, Q) => p.tables.exec = Jvm.exec ∧ c.code = cc ∧ c.maxLocals = nL ∧ s.vm.findClass own = some m.cls ∧ (∀ w ∈ zTb, w.before args s = true) ∧ va_K D zcl (zty kA) s ∧ (∀ q, s.heap.size ≤ q → A q) ∧ meth.locks = false ∧ R = { frames := rf, cells := 0, slots := 0, locals := rl } ∧ zNw s
/-- 'the run from here is told by e': if e answers res, the machine comes to its end -/
def zJ {β : Type} (X : zCx) (nL : Nat) (res : β) (e : Option β) (pc : Nat) (lv : List (Nat × Value)) (st : List Value) (cs : List zCm) : Prop := e = some res → zN X nL pc lv st cs
/-- an index that is looked at -/
def zchk {β : Type} (j : Int32) (n : Nat) (e : Option β) : Option β := if j < 0 ∨ n ≤ j.toNatClampNeg then none else e
/-- a divisor that is looked at -/
def zdvk {β : Type} (y : Int32) (e : Option β) : Option β := if y = 0 then none else e
theorem zJ_eq {β : Type} {X : zCx} {nL : Nat} {res : β} {e e' : Option β} {pc : Nat} {lv : List (Nat × Value)} {st : List Value} {cs : List zCm} (h : e = e') (k : zJ X nL res e' pc lv st cs) : zJ X nL res e pc lv st cs := h ▸ k
theorem zJ_none {β : Type} {X : zCx} {nL : Nat} {res : β} {pc : Nat} {lv : List (Nat × Value)} {st : List Value} {cs : List zCm} : zJ X nL res none pc lv st cs := fun h => by cases h
section ZR
variable {β : Type} {X : zCx} {own : String} {cc : ByteArray} {nL rf rl : Nat} {res : β} {e e1 e2 : Option β} {pc : Nat} {lv lv' : List (Nat × Value)} {st : List Value} {cs : List zCm}
theorem z_iconst {n : Int} (v : Int32) (hv : Int32.ofInt n = v) (C : zC X own cc nL rf rl) (hd : decode cc pc = .ok (.iconst n, 1)) (k : zJ X nL res e (pc + 1) lv (.int v :: st) cs) : zJ X nL res e pc lv st cs := by
  obtain ⟨p, l, ee, R, s, m, args, below, meth, c, D, kA, A, Q⟩ := X
  obtain ⟨hx, hb, hml, hown, hts, hK, hA, hlk, hR⟩ := C
  intro he H locs ls h1 h2 h3 h4
  exact lv_iconst hx hb hd hv (k he H locs ls h1 h2 h3 h4)
theorem z_bipush {n : Int} (v : Int32) (hv : (Int8.ofInt n).toInt32 = v) (C : zC X own cc nL rf rl) (hd : decode cc pc = .ok (.bipush n, 2)) (k : zJ X nL res e (pc + 2) lv (.int v :: st) cs) : zJ X nL res e pc lv st cs := by
  obtain ⟨p, l, ee, R, s, m, args, below, meth, c, D, kA, A, Q⟩ := X
  obtain ⟨hx, hb, hml, hown, hts, hK, hA, hlk, hR⟩ := C
  intro he H locs ls h1 h2 h3 h4
  exact lv_bipush hx hb hd hv (k he H locs ls h1 h2 h3 h4)
theorem z_sipush {n : Int} (v : Int32) (hv : (Int16.ofInt n).toInt32 = v) (C : zC X own cc nL rf rl) (hd : decode cc pc = .ok (.sipush n, 3)) (k : zJ X nL res e (pc + 3) lv (.int v :: st) cs) : zJ X nL res e pc lv st cs := by
  obtain ⟨p, l, ee, R, s, m, args, below, meth, c, D, kA, A, Q⟩ := X
  obtain ⟨hx, hb, hml, hown, hts, hK, hA, hlk, hR⟩ := C
  intro he H locs ls h1 h2 h3 h4
  exact lv_sipush hx hb hd hv (k he H locs ls h1 h2 h3 h4)
theorem z_lconst {n : Fin 2} (v : Int64) (hv : Int64.ofNat (n : Nat) = v) (C : zC X own cc nL rf rl) (hd : decode cc pc = .ok (.lconst n, 1)) (k : zJ X nL res e (pc + 1) lv (.long v :: st) cs) : zJ X nL res e pc lv st cs := by
  obtain ⟨p, l, ee, R, s, m, args, below, meth, c, D, kA, A, Q⟩ := X
  obtain ⟨hx, hb, hml, hown, hts, hK, hA, hlk, hR⟩ := C
  intro he H locs ls h1 h2 h3 h4
  exact lv_lconst hx hb hd hv (k he H locs ls h1 h2 h3 h4)
theorem z_ldc {ix : Nat} (v : Int32) (hw : Cond.constant own ix v ∈ zTb) (C : zC X own cc nL rf rl) (hd : decode cc pc = .ok (.ldc ix, 2)) (k : zJ X nL res e (pc + 2) lv (.int v :: st) cs) : zJ X nL res e pc lv st cs := by
  obtain ⟨p, l, ee, R, s, m, args, below, meth, c, D, kA, A, Q⟩ := X
  obtain ⟨hx, hb, hml, hown, hts, hK, hA, hlk, hR⟩ := C
  intro he H locs ls h1 h2 h3 h4
  exact lv_ldc hx hb hown (hts _ hw) hd (k he H locs ls h1 h2 h3 h4)
theorem z_ldc_w {ix : Nat} (v : Int32) (hw : Cond.constant own ix v ∈ zTb) (C : zC X own cc nL rf rl) (hd : decode cc pc = .ok (.ldc_w ix, 3)) (k : zJ X nL res e (pc + 3) lv (.int v :: st) cs) : zJ X nL res e pc lv st cs := by
  obtain ⟨p, l, ee, R, s, m, args, below, meth, c, D, kA, A, Q⟩ := X
  obtain ⟨hx, hb, hml, hown, hts, hK, hA, hlk, hR⟩ := C
  intro he H locs ls h1 h2 h3 h4
  exact lv_ldcw hx hb hown (hts _ hw) hd (k he H locs ls h1 h2 h3 h4)
theorem z_ldc2_w {ix : Nat} (v : Int64) (hw : Cond.constantLong own ix v ∈ zTb) (C : zC X own cc nL rf rl) (hd : decode cc pc = .ok (.ldc2_w ix, 3)) (k : zJ X nL res e (pc + 3) lv (.long v :: st) cs) : zJ X nL res e pc lv st cs := by
  obtain ⟨p, l, ee, R, s, m, args, below, meth, c, D, kA, A, Q⟩ := X
  obtain ⟨hx, hb, hml, hown, hts, hK, hA, hlk, hR⟩ := C
  intro he H locs ls h1 h2 h3 h4
  exact lv_ldc2 hx hb hown (hts _ hw) hd (k he H locs ls h1 h2 h3 h4)
theorem z_iload_n {kf : Fin 4} {i : Nat} {x : Int32} (j : Nat) (hl : lv[j]? = some (i, .int x)) (hi : (kf : Nat) = i) (C : zC X own cc nL rf rl) (hd : decode cc pc = .ok (.iload_n kf, 1)) (k : zJ X nL res e (pc + 1) lv (.int x :: st) cs) : zJ X nL res e pc lv st cs := by
  obtain ⟨p, l, ee, R, s, m, args, below, meth, c, D, kA, A, Q⟩ := X
  obtain ⟨hx, hb, hml, hown, hts, hK, hA, hlk, hR⟩ := C
  intro he H locs ls h1 h2 h3 h4
  exact lv_iload_n hx hb hd hi (lv_at h4 j hl) (k he H locs ls h1 h2 h3 h4)
theorem z_iload {i : Nat} {x : Int32} (j : Nat) (hl : lv[j]? = some (i, .int x)) (C : zC X own cc nL rf rl) (hd : decode cc pc = .ok (.iload i, 2)) (k : zJ X nL res e (pc + 2) lv (.int x :: st) cs) : zJ X nL res e pc lv st cs := by
  obtain ⟨p, l, ee, R, s, m, args, below, meth, c, D, kA, A, Q⟩ := X
  obtain ⟨hx, hb, hml, hown, hts, hK, hA, hlk, hR⟩ := C
  intro he H locs ls h1 h2 h3 h4
  exact lv_iload hx hb hd (lv_at h4 j hl) (k he H locs ls h1 h2 h3 h4)
theorem z_lload_n {kf : Fin 4} {i : Nat} {x : Int64} (j : Nat) (hl : lv[j]? = some (i, .long x)) (hi : (kf : Nat) = i) (C : zC X own cc nL rf rl) (hd : decode cc pc = .ok (.lload_n kf, 1)) (k : zJ X nL res e (pc + 1) lv (.long x :: st) cs) : zJ X nL res e pc lv st cs := by
  obtain ⟨p, l, ee, R, s, m, args, below, meth, c, D, kA, A, Q⟩ := X
  obtain ⟨hx, hb, hml, hown, hts, hK, hA, hlk, hR⟩ := C
  intro he H locs ls h1 h2 h3 h4
  exact lv_lload_n hx hb hd hi (lv_at h4 j hl) (k he H locs ls h1 h2 h3 h4)
theorem z_lload {i : Nat} {x : Int64} (j : Nat) (hl : lv[j]? = some (i, .long x)) (C : zC X own cc nL rf rl) (hd : decode cc pc = .ok (.lload i, 2)) (k : zJ X nL res e (pc + 2) lv (.long x :: st) cs) : zJ X nL res e pc lv st cs := by
  obtain ⟨p, l, ee, R, s, m, args, below, meth, c, D, kA, A, Q⟩ := X
  obtain ⟨hx, hb, hml, hown, hts, hK, hA, hlk, hR⟩ := C
  intro he H locs ls h1 h2 h3 h4
  exact lv_lload hx hb hd (lv_at h4 j hl) (k he H locs ls h1 h2 h3 h4)
theorem z_aload_n {kf : Fin 4} {i : Nat} {x : Nat} (j : Nat) (hl : lv[j]? = some (i, .ref x)) (hi : (kf : Nat) = i) (C : zC X own cc nL rf rl) (hd : decode cc pc = .ok (.aload_n kf, 1)) (k : zJ X nL res e (pc + 1) lv (.ref x :: st) cs) : zJ X nL res e pc lv st cs := by
  obtain ⟨p, l, ee, R, s, m, args, below, meth, c, D, kA, A, Q⟩ := X
  obtain ⟨hx, hb, hml, hown, hts, hK, hA, hlk, hR⟩ := C
  intro he H locs ls h1 h2 h3 h4
  exact lv_aload_n hx hb hd hi (lv_at h4 j hl) (k he H locs ls h1 h2 h3 h4)
theorem z_aload {i : Nat} {x : Nat} (j : Nat) (hl : lv[j]? = some (i, .ref x)) (C : zC X own cc nL rf rl) (hd : decode cc pc = .ok (.aload i, 2)) (k : zJ X nL res e (pc + 2) lv (.ref x :: st) cs) : zJ X nL res e pc lv st cs := by
  obtain ⟨p, l, ee, R, s, m, args, below, meth, c, D, kA, A, Q⟩ := X
  obtain ⟨hx, hb, hml, hown, hts, hK, hA, hlk, hR⟩ := C
  intro he H locs ls h1 h2 h3 h4
  exact lv_aload hx hb hd (lv_at h4 j hl) (k he H locs ls h1 h2 h3 h4)
theorem z_istore_n {kf : Fin 4} {i : Nat} {x : Int32} (lv' : List (Nat × Value)) (ks : List Nat) (hn : i < nL) (hl : lv_pick ((i, Value.int x) :: lv.filter (fun q => !(q.1 == i) && !(q.1 + 1 == i && q.2.category == 2))) ks = lv') (hi : (kf : Nat) = i) (C : zC X own cc nL rf rl) (hd : decode cc pc = .ok (.istore_n kf, 1)) (k : zJ X nL res e (pc + 1) lv' st cs) : zJ X nL res e pc lv (.int x :: st) cs := by
  obtain ⟨p, l, ee, R, s, m, args, below, meth, c, D, kA, A, Q⟩ := X
  obtain ⟨hx, hb, hml, hown, hts, hK, hA, hlk, hR⟩ := C
  intro he H locs ls h1 h2 h3 h4
  exact lv_istore_n hx hb hd hi h4 hn rfl (fun ls' h5 => k he H locs ls' h1 h2 h3 (lv_sub h5 ks hl))
theorem z_istore {i : Nat} {x : Int32} (lv' : List (Nat × Value)) (ks : List Nat) (hn : i < nL) (hl : lv_pick ((i, Value.int x) :: lv.filter (fun q => !(q.1 == i) && !(q.1 + 1 == i && q.2.category == 2))) ks = lv') (C : zC X own cc nL rf rl) (hd : decode cc pc = .ok (.istore i, 2)) (k : zJ X nL res e (pc + 2) lv' st cs) : zJ X nL res e pc lv (.int x :: st) cs := by
  obtain ⟨p, l, ee, R, s, m, args, below, meth, c, D, kA, A, Q⟩ := X
  obtain ⟨hx, hb, hml, hown, hts, hK, hA, hlk, hR⟩ := C
  intro he H locs ls h1 h2 h3 h4
  exact lv_istore hx hb hd h4 hn rfl (fun ls' h5 => k he H locs ls' h1 h2 h3 (lv_sub h5 ks hl))
theorem z_lstore_n {kf : Fin 4} {i : Nat} {x : Int64} (lv' : List (Nat × Value)) (ks : List Nat) (hn : i + 1 < nL) (hl : lv_pick ((i, Value.long x) :: lv.filter (fun q => !(q.1 == i) && (!(q.1 == i + 1) && !(q.1 + 1 == i && q.2.category == 2)))) ks = lv') (hi : (kf : Nat) = i) (C : zC X own cc nL rf rl) (hd : decode cc pc = .ok (.lstore_n kf, 1)) (k : zJ X nL res e (pc + 1) lv' st cs) : zJ X nL res e pc lv (.long x :: st) cs := by
  obtain ⟨p, l, ee, R, s, m, args, below, meth, c, D, kA, A, Q⟩ := X
  obtain ⟨hx, hb, hml, hown, hts, hK, hA, hlk, hR⟩ := C
  intro he H locs ls h1 h2 h3 h4
  exact lv_lstore_n hx hb hd hi h4 hn rfl (fun ls' h5 => k he H locs ls' h1 h2 h3 (lv_sub h5 ks hl))
theorem z_lstore {i : Nat} {x : Int64} (lv' : List (Nat × Value)) (ks : List Nat) (hn : i + 1 < nL) (hl : lv_pick ((i, Value.long x) :: lv.filter (fun q => !(q.1 == i) && (!(q.1 == i + 1) && !(q.1 + 1 == i && q.2.category == 2)))) ks = lv') (C : zC X own cc nL rf rl) (hd : decode cc pc = .ok (.lstore i, 2)) (k : zJ X nL res e (pc + 2) lv' st cs) : zJ X nL res e pc lv (.long x :: st) cs := by
  obtain ⟨p, l, ee, R, s, m, args, below, meth, c, D, kA, A, Q⟩ := X
  obtain ⟨hx, hb, hml, hown, hts, hK, hA, hlk, hR⟩ := C
  intro he H locs ls h1 h2 h3 h4
  exact lv_lstore hx hb hd h4 hn rfl (fun ls' h5 => k he H locs ls' h1 h2 h3 (lv_sub h5 ks hl))
theorem z_astore_n {kf : Fin 4} {i : Nat} {x : Nat} (lv' : List (Nat × Value)) (ks : List Nat) (hn : i < nL) (hl : lv_pick ((i, Value.ref x) :: lv.filter (fun q => !(q.1 == i) && !(q.1 + 1 == i && q.2.category == 2))) ks = lv') (hi : (kf : Nat) = i) (C : zC X own cc nL rf rl) (hd : decode cc pc = .ok (.astore_n kf, 1)) (k : zJ X nL res e (pc + 1) lv' st cs) : zJ X nL res e pc lv (.ref x :: st) cs := by
  obtain ⟨p, l, ee, R, s, m, args, below, meth, c, D, kA, A, Q⟩ := X
  obtain ⟨hx, hb, hml, hown, hts, hK, hA, hlk, hR⟩ := C
  intro he H locs ls h1 h2 h3 h4
  exact lv_astore_n hx hb hd hi h4 hn rfl (fun ls' h5 => k he H locs ls' h1 h2 h3 (lv_sub h5 ks hl))
theorem z_astore {i : Nat} {x : Nat} (lv' : List (Nat × Value)) (ks : List Nat) (hn : i < nL) (hl : lv_pick ((i, Value.ref x) :: lv.filter (fun q => !(q.1 == i) && !(q.1 + 1 == i && q.2.category == 2))) ks = lv') (C : zC X own cc nL rf rl) (hd : decode cc pc = .ok (.astore i, 2)) (k : zJ X nL res e (pc + 2) lv' st cs) : zJ X nL res e pc lv (.ref x :: st) cs := by
  obtain ⟨p, l, ee, R, s, m, args, below, meth, c, D, kA, A, Q⟩ := X
  obtain ⟨hx, hb, hml, hown, hts, hK, hA, hlk, hR⟩ := C
  intro he H locs ls h1 h2 h3 h4
  exact lv_astore hx hb hd h4 hn rfl (fun ls' h5 => k he H locs ls' h1 h2 h3 (lv_sub h5 ks hl))
theorem z_iinc {i : Nat} {n : Int} {x : Int32} (v : Int32) (j : Nat) (hj : lv[j]? = some (i, .int x)) (hv : x + Int32.ofInt n = v) (lv' : List (Nat × Value)) (ks : List Nat) (hn : i < nL) (hl : lv_pick ((i, Value.int v) :: lv.filter (fun q => !(q.1 == i) && !(q.1 + 1 == i && q.2.category == 2))) ks = lv') (C : zC X own cc nL rf rl) (hd : decode cc pc = .ok (.iinc i n, 3)) (k : zJ X nL res e (pc + 3) lv' st cs) : zJ X nL res e pc lv st cs := by
  obtain ⟨p, l, ee, R, s, m, args, below, meth, c, D, kA, A, Q⟩ := X
  obtain ⟨hx, hb, hml, hown, hts, hK, hA, hlk, hR⟩ := C
  intro he H locs ls h1 h2 h3 h4
  exact lv_iinc hx hb hd h4 hj hv hn rfl (fun ls' h5 => k he H locs ls' h1 h2 h3 (lv_sub h5 ks hl))
theorem z_iadd {x y : Int32} (C : zC X own cc nL rf rl) (hd : decode cc pc = .ok (.iadd, 1)) (k : zJ X nL res e (pc + 1) lv (.int (x + y) :: st) cs) : zJ X nL res e pc lv (.int y :: .int x :: st) cs := by
  obtain ⟨p, l, ee, R, s, m, args, below, meth, c, D, kA, A, Q⟩ := X
  obtain ⟨hx, hb, hml, hown, hts, hK, hA, hlk, hR⟩ := C
  intro he H locs ls h1 h2 h3 h4
  exact lv_iadd hx hb hd (k he H locs ls h1 h2 h3 h4)
theorem z_isub {x y : Int32} (C : zC X own cc nL rf rl) (hd : decode cc pc = .ok (.isub, 1)) (k : zJ X nL res e (pc + 1) lv (.int (x - y) :: st) cs) : zJ X nL res e pc lv (.int y :: .int x :: st) cs := by
  obtain ⟨p, l, ee, R, s, m, args, below, meth, c, D, kA, A, Q⟩ := X
  obtain ⟨hx, hb, hml, hown, hts, hK, hA, hlk, hR⟩ := C
  intro he H locs ls h1 h2 h3 h4
  exact lv_isub hx hb hd (k he H locs ls h1 h2 h3 h4)
theorem z_imul {x y : Int32} (C : zC X own cc nL rf rl) (hd : decode cc pc = .ok (.imul, 1)) (k : zJ X nL res e (pc + 1) lv (.int (x * y) :: st) cs) : zJ X nL res e pc lv (.int y :: .int x :: st) cs := by
  obtain ⟨p, l, ee, R, s, m, args, below, meth, c, D, kA, A, Q⟩ := X
  obtain ⟨hx, hb, hml, hown, hts, hK, hA, hlk, hR⟩ := C
  intro he H locs ls h1 h2 h3 h4
  exact lv_imul hx hb hd (k he H locs ls h1 h2 h3 h4)
theorem z_iand {x y : Int32} (C : zC X own cc nL rf rl) (hd : decode cc pc = .ok (.iand, 1)) (k : zJ X nL res e (pc + 1) lv (.int (x &&& y) :: st) cs) : zJ X nL res e pc lv (.int y :: .int x :: st) cs := by
  obtain ⟨p, l, ee, R, s, m, args, below, meth, c, D, kA, A, Q⟩ := X
  obtain ⟨hx, hb, hml, hown, hts, hK, hA, hlk, hR⟩ := C
  intro he H locs ls h1 h2 h3 h4
  exact lv_iand hx hb hd (k he H locs ls h1 h2 h3 h4)
theorem z_ior {x y : Int32} (C : zC X own cc nL rf rl) (hd : decode cc pc = .ok (.ior, 1)) (k : zJ X nL res e (pc + 1) lv (.int (x ||| y) :: st) cs) : zJ X nL res e pc lv (.int y :: .int x :: st) cs := by
  obtain ⟨p, l, ee, R, s, m, args, below, meth, c, D, kA, A, Q⟩ := X
  obtain ⟨hx, hb, hml, hown, hts, hK, hA, hlk, hR⟩ := C
  intro he H locs ls h1 h2 h3 h4
  exact lv_ior hx hb hd (k he H locs ls h1 h2 h3 h4)
theorem z_ixor {x y : Int32} (C : zC X own cc nL rf rl) (hd : decode cc pc = .ok (.ixor, 1)) (k : zJ X nL res e (pc + 1) lv (.int (x ^^^ y) :: st) cs) : zJ X nL res e pc lv (.int y :: .int x :: st) cs := by
  obtain ⟨p, l, ee, R, s, m, args, below, meth, c, D, kA, A, Q⟩ := X
  obtain ⟨hx, hb, hml, hown, hts, hK, hA, hlk, hR⟩ := C
  intro he H locs ls h1 h2 h3 h4
  exact lv_ixor hx hb hd (k he H locs ls h1 h2 h3 h4)
theorem z_ishl {x y : Int32} (C : zC X own cc nL rf rl) (hd : decode cc pc = .ok (.ishl, 1)) (k : zJ X nL res e (pc + 1) lv (.int (x <<< (y &&& 31)) :: st) cs) : zJ X nL res e pc lv (.int y :: .int x :: st) cs := by
  obtain ⟨p, l, ee, R, s, m, args, below, meth, c, D, kA, A, Q⟩ := X
  obtain ⟨hx, hb, hml, hown, hts, hK, hA, hlk, hR⟩ := C
  intro he H locs ls h1 h2 h3 h4
  exact lv_ishl hx hb hd (k he H locs ls h1 h2 h3 h4)
theorem z_ishr {x y : Int32} (C : zC X own cc nL rf rl) (hd : decode cc pc = .ok (.ishr, 1)) (k : zJ X nL res e (pc + 1) lv (.int (x >>> (y &&& 31)) :: st) cs) : zJ X nL res e pc lv (.int y :: .int x :: st) cs := by
  obtain ⟨p, l, ee, R, s, m, args, below, meth, c, D, kA, A, Q⟩ := X
  obtain ⟨hx, hb, hml, hown, hts, hK, hA, hlk, hR⟩ := C
  intro he H locs ls h1 h2 h3 h4
  exact lv_ishr hx hb hd (k he H locs ls h1 h2 h3 h4)
theorem z_iushr {x y : Int32} (C : zC X own cc nL rf rl) (hd : decode cc pc = .ok (.iushr, 1)) (k : zJ X nL res e (pc + 1) lv (.int ((x.toUInt32 >>> (y.toUInt32 &&& Int32.toUInt32 31)).toInt32) :: st) cs) : zJ X nL res e pc lv (.int y :: .int x :: st) cs := by
  obtain ⟨p, l, ee, R, s, m, args, below, meth, c, D, kA, A, Q⟩ := X
  obtain ⟨hx, hb, hml, hown, hts, hK, hA, hlk, hR⟩ := C
  intro he H locs ls h1 h2 h3 h4
  exact lv_iushr hx hb hd rfl (k he H locs ls h1 h2 h3 h4)
theorem z_ineg {x : Int32} (C : zC X own cc nL rf rl) (hd : decode cc pc = .ok (.ineg, 1)) (k : zJ X nL res e (pc + 1) lv (.int (-x) :: st) cs) : zJ X nL res e pc lv (.int x :: st) cs := by
  obtain ⟨p, l, ee, R, s, m, args, below, meth, c, D, kA, A, Q⟩ := X
  obtain ⟨hx, hb, hml, hown, hts, hK, hA, hlk, hR⟩ := C
  intro he H locs ls h1 h2 h3 h4
  exact lv_ineg hx hb hd (k he H locs ls h1 h2 h3 h4)
theorem z_lneg {x : Int64} (C : zC X own cc nL rf rl) (hd : decode cc pc = .ok (.lneg, 1)) (k : zJ X nL res e (pc + 1) lv (.long (-x) :: st) cs) : zJ X nL res e pc lv (.long x :: st) cs := by
  obtain ⟨p, l, ee, R, s, m, args, below, meth, c, D, kA, A, Q⟩ := X
  obtain ⟨hx, hb, hml, hown, hts, hK, hA, hlk, hR⟩ := C
  intro he H locs ls h1 h2 h3 h4
  exact lv_lneg hx hb hd (k he H locs ls h1 h2 h3 h4)
theorem z_ladd {x y : Int64} (C : zC X own cc nL rf rl) (hd : decode cc pc = .ok (.ladd, 1)) (k : zJ X nL res e (pc + 1) lv (.long (x + y) :: st) cs) : zJ X nL res e pc lv (.long y :: .long x :: st) cs := by
  obtain ⟨p, l, ee, R, s, m, args, below, meth, c, D, kA, A, Q⟩ := X
  obtain ⟨hx, hb, hml, hown, hts, hK, hA, hlk, hR⟩ := C
  intro he H locs ls h1 h2 h3 h4
  exact lv_ladd hx hb hd (k he H locs ls h1 h2 h3 h4)
theorem z_lsub {x y : Int64} (C : zC X own cc nL rf rl) (hd : decode cc pc = .ok (.lsub, 1)) (k : zJ X nL res e (pc + 1) lv (.long (x - y) :: st) cs) : zJ X nL res e pc lv (.long y :: .long x :: st) cs := by
  obtain ⟨p, l, ee, R, s, m, args, below, meth, c, D, kA, A, Q⟩ := X
  obtain ⟨hx, hb, hml, hown, hts, hK, hA, hlk, hR⟩ := C
  intro he H locs ls h1 h2 h3 h4
  exact lv_lsub hx hb hd (k he H locs ls h1 h2 h3 h4)
theorem z_lmul {x y : Int64} (C : zC X own cc nL rf rl) (hd : decode cc pc = .ok (.lmul, 1)) (k : zJ X nL res e (pc + 1) lv (.long (x * y) :: st) cs) : zJ X nL res e pc lv (.long y :: .long x :: st) cs := by
  obtain ⟨p, l, ee, R, s, m, args, below, meth, c, D, kA, A, Q⟩ := X
  obtain ⟨hx, hb, hml, hown, hts, hK, hA, hlk, hR⟩ := C
  intro he H locs ls h1 h2 h3 h4
  exact lv_lmul hx hb hd (k he H locs ls h1 h2 h3 h4)
theorem z_land {x y : Int64} (C : zC X own cc nL rf rl) (hd : decode cc pc = .ok (.land, 1)) (k : zJ X nL res e (pc + 1) lv (.long (x &&& y) :: st) cs) : zJ X nL res e pc lv (.long y :: .long x :: st) cs := by
  obtain ⟨p, l, ee, R, s, m, args, below, meth, c, D, kA, A, Q⟩ := X
  obtain ⟨hx, hb, hml, hown, hts, hK, hA, hlk, hR⟩ := C
  intro he H locs ls h1 h2 h3 h4
  exact lv_land hx hb hd (k he H locs ls h1 h2 h3 h4)
theorem z_lor {x y : Int64} (C : zC X own cc nL rf rl) (hd : decode cc pc = .ok (.lor, 1)) (k : zJ X nL res e (pc + 1) lv (.long (x ||| y) :: st) cs) : zJ X nL res e pc lv (.long y :: .long x :: st) cs := by
  obtain ⟨p, l, ee, R, s, m, args, below, meth, c, D, kA, A, Q⟩ := X
  obtain ⟨hx, hb, hml, hown, hts, hK, hA, hlk, hR⟩ := C
  intro he H locs ls h1 h2 h3 h4
  exact lv_lor hx hb hd (k he H locs ls h1 h2 h3 h4)
theorem z_lxor {x y : Int64} (C : zC X own cc nL rf rl) (hd : decode cc pc = .ok (.lxor, 1)) (k : zJ X nL res e (pc + 1) lv (.long (x ^^^ y) :: st) cs) : zJ X nL res e pc lv (.long y :: .long x :: st) cs := by
  obtain ⟨p, l, ee, R, s, m, args, below, meth, c, D, kA, A, Q⟩ := X
  obtain ⟨hx, hb, hml, hown, hts, hK, hA, hlk, hR⟩ := C
  intro he H locs ls h1 h2 h3 h4
  exact lv_lxor hx hb hd (k he H locs ls h1 h2 h3 h4)
theorem z_lshl {x : Int64} {y : Int32} (C : zC X own cc nL rf rl) (hd : decode cc pc = .ok (.lshl, 1)) (k : zJ X nL res e (pc + 1) lv (.long (x <<< (y.toInt64 &&& 63)) :: st) cs) : zJ X nL res e pc lv (.int y :: .long x :: st) cs := by
  obtain ⟨p, l, ee, R, s, m, args, below, meth, c, D, kA, A, Q⟩ := X
  obtain ⟨hx, hb, hml, hown, hts, hK, hA, hlk, hR⟩ := C
  intro he H locs ls h1 h2 h3 h4
  exact lv_lshl hx hb hd rfl (k he H locs ls h1 h2 h3 h4)
theorem z_lushr {x : Int64} {y : Int32} (C : zC X own cc nL rf rl) (hd : decode cc pc = .ok (.lushr, 1)) (k : zJ X nL res e (pc + 1) lv (.long ((x.toUInt64 >>> (y.toInt64.toUInt64 &&& Int64.toUInt64 63)).toInt64) :: st) cs) : zJ X nL res e pc lv (.int y :: .long x :: st) cs := by
  obtain ⟨p, l, ee, R, s, m, args, below, meth, c, D, kA, A, Q⟩ := X
  obtain ⟨hx, hb, hml, hown, hts, hK, hA, hlk, hR⟩ := C
  intro he H locs ls h1 h2 h3 h4
  exact lv_lushr hx hb hd rfl (k he H locs ls h1 h2 h3 h4)
theorem z_i2l {x : Int32} (C : zC X own cc nL rf rl) (hd : decode cc pc = .ok (.i2l, 1)) (k : zJ X nL res e (pc + 1) lv (.long x.toInt64 :: st) cs) : zJ X nL res e pc lv (.int x :: st) cs := by
  obtain ⟨p, l, ee, R, s, m, args, below, meth, c, D, kA, A, Q⟩ := X
  obtain ⟨hx, hb, hml, hown, hts, hK, hA, hlk, hR⟩ := C
  intro he H locs ls h1 h2 h3 h4
  exact lv_i2l hx hb hd rfl (k he H locs ls h1 h2 h3 h4)
theorem z_l2i {x : Int64} (C : zC X own cc nL rf rl) (hd : decode cc pc = .ok (.l2i, 1)) (k : zJ X nL res e (pc + 1) lv (.int x.toInt32 :: st) cs) : zJ X nL res e pc lv (.long x :: st) cs := by
  obtain ⟨p, l, ee, R, s, m, args, below, meth, c, D, kA, A, Q⟩ := X
  obtain ⟨hx, hb, hml, hown, hts, hK, hA, hlk, hR⟩ := C
  intro he H locs ls h1 h2 h3 h4
  exact lv_l2i hx hb hd rfl (k he H locs ls h1 h2 h3 h4)
theorem z_i2b {x : Int32} (C : zC X own cc nL rf rl) (hd : decode cc pc = .ok (.i2b, 1)) (k : zJ X nL res e (pc + 1) lv (.int x.toInt8.toInt32 :: st) cs) : zJ X nL res e pc lv (.int x :: st) cs := by
  obtain ⟨p, l, ee, R, s, m, args, below, meth, c, D, kA, A, Q⟩ := X
  obtain ⟨hx, hb, hml, hown, hts, hK, hA, hlk, hR⟩ := C
  intro he H locs ls h1 h2 h3 h4
  exact lv_i2b hx hb hd rfl (k he H locs ls h1 h2 h3 h4)
theorem z_lcmp {x y : Int64} (C : zC X own cc nL rf rl) (hd : decode cc pc = .ok (.lcmp, 1)) (k : zJ X nL res e (pc + 1) lv (.int (lg_cmp x y) :: st) cs) : zJ X nL res e pc lv (.long y :: .long x :: st) cs := by
  obtain ⟨p, l, ee, R, s, m, args, below, meth, c, D, kA, A, Q⟩ := X
  obtain ⟨hx, hb, hml, hown, hts, hK, hA, hlk, hR⟩ := C
  intro he H locs ls h1 h2 h3 h4
  exact W.lcmp hx hb hd (k he H locs ls h1 h2 h3 h4)
theorem z_dup {v : Value} (hv : v.category = 1) (C : zC X own cc nL rf rl) (hd : decode cc pc = .ok (.dup, 1)) (k : zJ X nL res e (pc + 1) lv (v :: v :: st) cs) : zJ X nL res e pc lv (v :: st) cs := by
  obtain ⟨p, l, ee, R, s, m, args, below, meth, c, D, kA, A, Q⟩ := X
  obtain ⟨hx, hb, hml, hown, hts, hK, hA, hlk, hR⟩ := C
  intro he H locs ls h1 h2 h3 h4
  exact lv_dup hx hb hd hv (k he H locs ls h1 h2 h3 h4)
theorem z_dup2 {v w : Value} (hv : v.category = 1) (hw : w.category = 1) (C : zC X own cc nL rf rl) (hd : decode cc pc = .ok (.dup2, 1)) (k : zJ X nL res e (pc + 1) lv (v :: w :: v :: w :: st) cs) : zJ X nL res e pc lv (v :: w :: st) cs := by
  obtain ⟨p, l, ee, R, s, m, args, below, meth, c, D, kA, A, Q⟩ := X
  obtain ⟨hx, hb, hml, hown, hts, hK, hA, hlk, hR⟩ := C
  intro he H locs ls h1 h2 h3 h4
  exact lv_dup2_11 hx hb hd hv hw (k he H locs ls h1 h2 h3 h4)
theorem z_dup2_2 {v : Value} (hv : v.category = 2) (C : zC X own cc nL rf rl) (hd : decode cc pc = .ok (.dup2, 1)) (k : zJ X nL res e (pc + 1) lv (v :: v :: st) cs) : zJ X nL res e pc lv (v :: st) cs := by
  obtain ⟨p, l, ee, R, s, m, args, below, meth, c, D, kA, A, Q⟩ := X
  obtain ⟨hx, hb, hml, hown, hts, hK, hA, hlk, hR⟩ := C
  intro he H locs ls h1 h2 h3 h4
  exact lv_dup2_2 hx hb hd hv (k he H locs ls h1 h2 h3 h4)
theorem z_idiv {x y : Int32} (C : zC X own cc nL rf rl) (hd : decode cc pc = .ok (.idiv, 1)) (k : zJ X nL res e (pc + 1) lv (.int (x / y) :: st) cs) : zJ X nL res (zdvk y e) pc lv (.int y :: .int x :: st) cs := by
  obtain ⟨p, l, ee, R, s, m, args, below, meth, c, D, kA, A, Q⟩ := X
  obtain ⟨hx, hb, hml, hown, hts, hK, hA, hlk, hR⟩ := C
  intro he H locs ls h1 h2 h3 h4
  unfold zdvk at he
  by_cases hy : y = 0
  · rw [if_pos hy] at he; cases he
  · rw [if_neg hy] at he
    exact lv_idiv hx hb hd hy (k he H locs ls h1 h2 h3 h4)
theorem z_irem {x y : Int32} (C : zC X own cc nL rf rl) (hd : decode cc pc = .ok (.irem, 1)) (k : zJ X nL res e (pc + 1) lv (.int (x - x / y * y) :: st) cs) : zJ X nL res (zdvk y e) pc lv (.int y :: .int x :: st) cs := by
  obtain ⟨p, l, ee, R, s, m, args, below, meth, c, D, kA, A, Q⟩ := X
  obtain ⟨hx, hb, hml, hown, hts, hK, hA, hlk, hR⟩ := C
  intro he H locs ls h1 h2 h3 h4
  unfold zdvk at he
  by_cases hy : y = 0
  · rw [if_pos hy] at he; cases he
  · rw [if_neg hy] at he
    exact lv_irem hx hb hd hy (k he H locs ls h1 h2 h3 h4)
theorem z_if_eq {x : Int32} {off : Int} (tgt : Nat) (C : zC X own cc nL rf rl) (hd : decode cc pc = .ok (.ifCond .eq off, 3)) (ht : (pc : Int) + off = (tgt : Int)) (kt : zJ X nL res e1 tgt lv st cs) (kf : zJ X nL res e2 (pc + 3) lv st cs) : zJ X nL res (if x = 0 then e1 else e2) pc lv (.int x :: st) cs := by
  obtain ⟨p, l, ee, R, s, m, args, below, meth, c, D, kA, A, Q⟩ := X
  obtain ⟨hx, hb, hml, hown, hts, hK, hA, hlk, hR⟩ := C
  intro he H locs ls h1 h2 h3 h4
  exact lv_if_eq hx hb hd ht (fun hc => kt (by rw [← he, if_pos hc]) H locs ls h1 h2 h3 h4) (fun hc => kf (by rw [← he, if_neg hc]) H locs ls h1 h2 h3 h4)
theorem z_icmp_eq {x y : Int32} {off : Int} (tgt : Nat) (C : zC X own cc nL rf rl) (hd : decode cc pc = .ok (.if_icmp .eq off, 3)) (ht : (pc : Int) + off = (tgt : Int)) (kt : zJ X nL res e1 tgt lv st cs) (kf : zJ X nL res e2 (pc + 3) lv st cs) : zJ X nL res (if x = y then e1 else e2) pc lv (.int y :: .int x :: st) cs := by
  obtain ⟨p, l, ee, R, s, m, args, below, meth, c, D, kA, A, Q⟩ := X
  obtain ⟨hx, hb, hml, hown, hts, hK, hA, hlk, hR⟩ := C
  intro he H locs ls h1 h2 h3 h4
  exact lv_icmp_eq hx hb hd ht (fun hc => kt (by rw [← he, if_pos hc]) H locs ls h1 h2 h3 h4) (fun hc => kf (by rw [← he, if_neg hc]) H locs ls h1 h2 h3 h4)
theorem z_if_ne {x : Int32} {off : Int} (tgt : Nat) (C : zC X own cc nL rf rl) (hd : decode cc pc = .ok (.ifCond .ne off, 3)) (ht : (pc : Int) + off = (tgt : Int)) (kt : zJ X nL res e1 (pc + 3) lv st cs) (kf : zJ X nL res e2 tgt lv st cs) : zJ X nL res (if x = 0 then e1 else e2) pc lv (.int x :: st) cs := by
  obtain ⟨p, l, ee, R, s, m, args, below, meth, c, D, kA, A, Q⟩ := X
  obtain ⟨hx, hb, hml, hown, hts, hK, hA, hlk, hR⟩ := C
  intro he H locs ls h1 h2 h3 h4
  exact lv_if_ne hx hb hd ht (fun hc => kf (by rw [← he, if_neg hc]) H locs ls h1 h2 h3 h4) (fun hc => kt (by rw [← he, if_pos hc]) H locs ls h1 h2 h3 h4)
theorem z_icmp_ne {x y : Int32} {off : Int} (tgt : Nat) (C : zC X own cc nL rf rl) (hd : decode cc pc = .ok (.if_icmp .ne off, 3)) (ht : (pc : Int) + off = (tgt : Int)) (kt : zJ X nL res e1 (pc + 3) lv st cs) (kf : zJ X nL res e2 tgt lv st cs) : zJ X nL res (if x = y then e1 else e2) pc lv (.int y :: .int x :: st) cs := by
  obtain ⟨p, l, ee, R, s, m, args, below, meth, c, D, kA, A, Q⟩ := X
  obtain ⟨hx, hb, hml, hown, hts, hK, hA, hlk, hR⟩ := C
  intro he H locs ls h1 h2 h3 h4
  exact lv_icmp_ne hx hb hd ht (fun hc => kf (by rw [← he, if_neg hc]) H locs ls h1 h2 h3 h4) (fun hc => kt (by rw [← he, if_pos hc]) H locs ls h1 h2 h3 h4)
theorem z_if_lt {x : Int32} {off : Int} (tgt : Nat) (C : zC X own cc nL rf rl) (hd : decode cc pc = .ok (.ifCond .lt off, 3)) (ht : (pc : Int) + off = (tgt : Int)) (kt : zJ X nL res e1 tgt lv st cs) (kf : zJ X nL res e2 (pc + 3) lv st cs) : zJ X nL res (if x < 0 then e1 else e2) pc lv (.int x :: st) cs := by
  obtain ⟨p, l, ee, R, s, m, args, below, meth, c, D, kA, A, Q⟩ := X
  obtain ⟨hx, hb, hml, hown, hts, hK, hA, hlk, hR⟩ := C
  intro he H locs ls h1 h2 h3 h4
  exact lv_if_lt hx hb hd ht (fun hc => kt (by rw [← he, if_pos hc]) H locs ls h1 h2 h3 h4) (fun hc => kf (by rw [← he, if_neg hc]) H locs ls h1 h2 h3 h4)
theorem z_icmp_lt {x y : Int32} {off : Int} (tgt : Nat) (C : zC X own cc nL rf rl) (hd : decode cc pc = .ok (.if_icmp .lt off, 3)) (ht : (pc : Int) + off = (tgt : Int)) (kt : zJ X nL res e1 tgt lv st cs) (kf : zJ X nL res e2 (pc + 3) lv st cs) : zJ X nL res (if x < y then e1 else e2) pc lv (.int y :: .int x :: st) cs := by
  obtain ⟨p, l, ee, R, s, m, args, below, meth, c, D, kA, A, Q⟩ := X
  obtain ⟨hx, hb, hml, hown, hts, hK, hA, hlk, hR⟩ := C
  intro he H locs ls h1 h2 h3 h4
  exact lv_icmp_lt hx hb hd ht (fun hc => kt (by rw [← he, if_pos hc]) H locs ls h1 h2 h3 h4) (fun hc => kf (by rw [← he, if_neg hc]) H locs ls h1 h2 h3 h4)
theorem z_if_ge {x : Int32} {off : Int} (tgt : Nat) (C : zC X own cc nL rf rl) (hd : decode cc pc = .ok (.ifCond .ge off, 3)) (ht : (pc : Int) + off = (tgt : Int)) (kt : zJ X nL res e1 tgt lv st cs) (kf : zJ X nL res e2 (pc + 3) lv st cs) : zJ X nL res (if 0 ≤ x then e1 else e2) pc lv (.int x :: st) cs := by
  obtain ⟨p, l, ee, R, s, m, args, below, meth, c, D, kA, A, Q⟩ := X
  obtain ⟨hx, hb, hml, hown, hts, hK, hA, hlk, hR⟩ := C
  intro he H locs ls h1 h2 h3 h4
  exact lv_if_ge hx hb hd ht (fun hc => kt (by rw [← he, if_pos hc]) H locs ls h1 h2 h3 h4) (fun hc => kf (by rw [← he, if_neg hc]) H locs ls h1 h2 h3 h4)
theorem z_icmp_ge {x y : Int32} {off : Int} (tgt : Nat) (C : zC X own cc nL rf rl) (hd : decode cc pc = .ok (.if_icmp .ge off, 3)) (ht : (pc : Int) + off = (tgt : Int)) (kt : zJ X nL res e1 tgt lv st cs) (kf : zJ X nL res e2 (pc + 3) lv st cs) : zJ X nL res (if y ≤ x then e1 else e2) pc lv (.int y :: .int x :: st) cs := by
  obtain ⟨p, l, ee, R, s, m, args, below, meth, c, D, kA, A, Q⟩ := X
  obtain ⟨hx, hb, hml, hown, hts, hK, hA, hlk, hR⟩ := C
  intro he H locs ls h1 h2 h3 h4
  exact lv_icmp_ge hx hb hd ht (fun hc => kt (by rw [← he, if_pos hc]) H locs ls h1 h2 h3 h4) (fun hc => kf (by rw [← he, if_neg hc]) H locs ls h1 h2 h3 h4)
theorem z_if_gt {x : Int32} {off : Int} (tgt : Nat) (C : zC X own cc nL rf rl) (hd : decode cc pc = .ok (.ifCond .gt off, 3)) (ht : (pc : Int) + off = (tgt : Int)) (kt : zJ X nL res e1 tgt lv st cs) (kf : zJ X nL res e2 (pc + 3) lv st cs) : zJ X nL res (if 0 < x then e1 else e2) pc lv (.int x :: st) cs := by
  obtain ⟨p, l, ee, R, s, m, args, below, meth, c, D, kA, A, Q⟩ := X
  obtain ⟨hx, hb, hml, hown, hts, hK, hA, hlk, hR⟩ := C
  intro he H locs ls h1 h2 h3 h4
  exact lv_if_gt hx hb hd ht (fun hc => kt (by rw [← he, if_pos hc]) H locs ls h1 h2 h3 h4) (fun hc => kf (by rw [← he, if_neg hc]) H locs ls h1 h2 h3 h4)
theorem z_icmp_gt {x y : Int32} {off : Int} (tgt : Nat) (C : zC X own cc nL rf rl) (hd : decode cc pc = .ok (.if_icmp .gt off, 3)) (ht : (pc : Int) + off = (tgt : Int)) (kt : zJ X nL res e1 tgt lv st cs) (kf : zJ X nL res e2 (pc + 3) lv st cs) : zJ X nL res (if y < x then e1 else e2) pc lv (.int y :: .int x :: st) cs := by
  obtain ⟨p, l, ee, R, s, m, args, below, meth, c, D, kA, A, Q⟩ := X
  obtain ⟨hx, hb, hml, hown, hts, hK, hA, hlk, hR⟩ := C
  intro he H locs ls h1 h2 h3 h4
  exact lv_icmp_gt hx hb hd ht (fun hc => kt (by rw [← he, if_pos hc]) H locs ls h1 h2 h3 h4) (fun hc => kf (by rw [← he, if_neg hc]) H locs ls h1 h2 h3 h4)
theorem z_if_le {x : Int32} {off : Int} (tgt : Nat) (C : zC X own cc nL rf rl) (hd : decode cc pc = .ok (.ifCond .le off, 3)) (ht : (pc : Int) + off = (tgt : Int)) (kt : zJ X nL res e1 tgt lv st cs) (kf : zJ X nL res e2 (pc + 3) lv st cs) : zJ X nL res (if x ≤ 0 then e1 else e2) pc lv (.int x :: st) cs := by
  obtain ⟨p, l, ee, R, s, m, args, below, meth, c, D, kA, A, Q⟩ := X
  obtain ⟨hx, hb, hml, hown, hts, hK, hA, hlk, hR⟩ := C
  intro he H locs ls h1 h2 h3 h4
  exact lv_if_le hx hb hd ht (fun hc => kt (by rw [← he, if_pos hc]) H locs ls h1 h2 h3 h4) (fun hc => kf (by rw [← he, if_neg hc]) H locs ls h1 h2 h3 h4)
theorem z_icmp_le {x y : Int32} {off : Int} (tgt : Nat) (C : zC X own cc nL rf rl) (hd : decode cc pc = .ok (.if_icmp .le off, 3)) (ht : (pc : Int) + off = (tgt : Int)) (kt : zJ X nL res e1 tgt lv st cs) (kf : zJ X nL res e2 (pc + 3) lv st cs) : zJ X nL res (if x ≤ y then e1 else e2) pc lv (.int y :: .int x :: st) cs := by
  obtain ⟨p, l, ee, R, s, m, args, below, meth, c, D, kA, A, Q⟩ := X
  obtain ⟨hx, hb, hml, hown, hts, hK, hA, hlk, hR⟩ := C
  intro he H locs ls h1 h2 h3 h4
  exact lv_icmp_le hx hb hd ht (fun hc => kt (by rw [← he, if_pos hc]) H locs ls h1 h2 h3 h4) (fun hc => kf (by rw [← he, if_neg hc]) H locs ls h1 h2 h3 h4)
theorem z_goto {off : Int} (tgt : Nat) (C : zC X own cc nL rf rl) (hd : decode cc pc = .ok (.goto off, 3)) (ht : (pc : Int) + off = (tgt : Int)) (k : zJ X nL res e tgt lv st cs) : zJ X nL res e pc lv st cs := by
  obtain ⟨p, l, ee, R, s, m, args, below, meth, c, D, kA, A, Q⟩ := X
  obtain ⟨hx, hb, hml, hown, hts, hK, hA, hlk, hR⟩ := C
  intro he H locs ls h1 h2 h3 h4
  exact lv_goto hx hb hd ht (k he H locs ls h1 h2 h3 h4)
end ZR
end
section
/-! fields and arrays of a component -/
section ZH
variable {β : Type} {X : zCx} {own : String} {cc : ByteArray} {nL rf rl : Nat} {res : β} {e : Option β} {pc : Nat} {lv : List (Nat × Value)} {st : List Value} {cs : List zCm} {q : Nat → Nat} {σ : zOS} {c ix : Nat}
theorem z_getI (i f : Nat) (C : zC X own cc nL rf rl) (hd : decode cc pc = .ok (.getfield ix, 3)) (hc : cs[i]? = some (c, q, σ)) (h6 : c < 6) (hf : f < znF c) (hk : zfk c f = 0) (hw : Cond.fieldLink own ix (zTn c f).1 (zTn c f).2.1 (zTn c f).2.2.1 ∈ zTb)
    (k : zJ X nL res e (pc + 3) lv (.int (zF σ f) :: st) cs) : zJ X nL res e pc lv (.ref (q 0) :: st) cs := by
  obtain ⟨p, l, ee, R, s, m, args, below, meth, cd, D, kA, A, Q⟩ := X
  obtain ⟨hx, hb, hml, hown, hts, hK, hA, hlk, hR⟩ := C
  intro he H locs ls h1 h2 h3 h4
  obtain ⟨pos, hp, -⟩ := zgw_at (kA := kA) hc (k := 0) (Nat.zero_le _)
  rw [zce_0] at hp
  exact va_get hx hb hts (zk_w h6) hown hK h1 pos hp (zcl_at h6) f hf (hts _ hw) (fun _ h9 => h9) (v := .int (zF σ f)) (by rw [List.getElem?_map, List.getElem?_range hf]; show some (zfv c q σ f) = _; unfold zfv; rw [hk]) hd (k he H locs ls h1 h2 h3 h4)
theorem z_getH (i f : Nat) (C : zC X own cc nL rf rl) (hd : decode cc pc = .ok (.getfield ix, 3)) (hc : cs[i]? = some (c, q, σ)) (h6 : c < 6) (hf : f < znF c) (hk : zfk c f = 1) (hw : Cond.fieldLink own ix (zTn c f).1 (zTn c f).2.1 (zTn c f).2.2.1 ∈ zTb)
    (k : zJ X nL res e (pc + 3) lv (.long (zH σ) :: st) cs) : zJ X nL res e pc lv (.ref (q 0) :: st) cs := by
  obtain ⟨p, l, ee, R, s, m, args, below, meth, cd, D, kA, A, Q⟩ := X
  obtain ⟨hx, hb, hml, hown, hts, hK, hA, hlk, hR⟩ := C
  intro he H locs ls h1 h2 h3 h4
  obtain ⟨pos, hp, -⟩ := zgw_at (kA := kA) hc (k := 0) (Nat.zero_le _)
  rw [zce_0] at hp
  exact va_get hx hb hts (zk_w h6) hown hK h1 pos hp (zcl_at h6) f hf (hts _ hw) (fun _ h9 => h9) (v := .long (zH σ)) (by rw [List.getElem?_map, List.getElem?_range hf]; show some (zfv c q σ f) = _; unfold zfv; rw [hk]) hd (k he H locs ls h1 h2 h3 h4)
theorem z_getR (i f n : Nat) (C : zC X own cc nL rf rl) (hd : decode cc pc = .ok (.getfield ix, 3)) (hc : cs[i]? = some (c, q, σ)) (h6 : c < 6) (hf : f < znF c) (hk : zfk c f = n + 2) (hw : Cond.fieldLink own ix (zTn c f).1 (zTn c f).2.1 (zTn c f).2.2.1 ∈ zTb)
    (k : zJ X nL res e (pc + 3) lv (.ref (q n) :: st) cs) : zJ X nL res e pc lv (.ref (q 0) :: st) cs := by
  obtain ⟨p, l, ee, R, s, m, args, below, meth, cd, D, kA, A, Q⟩ := X
  obtain ⟨hx, hb, hml, hown, hts, hK, hA, hlk, hR⟩ := C
  intro he H locs ls h1 h2 h3 h4
  obtain ⟨pos, hp, -⟩ := zgw_at (kA := kA) hc (k := 0) (Nat.zero_le _)
  rw [zce_0] at hp
  exact va_get hx hb hts (zk_w h6) hown hK h1 pos hp (zcl_at h6) f hf (hts _ hw) (fun _ h9 => h9) (v := .ref (q n)) (by rw [List.getElem?_map, List.getElem?_range hf]; show some (zfv c q σ f) = _; unfold zfv; rw [hk]) hd (k he H locs ls h1 h2 h3 h4)
theorem z_putI (i f : Nat) {v : Int32} (C : zC X own cc nL rf rl) (hd : decode cc pc = .ok (.putfield ix, 3)) (hc : cs[i]? = some (c, q, σ)) (h6 : c < 6) (hf : f < znF c) (hk : zfk c f = 0) (hw : Cond.fieldLink own ix (zTn c f).1 (zTn c f).2.1 (zTn c f).2.2.1 ∈ zTb)
    (hfin : (zTn c f).2.2.2 = false) (hn : narrow (zTy c f) (.int v) = .int v) (hfit : fits (zTy c f) (.int v) = true) (cs' : List zCm) (hcs : cs.set i (c, q, zsF σ f v) = cs')
    (k : zJ X nL res e (pc + 3) lv st cs') : zJ X nL res e pc lv (.int v :: .ref (q 0) :: st) cs := by
  obtain ⟨p, l, ee, R, s, m, args, below, meth, cd, D, kA, A, Q⟩ := X
  obtain ⟨hx, hb, hml, hown, hts, hK, hA, hlk, hR⟩ := C
  intro he H locs ls h1 h2 h3 h4
  obtain ⟨pos, hp, hset⟩ := zgw_at (kA := kA) hc (k := 0) (Nat.zero_le _)
  have h9 := hset q (zsF σ f v) (fun _ _ => rfl) (fun j _ hj => zce_sF hj)
  rw [zce_0] at hp h9
  rw [← zfl_F hf hk, hcs] at h9
  refine va_put hx hb hts (zk_w h6) (zTy c) (zk_ty h6) (zk_nm h6) hown hK h1 h2 h3 pos hp (zcl_at h6) f hf (hts _ hw) (fun _ h9 => h9) hfin (zk_ty h6 f hf) hn hfit (by simp [hf]) hd (fun H1 locs1 g1 g2 g3 => ?_)
  rw [h9] at g1 g2
  exact k he H1 locs1 ls g1 g2 g3 h4
theorem z_putH (i f : Nat) {v : Int64} (C : zC X own cc nL rf rl) (hd : decode cc pc = .ok (.putfield ix, 3)) (hc : cs[i]? = some (c, q, σ)) (h6 : c < 6) (hf : f < znF c) (hk : zfk c f = 1) (hu : ∀ j, j < znF c → j ≠ f → zfk c j ≠ 1) (hw : Cond.fieldLink own ix (zTn c f).1 (zTn c f).2.1 (zTn c f).2.2.1 ∈ zTb)
    (hfin : (zTn c f).2.2.2 = false) (hn : narrow (zTy c f) (.long v) = .long v) (hfit : fits (zTy c f) (.long v) = true) (cs' : List zCm) (hcs : cs.set i (c, q, zsH σ v) = cs')
    (k : zJ X nL res e (pc + 3) lv st cs') : zJ X nL res e pc lv (.long v :: .ref (q 0) :: st) cs := by
  obtain ⟨p, l, ee, R, s, m, args, below, meth, cd, D, kA, A, Q⟩ := X
  obtain ⟨hx, hb, hml, hown, hts, hK, hA, hlk, hR⟩ := C
  intro he H locs ls h1 h2 h3 h4
  obtain ⟨pos, hp, hset⟩ := zgw_at (kA := kA) hc (k := 0) (Nat.zero_le _)
  have h9 := hset q (zsH σ v) (fun _ _ => rfl) (fun j _ hj => zce_sH hj)
  rw [zce_0] at hp h9
  rw [← zfl_H hf hk hu, hcs] at h9
  refine va_put hx hb hts (zk_w h6) (zTy c) (zk_ty h6) (zk_nm h6) hown hK h1 h2 h3 pos hp (zcl_at h6) f hf (hts _ hw) (fun _ h9 => h9) hfin (zk_ty h6 f hf) hn hfit (by simp [hf]) hd (fun H1 locs1 g1 g2 g3 => ?_)
  rw [h9] at g1 g2
  exact k he H1 locs1 ls g1 g2 g3 h4
theorem zchk_some {j : Int32} {n : Nat} (he : zchk j n e = some res) : e = some res ∧ vp_in j n := by
  unfold zchk at he
  by_cases h : j < 0 ∨ n ≤ j.toNatClampNeg
  · rw [if_pos h] at he; cases he
  · rw [if_neg h] at he; exact ⟨he, h⟩
theorem z_iald (i : Nat) {a n : Nat} {j : Int32} (C : zC X own cc nL rf rl) (hd : decode cc pc = .ok (.iaload, 1)) (hc : cs[i]? = some (c, q, σ)) (ha : zAr c a 0 n)
    (k : zJ X nL res e (pc + 1) lv (.int (zI σ a j.toNatClampNeg) :: st) cs) : zJ X nL res (zchk j n e) pc lv (.int j :: .ref (q a) :: st) cs := by
  obtain ⟨p, l, ee, R, s, m, args, below, meth, cd, D, kA, A, Q⟩ := X
  obtain ⟨hx, hb, hml, hown, hts, hK, hA, hlk, hR⟩ := C
  intro he H locs ls h1 h2 h3 h4
  obtain ⟨he, hin⟩ := zchk_some he
  obtain ⟨pos, hp, -⟩ := zgw_at (kA := kA) hc (k := a) ha.1.2
  rw [zce_i ha] at hp
  exact va_iald hx hb hK h1 pos 0 hp rfl hin hd (k he H locs ls h1 h2 h3 h4)
theorem z_bald (i : Nat) {a n : Nat} {j : Int32} (C : zC X own cc nL rf rl) (hd : decode cc pc = .ok (.baload, 1)) (hc : cs[i]? = some (c, q, σ)) (ha : zAr c a 2 n)
    (k : zJ X nL res e (pc + 1) lv (.int (zI σ a j.toNatClampNeg) :: st) cs) : zJ X nL res (zchk j n e) pc lv (.int j :: .ref (q a) :: st) cs := by
  obtain ⟨p, l, ee, R, s, m, args, below, meth, cd, D, kA, A, Q⟩ := X
  obtain ⟨hx, hb, hml, hown, hts, hK, hA, hlk, hR⟩ := C
  intro he H locs ls h1 h2 h3 h4
  obtain ⟨he, hin⟩ := zchk_some he
  obtain ⟨pos, hp, -⟩ := zgw_at (kA := kA) hc (k := a) ha.1.2
  rw [zce_b ha] at hp
  exact va_bald hx hb hK h1 pos 2 hp rfl hin hd (k he H locs ls h1 h2 h3 h4)
theorem z_lald (i : Nat) {a n : Nat} {j : Int32} (C : zC X own cc nL rf rl) (hd : decode cc pc = .ok (.laload, 1)) (hc : cs[i]? = some (c, q, σ)) (ha : zAr c a 1 n)
    (k : zJ X nL res e (pc + 1) lv (.long (zL σ a j.toNatClampNeg) :: st) cs) : zJ X nL res (zchk j n e) pc lv (.int j :: .ref (q a) :: st) cs := by
  obtain ⟨p, l, ee, R, s, m, args, below, meth, cd, D, kA, A, Q⟩ := X
  obtain ⟨hx, hb, hml, hown, hts, hK, hA, hlk, hR⟩ := C
  intro he H locs ls h1 h2 h3 h4
  obtain ⟨he, hin⟩ := zchk_some he
  obtain ⟨pos, hp, -⟩ := zgw_at (kA := kA) hc (k := a) ha.1.2
  rw [zce_l ha] at hp
  exact va_lald hx hb hK h1 pos 1 hp rfl hin hd (k he H locs ls h1 h2 h3 h4)
theorem zrf_if {n : Nat} {j : Int32} {g : Nat → Nat} (h : vp_in j n) : va_rf (if j.toNatClampNeg < n then some (g j.toNatClampNeg) else none) = .ref (g j.toNatClampNeg) := by
  rw [if_pos (Nat.not_le.mp fun q => h (Or.inr q))]
  rfl
theorem z_aald (i : Nat) {a kd n : Nat} {j : Int32} (C : zC X own cc nL rf rl) (hd : decode cc pc = .ok (.aaload, 1)) (hc : cs[i]? = some (c, q, σ)) (ha : zAr c a kd n) (hkd : kd = 3 ∨ kd = 4 ∨ kd = 5)
    (k : zJ X nL res e (pc + 1) lv (.ref (q (zbs c + j.toNatClampNeg)) :: st) cs) : zJ X nL res (zchk j n e) pc lv (.int j :: .ref (q a) :: st) cs := by
  obtain ⟨p, l, ee, R, s, m, args, below, meth, cd, D, kA, A, Q⟩ := X
  obtain ⟨hx, hb, hml, hown, hts, hK, hA, hlk, hR⟩ := C
  intro he H locs ls h1 h2 h3 h4
  obtain ⟨he, hin⟩ := zchk_some he
  obtain ⟨pos, hp, -⟩ := zgw_at (kA := kA) hc (k := a) ha.1.2
  rw [zce_r ha (by omega)] at hp
  have kk := k he H locs ls h1 h2 h3 h4
  have hlt : j.toNatClampNeg < n := Nat.not_le.mp fun q => hin (Or.inr q)
  rw [← zrf_if (n := n) (g := fun x => q (zbs c + x)) hin] at kk
  rcases hkd with rfl | rfl | rfl
  · exact W.aald (v := va_rf (if j.toNatClampNeg < n then some (q (zbs c + j.toNatClampNeg)) else none)) (ty := .array .int) hx hb (h1 pos _ hp) ((hK.2 3 _ rfl).1 n (fun j => va_rf (if j < n then some (q (zbs c + j)) else none))) rfl (fun q => by cases q) (by show ¬ (j < 0 ∨ (arrV _ _ _).slots.size ≤ _); rw [arrV_size]; exact hin) (by show (arrV _ _ _).slots[_]? = _; rw [arrV_read _ _ hlt]) rfl rfl hd kk
  · exact W.aald (v := va_rf (if j.toNatClampNeg < n then some (q (zbs c + j.toNatClampNeg)) else none)) (ty := .array .long) hx hb (h1 pos _ hp) ((hK.2 4 _ rfl).1 n (fun j => va_rf (if j < n then some (q (zbs c + j)) else none))) rfl (fun q => by cases q) (by show ¬ (j < 0 ∨ (arrV _ _ _).slots.size ≤ _); rw [arrV_size]; exact hin) (by show (arrV _ _ _).slots[_]? = _; rw [arrV_read _ _ hlt]) rfl rfl hd kk
  · exact va_aldq hx hb hK h1 pos 5 hp rfl hin hd kk
theorem z_iast (i : Nat) {a n : Nat} {j v : Int32} (C : zC X own cc nL rf rl) (hd : decode cc pc = .ok (.iastore, 1)) (hc : cs[i]? = some (c, q, σ)) (ha : zAr c a 0 n) (cs' : List zCm) (hcs : cs.set i (c, q, zsI σ a (upd (zI σ a) j.toNatClampNeg v)) = cs')
    (k : zJ X nL res e (pc + 1) lv st cs') : zJ X nL res (zchk j n e) pc lv (.int v :: .int j :: .ref (q a) :: st) cs := by
  obtain ⟨p, l, ee, R, s, m, args, below, meth, cd, D, kA, A, Q⟩ := X
  obtain ⟨hx, hb, hml, hown, hts, hK, hA, hlk, hR⟩ := C
  intro he H locs ls h1 h2 h3 h4
  obtain ⟨he, hin⟩ := zchk_some he
  obtain ⟨pos, hp, hset⟩ := zgw_at (kA := kA) hc (k := a) ha.1.2
  have h9 := hset q (zsI σ a (upd (zI σ a) j.toNatClampNeg v)) (fun _ _ => rfl) (fun j _ hj => zce_sI hj)
  rw [zce_i ha] at hp h9
  rw [zI_e, hcs] at h9
  refine va_iast hx hb hK h1 h2 h3 pos 0 hp rfl hin hd (fun H1 locs1 g1 g2 g3 => ?_)
  rw [h9] at g1 g2
  exact k he H1 locs1 ls g1 g2 g3 h4
theorem z_bast (i : Nat) {a n : Nat} {j v : Int32} (C : zC X own cc nL rf rl) (hd : decode cc pc = .ok (.bastore, 1)) (hc : cs[i]? = some (c, q, σ)) (ha : zAr c a 2 n) (cs' : List zCm) (hcs : cs.set i (c, q, zsI σ a (upd (zI σ a) j.toNatClampNeg (vp_nar .byte v))) = cs')
    (k : zJ X nL res e (pc + 1) lv st cs') : zJ X nL res (zchk j n e) pc lv (.int v :: .int j :: .ref (q a) :: st) cs := by
  obtain ⟨p, l, ee, R, s, m, args, below, meth, cd, D, kA, A, Q⟩ := X
  obtain ⟨hx, hb, hml, hown, hts, hK, hA, hlk, hR⟩ := C
  intro he H locs ls h1 h2 h3 h4
  obtain ⟨he, hin⟩ := zchk_some he
  obtain ⟨pos, hp, hset⟩ := zgw_at (kA := kA) hc (k := a) ha.1.2
  have h9 := hset q (zsI σ a (upd (zI σ a) j.toNatClampNeg (vp_nar .byte v))) (fun _ _ => rfl) (fun j _ hj => zce_sI hj)
  rw [zce_b ha] at hp h9
  rw [zI_e, hcs] at h9
  refine va_bast hx hb hK h1 h2 h3 pos 2 hp rfl hin hd (fun H1 locs1 g1 g2 g3 => ?_)
  rw [h9] at g1 g2
  exact k he H1 locs1 ls g1 g2 g3 h4
theorem z_last (i : Nat) {a n : Nat} {j : Int32} {v : Int64} (C : zC X own cc nL rf rl) (hd : decode cc pc = .ok (.lastore, 1)) (hc : cs[i]? = some (c, q, σ)) (ha : zAr c a 1 n) (cs' : List zCm) (hcs : cs.set i (c, q, zsL σ a (vp_updL (zL σ a) j.toNatClampNeg v)) = cs')
    (k : zJ X nL res e (pc + 1) lv st cs') : zJ X nL res (zchk j n e) pc lv (.long v :: .int j :: .ref (q a) :: st) cs := by
  obtain ⟨p, l, ee, R, s, m, args, below, meth, cd, D, kA, A, Q⟩ := X
  obtain ⟨hx, hb, hml, hown, hts, hK, hA, hlk, hR⟩ := C
  intro he H locs ls h1 h2 h3 h4
  obtain ⟨he, hin⟩ := zchk_some he
  obtain ⟨pos, hp, hset⟩ := zgw_at (kA := kA) hc (k := a) ha.1.2
  have h9 := hset q (zsL σ a (vp_updL (zL σ a) j.toNatClampNeg v)) (fun _ _ => rfl) (fun j _ hj => zce_sL hj)
  rw [zce_l ha] at hp h9
  rw [zL_e, hcs] at h9
  refine va_last hx hb hK h1 h2 h3 pos 1 hp rfl hin hd (fun H1 locs1 g1 g2 g3 => ?_)
  rw [h9] at g1 g2
  exact k he H1 locs1 ls g1 g2 g3 h4
theorem z_alen (i kd : Nat) {a n : Nat} (v : Int32) (C : zC X own cc nL rf rl) (hd : decode cc pc = .ok (.arraylength, 1)) (hc : cs[i]? = some (c, q, σ)) (ha : zAr c a kd n) (hkd : kd = 0 ∨ kd = 1 ∨ kd = 2) (hv : Int32.ofNat n = v)
    (k : zJ X nL res e (pc + 1) lv (.int v :: st) cs) : zJ X nL res e pc lv (.ref (q a) :: st) cs := by
  obtain ⟨p, l, ee, R, s, m, args, below, meth, cd, D, kA, A, Q⟩ := X
  obtain ⟨hx, hb, hml, hown, hts, hK, hA, hlk, hR⟩ := C
  intro he H locs ls h1 h2 h3 h4
  obtain ⟨pos, hp, -⟩ := zgw_at (kA := kA) hc (k := a) ha.1.2
  rcases hkd with rfl | rfl | rfl
  · rw [zce_i ha] at hp
    exact va_alen hx hb hK h1 pos 0 hp rfl hv hd (k he H locs ls h1 h2 h3 h4)
  · rw [zce_l ha] at hp
    exact va_alen hx hb hK h1 pos 1 hp rfl hv hd (k he H locs ls h1 h2 h3 h4)
  · rw [zce_b ha] at hp
    exact va_alen hx hb hK h1 pos 2 hp rfl hv hd (k he H locs ls h1 h2 h3 h4)
end ZH
end
section
/-! contracts, answers, calls -/
def zQ (D : va_G) (kA : Nat → ClassId) (r : Option Value) (cs1 : List zCm) (A : Nat → Prop) : Array Value → State → Outcome → State → Prop := fun _ st oc t =>
  (oc = .returned r ∧ va_P D zcl (zgw kA cs1) t.heap ∧ va_K D zcl (zty kA) t ∧ va_D A (zgw kA cs1)) ∧ va_F A st t
def zB (D : va_G) (kA : Nat → ClassId) (sz : Nat) (cs : List zCm) (U : State) : Prop := U.heap.size = sz ∧ va_P D zcl (zgw kA cs) U.heap ∧ va_K D zcl (zty kA) U ∧ va_D (fun _ => True) (zgw kA cs) ∧ zNw U
/-- a method's contract: from the components cs it answers r and leaves cs1 -/
def zM (y : MethodName) (cc : ByteArray) (nL : Nat) (ret : Option FieldType) (rf rl : Nat) (As : List Value) (cs : List zCm) (r : Option Value) (cs1 : List zCm) : Prop :=
  ∀ (l : Launch) (D : va_G) (kA : Nat → ClassId) (sz : Nat), Met l y (.code y cc nL ret :: zTb) { frames := rf, cells := 0, slots := 0, locals := rl } (va_Pc As (zB D kA sz cs)) (zQ D kA r cs1 (va_A (zgw kA cs) sz)) 0 0 (va_A (zgw kA cs) sz)
def zR (X : zCx) (ret : Option FieldType) (r : Option Value) (cs1 : List zCm) : Prop := match X with
  | (p, l, e, R, s, m, args, below, meth, c, D, kA, A, Q) => meth.sig.returnType = ret ∧ Q = MQ below (zQ D kA r cs1 A) args s 0 0 A
theorem zM_of {y : MethodName} {cc : ByteArray} {nL : Nat} {ret : Option FieldType} {rf rl : Nat} {As : List Value} {cs : List zCm} {r : Option Value} {cs1 : List zCm} (hy : plainName y.cls = true) (hl : (lg_sl As).length ≤ nL)
    (body : ∀ X : zCx, zC X y.cls cc nL rf rl → zR X ret r cs1 → zN X nL 0 (lv_args 0 As) [] cs) : zM y cc nL ret rf rl As cs r cs1 := by
  intro l D kA sz
  refine Met.ofW (cc := cc) (maxL := nL) (ret := ret) hy rfl ?_
  intro p e s m args below meth c s₁ B hml hv
  obtain ⟨rfl, hsz, hP, hK, hD0, hN⟩ := hv
  have hx := B.exec
  have hb := B.bytes
  have hr := B.returns
  have hts := atoms_spec (ws := .code y cc nL ret :: zTb) B.pre
  have hown : s.vm.findClass y.cls = some m.cls := findClass_of_methodNamed B.named
  have hlocks := B.notSynchronized
  subst hsz
  have hD := hD0.self (sz := s.heap.size)
  generalize hAe : va_A (zgw kA cs) s.heap.size = A at hD ⊢
  have hA : ∀ q : Nat, s.heap.size ≤ q → A q := fun q h => by rw [← hAe]; exact Or.inr h
  have hl := lv_entry As (n := nL) hl
  rw [lg_entry_eq]
  exact body (p, l, e, _, s, m, As.toArray, below, meth, c, D, kA, A, _) ⟨hx, hb, hml, hown, fun w hw => hts w (List.mem_cons_of_mem _ hw), hK, hA, hlocks, rfl, hN⟩ ⟨hr, rfl⟩ s.heap [] _ hP hD va_S.rf hl
section ZA
variable {β : Type} {X : zCx} {own : String} {cc : ByteArray} {nL rf rl : Nat} {res b : β} {pc : Nat} {lv : List (Nat × Value)} {cs cs1 : List zCm} {r : Option Value}
theorem z_ireturn {v : Int32} (C : zC X own cc nL rf rl) (hR : zR X (some .int) r cs1) (hd : decode cc pc = .ok (.ireturn, 1)) (hv : b = res → r = some (.int v) ∧ cs1 = cs) : zJ X nL res (some b) pc lv [.int v] cs := by
  obtain ⟨p, l, ee, R, s, m, args, below, meth, c, D, kA, A, Q⟩ := X
  obtain ⟨hx, hb, hml, hown, hts, hK, hA, hlk, -⟩ := C
  obtain ⟨hr, hQ⟩ := hR
  intro he H locs ls h1 h2 h3 h4
  obtain ⟨rfl, rfl⟩ := hv (Option.some.inj he)
  subst hQ
  exact W.iret hx hb hr (fun t ht hW => ⟨⟨rfl, by rw [ht]; exact h1, va_K.moved hW.alike hK, h2⟩, h3.F ht⟩) h3.2.2 hd
theorem z_lreturn {v : Int64} (C : zC X own cc nL rf rl) (hR : zR X (some .long) r cs1) (hd : decode cc pc = .ok (.lreturn, 1)) (hv : b = res → r = some (.long v) ∧ cs1 = cs) : zJ X nL res (some b) pc lv [.long v] cs := by
  obtain ⟨p, l, ee, R, s, m, args, below, meth, c, D, kA, A, Q⟩ := X
  obtain ⟨hx, hb, hml, hown, hts, hK, hA, hlk, -⟩ := C
  obtain ⟨hr, hQ⟩ := hR
  intro he H locs ls h1 h2 h3 h4
  obtain ⟨rfl, rfl⟩ := hv (Option.some.inj he)
  subst hQ
  exact W.lret hx hb hr (fun t ht hW => ⟨⟨rfl, by rw [ht]; exact h1, va_K.moved hW.alike hK, h2⟩, h3.F ht⟩) h3.2.2 hd
theorem z_return (C : zC X own cc nL rf rl) (hR : zR X none r cs1) (hd : decode cc pc = .ok (.return_, 1)) (hv : b = res → r = none ∧ cs1 = cs) : zJ X nL res (some b) pc lv [] cs := by
  obtain ⟨p, l, ee, R, s, m, args, below, meth, c, D, kA, A, Q⟩ := X
  obtain ⟨hx, hb, hml, hown, hts, hK, hA, hlk, -⟩ := C
  obtain ⟨hr, hQ⟩ := hR
  intro he H locs ls h1 h2 h3 h4
  obtain ⟨rfl, rfl⟩ := hv (Option.some.inj he)
  subst hQ
  exact W.vret hx hb hr (fun t ht hW => ⟨⟨rfl, by rw [ht]; exact h1, va_K.moved hW.alike hK, h2⟩, h3.F ht⟩) h3.2.2 hd
theorem z_areturn {a : Nat} {ty : FieldType} (C : zC X own cc nL rf rl) (hR : zR X (some ty) r cs1) (hd : decode cc pc = .ok (.areturn, 1)) (hv : b = res → r = some (.ref a) ∧ cs1 = cs) (hty : ∃ c, ty = .object c) : zJ X nL res (some b) pc lv [.ref a] cs := by
  obtain ⟨p, l, ee, R, s, m, args, below, meth, c, D, kA, A, Q⟩ := X
  obtain ⟨hx, hb, hml, hown, hts, hK, hA, hlk, -⟩ := C
  obtain ⟨hr, hQ⟩ := hR
  obtain ⟨co, rfl⟩ := hty
  intro he H locs ls h1 h2 h3 h4
  obtain ⟨rfl, rfl⟩ := hv (Option.some.inj he)
  subst hQ
  exact W.aret hx hb hr (Or.inl ⟨co, rfl⟩) (Or.inr ⟨a, rfl⟩) (fun t ht hW => ⟨⟨rfl, by rw [ht]; exact h1, va_K.moved hW.alike hK, h2⟩, h3.F ht⟩) h3.2.2 hd
/-- an answer that is a boolean -/
def zbk {β : Type} (v : Int32) (e : Option β) : Option β := if v = 0 ∨ v = 1 then e else none
theorem z_zreturn {v : Int32} (C : zC X own cc nL rf rl) (hR : zR X (some .boolean) r cs1) (hd : decode cc pc = .ok (.ireturn, 1)) (hv : b = res → r = some (.int v) ∧ cs1 = cs) : zJ X nL res (zbk v (some b)) pc lv [.int v] cs := by
  obtain ⟨p, l, ee, R, s, m, args, below, meth, c, D, kA, A, Q⟩ := X
  obtain ⟨hx, hb, hml, hown, hts, hK, hA, hlk, -⟩ := C
  obtain ⟨hr, hQ⟩ := hR
  intro he H locs ls h1 h2 h3 h4
  unfold zbk at he
  by_cases hb01 : v = 0 ∨ v = 1
  · rw [if_pos hb01] at he
    obtain ⟨rfl, rfl⟩ := hv (Option.some.inj he)
    subst hQ
    exact W.zret hx hb hr (by rcases hb01 with rfl | rfl <;> decide) (fun t ht hW => ⟨⟨rfl, by rw [ht]; exact h1, va_K.moved hW.alike hK, h2⟩, h3.F ht⟩) h3.2.2 hd
  · rw [if_neg hb01] at he; cases he
end ZA
/-! worlds in another order -/
theorem zP_perm {D : va_G} {cl : List vw_C} {w1 w2 : va_W} {H : Heap} (hp : w1.Perm w2) (h : va_P D cl w1 H) : va_P D cl w2 H := fun k q hk => by
  obtain ⟨j, hj⟩ := List.getElem?_of_mem (hp.symm.mem_iff.mp (List.mem_of_getElem? hk))
  exact h j q hj
theorem zD_iff {A : Nat → Prop} {ws : va_W} : va_D A ws ↔ (ws.map Prod.fst).Nodup ∧ ∀ x ∈ ws, A x.1 := by
  constructor
  · intro h
    refine ⟨?_, fun x hx => ?_⟩
    · rw [List.Nodup, List.pairwise_iff_getElem]
      intro i j hi hj hij he
      rw [List.length_map] at hi hj
      have := h.1 i j ws[i] ws[j] (List.getElem?_eq_getElem hi) (List.getElem?_eq_getElem hj) (by simpa using he)
      omega
    · obtain ⟨k, hk⟩ := List.getElem?_of_mem hx
      exact h.2 k x hk
  · intro h
    refine ⟨fun i j p q hi hj hpq => ?_, fun k q hk => h.2 q (List.mem_of_getElem? hk)⟩
    have hn := h.1
    rw [List.Nodup, List.pairwise_iff_getElem] at hn
    obtain ⟨hi1, hi2⟩ := List.getElem?_eq_some_iff.mp hi
    obtain ⟨hj1, hj2⟩ := List.getElem?_eq_some_iff.mp hj
    have hi3 : i < (ws.map Prod.fst).length := by rw [List.length_map]; exact hi1
    have hj3 : j < (ws.map Prod.fst).length := by rw [List.length_map]; exact hj1
    rcases Nat.lt_trichotomy i j with hl | hl | hl
    · exact absurd (show (ws.map Prod.fst)[i] = (ws.map Prod.fst)[j] by rw [List.getElem_map, List.getElem_map, hi2, hj2, hpq]) (hn i j hi3 hj3 hl)
    · exact hl
    · exact absurd (show (ws.map Prod.fst)[j] = (ws.map Prod.fst)[i] by rw [List.getElem_map, List.getElem_map, hi2, hj2, hpq]) (hn j i hj3 hi3 hl)
theorem zD_perm {A : Nat → Prop} {w1 w2 : va_W} (hp : w1.Perm w2) (h : va_D A w1) : va_D A w2 := by
  rw [zD_iff] at h ⊢
  exact ⟨(hp.map Prod.fst).nodup h.1, fun x hx => h.2 x (hp.symm.mem_iff.mp hx)⟩
theorem zgw_perm {kA : Nat → ClassId} {c1 c2 : List zCm} (hp : c1.Perm c2) : (zgw kA c1).Perm (zgw kA c2) := hp.flatMap_right _
theorem zgw_app {kA : Nat → ClassId} {c1 c2 : List zCm} : zgw kA (c1 ++ c2) = zgw kA c1 ++ zgw kA c2 := by simp [zgw]
theorem zpl_l {α : Type} (a b : List α) : (List.range a.length).map (fun i => (a ++ b)[i]?) = a.map some := by
  apply List.ext_getElem?
  intro i
  by_cases h : i < a.length
  · simp [h, List.getElem?_append_left h]
  · rw [List.getElem?_eq_none (by simp; omega), List.getElem?_eq_none (by simp; omega)]
theorem zpl_r {α : Type} (a b : List α) : ((List.range b.length).map (fun i => a.length + i)).map (fun i => (a ++ b)[i]?) = b.map some := by
  apply List.ext_getElem?
  intro i
  by_cases h : i < b.length
  · simp [h]
  · rw [List.getElem?_eq_none (by simp; omega), List.getElem?_eq_none (by simp; omega)]
theorem znd_of {l : List Nat} (h : l.Nodup) : va_nd l = true := by
  induction l with
  | nil => rfl
  | cons a l ih =>
    rw [List.nodup_cons] at h
    simp [va_nd, h.1, ih h.2]
/-- behind a call: the callee's cells are new, the others as they were -/
theorem zjoin {A0 : Nat → Prop} {D : va_G} {cl : List vw_C} {wc wr w1 : va_W} {H H1 : Heap} (hP : va_P D cl (wc ++ wr) H) (hD : va_D A0 (wc ++ wr)) (hk : ∀ q : Nat, q < H.size → ¬ va_A wc H.size q → H1[q]? = H[q]?) (hF : ∀ q, va_A wc H.size q → A0 q) (hP1 : va_P D cl w1 H1) (hD1 : va_D (va_A wc H.size) w1) : va_P D cl (w1 ++ wr) H1 ∧ va_D A0 (w1 ++ wr) := by
  have h := va_join (wr := wr) (w1 := w1) hP hD (List.range wc.length) ((List.range wr.length).map (fun i => wc.length + i)) (zpl_l wc wr) (zpl_r wc wr) (znd_of (by
    rw [List.Nodup, List.pairwise_map]
    exact List.Pairwise.imp (fun h1 h2 => h1 (by omega)) List.nodup_range)) (by
      intro i hi hc
      simp at hi hc
      omega) hk hF hP1 hD1
  exact ⟨zP_perm List.perm_append_comm h.1, zD_perm List.perm_append_comm h.2⟩
theorem zfree {A0 : Nat → Prop} {wc wr : va_W} {H0 H : Heap} {locs : List Loc} (hD : va_D A0 (wc ++ wr)) (hS : va_S A0 H0 H locs) (hA : ∀ q, H0.size ≤ q → A0 q) : ∀ q, va_A wc H.size q → A0 q := va_free hD hS hA (List.range wc.length) (zpl_l wc wr)
theorem zrun {p : Program} {l : Launch} {e : Env} {R : Room} {s : State} {m : MethodId} {args : Array Value} {below : List Frame} {meth : Method} {c : Code} {H : Heap} {locs : List Loc} {Q : State → Prop} {pc : Nat} {ls : Array Slot} {st st0 : List Value} {a : Array Value} {A : Nat → Prop} {D : va_G} {kA : Nat → ClassId} {r : Option Value} {cc0 cc1 cr cs' : List zCm}
    (hr : va_Run p l e R s m args below meth c H locs 0 0 0 0 (F0 m pc ls st0) st (zQ D kA r cc1 (va_A (zgw kA cc0) H.size) a) (va_A (zgw kA cc0) H.size)) (h1 : va_P D zcl (zgw kA (cc0 ++ cr)) H) (h2 : va_D A (zgw kA (cc0 ++ cr))) (h3 : va_S A s.heap H locs) (hA : ∀ q, s.heap.size ≤ q → A q) (hp2 : (cc1 ++ cr).Perm cs')
    (kk : ∀ (H1 : Heap) (locs1 : List Loc), va_P D zcl (zgw kA cs') H1 → va_D A (zgw kA cs') → va_S A s.heap H1 locs1 → W p l e R s m args below meth c H1 locs1 0 0 Q (F0 m (pc + 3) ls (r.toList ++ st))) : W p l e R s m args below meth c H locs 0 0 Q (F0 m pc ls st0) := by
  rw [zgw_app] at h1 h2
  have hF := zfree h2 h3 hA
  intro T hT Xs
  obtain ⟨v, st₀, t, T', L, h0, X', hL, e1, e2, ⟨⟨hv, qP, qK, qD⟩, hz, hk⟩, stp⟩ := hr T hT Xs
  cases hv
  rw [h0] at hz hk
  rw [← e1] at qP hz
  have hk' : ∀ q : Nat, q < H.size → ¬ va_A (zgw kA cc0) H.size q → T'.heap[q]? = H[q]? := fun q g1 g2 => by rw [e1]; exact hk q g1 g2
  obtain ⟨j1, j2⟩ := zjoin h1 h2 hk' hF qP qD
  rw [← zgw_app] at j1 j2
  obtain ⟨t2, a1, b1⟩ := kk T'.heap (locs ++ L) (zP_perm (zgw_perm hp2) j1) (zD_perm (zgw_perm hp2) j2) ⟨Nat.le_trans h3.1 hz, fun q g1 g2 => by
      rw [hk' q (Nat.lt_of_lt_of_le g1 h3.1) (fun z => g2 (hF q z))]; exact h3.2.1 q g1 g2, fun q hq => by
      rcases List.mem_append.mp hq with h | h
      · exact h3.2.2 q h
      · exact hF _ (hL q h)⟩ T' rfl X'
  exact ⟨t2, stp t2 a1, b1⟩
def zYV (y : MethodName) (cc : ByteArray) (nL : Nat) (ret : Option FieldType) (n : Nat) : Prop := Cond.code y cc nL ret ∈ zTb ∧ Cond.initialized y.cls ∈ zTb ∧ (y.cls ≠ "java/lang/invoke/MethodHandle" ∧ y.cls ≠ "java/lang/invoke/VarHandle" ∧ (parseMethodDescriptor y.desc).map (fun d => d.parameters.length) = some n) ∧ Cond.instanceMethod y ∈ zTb ∧ Cond.selects y.cls y y ∈ zTb
def zYS (y : MethodName) (cc : ByteArray) (nL : Nat) (ret : Option FieldType) (n : Nat) : Prop := Cond.code y cc nL ret ∈ zTb ∧ Cond.initialized y.cls ∈ zTb ∧ (y.cls ≠ "java/lang/invoke/MethodHandle" ∧ y.cls ≠ "java/lang/invoke/VarHandle" ∧ (parseMethodDescriptor y.desc).map (fun d => d.parameters.length) = some n) ∧ Cond.static y ∈ zTb
theorem zB_blind {D : va_G} {kA : Nat → ClassId} {sz : Nat} {cs : List zCm} {As : List Value} : FrameBlind (va_Pc As (zB D kA sz cs)) := fun a U g mk q => by
  obtain ⟨q0, q1, qP, qK, qD, qN⟩ := q
  exact ⟨q0, q1, qP, va_K.moved (u := U) (U := U.calling g mk a) (Vm.Alike.refl U.vm) qK, qD, qN.same rfl⟩
section ZC
variable {α β : Type} {X : zCx} {own : String} {cc cc' : ByteArray} {nL nL' rf rl rf' rl' n ix : Nat} {res : β} {kf : α → Option β} {pc : Nat} {lv : List (Nat × Value)} {stk : List Value} {cs : List zCm} {y : MethodName} {ret : Option FieldType} {c' : Nat} {q' : Nat → Nat} {σ' : zOS} {host : String}
/-- a call of an instance's method that answers something -/
theorem z_callV (ga : Option α) (As st : List Value) (cc0 : List zCm) (rv : α → Option Value) (cc1 : α → List zCm) (cr : List zCm) (cs' : α → List zCm) (C : zC X own cc nL rf rl) (hd : decode cc pc = .ok (.invokevirtual ix, 3)) (hY : zYV y cc' nL' ret n) (hl : Cond.methodLink own ix y ∈ zTb)
    (hM : ∀ a, ga = some a → zM y cc' nL' ret rf' rl' (.ref (q' 0) :: As) cc0 (rv a) (cc1 a)) (hrm : rf' + 1 ≤ rf ∧ 8 + (nL' + 11) + rl' ≤ rl) (hn : As.length = n) (hr0 : cc0[0]? = some (c', q', σ')) (h6 : c' < 6) (hcl : zRn c' = y.cls) (hst : (st.map fun v => v.category).sum ≤ 8) (hp1 : cs.Perm (cc0 ++ cr)) (hp2 : ∀ a, (cc1 a ++ cr).Perm (cs' a)) (hsk : stk = As.reverse ++ .ref (q' 0) :: st)
    (k : ∀ a, ga = some a → zJ X nL res (kf a) (pc + 3) lv ((rv a).toList ++ st) (cs' a)) : zJ X nL res (ga.bind kf) pc lv stk cs := by
  obtain ⟨p, l, ee, R, s, m, args, below, meth, cd, D, kA, A, Q⟩ := X
  obtain ⟨hx, hb, hml, hown, hts, hK, hA, hlk, hR, hNw⟩ := C
  intro he H locs ls h1 h2 h3 h4
  cases hg : ga with
  | none => rw [hg] at he; cases he
  | some a =>
    rw [hg] at he
    subst hsk
    have g1 := zP_perm (zgw_perm (kA := kA) hp1) h1
    have g2 := zD_perm (zgw_perm (kA := kA) hp1) h2
    have g1c : va_P D zcl (zgw kA cc0) H := fun k q hk => g1 k q (by rw [zgw_app, List.getElem?_append_left (List.getElem?_eq_some_iff.mp hk).1]; exact hk)
    have g2c : va_D (fun _ => True) (zgw kA cc0) := by
      rw [zgw_app, zD_iff] at g2
      rw [zD_iff]
      refine ⟨?_, fun _ _ => trivial⟩
      rw [List.map_append, List.nodup_append] at g2
      exact g2.1.1
    obtain ⟨pos, hp, -⟩ := zgw_at (kA := kA) hr0 (k := 0) (Nat.zero_le _)
    rw [zce_0] at hp
    obtain ⟨w1, w2, w3, w4, w5⟩ := hY
    have hRf : rf' + 1 ≤ R.frames ∧ 8 + (nL' + 11) + rl' ≤ R.locals := by rw [hR]; exact hrm
    refine zrun (cr := cr) (va_runV (As := As) (rest := st) (C := y.cls) (b := q' 0) (n := n) ⟨hx, hb, hml, hown, hts⟩ (hM a hg l D kA H.size) ⟨callB_of n hts (zk_gi w1) rfl rfl rfl (hts _ w2) (hts _ hl) w3 hRf, hts _ w4, hts _ w5⟩ ⟨zB_blind, ?_, fun U hU hW => ⟨rfl, by rw [hU], by rw [hU]; exact g1c, va_K.moved hW.alike hK, g2c, hNw.warm hW⟩⟩ rfl hn h4.1 rfl (lv_room hst) hd ⟨Nat.zero_le _, Nat.zero_le _⟩) g1 g2 h3 hA (hp2 a) (fun H1 locs1 k1 k2 k3 => k a hg he H1 locs1 ls k1 k2 k3 h4)
    obtain ⟨cell, r1, r2, r3⟩ := va_recv hK g1c (zcl_at h6) hp
    exact ⟨cell, r1, r2, by rw [← hcl]; exact r3⟩
theorem z_callS (ga : Option α) (As st : List Value) (cc0 : List zCm) (rv : α → Option Value) (cc1 : α → List zCm) (cr : List zCm) (cs' : α → List zCm) (C : zC X own cc nL rf rl) (hd : decode cc pc = .ok (.invokestatic ix, 3)) (hY : zYS y cc' nL' ret n) (hl : Cond.methodLink own ix y ∈ zTb)
    (hM : ∀ a, ga = some a → zM y cc' nL' ret rf' rl' As cc0 (rv a) (cc1 a)) (hrm : rf' + 1 ≤ rf ∧ 8 + (nL' + 11) + rl' ≤ rl) (hn : As.length = n) (hst : (st.map fun v => v.category).sum ≤ 8) (hp1 : cs.Perm (cc0 ++ cr)) (hp2 : ∀ a, (cc1 a ++ cr).Perm (cs' a)) (hsk : stk = As.reverse ++ st)
    (k : ∀ a, ga = some a → zJ X nL res (kf a) (pc + 3) lv ((rv a).toList ++ st) (cs' a)) : zJ X nL res (ga.bind kf) pc lv stk cs := by
  obtain ⟨p, l, ee, R, s, m, args, below, meth, cd, D, kA, A, Q⟩ := X
  obtain ⟨hx, hb, hml, hown, hts, hK, hA, hlk, hR, hNw⟩ := C
  intro he H locs ls h1 h2 h3 h4
  cases hg : ga with
  | none => rw [hg] at he; cases he
  | some a =>
    rw [hg] at he
    subst hsk
    have g1 := zP_perm (zgw_perm (kA := kA) hp1) h1
    have g2 := zD_perm (zgw_perm (kA := kA) hp1) h2
    have g1c : va_P D zcl (zgw kA cc0) H := fun k q hk => g1 k q (by rw [zgw_app, List.getElem?_append_left (List.getElem?_eq_some_iff.mp hk).1]; exact hk)
    have g2c : va_D (fun _ => True) (zgw kA cc0) := by
      rw [zgw_app, zD_iff] at g2
      rw [zD_iff]
      refine ⟨?_, fun _ _ => trivial⟩
      rw [List.map_append, List.nodup_append] at g2
      exact g2.1.1
    obtain ⟨w1, w2, w3, w4⟩ := hY
    have hRf : rf' + 1 ≤ R.frames ∧ 8 + (nL' + 11) + rl' ≤ R.locals := by rw [hR]; exact hrm
    exact zrun (cr := cr) (va_runS (As := As) (rest := st) (n := n) ⟨hx, hb, hml, hown, hts⟩ (hM a hg l D kA H.size) ⟨callB_of n hts (zk_gi w1) rfl rfl rfl (hts _ w2) (hts _ hl) w3 hRf, hts _ w4⟩ ⟨zB_blind, fun U hU hW => ⟨rfl, by rw [hU], by rw [hU]; exact g1c, va_K.moved hW.alike hK, g2c, hNw.warm hW⟩⟩ rfl hn h4.1 rfl (lv_room hst) hd ⟨Nat.zero_le _, Nat.zero_le _⟩) g1 g2 h3 hA (hp2 a) (fun H1 locs1 k1 k2 k3 => k a hg he H1 locs1 ls k1 k2 k3 h4)
/-- a call of a private static method of the nest's host, that touches no component -/
theorem z_callN (ga : Option α) (As st : List Value) (rv : α → Option Value) (C : zC X own cc nL rf rl) (hd : decode cc pc = .ok (.invokestatic ix, 3)) (hY : zYS y cc' nL' ret n) (hl : ∀ U, zNw U → va_Nw (.methodLinkNest own ix y host) U)
    (hM : ∀ a, ga = some a → zM y cc' nL' ret rf' rl' As [] (rv a) []) (hrm : rf' + 1 ≤ rf ∧ 8 + (nL' + 11) + rl' ≤ rl) (hn : As.length = n) (hst : (st.map fun v => v.category).sum ≤ 8) (hsk : stk = As.reverse ++ st)
    (k : ∀ a, ga = some a → zJ X nL res (kf a) (pc + 3) lv ((rv a).toList ++ st) cs) : zJ X nL res (ga.bind kf) pc lv stk cs := by
  obtain ⟨p, l, ee, R, s, m, args, below, meth, cd, D, kA, A, Q⟩ := X
  obtain ⟨hx, hb, hml, hown, hts, hK, hA, hlk, hR, hNw⟩ := C
  intro he H locs ls h1 h2 h3 h4
  cases hg : ga with
  | none => rw [hg] at he; cases he
  | some a =>
    rw [hg] at he
    subst hsk
    obtain ⟨w1, w2, w3, w4⟩ := hY
    have hRf : rf' + 1 ≤ R.frames ∧ 8 + (nL' + 11) + rl' ≤ R.locals := by rw [hR]; exact hrm
    exact zrun (cc0 := []) (cc1 := []) (cr := cs) (va_runSN (As := As) (rest := st) (n := n) ⟨hx, hb, hml, hown, hts⟩ (hM a hg l D kA H.size) ⟨va_cnB n hts (zk_gi w1) rfl rfl rfl (hl s hNw) (hts _ w2) w3 hRf, hts _ w4, trivial⟩ ⟨zB_blind, fun U hU hW => ⟨rfl, by rw [hU], fun k q hk => by simp [zgw] at hk, va_K.moved hW.alike hK, by rw [zD_iff]; simp [zgw], hNw.warm hW⟩⟩ rfl hn h4.1 rfl (lv_room hst) hd ⟨Nat.zero_le _, Nat.zero_le _⟩) h1 h2 h3 hA (List.Perm.refl _) (fun H1 locs1 k1 k2 k3 => k a hg he H1 locs1 ls k1 k2 k3 h4)
theorem z_copyi (i0 i1 : Nat) {a0 a1 n0 n1 c0 c1 : Nat} {q0 q1 : Nat → Nat} {σ0 σ1 : zOS} {sp dp n : Int32} {st : List Value} {e : Option β} (C : zC X own cc nL rf rl) (hd : decode cc pc = .ok (.invokestatic ix, 3)) (hw : Cond.methodLink own ix arraycopyName ∈ zTb) (hnat : Cond.native arraycopyName ∈ zTb) (hstat : Cond.static arraycopyName ∈ zTb) (hini : Cond.initialized "java/lang/System" ∈ zTb)
    (hc0 : cs[i0]? = some (c0, q0, σ0)) (hc1 : cs[i1]? = some (c1, q1, σ1)) (ha0 : zAr c0 a0 0 n0) (ha1 : zAr c1 a1 0 n1) (h1 : ¬ sp < 0) (h2 : ¬ dp < 0) (h3 : ¬ n < 0) (h4 : sp.toNatClampNeg + n.toNatClampNeg ≤ n0) (h5 : dp.toNatClampNeg + n.toNatClampNeg ≤ n1) (hrf : 1 ≤ rf) (hrl : (st.map fun v => v.category).sum + 18 ≤ rl)
    (cs' : List zCm) (hcs : cs.set i1 (c1, q1, zsI σ1 a1 (va_cpy (zI σ0 a0) (zI σ1 a1) sp.toNatClampNeg dp.toNatClampNeg n.toNatClampNeg)) = cs') (k : zJ X nL res e (pc + 3) lv st cs') : zJ X nL res e pc lv (.int n :: .int dp :: .ref (q1 a1) :: .int sp :: .ref (q0 a0) :: st) cs := by
  obtain ⟨p, l, ee, R, s, m, args, below, meth, cd, D, kA, A, Q⟩ := X
  obtain ⟨hx, hb, hml, hown, hts, hK, hA, hlk, hR, hNw⟩ := C
  intro he H locs ls g1 g2 g3 g4
  obtain ⟨p0, hp0, -⟩ := zgw_at (kA := kA) hc0 (k := a0) ha0.1.2
  obtain ⟨p1, hp1, hset⟩ := zgw_at (kA := kA) hc1 (k := a1) ha1.1.2
  have h9 := hset q1 (zsI σ1 a1 (va_cpy (zI σ0 a0) (zI σ1 a1) sp.toNatClampNeg dp.toNatClampNeg n.toNatClampNeg)) (fun _ _ => rfl) (fun j _ hj => zce_sI hj)
  rw [zce_i ha0] at hp0
  rw [zce_i ha1] at hp1 h9
  rw [zI_e, hcs] at h9
  refine va_copyi (ty := .int) hx hb (by rw [hml, g4.1]) hown (hts _ hw) (hts _ hnat) (hts _ hstat) (hts _ hini) hK g1 g2 g3 p0 p1 0 0 hp0 hp1 rfl rfl rfl h1 h2 h3 h4 h5 (fun _ _ => rfl) (by rw [hR]; exact hrf) (by rw [hR]; exact hrl) hd (fun H1 locs1 k1 k2 k3 => ?_)
  rw [h9] at k1 k2
  exact k he H1 locs1 ls k1 k2 k3 g4
theorem z_copyl (i0 i1 : Nat) {a0 a1 n0 n1 c0 c1 : Nat} {q0 q1 : Nat → Nat} {σ0 σ1 : zOS} {sp dp n : Int32} {st : List Value} {e : Option β} (C : zC X own cc nL rf rl) (hd : decode cc pc = .ok (.invokestatic ix, 3)) (hw : Cond.methodLink own ix arraycopyName ∈ zTb) (hnat : Cond.native arraycopyName ∈ zTb) (hstat : Cond.static arraycopyName ∈ zTb) (hini : Cond.initialized "java/lang/System" ∈ zTb)
    (hc0 : cs[i0]? = some (c0, q0, σ0)) (hc1 : cs[i1]? = some (c1, q1, σ1)) (ha0 : zAr c0 a0 1 n0) (ha1 : zAr c1 a1 1 n1) (h1 : ¬ sp < 0) (h2 : ¬ dp < 0) (h3 : ¬ n < 0) (h4 : sp.toNatClampNeg + n.toNatClampNeg ≤ n0) (h5 : dp.toNatClampNeg + n.toNatClampNeg ≤ n1) (hrf : 1 ≤ rf) (hrl : (st.map fun v => v.category).sum + 18 ≤ rl)
    (cs' : List zCm) (hcs : cs.set i1 (c1, q1, zsL σ1 a1 (va_cpy (zL σ0 a0) (zL σ1 a1) sp.toNatClampNeg dp.toNatClampNeg n.toNatClampNeg)) = cs') (k : zJ X nL res e (pc + 3) lv st cs') : zJ X nL res e pc lv (.int n :: .int dp :: .ref (q1 a1) :: .int sp :: .ref (q0 a0) :: st) cs := by
  obtain ⟨p, l, ee, R, s, m, args, below, meth, cd, D, kA, A, Q⟩ := X
  obtain ⟨hx, hb, hml, hown, hts, hK, hA, hlk, hR, hNw⟩ := C
  intro he H locs ls g1 g2 g3 g4
  obtain ⟨p0, hp0, -⟩ := zgw_at (kA := kA) hc0 (k := a0) ha0.1.2
  obtain ⟨p1, hp1, hset⟩ := zgw_at (kA := kA) hc1 (k := a1) ha1.1.2
  have h9 := hset q1 (zsL σ1 a1 (va_cpy (zL σ0 a0) (zL σ1 a1) sp.toNatClampNeg dp.toNatClampNeg n.toNatClampNeg)) (fun _ _ => rfl) (fun j _ hj => zce_sL hj)
  rw [zce_l ha0] at hp0
  rw [zce_l ha1] at hp1 h9
  rw [zL_e, hcs] at h9
  refine va_copyl (ty := .long) hx hb (by rw [hml, g4.1]) hown (hts _ hw) (hts _ hnat) (hts _ hstat) (hts _ hini) hK g1 g2 g3 p0 p1 1 1 hp0 hp1 rfl rfl rfl h1 h2 h3 h4 h5 (fun _ _ => rfl) (by rw [hR]; exact hrf) (by rw [hR]; exact hrl) hd (fun H1 locs1 k1 k2 k3 => ?_)
  rw [h9] at k1 k2
  exact k he H1 locs1 ls k1 k2 k3 g4
end ZC
end
section
/-! names for values, loops, switches, and other rows that a program's text needs -/
def zlet {α β : Type} (v : α) (f : α → Option β) : Option β := f v
def zit {P R : Type} (B : (P → Option R) → P → Option R) : Nat → P → Option R
  | 0, _ => none
  | F + 1, p => B (zit B F) p
section ZL
variable {α β : Type} {X : zCx} {own : String} {cc : ByteArray} {nL rf rl : Nat} {res : β} {e e1 e2 : Option β} {pc : Nat} {lv : List (Nat × Value)} {st : List Value} {cs : List zCm}
theorem z_lv (lv' : List (Nat × Value)) (ks : List Nat) (hl : lv_pick lv ks = lv') (k : zJ X nL res e pc lv' st cs) : zJ X nL res e pc lv st cs := by
  obtain ⟨p, l, ee, R, s, m, args, below, meth, c, D, kA, A, Q⟩ := X
  intro he H locs ls h1 h2 h3 h4
  exact k he H locs ls h1 h2 h3 (lv_sub h4 ks hl)
theorem z_leti {v : Int32} {f : Int32 → Option β} (k : ∀ x : Int32, zJ X nL res (f x) pc lv (.int x :: st) cs) : zJ X nL res (zlet v f) pc lv (.int v :: st) cs := k v
theorem z_letl {v : Int64} {f : Int64 → Option β} (k : ∀ x : Int64, zJ X nL res (f x) pc lv (.long x :: st) cs) : zJ X nL res (zlet v f) pc lv (.long v :: st) cs := k v
theorem z_letc {v : zOS} {f : zOS → Option β} (csf : zOS → List zCm) (k : ∀ x : zOS, zJ X nL res (f x) pc lv st (csf x)) : zJ X nL res (zlet v f) pc lv st (csf v) := k v
theorem zit_J {P : Type} {B : (P → Option β) → P → Option β} (lvf : P → List (Nat × Value)) (csf : P → List zCm) (hB : ∀ kc : P → Option β, (∀ p, zJ X nL res (kc p) pc (lvf p) [] (csf p)) → ∀ p, zJ X nL res (B kc p) pc (lvf p) [] (csf p)) : ∀ (F : Nat) (p : P), zJ X nL res (zit B F p) pc (lvf p) [] (csf p)
  | 0, p => zJ_none
  | F + 1, p => hB (zit B F) (zit_J lvf csf hB F) p
theorem z_if {cnd : Prop} [Decidable cnd] (kt : cnd → zJ X nL res e1 pc lv st cs) (kf : ¬ cnd → zJ X nL res e2 pc lv st cs) : zJ X nL res (if cnd then e1 else e2) pc lv st cs := by
  intro he
  by_cases h : cnd
  · rw [if_pos h] at he; exact kt h he
  · rw [if_neg h] at he; exact kf h he
theorem z_tin {dflt lo hi : Int} {offs : Array Int} {len : Nat} {x : Int32} {off : Int} (v : Int32) (tgt : Nat) (hxv : x = v) (C : zC X own cc nL rf rl) (hd : decode cc pc = .ok (.tableswitch dflt lo hi offs, len)) (h1 : ¬ v.toInt < lo) (h2 : ¬ hi < v.toInt) (ho : offs[(v.toInt - lo).toNat]? = some off) (ht : (pc : Int) + off = (tgt : Int))
    (k : zJ X nL res e tgt lv st cs) : zJ X nL res e pc lv (.int x :: st) cs := by
  subst hxv
  obtain ⟨p, l, ee, R, s, m, args, below, meth, c, D, kA, A, Q⟩ := X
  obtain ⟨hx, hb, hml, hown, hts, hK, hA, hlk, hR⟩ := C
  intro he H locs ls g1 g2 g3 g4
  exact lv_tableIn hx hb hd h1 h2 ho ht (k he H locs ls g1 g2 g3 g4)
theorem z_tdef {dflt lo hi : Int} {offs : Array Int} {len : Nat} {x : Int32} (vs : List Int32) (tgt : Nat) (hne : ∀ v ∈ vs, ¬ x = v) (C : zC X own cc nL rf rl) (hd : decode cc pc = .ok (.tableswitch dflt lo hi offs, len)) (hall : ∀ k, k < (hi - lo + 1).toNat → offs[k]? = some dflt ∨ Int32.ofInt (lo + k) ∈ vs) (ht : (pc : Int) + dflt = (tgt : Int))
    (k : zJ X nL res e tgt lv st cs) : zJ X nL res e pc lv (.int x :: st) cs := by
  obtain ⟨p, l, ee, R, s, m, args, below, meth, c, D, kA, A, Q⟩ := X
  obtain ⟨hx, hb, hml, hown, hts, hK, hA, hlk, hR⟩ := C
  intro he H locs ls g1 g2 g3 g4
  by_cases h : x.toInt < lo ∨ hi < x.toInt
  · exact lv_tableOut hx hb hd h ht (k he H locs ls g1 g2 g3 g4)
  · have h1 : ¬ x.toInt < lo := fun z => h (Or.inl z)
    have h2 : ¬ hi < x.toInt := fun z => h (Or.inr z)
    rcases hall (x.toInt - lo).toNat (by omega) with h3 | h3
    · exact lv_tableIn hx hb hd h1 h2 h3 ht (k he H locs ls g1 g2 g3 g4)
    · exfalso
      have h4 : lo + ((x.toInt - lo).toNat : Int) = x.toInt := by omega
      rw [h4, Int32.ofInt_toInt] at h3
      exact hne x h3 rfl
theorem z_lin {dflt : Int} {ps : Array (Int × Int)} {len : Nat} {x : Int32} {off : Int} (v : Int32) (tgt : Nat) (hxv : x = v) (C : zC X own cc nL rf rl) (hd : decode cc pc = .ok (.lookupswitch dflt ps, len)) (hp : (ps.toList.zip (ps.toList.drop 1)).all (fun (a, next) => a.1 < next.1) = true) (ho : Op.lookupswitch.offset ps.toList dflt v.toInt = off) (ht : (pc : Int) + off = (tgt : Int))
    (k : zJ X nL res e tgt lv st cs) : zJ X nL res e pc lv (.int x :: st) cs := by
  subst hxv
  obtain ⟨p, l, ee, R, s, m, args, below, meth, c, D, kA, A, Q⟩ := X
  obtain ⟨hx, hb, hml, hown, hts, hK, hA, hlk, hR⟩ := C
  intro he H locs ls g1 g2 g3 g4
  exact lv_lookup hx hb hd hp ho ht (k he H locs ls g1 g2 g3 g4)
theorem z_min {x y : Int32} {ix : Nat} (C : zC X own cc nL rf rl) (hd : decode cc pc = .ok (.invokestatic ix, 3)) (hl : Cond.methodLink own ix Lib.Math.min.name ∈ zTb) (hs : Cond.static Lib.Math.min.name ∈ zTb) (hi : Cond.initialized "java/lang/Math" ∈ zTb) (hc : Cond.code Lib.Math.min.name Lib.Math.min.code 2 (some .int) ∈ zTb) (hrf : 1 ≤ rf) (hrl : (st.map fun v => v.category).sum + 13 ≤ rl)
    (k : zJ X nL res e (pc + 3) lv (.int (if y < x then y else x) :: st) cs) : zJ X nL res e pc lv (.int y :: .int x :: st) cs := by
  obtain ⟨p, l, ee, R, s, m, args, below, meth, c, D, kA, A, Q⟩ := X
  obtain ⟨hx, hb, hml, hown, hts, hK, hA, hlk, hR, hNw⟩ := C
  intro he H locs ls h1 h2 h3 h4
  exact va_mmin hx hb (by rw [hml, h4.1]) hown (hts _ hl) (hts _ hs) (hts _ hi) (hts _ hc) (by rw [hR]; exact hrf) (by rw [hR]; exact hrl) (Nat.zero_le _) (Nat.zero_le _) hd (k he H locs ls h1 h2 h3 h4)
theorem z_max {x y : Int32} {ix : Nat} (C : zC X own cc nL rf rl) (hd : decode cc pc = .ok (.invokestatic ix, 3)) (hl : Cond.methodLink own ix Lib.Math.max.name ∈ zTb) (hs : Cond.static Lib.Math.max.name ∈ zTb) (hi : Cond.initialized "java/lang/Math" ∈ zTb) (hc : Cond.code Lib.Math.max.name Lib.Math.max.code 2 (some .int) ∈ zTb) (hrf : 1 ≤ rf) (hrl : (st.map fun v => v.category).sum + 13 ≤ rl)
    (k : zJ X nL res e (pc + 3) lv (.int (if x < y then y else x) :: st) cs) : zJ X nL res e pc lv (.int y :: .int x :: st) cs := by
  obtain ⟨p, l, ee, R, s, m, args, below, meth, c, D, kA, A, Q⟩ := X
  obtain ⟨hx, hb, hml, hown, hts, hK, hA, hlk, hR, hNw⟩ := C
  intro he H locs ls h1 h2 h3 h4
  exact va_mmax hx hb (by rw [hml, h4.1]) hown (hts _ hl) (hts _ hs) (hts _ hi) (hts _ hc) (by rw [hR]; exact hrf) (by rw [hR]; exact hrl) (Nat.zero_le _) (Nat.zero_le _) hd (k he H locs ls h1 h2 h3 h4)
theorem z_getE {q : Nat → Nat} {σ : zOS} {c ix : Nat} (i f n a : Nat) (hq : q n = a) (C : zC X own cc nL rf rl) (hd : decode cc pc = .ok (.getfield ix, 3)) (hc : cs[i]? = some (c, q, σ)) (h6 : c < 6) (hf : f < znF c) (hk : zfk c f = n + 2) (hw : Cond.fieldLink own ix (zTn c f).1 (zTn c f).2.1 (zTn c f).2.2.1 ∈ zTb)
    (k : zJ X nL res e (pc + 3) lv (.ref a :: st) cs) : zJ X nL res e pc lv (.ref (q 0) :: st) cs := by
  subst hq
  exact z_getR i f n C hd hc h6 hf hk hw k
theorem z_aal {q : Nat → Nat} {σ : zOS} {c : Nat} (i : Nat) {a kd n : Nat} {j : Int32} (C : zC X own cc nL rf rl) (hd : decode cc pc = .ok (.aaload, 1)) (hc : cs[i]? = some (c, q, σ)) (ha : zAr c a kd n) (hkd : kd = 3 ∨ kd = 4 ∨ kd = 5)
    (k : vp_in j n → zJ X nL res e (pc + 1) lv (.ref (q (zbs c + j.toNatClampNeg)) :: st) cs) : zJ X nL res (zchk j n e) pc lv (.int j :: .ref (q a) :: st) cs := fun he => z_aald i C hd hc ha hkd (k (zchk_some he).2) he
end ZL
theorem zAr_w {j : Int32} (h : vp_in j 3) : zAr 0 (zbs 0 + j.toNatClampNeg) 1 96 := by
  have hlt : j.toNatClampNeg < 3 := Nat.not_le.mp fun q => h (Or.inr q)
  match hj : j.toNatClampNeg, hlt with
  | 0, _ => unfold zAr; decide
  | 1, _ => unfold zAr; decide
  | 2, _ => unfold zAr; decide
theorem zAr_n {j : Int32} (h : vp_in j 13) : zAr 1 (zbs 1 + j.toNatClampNeg) 0 10 := by
  have hlt : j.toNatClampNeg < 13 := Nat.not_le.mp fun q => h (Or.inr q)
  generalize j.toNatClampNeg = n at hlt
  have hall : ∀ n, n < 13 → ((0 < zbs 1 + n ∧ zbs 1 + n ≤ znA 1) ∧ zak 1 (zbs 1 + n) = 0 ∧ zln 1 (zbs 1 + n) = 10) := by decide
  exact hall n hlt
theorem z_pm {α : Type} (cs : List α) (is : List Nat) (h : is.Perm (List.range cs.length)) : (is.filterMap (fun i => cs[i]?)).Perm cs := by
  have h1 := h.filterMap (fun i => cs[i]?)
  have h2 : (List.range cs.length).filterMap (fun i => cs[i]?) = cs := by
    have h3 := zpl_l cs []
    rw [List.append_nil] at h3
    rw [show (fun i => cs[i]?) = (id ∘ fun i => cs[i]?) from rfl, ← List.filterMap_map, h3, List.filterMap_map]
    exact List.filterMap_some
  rw [h2] at h1
  exact h1
end
section
theorem zw_77 : (Jvm.Cond.initialized "DrawnGates") ∈ zTb := zk_in 77 (by decide +kernel) (by decide +kernel)
theorem zw_79 : (Jvm.Cond.initialized "DrawnGates$Layout") ∈ zTb := zk_in 79 (by decide +kernel) (by decide +kernel)
theorem zw_81 : (Jvm.Cond.initialized "DrawnGates$Text") ∈ zTb := zk_in 81 (by decide +kernel) (by decide +kernel)
theorem zw_88 : (Jvm.Cond.initialized "java/lang/Integer") ∈ zTb := zk_in 88 (by decide +kernel) (by decide +kernel)
theorem zw_301 : (Jvm.Cond.static ({ cls := "DrawnGates", name := "isWithin", desc := "(II)Z" } : Jvm.MethodName)) ∈ zTb := zk_in 301 (by decide +kernel) (by decide +kernel)
theorem zw_302 : (Jvm.Cond.code ({ cls := "DrawnGates", name := "isWithin", desc := "(II)Z" } : Jvm.MethodName) prog_1_method_32_code (2 : Nat) (Option.some Jvm.ClassFile.FieldType.boolean)) ∈ zTb := zk_in 302 (by decide +kernel) (by decide +kernel)
theorem zw_307 : (Jvm.Cond.static ({ cls := "DrawnGates", name := "isCell", desc := "(II)Z" } : Jvm.MethodName)) ∈ zTb := zk_in 307 (by decide +kernel) (by decide +kernel)
theorem zw_308 : (Jvm.Cond.code ({ cls := "DrawnGates", name := "isCell", desc := "(II)Z" } : Jvm.MethodName) prog_1_method_33_code (2 : Nat) (Option.some Jvm.ClassFile.FieldType.boolean)) ∈ zTb := zk_in 308 (by decide +kernel) (by decide +kernel)
theorem zw_309 : (Jvm.Cond.methodLink "DrawnGates" (87 : Nat) ({ cls := "DrawnGates", name := "isWithin", desc := "(II)Z" } : Jvm.MethodName)) ∈ zTb := zk_in 309 (by decide +kernel) (by decide +kernel)
theorem zw_317 : (Jvm.Cond.constantLong "java/lang/Long" (314 : Nat) (6148914691236517205 : Int64)) ∈ zTb := zk_in 317 (by decide +kernel) (by decide +kernel)
theorem zw_318 : (Jvm.Cond.constantLong "java/lang/Long" (316 : Nat) (3689348814741910323 : Int64)) ∈ zTb := zk_in 318 (by decide +kernel) (by decide +kernel)
theorem zw_319 : (Jvm.Cond.constantLong "java/lang/Long" (318 : Nat) (1085102592571150095 : Int64)) ∈ zTb := zk_in 319 (by decide +kernel) (by decide +kernel)
theorem zw_420 : (Jvm.Cond.methodLink "DrawnGates$Layout" (166 : Nat) ({ cls := "DrawnGates$Layout", name := "besideOf", desc := "(J)J" } : Jvm.MethodName)) ∈ zTb := zk_in 420 (by decide +kernel) (by decide +kernel)
theorem zw_421 : (Jvm.Cond.static ({ cls := "DrawnGates$Layout", name := "besideOf", desc := "(J)J" } : Jvm.MethodName)) ∈ zTb := zk_in 421 (by decide +kernel) (by decide +kernel)
theorem zw_422 : (Jvm.Cond.code ({ cls := "DrawnGates$Layout", name := "besideOf", desc := "(J)J" } : Jvm.MethodName) prog_2_method_26_code (6 : Nat) (Option.some Jvm.ClassFile.FieldType.long)) ∈ zTb := zk_in 422 (by decide +kernel) (by decide +kernel)
theorem zw_423 : (Jvm.Cond.constantLong "DrawnGates$Layout" (182 : Nat) (9187201950435737471 : Int64)) ∈ zTb := zk_in 423 (by decide +kernel) (by decide +kernel)
theorem zw_424 : (Jvm.Cond.constantLong "DrawnGates$Layout" (184 : Nat) (-72340172838076674 : Int64)) ∈ zTb := zk_in 424 (by decide +kernel) (by decide +kernel)
theorem zw_598 : (Jvm.Cond.methodLink "java/lang/Long" (311 : Nat) ({ cls := "java/lang/Integer", name := "numberOfTrailingZeros", desc := "(I)I" } : Jvm.MethodName)) ∈ zTb := zk_in 598 (by decide +kernel) (by decide +kernel)
theorem zw_599 : (Jvm.Cond.static ({ cls := "java/lang/Integer", name := "numberOfTrailingZeros", desc := "(I)I" } : Jvm.MethodName)) ∈ zTb := zk_in 599 (by decide +kernel) (by decide +kernel)
theorem zw_600 : (Jvm.Cond.code ({ cls := "java/lang/Integer", name := "numberOfTrailingZeros", desc := "(I)I" } : Jvm.MethodName) prog_8_method_48_code (2 : Nat) (Option.some Jvm.ClassFile.FieldType.int)) ∈ zTb := zk_in 600 (by decide +kernel) (by decide +kernel)
theorem zw_601 : (Jvm.Cond.constant "java/lang/Integer" (264 : Nat) (65536 : Int32)) ∈ zTb := zk_in 601 (by decide +kernel) (by decide +kernel)
theorem zw_660 : (Jvm.Cond.methodLink "DrawnGates$Text" (27 : Nat) ({ cls := "DrawnGates$Text", name := "figuresOf", desc := "(I)I" } : Jvm.MethodName)) ∈ zTb := zk_in 660 (by decide +kernel) (by decide +kernel)
theorem zw_661 : (Jvm.Cond.static ({ cls := "DrawnGates$Text", name := "figuresOf", desc := "(I)I" } : Jvm.MethodName)) ∈ zTb := zk_in 661 (by decide +kernel) (by decide +kernel)
theorem zw_662 : (Jvm.Cond.code ({ cls := "DrawnGates$Text", name := "figuresOf", desc := "(I)I" } : Jvm.MethodName) prog_5_method_7_code (1 : Nat) (Option.some Jvm.ClassFile.FieldType.int)) ∈ zTb := zk_in 662 (by decide +kernel) (by decide +kernel)
theorem zy_J6_numberOfTrailingZeros_0f7a4 : zYS yJ6_numberOfTrailingZeros_0f7a4 cJ6_numberOfTrailingZeros_0f7a4 2 (some .int) 1 := ⟨zw_600, zw_88, by decide +kernel, zw_599⟩
theorem zy_X0_besideOf : zYS yX0_besideOf cX0_besideOf 6 (some .long) 1 := ⟨zw_422, zw_79, by decide +kernel, zw_421⟩
theorem zy_X3_figuresOf : zYS yX3_figuresOf cX3_figuresOf 1 (some .int) 1 := ⟨zw_662, zw_81, by decide +kernel, zw_661⟩
theorem zy_X4_isCell : zYS yX4_isCell cX4_isCell 2 (some .boolean) 2 := ⟨zw_308, zw_77, by decide +kernel, zw_307⟩
theorem zy_X4_isWithin : zYS yX4_isWithin cX4_isWithin 2 (some .boolean) 2 := ⟨zw_302, zw_77, by decide +kernel, zw_301⟩
end
section
theorem dX4_isWithin_0 : decode cX4_isWithin 0 = .ok (.iload_n 0, 1) := by decide +kernel
theorem dX4_isWithin_1 : decode cX4_isWithin 1 = .ok (.ifCond .lt 12, 3) := by decide +kernel
theorem dX4_isWithin_4 : decode cX4_isWithin 4 = .ok (.iload_n 0, 1) := by decide +kernel
theorem dX4_isWithin_5 : decode cX4_isWithin 5 = .ok (.iload_n 1, 1) := by decide +kernel
theorem dX4_isWithin_6 : decode cX4_isWithin 6 = .ok (.if_icmp .ge 7, 3) := by decide +kernel
theorem dX4_isWithin_9 : decode cX4_isWithin 9 = .ok (.iconst 1, 1) := by decide +kernel
theorem dX4_isWithin_10 : decode cX4_isWithin 10 = .ok (.goto 4, 3) := by decide +kernel
theorem dX4_isWithin_13 : decode cX4_isWithin 13 = .ok (.iconst 0, 1) := by decide +kernel
theorem dX4_isWithin_14 : decode cX4_isWithin 14 = .ok (.ireturn, 1) := by decide +kernel
def fX4_isWithin (x0 : Int32) (x1 : Int32) : Option (Int32) := (if x0 < 0 then (zbk (0 : Int32) (some ((0 : Int32)))) else (if x1 ≤ x0 then (zbk (0 : Int32) (some ((0 : Int32)))) else (zbk (1 : Int32) (some ((1 : Int32))))))
set_option maxRecDepth 20000 in
theorem wX4_isWithin {X : zCx} {res : Int32}   {x0 : Int32} {x1 : Int32} (C : zC X RX4 cX4_isWithin 2 0 0) (hR : zR X (some .boolean) (some (.int res)) [])  : zJ X 2 res (fX4_isWithin x0 x1) 0 [(0, (.int x0)), (1, (.int x1))] [] [] := by
  unfold fX4_isWithin
  refine z_iload_n (pc := 0) 0 rfl rfl C dX4_isWithin_0 ?_
  refine z_if_lt (pc := 1) 13 C dX4_isWithin_1 (by decide) ?_ ?_
  · refine z_iconst (pc := 13) (0 : Int32) (by decide) C dX4_isWithin_13 ?_
    exact z_zreturn (pc := 14) C hR dX4_isWithin_14 (fun h => by subst h; exact ⟨rfl, rfl⟩)
  · refine z_iload_n (pc := 4) 0 rfl rfl C dX4_isWithin_4 ?_
    refine z_iload_n (pc := 5) 1 rfl rfl C dX4_isWithin_5 ?_
    refine z_icmp_ge (pc := 6) 13 C dX4_isWithin_6 (by decide) ?_ ?_
    · refine z_iconst (pc := 13) (0 : Int32) (by decide) C dX4_isWithin_13 ?_
      exact z_zreturn (pc := 14) C hR dX4_isWithin_14 (fun h => by subst h; exact ⟨rfl, rfl⟩)
    · refine z_iconst (pc := 9) (1 : Int32) (by decide) C dX4_isWithin_9 ?_
      refine z_goto (pc := 10) 14 C dX4_isWithin_10 (by decide) ?_
      exact z_zreturn (pc := 14) C hR dX4_isWithin_14 (fun h => by subst h; exact ⟨rfl, rfl⟩)
theorem mX4_isWithin   {x0 : Int32} {x1 : Int32} {res : Int32}  (hf : fX4_isWithin x0 x1 = some res) : zM yX4_isWithin cX4_isWithin 2 (some .boolean) 0 0 [(.int x0), (.int x1)] [] (some (.int res)) [] := zM_of (by decide +kernel) (Nat.le_of_ble_eq_true rfl) (fun X C hR => wX4_isWithin C hR  hf)
theorem dX4_isCell_0 : decode cX4_isCell 0 = .ok (.iload_n 0, 1) := by decide +kernel
theorem dX4_isCell_1 : decode cX4_isCell 1 = .ok (.bipush 8, 2) := by decide +kernel
theorem dX4_isCell_3 : decode cX4_isCell 3 = .ok (.invokestatic 87, 3) := by decide +kernel
theorem dX4_isCell_6 : decode cX4_isCell 6 = .ok (.ifCond .eq 16, 3) := by decide +kernel
theorem dX4_isCell_9 : decode cX4_isCell 9 = .ok (.iload_n 1, 1) := by decide +kernel
theorem dX4_isCell_10 : decode cX4_isCell 10 = .ok (.bipush 8, 2) := by decide +kernel
theorem dX4_isCell_12 : decode cX4_isCell 12 = .ok (.invokestatic 87, 3) := by decide +kernel
theorem dX4_isCell_15 : decode cX4_isCell 15 = .ok (.ifCond .eq 7, 3) := by decide +kernel
theorem dX4_isCell_18 : decode cX4_isCell 18 = .ok (.iconst 1, 1) := by decide +kernel
theorem dX4_isCell_19 : decode cX4_isCell 19 = .ok (.goto 4, 3) := by decide +kernel
theorem dX4_isCell_22 : decode cX4_isCell 22 = .ok (.iconst 0, 1) := by decide +kernel
theorem dX4_isCell_23 : decode cX4_isCell 23 = .ok (.ireturn, 1) := by decide +kernel
def fX4_isCell (x0 : Int32) (x1 : Int32) : Option (Int32) := (Option.bind (fX4_isWithin x0 (8 : Int32)) (fun r_1 : Int32 => (if r_1 = 0 then (zbk (0 : Int32) (some ((0 : Int32)))) else (Option.bind (fX4_isWithin x1 (8 : Int32)) (fun r_3 : Int32 => (if r_3 = 0 then (zbk (0 : Int32) (some ((0 : Int32)))) else (zbk (1 : Int32) (some ((1 : Int32))))))))))
set_option maxRecDepth 20000 in
theorem wX4_isCell {X : zCx} {res : Int32}   {x0 : Int32} {x1 : Int32} (C : zC X RX4 cX4_isCell 2 1 21) (hR : zR X (some .boolean) (some (.int res)) [])  : zJ X 2 res (fX4_isCell x0 x1) 0 [(0, (.int x0)), (1, (.int x1))] [] [] := by
  unfold fX4_isCell
  refine z_iload_n (pc := 0) 0 rfl rfl C dX4_isCell_0 ?_
  refine z_bipush (pc := 1) (8 : Int32) (by decide) C dX4_isCell_1 ?_
  refine z_callS (pc := 3) (rf' := 0) (rl' := 0) (fX4_isWithin x0 (8 : Int32)) [(.int x0), (.int (8 : Int32))] [] [] (fun r_1 => (some (.int r_1))) (fun r_1 => []) [] (fun r_1 => []) C dX4_isCell_3 zy_X4_isWithin zw_309 (fun _ hr9 => mX4_isWithin  hr9) (by decide) rfl (Nat.le_of_ble_eq_true rfl) (List.Perm.refl _) (fun _ => List.Perm.refl _) rfl (fun r_1 hr_2 => ?_)
  show zJ X 2 res _ 6 [(0, (.int x0)), (1, (.int x1))] [(.int r_1)] []
  refine z_if_eq (pc := 6) 22 C dX4_isCell_6 (by decide) ?_ ?_
  · refine z_iconst (pc := 22) (0 : Int32) (by decide) C dX4_isCell_22 ?_
    exact z_zreturn (pc := 23) C hR dX4_isCell_23 (fun h => by subst h; exact ⟨rfl, rfl⟩)
  · refine z_iload_n (pc := 9) 1 rfl rfl C dX4_isCell_9 ?_
    refine z_bipush (pc := 10) (8 : Int32) (by decide) C dX4_isCell_10 ?_
    refine z_callS (pc := 12) (rf' := 0) (rl' := 0) (fX4_isWithin x1 (8 : Int32)) [(.int x1), (.int (8 : Int32))] [] [] (fun r_3 => (some (.int r_3))) (fun r_3 => []) [] (fun r_3 => []) C dX4_isCell_12 zy_X4_isWithin zw_309 (fun _ hr9 => mX4_isWithin  hr9) (by decide) rfl (Nat.le_of_ble_eq_true rfl) (List.Perm.refl _) (fun _ => List.Perm.refl _) rfl (fun r_3 hr_4 => ?_)
    show zJ X 2 res _ 15 [(0, (.int x0)), (1, (.int x1))] [(.int r_3)] []
    refine z_if_eq (pc := 15) 22 C dX4_isCell_15 (by decide) ?_ ?_
    · refine z_iconst (pc := 22) (0 : Int32) (by decide) C dX4_isCell_22 ?_
      exact z_zreturn (pc := 23) C hR dX4_isCell_23 (fun h => by subst h; exact ⟨rfl, rfl⟩)
    · refine z_iconst (pc := 18) (1 : Int32) (by decide) C dX4_isCell_18 ?_
      refine z_goto (pc := 19) 23 C dX4_isCell_19 (by decide) ?_
      exact z_zreturn (pc := 23) C hR dX4_isCell_23 (fun h => by subst h; exact ⟨rfl, rfl⟩)
theorem mX4_isCell   {x0 : Int32} {x1 : Int32} {res : Int32}  (hf : fX4_isCell x0 x1 = some res) : zM yX4_isCell cX4_isCell 2 (some .boolean) 1 21 [(.int x0), (.int x1)] [] (some (.int res)) [] := zM_of (by decide +kernel) (Nat.le_of_ble_eq_true rfl) (fun X C hR => wX4_isCell C hR  hf)
theorem dX4_cellBit_0 : decode cX4_cellBit 0 = .ok (.lconst 1, 1) := by decide +kernel
theorem dX4_cellBit_1 : decode cX4_cellBit 1 = .ok (.bipush 8, 2) := by decide +kernel
theorem dX4_cellBit_3 : decode cX4_cellBit 3 = .ok (.iload_n 1, 1) := by decide +kernel
theorem dX4_cellBit_4 : decode cX4_cellBit 4 = .ok (.imul, 1) := by decide +kernel
theorem dX4_cellBit_5 : decode cX4_cellBit 5 = .ok (.iload_n 0, 1) := by decide +kernel
theorem dX4_cellBit_6 : decode cX4_cellBit 6 = .ok (.iadd, 1) := by decide +kernel
theorem dX4_cellBit_7 : decode cX4_cellBit 7 = .ok (.lshl, 1) := by decide +kernel
theorem dX4_cellBit_8 : decode cX4_cellBit 8 = .ok (.lreturn, 1) := by decide +kernel
def fX4_cellBit (x0 : Int32) (x1 : Int32) : Option (Int64) := (some ((1 : Int64) <<< ((((8 : Int32) * x1) + x0).toInt64 &&& 63)))
set_option maxRecDepth 20000 in
theorem wX4_cellBit {X : zCx} {res : Int64}   {x0 : Int32} {x1 : Int32} (C : zC X RX4 cX4_cellBit 2 0 0) (hR : zR X (some .long) (some (.long res)) [])  : zJ X 2 res (fX4_cellBit x0 x1) 0 [(0, (.int x0)), (1, (.int x1))] [] [] := by
  unfold fX4_cellBit
  refine z_lconst (pc := 0) (1 : Int64) (by decide) C dX4_cellBit_0 ?_
  refine z_bipush (pc := 1) (8 : Int32) (by decide) C dX4_cellBit_1 ?_
  refine z_iload_n (pc := 3) 1 rfl rfl C dX4_cellBit_3 ?_
  refine z_imul (pc := 4) C dX4_cellBit_4 ?_
  refine z_iload_n (pc := 5) 0 rfl rfl C dX4_cellBit_5 ?_
  refine z_iadd (pc := 6) C dX4_cellBit_6 ?_
  refine z_lshl (pc := 7) C dX4_cellBit_7 ?_
  exact z_lreturn (pc := 8) C hR dX4_cellBit_8 (fun h => by subst h; exact ⟨rfl, rfl⟩)
theorem mX4_cellBit   {x0 : Int32} {x1 : Int32} {res : Int64}  (hf : fX4_cellBit x0 x1 = some res) : zM yX4_cellBit cX4_cellBit 2 (some .long) 0 0 [(.int x0), (.int x1)] [] (some (.long res)) [] := zM_of (by decide +kernel) (Nat.le_of_ble_eq_true rfl) (fun X C hR => wX4_cellBit C hR  hf)
theorem dX2_isStep_0 : decode cX2_isStep 0 = .ok (.iload_n 0, 1) := by decide +kernel
theorem dX2_isStep_1 : decode cX2_isStep 1 = .ok (.bipush (-8), 2) := by decide +kernel
theorem dX2_isStep_3 : decode cX2_isStep 3 = .ok (.if_icmp .le 13, 3) := by decide +kernel
theorem dX2_isStep_6 : decode cX2_isStep 6 = .ok (.iload_n 0, 1) := by decide +kernel
theorem dX2_isStep_7 : decode cX2_isStep 7 = .ok (.bipush 8, 2) := by decide +kernel
theorem dX2_isStep_9 : decode cX2_isStep 9 = .ok (.if_icmp .ge 7, 3) := by decide +kernel
theorem dX2_isStep_12 : decode cX2_isStep 12 = .ok (.iconst 1, 1) := by decide +kernel
theorem dX2_isStep_13 : decode cX2_isStep 13 = .ok (.goto 4, 3) := by decide +kernel
theorem dX2_isStep_16 : decode cX2_isStep 16 = .ok (.iconst 0, 1) := by decide +kernel
theorem dX2_isStep_17 : decode cX2_isStep 17 = .ok (.ireturn, 1) := by decide +kernel
def fX2_isStep (x0 : Int32) : Option (Int32) := (if x0 ≤ (-8 : Int32) then (zbk (0 : Int32) (some ((0 : Int32)))) else (if (8 : Int32) ≤ x0 then (zbk (0 : Int32) (some ((0 : Int32)))) else (zbk (1 : Int32) (some ((1 : Int32))))))
set_option maxRecDepth 20000 in
theorem wX2_isStep {X : zCx} {res : Int32}   {x0 : Int32} (C : zC X RX2 cX2_isStep 1 0 0) (hR : zR X (some .boolean) (some (.int res)) [])  : zJ X 1 res (fX2_isStep x0) 0 [(0, (.int x0))] [] [] := by
  unfold fX2_isStep
  refine z_iload_n (pc := 0) 0 rfl rfl C dX2_isStep_0 ?_
  refine z_bipush (pc := 1) (-8 : Int32) (by decide) C dX2_isStep_1 ?_
  refine z_icmp_le (pc := 3) 16 C dX2_isStep_3 (by decide) ?_ ?_
  · refine z_iconst (pc := 16) (0 : Int32) (by decide) C dX2_isStep_16 ?_
    exact z_zreturn (pc := 17) C hR dX2_isStep_17 (fun h => by subst h; exact ⟨rfl, rfl⟩)
  · refine z_iload_n (pc := 6) 0 rfl rfl C dX2_isStep_6 ?_
    refine z_bipush (pc := 7) (8 : Int32) (by decide) C dX2_isStep_7 ?_
    refine z_icmp_ge (pc := 9) 16 C dX2_isStep_9 (by decide) ?_ ?_
    · refine z_iconst (pc := 16) (0 : Int32) (by decide) C dX2_isStep_16 ?_
      exact z_zreturn (pc := 17) C hR dX2_isStep_17 (fun h => by subst h; exact ⟨rfl, rfl⟩)
    · refine z_iconst (pc := 12) (1 : Int32) (by decide) C dX2_isStep_12 ?_
      refine z_goto (pc := 13) 17 C dX2_isStep_13 (by decide) ?_
      exact z_zreturn (pc := 17) C hR dX2_isStep_17 (fun h => by subst h; exact ⟨rfl, rfl⟩)
theorem mX2_isStep   {x0 : Int32} {res : Int32}  (hf : fX2_isStep x0 = some res) : zM yX2_isStep cX2_isStep 1 (some .boolean) 0 0 [(.int x0)] [] (some (.int res)) [] := zM_of (by decide +kernel) (Nat.le_of_ble_eq_true rfl) (fun X C hR => wX2_isStep C hR  hf)
theorem dX2_isBox_0 : decode cX2_isBox 0 = .ok (.iload_n 0, 1) := by decide +kernel
theorem dX2_isBox_1 : decode cX2_isBox 1 = .ok (.iload_n 1, 1) := by decide +kernel
theorem dX2_isBox_2 : decode cX2_isBox 2 = .ok (.invokestatic 63, 3) := by decide +kernel
theorem dX2_isBox_5 : decode cX2_isBox 5 = .ok (.ifCond .eq 33, 3) := by decide +kernel
theorem dX2_isBox_8 : decode cX2_isBox 8 = .ok (.iload_n 2, 1) := by decide +kernel
theorem dX2_isBox_9 : decode cX2_isBox 9 = .ok (.iconst 1, 1) := by decide +kernel
theorem dX2_isBox_10 : decode cX2_isBox 10 = .ok (.if_icmp .lt 28, 3) := by decide +kernel
theorem dX2_isBox_13 : decode cX2_isBox 13 = .ok (.iload_n 2, 1) := by decide +kernel
theorem dX2_isBox_14 : decode cX2_isBox 14 = .ok (.bipush 8, 2) := by decide +kernel
theorem dX2_isBox_16 : decode cX2_isBox 16 = .ok (.iload_n 0, 1) := by decide +kernel
theorem dX2_isBox_17 : decode cX2_isBox 17 = .ok (.isub, 1) := by decide +kernel
theorem dX2_isBox_18 : decode cX2_isBox 18 = .ok (.if_icmp .gt 20, 3) := by decide +kernel
theorem dX2_isBox_21 : decode cX2_isBox 21 = .ok (.iload_n 3, 1) := by decide +kernel
theorem dX2_isBox_22 : decode cX2_isBox 22 = .ok (.iconst 1, 1) := by decide +kernel
theorem dX2_isBox_23 : decode cX2_isBox 23 = .ok (.if_icmp .lt 15, 3) := by decide +kernel
theorem dX2_isBox_26 : decode cX2_isBox 26 = .ok (.iload_n 3, 1) := by decide +kernel
theorem dX2_isBox_27 : decode cX2_isBox 27 = .ok (.bipush 8, 2) := by decide +kernel
theorem dX2_isBox_29 : decode cX2_isBox 29 = .ok (.iload_n 1, 1) := by decide +kernel
theorem dX2_isBox_30 : decode cX2_isBox 30 = .ok (.isub, 1) := by decide +kernel
theorem dX2_isBox_31 : decode cX2_isBox 31 = .ok (.if_icmp .gt 7, 3) := by decide +kernel
theorem dX2_isBox_34 : decode cX2_isBox 34 = .ok (.iconst 1, 1) := by decide +kernel
theorem dX2_isBox_35 : decode cX2_isBox 35 = .ok (.goto 4, 3) := by decide +kernel
theorem dX2_isBox_38 : decode cX2_isBox 38 = .ok (.iconst 0, 1) := by decide +kernel
theorem dX2_isBox_39 : decode cX2_isBox 39 = .ok (.ireturn, 1) := by decide +kernel
def fX2_isBox (x0 : Int32) (x1 : Int32) (x2 : Int32) (x3 : Int32) : Option (Int32) := (Option.bind (fX4_isCell x0 x1) (fun r_1 : Int32 => (if r_1 = 0 then (zbk (0 : Int32) (some ((0 : Int32)))) else (if x2 < (1 : Int32) then (zbk (0 : Int32) (some ((0 : Int32)))) else (if ((8 : Int32) - x0) < x2 then (zbk (0 : Int32) (some ((0 : Int32)))) else (if x3 < (1 : Int32) then (zbk (0 : Int32) (some ((0 : Int32)))) else (if ((8 : Int32) - x1) < x3 then (zbk (0 : Int32) (some ((0 : Int32)))) else (zbk (1 : Int32) (some ((1 : Int32)))))))))))
set_option maxRecDepth 20000 in
theorem wX2_isBox {X : zCx} {res : Int32}   {x0 : Int32} {x1 : Int32} {x2 : Int32} {x3 : Int32} (C : zC X RX2 cX2_isBox 4 2 42) (hR : zR X (some .boolean) (some (.int res)) [])  : zJ X 4 res (fX2_isBox x0 x1 x2 x3) 0 [(0, (.int x0)), (1, (.int x1)), (2, (.int x2)), (3, (.int x3))] [] [] := by
  unfold fX2_isBox
  refine z_iload_n (pc := 0) 0 rfl rfl C dX2_isBox_0 ?_
  refine z_iload_n (pc := 1) 1 rfl rfl C dX2_isBox_1 ?_
  refine z_callN (pc := 2) (rf' := 1) (rl' := 21) (fX4_isCell x0 x1) [(.int x0), (.int x1)] [] (fun r_1 => (some (.int r_1))) C dX2_isBox_2 zy_X4_isCell (fun U h => h.2.1) (fun _ hr9 => mX4_isCell  hr9) (by decide) rfl (Nat.le_of_ble_eq_true rfl) rfl (fun r_1 hr_2 => ?_)
  show zJ X 4 res _ 5 [(0, (.int x0)), (1, (.int x1)), (2, (.int x2)), (3, (.int x3))] [(.int r_1)] []
  refine z_if_eq (pc := 5) 38 C dX2_isBox_5 (by decide) ?_ ?_
  · refine z_iconst (pc := 38) (0 : Int32) (by decide) C dX2_isBox_38 ?_
    exact z_zreturn (pc := 39) C hR dX2_isBox_39 (fun h => by subst h; exact ⟨rfl, rfl⟩)
  · refine z_iload_n (pc := 8) 2 rfl rfl C dX2_isBox_8 ?_
    refine z_iconst (pc := 9) (1 : Int32) (by decide) C dX2_isBox_9 ?_
    refine z_icmp_lt (pc := 10) 38 C dX2_isBox_10 (by decide) ?_ ?_
    · refine z_iconst (pc := 38) (0 : Int32) (by decide) C dX2_isBox_38 ?_
      exact z_zreturn (pc := 39) C hR dX2_isBox_39 (fun h => by subst h; exact ⟨rfl, rfl⟩)
    · refine z_iload_n (pc := 13) 2 rfl rfl C dX2_isBox_13 ?_
      refine z_bipush (pc := 14) (8 : Int32) (by decide) C dX2_isBox_14 ?_
      refine z_iload_n (pc := 16) 0 rfl rfl C dX2_isBox_16 ?_
      refine z_isub (pc := 17) C dX2_isBox_17 ?_
      refine z_icmp_gt (pc := 18) 38 C dX2_isBox_18 (by decide) ?_ ?_
      · refine z_iconst (pc := 38) (0 : Int32) (by decide) C dX2_isBox_38 ?_
        exact z_zreturn (pc := 39) C hR dX2_isBox_39 (fun h => by subst h; exact ⟨rfl, rfl⟩)
      · refine z_iload_n (pc := 21) 3 rfl rfl C dX2_isBox_21 ?_
        refine z_iconst (pc := 22) (1 : Int32) (by decide) C dX2_isBox_22 ?_
        refine z_icmp_lt (pc := 23) 38 C dX2_isBox_23 (by decide) ?_ ?_
        · refine z_iconst (pc := 38) (0 : Int32) (by decide) C dX2_isBox_38 ?_
          exact z_zreturn (pc := 39) C hR dX2_isBox_39 (fun h => by subst h; exact ⟨rfl, rfl⟩)
        · refine z_iload_n (pc := 26) 3 rfl rfl C dX2_isBox_26 ?_
          refine z_bipush (pc := 27) (8 : Int32) (by decide) C dX2_isBox_27 ?_
          refine z_iload_n (pc := 29) 1 rfl rfl C dX2_isBox_29 ?_
          refine z_isub (pc := 30) C dX2_isBox_30 ?_
          refine z_icmp_gt (pc := 31) 38 C dX2_isBox_31 (by decide) ?_ ?_
          · refine z_iconst (pc := 38) (0 : Int32) (by decide) C dX2_isBox_38 ?_
            exact z_zreturn (pc := 39) C hR dX2_isBox_39 (fun h => by subst h; exact ⟨rfl, rfl⟩)
          · refine z_iconst (pc := 34) (1 : Int32) (by decide) C dX2_isBox_34 ?_
            refine z_goto (pc := 35) 39 C dX2_isBox_35 (by decide) ?_
            exact z_zreturn (pc := 39) C hR dX2_isBox_39 (fun h => by subst h; exact ⟨rfl, rfl⟩)
theorem mX2_isBox   {x0 : Int32} {x1 : Int32} {x2 : Int32} {x3 : Int32} {res : Int32}  (hf : fX2_isBox x0 x1 x2 x3 = some res) : zM yX2_isBox cX2_isBox 4 (some .boolean) 2 42 [(.int x0), (.int x1), (.int x2), (.int x3)] [] (some (.int res)) [] := zM_of (by decide +kernel) (Nat.le_of_ble_eq_true rfl) (fun X C hR => wX2_isBox C hR  hf)
theorem dX2_boxBits_0 : decode cX2_boxBits 0 = .ok (.lconst 1, 1) := by decide +kernel
theorem dX2_boxBits_1 : decode cX2_boxBits 1 = .ok (.iload_n 2, 1) := by decide +kernel
theorem dX2_boxBits_2 : decode cX2_boxBits 2 = .ok (.lshl, 1) := by decide +kernel
theorem dX2_boxBits_3 : decode cX2_boxBits 3 = .ok (.lconst 1, 1) := by decide +kernel
theorem dX2_boxBits_4 : decode cX2_boxBits 4 = .ok (.lsub, 1) := by decide +kernel
theorem dX2_boxBits_5 : decode cX2_boxBits 5 = .ok (.iload_n 0, 1) := by decide +kernel
theorem dX2_boxBits_6 : decode cX2_boxBits 6 = .ok (.lshl, 1) := by decide +kernel
theorem dX2_boxBits_7 : decode cX2_boxBits 7 = .ok (.lstore 4, 2) := by decide +kernel
theorem dX2_boxBits_9 : decode cX2_boxBits 9 = .ok (.lconst 0, 1) := by decide +kernel
theorem dX2_boxBits_10 : decode cX2_boxBits 10 = .ok (.lstore 6, 2) := by decide +kernel
theorem dX2_boxBits_12 : decode cX2_boxBits 12 = .ok (.iload_n 1, 1) := by decide +kernel
theorem dX2_boxBits_13 : decode cX2_boxBits 13 = .ok (.istore 8, 2) := by decide +kernel
theorem dX2_boxBits_15 : decode cX2_boxBits 15 = .ok (.iload 8, 2) := by decide +kernel
theorem dX2_boxBits_17 : decode cX2_boxBits 17 = .ok (.iload_n 1, 1) := by decide +kernel
theorem dX2_boxBits_18 : decode cX2_boxBits 18 = .ok (.iload_n 3, 1) := by decide +kernel
theorem dX2_boxBits_19 : decode cX2_boxBits 19 = .ok (.iadd, 1) := by decide +kernel
theorem dX2_boxBits_20 : decode cX2_boxBits 20 = .ok (.if_icmp .ge 22, 3) := by decide +kernel
theorem dX2_boxBits_23 : decode cX2_boxBits 23 = .ok (.lload 6, 2) := by decide +kernel
theorem dX2_boxBits_25 : decode cX2_boxBits 25 = .ok (.lload 4, 2) := by decide +kernel
theorem dX2_boxBits_27 : decode cX2_boxBits 27 = .ok (.bipush 8, 2) := by decide +kernel
theorem dX2_boxBits_29 : decode cX2_boxBits 29 = .ok (.iload 8, 2) := by decide +kernel
theorem dX2_boxBits_31 : decode cX2_boxBits 31 = .ok (.imul, 1) := by decide +kernel
theorem dX2_boxBits_32 : decode cX2_boxBits 32 = .ok (.lshl, 1) := by decide +kernel
theorem dX2_boxBits_33 : decode cX2_boxBits 33 = .ok (.lor, 1) := by decide +kernel
theorem dX2_boxBits_34 : decode cX2_boxBits 34 = .ok (.lstore 6, 2) := by decide +kernel
theorem dX2_boxBits_36 : decode cX2_boxBits 36 = .ok (.iinc 8 1, 3) := by decide +kernel
theorem dX2_boxBits_39 : decode cX2_boxBits 39 = .ok (.goto (-24), 3) := by decide +kernel
theorem dX2_boxBits_42 : decode cX2_boxBits 42 = .ok (.lload 6, 2) := by decide +kernel
theorem dX2_boxBits_44 : decode cX2_boxBits 44 = .ok (.lreturn, 1) := by decide +kernel
def bX2_boxBits_15 (F : Nat) (x1 : Int32) (x3 : Int32) (x4 : Int64) (kc_15 : (Int64 × Int32) → Option (Int64)) (x6 : Int64) (x8 : Int32) : Option (Int64) := (if (x1 + x3) ≤ x8 then (some (x6)) else (zlet (x6 ||| (x4 <<< (((8 : Int32) * x8).toInt64 &&& 63))) (fun x6_2 : Int64 => (kc_15 (x6_2, (x8 + 1))))))
set_option maxRecDepth 20000 in
theorem vX2_boxBits_15 {X : zCx} {res : Int64} {F : Nat} {x1 : Int32} {x3 : Int32} {x4 : Int64} {kc_15 : (Int64 × Int32) → Option (Int64)} (C : zC X RX2 cX2_boxBits 9 0 0) (hR : zR X (some .long) (some (.long res)) []) (hk_15 : ∀ (y6 : Int64) (y8 : Int32), zJ X 9 res (kc_15 (y6, y8)) 15 [(1, (.int x1)), (3, (.int x3)), (4, (.long x4)), (6, (.long y6)), (8, (.int y8))] [] []) (x6 : Int64) (x8 : Int32) : zJ X 9 res (bX2_boxBits_15 F x1 x3 x4 kc_15 x6 x8) 15 [(1, (.int x1)), (3, (.int x3)), (4, (.long x4)), (6, (.long x6)), (8, (.int x8))] [] [] := by
  unfold bX2_boxBits_15
  refine z_iload (pc := 15) 4 rfl C dX2_boxBits_15 ?_
  refine z_iload_n (pc := 17) 0 rfl rfl C dX2_boxBits_17 ?_
  refine z_iload_n (pc := 18) 1 rfl rfl C dX2_boxBits_18 ?_
  refine z_iadd (pc := 19) C dX2_boxBits_19 ?_
  refine z_icmp_ge (pc := 20) 42 C dX2_boxBits_20 (by decide) ?_ ?_
  · refine z_lload (pc := 42) 3 rfl C dX2_boxBits_42 ?_
    exact z_lreturn (pc := 44) C hR dX2_boxBits_44 (fun h => by subst h; exact ⟨rfl, rfl⟩)
  · refine z_lload (pc := 23) 3 rfl C dX2_boxBits_23 ?_
    refine z_lload (pc := 25) 2 rfl C dX2_boxBits_25 ?_
    refine z_bipush (pc := 27) (8 : Int32) (by decide) C dX2_boxBits_27 ?_
    refine z_iload (pc := 29) 4 rfl C dX2_boxBits_29 ?_
    refine z_imul (pc := 31) C dX2_boxBits_31 ?_
    refine z_lshl (pc := 32) C dX2_boxBits_32 ?_
    refine z_lor (pc := 33) C dX2_boxBits_33 ?_
    refine z_letl (fun x6_2 => ?_)
    refine z_lstore (pc := 34) [(1, (.int x1)), (3, (.int x3)), (4, (.long x4)), (6, (.long x6_2)), (8, (.int x8))] [1, 2, 3, 0, 4] (by decide) rfl C dX2_boxBits_34 ?_
    refine z_iinc (pc := 36) (x8 + 1) 4 rfl rfl [(1, (.int x1)), (3, (.int x3)), (4, (.long x4)), (6, (.long x6_2)), (8, (.int (x8 + 1)))] [1, 2, 3, 4, 0] (by decide) rfl C dX2_boxBits_36 ?_
    refine z_goto (pc := 39) 15 C dX2_boxBits_39 (by decide) ?_
    exact hk_15 _ _
def fX2_boxBits (F : Nat) (x0 : Int32) (x1 : Int32) (x2 : Int32) (x3 : Int32) : Option (Int64) := (zlet ((((1 : Int64) <<< (x2.toInt64 &&& 63)) - (1 : Int64)) <<< (x0.toInt64 &&& 63)) (fun x4_1 : Int64 => (zit (P := Int64 × Int32) (R := Int64) (fun kc9 p9 => bX2_boxBits_15 F x1 x3 x4_1 kc9 p9.1 p9.2) F ((0 : Int64), x1))))
set_option maxRecDepth 20000 in
theorem wX2_boxBits {X : zCx} {res : Int64} {F : Nat}  {x0 : Int32} {x1 : Int32} {x2 : Int32} {x3 : Int32} (C : zC X RX2 cX2_boxBits 9 0 0) (hR : zR X (some .long) (some (.long res)) [])  : zJ X 9 res (fX2_boxBits F x0 x1 x2 x3) 0 [(0, (.int x0)), (1, (.int x1)), (2, (.int x2)), (3, (.int x3))] [] [] := by
  unfold fX2_boxBits
  refine z_lconst (pc := 0) (1 : Int64) (by decide) C dX2_boxBits_0 ?_
  refine z_iload_n (pc := 1) 2 rfl rfl C dX2_boxBits_1 ?_
  refine z_lshl (pc := 2) C dX2_boxBits_2 ?_
  refine z_lconst (pc := 3) (1 : Int64) (by decide) C dX2_boxBits_3 ?_
  refine z_lsub (pc := 4) C dX2_boxBits_4 ?_
  refine z_iload_n (pc := 5) 0 rfl rfl C dX2_boxBits_5 ?_
  refine z_lshl (pc := 6) C dX2_boxBits_6 ?_
  refine z_letl (fun x4_1 => ?_)
  refine z_lstore (pc := 7) [(0, (.int x0)), (1, (.int x1)), (2, (.int x2)), (3, (.int x3)), (4, (.long x4_1))] [1, 2, 3, 4, 0] (by decide) rfl C dX2_boxBits_7 ?_
  refine z_lconst (pc := 9) (0 : Int64) (by decide) C dX2_boxBits_9 ?_
  refine z_lstore (pc := 10) [(0, (.int x0)), (1, (.int x1)), (2, (.int x2)), (3, (.int x3)), (4, (.long x4_1)), (6, (.long (0 : Int64)))] [1, 2, 3, 4, 5, 0] (by decide) rfl C dX2_boxBits_10 ?_
  refine z_iload_n (pc := 12) 1 rfl rfl C dX2_boxBits_12 ?_
  refine z_istore (pc := 13) [(0, (.int x0)), (1, (.int x1)), (2, (.int x2)), (3, (.int x3)), (4, (.long x4_1)), (6, (.long (0 : Int64))), (8, (.int x1))] [1, 2, 3, 4, 5, 6, 0] (by decide) rfl C dX2_boxBits_13 ?_
  refine z_lv [(1, (.int x1)), (3, (.int x3)), (4, (.long x4_1)), (6, (.long (0 : Int64))), (8, (.int x1))] [1, 3, 4, 5, 6] rfl ?_
  exact zit_J (fun p9 => [(1, (.int x1)), (3, (.int x3)), (4, (.long x4_1)), (6, (.long p9.1)), (8, (.int p9.2))]) (fun p9 => []) (fun kc9 hk9 p9 => vX2_boxBits_15 C hR   (fun a0 a1 => hk9 (a0, a1)) _ _) F _
theorem mX2_boxBits {F : Nat}  {x0 : Int32} {x1 : Int32} {x2 : Int32} {x3 : Int32} {res : Int64}  (hf : fX2_boxBits F x0 x1 x2 x3 = some res) : zM yX2_boxBits cX2_boxBits 9 (some .long) 0 0 [(.int x0), (.int x1), (.int x2), (.int x3)] [] (some (.long res)) [] := zM_of (by decide +kernel) (Nat.le_of_ble_eq_true rfl) (fun X C hR => wX2_boxBits (F := F) C hR  hf)
theorem dX0_besideOf_0 : decode cX0_besideOf 0 = .ok (.lload_n 0, 1) := by decide +kernel
theorem dX0_besideOf_1 : decode cX0_besideOf 1 = .ok (.ldc2_w 182, 3) := by decide +kernel
theorem dX0_besideOf_4 : decode cX0_besideOf 4 = .ok (.land, 1) := by decide +kernel
theorem dX0_besideOf_5 : decode cX0_besideOf 5 = .ok (.iconst 1, 1) := by decide +kernel
theorem dX0_besideOf_6 : decode cX0_besideOf 6 = .ok (.lshl, 1) := by decide +kernel
theorem dX0_besideOf_7 : decode cX0_besideOf 7 = .ok (.lstore_n 2, 1) := by decide +kernel
theorem dX0_besideOf_8 : decode cX0_besideOf 8 = .ok (.lload_n 0, 1) := by decide +kernel
theorem dX0_besideOf_9 : decode cX0_besideOf 9 = .ok (.ldc2_w 184, 3) := by decide +kernel
theorem dX0_besideOf_12 : decode cX0_besideOf 12 = .ok (.land, 1) := by decide +kernel
theorem dX0_besideOf_13 : decode cX0_besideOf 13 = .ok (.iconst 1, 1) := by decide +kernel
theorem dX0_besideOf_14 : decode cX0_besideOf 14 = .ok (.lushr, 1) := by decide +kernel
theorem dX0_besideOf_15 : decode cX0_besideOf 15 = .ok (.lstore 4, 2) := by decide +kernel
theorem dX0_besideOf_17 : decode cX0_besideOf 17 = .ok (.lload_n 2, 1) := by decide +kernel
theorem dX0_besideOf_18 : decode cX0_besideOf 18 = .ok (.lload 4, 2) := by decide +kernel
theorem dX0_besideOf_20 : decode cX0_besideOf 20 = .ok (.lor, 1) := by decide +kernel
theorem dX0_besideOf_21 : decode cX0_besideOf 21 = .ok (.lload_n 0, 1) := by decide +kernel
theorem dX0_besideOf_22 : decode cX0_besideOf 22 = .ok (.bipush 8, 2) := by decide +kernel
theorem dX0_besideOf_24 : decode cX0_besideOf 24 = .ok (.lshl, 1) := by decide +kernel
theorem dX0_besideOf_25 : decode cX0_besideOf 25 = .ok (.lor, 1) := by decide +kernel
theorem dX0_besideOf_26 : decode cX0_besideOf 26 = .ok (.lload_n 0, 1) := by decide +kernel
theorem dX0_besideOf_27 : decode cX0_besideOf 27 = .ok (.bipush 8, 2) := by decide +kernel
theorem dX0_besideOf_29 : decode cX0_besideOf 29 = .ok (.lushr, 1) := by decide +kernel
theorem dX0_besideOf_30 : decode cX0_besideOf 30 = .ok (.lor, 1) := by decide +kernel
theorem dX0_besideOf_31 : decode cX0_besideOf 31 = .ok (.lreturn, 1) := by decide +kernel
def fX0_besideOf (x0 : Int64) : Option (Int64) := (zlet ((x0 &&& (9187201950435737471 : Int64)) <<< ((1 : Int32).toInt64 &&& 63)) (fun x2_1 : Int64 => (zlet (((x0 &&& (-72340172838076674 : Int64)).toUInt64 >>> ((1 : Int32).toInt64.toUInt64 &&& Int64.toUInt64 63)).toInt64) (fun x4_2 : Int64 => (some (((x2_1 ||| x4_2) ||| (x0 <<< ((8 : Int32).toInt64 &&& 63))) ||| ((x0.toUInt64 >>> ((8 : Int32).toInt64.toUInt64 &&& Int64.toUInt64 63)).toInt64)))))))
set_option maxRecDepth 20000 in
theorem wX0_besideOf {X : zCx} {res : Int64}   {x0 : Int64} (C : zC X RX0 cX0_besideOf 6 0 0) (hR : zR X (some .long) (some (.long res)) [])  : zJ X 6 res (fX0_besideOf x0) 0 [(0, (.long x0))] [] [] := by
  unfold fX0_besideOf
  refine z_lload_n (pc := 0) 0 rfl rfl C dX0_besideOf_0 ?_
  refine z_ldc2_w (pc := 1) (9187201950435737471 : Int64) zw_423 C dX0_besideOf_1 ?_
  refine z_land (pc := 4) C dX0_besideOf_4 ?_
  refine z_iconst (pc := 5) (1 : Int32) (by decide) C dX0_besideOf_5 ?_
  refine z_lshl (pc := 6) C dX0_besideOf_6 ?_
  refine z_letl (fun x2_1 => ?_)
  refine z_lstore_n (pc := 7) [(0, (.long x0)), (2, (.long x2_1))] [1, 0] (by decide) rfl rfl C dX0_besideOf_7 ?_
  refine z_lload_n (pc := 8) 0 rfl rfl C dX0_besideOf_8 ?_
  refine z_ldc2_w (pc := 9) (-72340172838076674 : Int64) zw_424 C dX0_besideOf_9 ?_
  refine z_land (pc := 12) C dX0_besideOf_12 ?_
  refine z_iconst (pc := 13) (1 : Int32) (by decide) C dX0_besideOf_13 ?_
  refine z_lushr (pc := 14) C dX0_besideOf_14 ?_
  refine z_letl (fun x4_2 => ?_)
  refine z_lstore (pc := 15) [(0, (.long x0)), (2, (.long x2_1)), (4, (.long x4_2))] [1, 2, 0] (by decide) rfl C dX0_besideOf_15 ?_
  refine z_lload_n (pc := 17) 1 rfl rfl C dX0_besideOf_17 ?_
  refine z_lload (pc := 18) 2 rfl C dX0_besideOf_18 ?_
  refine z_lor (pc := 20) C dX0_besideOf_20 ?_
  refine z_lload_n (pc := 21) 0 rfl rfl C dX0_besideOf_21 ?_
  refine z_bipush (pc := 22) (8 : Int32) (by decide) C dX0_besideOf_22 ?_
  refine z_lshl (pc := 24) C dX0_besideOf_24 ?_
  refine z_lor (pc := 25) C dX0_besideOf_25 ?_
  refine z_lload_n (pc := 26) 0 rfl rfl C dX0_besideOf_26 ?_
  refine z_bipush (pc := 27) (8 : Int32) (by decide) C dX0_besideOf_27 ?_
  refine z_lushr (pc := 29) C dX0_besideOf_29 ?_
  refine z_lor (pc := 30) C dX0_besideOf_30 ?_
  exact z_lreturn (pc := 31) C hR dX0_besideOf_31 (fun h => by subst h; exact ⟨rfl, rfl⟩)
theorem mX0_besideOf   {x0 : Int64} {res : Int64}  (hf : fX0_besideOf x0 = some res) : zM yX0_besideOf cX0_besideOf 6 (some .long) 0 0 [(.long x0)] [] (some (.long res)) [] := zM_of (by decide +kernel) (Nat.le_of_ble_eq_true rfl) (fun X C hR => wX0_besideOf C hR  hf)
theorem dX0_hangingTogether_0 : decode cX0_hangingTogether 0 = .ok (.lload_n 0, 1) := by decide +kernel
theorem dX0_hangingTogether_1 : decode cX0_hangingTogether 1 = .ok (.lload_n 0, 1) := by decide +kernel
theorem dX0_hangingTogether_2 : decode cX0_hangingTogether 2 = .ok (.lneg, 1) := by decide +kernel
theorem dX0_hangingTogether_3 : decode cX0_hangingTogether 3 = .ok (.land, 1) := by decide +kernel
theorem dX0_hangingTogether_4 : decode cX0_hangingTogether 4 = .ok (.lstore_n 2, 1) := by decide +kernel
theorem dX0_hangingTogether_5 : decode cX0_hangingTogether 5 = .ok (.iconst 0, 1) := by decide +kernel
theorem dX0_hangingTogether_6 : decode cX0_hangingTogether 6 = .ok (.istore 4, 2) := by decide +kernel
theorem dX0_hangingTogether_8 : decode cX0_hangingTogether 8 = .ok (.iload 4, 2) := by decide +kernel
theorem dX0_hangingTogether_10 : decode cX0_hangingTogether 10 = .ok (.bipush 64, 2) := by decide +kernel
theorem dX0_hangingTogether_12 : decode cX0_hangingTogether 12 = .ok (.if_icmp .ge 31, 3) := by decide +kernel
theorem dX0_hangingTogether_15 : decode cX0_hangingTogether 15 = .ok (.lload_n 2, 1) := by decide +kernel
theorem dX0_hangingTogether_16 : decode cX0_hangingTogether 16 = .ok (.lload_n 2, 1) := by decide +kernel
theorem dX0_hangingTogether_17 : decode cX0_hangingTogether 17 = .ok (.invokestatic 166, 3) := by decide +kernel
theorem dX0_hangingTogether_20 : decode cX0_hangingTogether 20 = .ok (.lor, 1) := by decide +kernel
theorem dX0_hangingTogether_21 : decode cX0_hangingTogether 21 = .ok (.lload_n 0, 1) := by decide +kernel
theorem dX0_hangingTogether_22 : decode cX0_hangingTogether 22 = .ok (.land, 1) := by decide +kernel
theorem dX0_hangingTogether_23 : decode cX0_hangingTogether 23 = .ok (.lstore 5, 2) := by decide +kernel
theorem dX0_hangingTogether_25 : decode cX0_hangingTogether 25 = .ok (.lload 5, 2) := by decide +kernel
theorem dX0_hangingTogether_27 : decode cX0_hangingTogether 27 = .ok (.lload_n 2, 1) := by decide +kernel
theorem dX0_hangingTogether_28 : decode cX0_hangingTogether 28 = .ok (.lcmp, 1) := by decide +kernel
theorem dX0_hangingTogether_29 : decode cX0_hangingTogether 29 = .ok (.ifCond .ne 5, 3) := by decide +kernel
theorem dX0_hangingTogether_32 : decode cX0_hangingTogether 32 = .ok (.lload_n 2, 1) := by decide +kernel
theorem dX0_hangingTogether_33 : decode cX0_hangingTogether 33 = .ok (.lreturn, 1) := by decide +kernel
theorem dX0_hangingTogether_34 : decode cX0_hangingTogether 34 = .ok (.lload 5, 2) := by decide +kernel
theorem dX0_hangingTogether_36 : decode cX0_hangingTogether 36 = .ok (.lstore_n 2, 1) := by decide +kernel
theorem dX0_hangingTogether_37 : decode cX0_hangingTogether 37 = .ok (.iinc 4 1, 3) := by decide +kernel
theorem dX0_hangingTogether_40 : decode cX0_hangingTogether 40 = .ok (.goto (-32), 3) := by decide +kernel
theorem dX0_hangingTogether_43 : decode cX0_hangingTogether 43 = .ok (.lload_n 2, 1) := by decide +kernel
theorem dX0_hangingTogether_44 : decode cX0_hangingTogether 44 = .ok (.lreturn, 1) := by decide +kernel
def bX0_hangingTogether_8 (F : Nat) (x0 : Int64) (kc_8 : (Int64 × Int32) → Option (Int64)) (x2 : Int64) (x4 : Int32) : Option (Int64) := (if (64 : Int32) ≤ x4 then (some (x2)) else (Option.bind (fX0_besideOf x2) (fun r_2 : Int64 => (zlet ((x2 ||| r_2) &&& x0) (fun x5_4 : Int64 => (if (lg_cmp x5_4 x2) = 0 then (some (x2)) else (kc_8 (x5_4, (x4 + 1)))))))))
set_option maxRecDepth 20000 in
theorem vX0_hangingTogether_8 {X : zCx} {res : Int64} {F : Nat} {x0 : Int64} {kc_8 : (Int64 × Int32) → Option (Int64)} (C : zC X RX0 cX0_hangingTogether 7 1 25) (hR : zR X (some .long) (some (.long res)) []) (hk_8 : ∀ (y2 : Int64) (y4 : Int32), zJ X 7 res (kc_8 (y2, y4)) 8 [(0, (.long x0)), (2, (.long y2)), (4, (.int y4))] [] []) (x2 : Int64) (x4 : Int32) : zJ X 7 res (bX0_hangingTogether_8 F x0 kc_8 x2 x4) 8 [(0, (.long x0)), (2, (.long x2)), (4, (.int x4))] [] [] := by
  unfold bX0_hangingTogether_8
  refine z_iload (pc := 8) 2 rfl C dX0_hangingTogether_8 ?_
  refine z_bipush (pc := 10) (64 : Int32) (by decide) C dX0_hangingTogether_10 ?_
  refine z_icmp_ge (pc := 12) 43 C dX0_hangingTogether_12 (by decide) ?_ ?_
  · refine z_lload_n (pc := 43) 1 rfl rfl C dX0_hangingTogether_43 ?_
    exact z_lreturn (pc := 44) C hR dX0_hangingTogether_44 (fun h => by subst h; exact ⟨rfl, rfl⟩)
  · refine z_lload_n (pc := 15) 1 rfl rfl C dX0_hangingTogether_15 ?_
    refine z_lload_n (pc := 16) 1 rfl rfl C dX0_hangingTogether_16 ?_
    refine z_callS (pc := 17) (rf' := 0) (rl' := 0) (fX0_besideOf x2) [(.long x2)] [(.long x2)] [] (fun r_2 => (some (.long r_2))) (fun r_2 => []) [] (fun r_2 => []) C dX0_hangingTogether_17 zy_X0_besideOf zw_420 (fun _ hr9 => mX0_besideOf  hr9) (by decide) rfl (Nat.le_of_ble_eq_true rfl) (List.Perm.refl _) (fun _ => List.Perm.refl _) rfl (fun r_2 hr_3 => ?_)
    show zJ X 7 res _ 20 [(0, (.long x0)), (2, (.long x2)), (4, (.int x4))] [(.long r_2), (.long x2)] []
    refine z_lor (pc := 20) C dX0_hangingTogether_20 ?_
    refine z_lload_n (pc := 21) 0 rfl rfl C dX0_hangingTogether_21 ?_
    refine z_land (pc := 22) C dX0_hangingTogether_22 ?_
    refine z_letl (fun x5_4 => ?_)
    refine z_lstore (pc := 23) [(0, (.long x0)), (2, (.long x2)), (4, (.int x4)), (5, (.long x5_4))] [1, 2, 3, 0] (by decide) rfl C dX0_hangingTogether_23 ?_
    refine z_lload (pc := 25) 3 rfl C dX0_hangingTogether_25 ?_
    refine z_lload_n (pc := 27) 1 rfl rfl C dX0_hangingTogether_27 ?_
    refine z_lcmp (pc := 28) C dX0_hangingTogether_28 ?_
    refine z_if_ne (pc := 29) 34 C dX0_hangingTogether_29 (by decide) ?_ ?_
    · refine z_lload_n (pc := 32) 1 rfl rfl C dX0_hangingTogether_32 ?_
      exact z_lreturn (pc := 33) C hR dX0_hangingTogether_33 (fun h => by subst h; exact ⟨rfl, rfl⟩)
    · refine z_lload (pc := 34) 3 rfl C dX0_hangingTogether_34 ?_
      refine z_lstore_n (pc := 36) [(0, (.long x0)), (2, (.long x5_4)), (4, (.int x4)), (5, (.long x5_4))] [1, 0, 2, 3] (by decide) rfl rfl C dX0_hangingTogether_36 ?_
      refine z_iinc (pc := 37) (x4 + 1) 2 rfl rfl [(0, (.long x0)), (2, (.long x5_4)), (4, (.int (x4 + 1))), (5, (.long x5_4))] [1, 2, 0, 3] (by decide) rfl C dX0_hangingTogether_37 ?_
      refine z_goto (pc := 40) 8 C dX0_hangingTogether_40 (by decide) ?_
      refine z_lv [(0, (.long x0)), (2, (.long x5_4)), (4, (.int (x4 + 1)))] [0, 1, 2] rfl ?_
      exact hk_8 _ _
def fX0_hangingTogether (F : Nat) (x0 : Int64) : Option (Int64) := (zlet (x0 &&& (-x0)) (fun x2_1 : Int64 => (zit (P := Int64 × Int32) (R := Int64) (fun kc9 p9 => bX0_hangingTogether_8 F x0 kc9 p9.1 p9.2) F (x2_1, (0 : Int32)))))
set_option maxRecDepth 20000 in
theorem wX0_hangingTogether {X : zCx} {res : Int64} {F : Nat}  {x0 : Int64} (C : zC X RX0 cX0_hangingTogether 7 1 25) (hR : zR X (some .long) (some (.long res)) [])  : zJ X 7 res (fX0_hangingTogether F x0) 0 [(0, (.long x0))] [] [] := by
  unfold fX0_hangingTogether
  refine z_lload_n (pc := 0) 0 rfl rfl C dX0_hangingTogether_0 ?_
  refine z_lload_n (pc := 1) 0 rfl rfl C dX0_hangingTogether_1 ?_
  refine z_lneg (pc := 2) C dX0_hangingTogether_2 ?_
  refine z_land (pc := 3) C dX0_hangingTogether_3 ?_
  refine z_letl (fun x2_1 => ?_)
  refine z_lstore_n (pc := 4) [(0, (.long x0)), (2, (.long x2_1))] [1, 0] (by decide) rfl rfl C dX0_hangingTogether_4 ?_
  refine z_iconst (pc := 5) (0 : Int32) (by decide) C dX0_hangingTogether_5 ?_
  refine z_istore (pc := 6) [(0, (.long x0)), (2, (.long x2_1)), (4, (.int (0 : Int32)))] [1, 2, 0] (by decide) rfl C dX0_hangingTogether_6 ?_
  exact zit_J (fun p9 => [(0, (.long x0)), (2, (.long p9.1)), (4, (.int p9.2))]) (fun p9 => []) (fun kc9 hk9 p9 => vX0_hangingTogether_8 C hR   (fun a0 a1 => hk9 (a0, a1)) _ _) F _
theorem mX0_hangingTogether {F : Nat}  {x0 : Int64} {res : Int64}  (hf : fX0_hangingTogether F x0 = some res) : zM yX0_hangingTogether cX0_hangingTogether 7 (some .long) 1 25 [(.long x0)] [] (some (.long res)) [] := zM_of (by decide +kernel) (Nat.le_of_ble_eq_true rfl) (fun X C hR => wX0_hangingTogether (F := F) C hR  hf)
theorem dX3_figuresOf_0 : decode cX3_figuresOf 0 = .ok (.iload_n 0, 1) := by decide +kernel
theorem dX3_figuresOf_1 : decode cX3_figuresOf 1 = .ok (.tableswitch 81 100 114 #[75, 81, 79, 81, 81, 81, 81, 81, 81, 77, 81, 81, 77, 81, 75], 75) := by decide +kernel
theorem dX3_figuresOf_76 : decode cX3_figuresOf 76 = .ok (.iconst 5, 1) := by decide +kernel
theorem dX3_figuresOf_77 : decode cX3_figuresOf 77 = .ok (.ireturn, 1) := by decide +kernel
theorem dX3_figuresOf_78 : decode cX3_figuresOf 78 = .ok (.iconst 3, 1) := by decide +kernel
theorem dX3_figuresOf_79 : decode cX3_figuresOf 79 = .ok (.ireturn, 1) := by decide +kernel
theorem dX3_figuresOf_80 : decode cX3_figuresOf 80 = .ok (.iconst 0, 1) := by decide +kernel
theorem dX3_figuresOf_81 : decode cX3_figuresOf 81 = .ok (.ireturn, 1) := by decide +kernel
theorem dX3_figuresOf_82 : decode cX3_figuresOf 82 = .ok (.iconst (-1), 1) := by decide +kernel
theorem dX3_figuresOf_83 : decode cX3_figuresOf 83 = .ok (.ireturn, 1) := by decide +kernel
def fX3_figuresOf (x0 : Int32) : Option (Int32) := (if x0 = (100 : Int32) then (some ((5 : Int32))) else (if x0 = (102 : Int32) then (some ((0 : Int32))) else (if x0 = (109 : Int32) then (some ((3 : Int32))) else (if x0 = (112 : Int32) then (some ((3 : Int32))) else (if x0 = (114 : Int32) then (some ((5 : Int32))) else (some ((-1 : Int32))))))))
set_option maxRecDepth 20000 in
theorem wX3_figuresOf {X : zCx} {res : Int32}   {x0 : Int32} (C : zC X RX3 cX3_figuresOf 1 0 0) (hR : zR X (some .int) (some (.int res)) [])  : zJ X 1 res (fX3_figuresOf x0) 0 [(0, (.int x0))] [] [] := by
  unfold fX3_figuresOf
  refine z_iload_n (pc := 0) 0 rfl rfl C dX3_figuresOf_0 ?_
  refine z_if (fun hx_1 => ?_) (fun hx_1 => ?_)
  · refine z_tin (pc := 1) (100 : Int32) 76 hx_1 C dX3_figuresOf_1 (by decide) (by decide) rfl (by decide) ?_
    refine z_iconst (pc := 76) (5 : Int32) (by decide) C dX3_figuresOf_76 ?_
    exact z_ireturn (pc := 77) C hR dX3_figuresOf_77 (fun h => by subst h; exact ⟨rfl, rfl⟩)
  · refine z_if (fun hx_2 => ?_) (fun hx_2 => ?_)
    · refine z_tin (pc := 1) (102 : Int32) 80 hx_2 C dX3_figuresOf_1 (by decide) (by decide) rfl (by decide) ?_
      refine z_iconst (pc := 80) (0 : Int32) (by decide) C dX3_figuresOf_80 ?_
      exact z_ireturn (pc := 81) C hR dX3_figuresOf_81 (fun h => by subst h; exact ⟨rfl, rfl⟩)
    · refine z_if (fun hx_3 => ?_) (fun hx_3 => ?_)
      · refine z_tin (pc := 1) (109 : Int32) 78 hx_3 C dX3_figuresOf_1 (by decide) (by decide) rfl (by decide) ?_
        refine z_iconst (pc := 78) (3 : Int32) (by decide) C dX3_figuresOf_78 ?_
        exact z_ireturn (pc := 79) C hR dX3_figuresOf_79 (fun h => by subst h; exact ⟨rfl, rfl⟩)
      · refine z_if (fun hx_4 => ?_) (fun hx_4 => ?_)
        · refine z_tin (pc := 1) (112 : Int32) 78 hx_4 C dX3_figuresOf_1 (by decide) (by decide) rfl (by decide) ?_
          refine z_iconst (pc := 78) (3 : Int32) (by decide) C dX3_figuresOf_78 ?_
          exact z_ireturn (pc := 79) C hR dX3_figuresOf_79 (fun h => by subst h; exact ⟨rfl, rfl⟩)
        · refine z_if (fun hx_5 => ?_) (fun hx_5 => ?_)
          · refine z_tin (pc := 1) (114 : Int32) 76 hx_5 C dX3_figuresOf_1 (by decide) (by decide) rfl (by decide) ?_
            refine z_iconst (pc := 76) (5 : Int32) (by decide) C dX3_figuresOf_76 ?_
            exact z_ireturn (pc := 77) C hR dX3_figuresOf_77 (fun h => by subst h; exact ⟨rfl, rfl⟩)
          · refine z_tdef (pc := 1) [(100 : Int32), (102 : Int32), (109 : Int32), (112 : Int32), (114 : Int32)] 82 (by intro v hv; simp only [List.mem_cons, List.not_mem_nil, or_false] at hv; rcases hv with rfl | rfl | rfl | rfl | rfl <;> assumption) C dX3_figuresOf_1 (by decide) (by decide) ?_
            refine z_iconst (pc := 82) (-1 : Int32) (by decide) C dX3_figuresOf_82 ?_
            exact z_ireturn (pc := 83) C hR dX3_figuresOf_83 (fun h => by subst h; exact ⟨rfl, rfl⟩)
theorem mX3_figuresOf   {x0 : Int32} {res : Int32}  (hf : fX3_figuresOf x0 = some res) : zM yX3_figuresOf cX3_figuresOf 1 (some .int) 0 0 [(.int x0)] [] (some (.int res)) [] := zM_of (by decide +kernel) (Nat.le_of_ble_eq_true rfl) (fun X C hR => wX3_figuresOf C hR  hf)
theorem dX3_canStand_0 : decode cX3_canStand 0 = .ok (.iload_n 1, 1) := by decide +kernel
theorem dX3_canStand_1 : decode cX3_canStand 1 = .ok (.iconst (-1), 1) := by decide +kernel
theorem dX3_canStand_2 : decode cX3_canStand 2 = .ok (.if_icmp .ne 17, 3) := by decide +kernel
theorem dX3_canStand_5 : decode cX3_canStand 5 = .ok (.iload_n 0, 1) := by decide +kernel
theorem dX3_canStand_6 : decode cX3_canStand 6 = .ok (.invokestatic 27, 3) := by decide +kernel
theorem dX3_canStand_9 : decode cX3_canStand 9 = .ok (.iconst (-1), 1) := by decide +kernel
theorem dX3_canStand_10 : decode cX3_canStand 10 = .ok (.if_icmp .eq 7, 3) := by decide +kernel
theorem dX3_canStand_13 : decode cX3_canStand 13 = .ok (.iconst 1, 1) := by decide +kernel
theorem dX3_canStand_14 : decode cX3_canStand 14 = .ok (.goto 4, 3) := by decide +kernel
theorem dX3_canStand_17 : decode cX3_canStand 17 = .ok (.iconst 0, 1) := by decide +kernel
theorem dX3_canStand_18 : decode cX3_canStand 18 = .ok (.ireturn, 1) := by decide +kernel
theorem dX3_canStand_19 : decode cX3_canStand 19 = .ok (.iload_n 1, 1) := by decide +kernel
theorem dX3_canStand_20 : decode cX3_canStand 20 = .ok (.ifCond .ne 17, 3) := by decide +kernel
theorem dX3_canStand_23 : decode cX3_canStand 23 = .ok (.iload_n 0, 1) := by decide +kernel
theorem dX3_canStand_24 : decode cX3_canStand 24 = .ok (.bipush 59, 2) := by decide +kernel
theorem dX3_canStand_26 : decode cX3_canStand 26 = .ok (.if_icmp .ne 7, 3) := by decide +kernel
theorem dX3_canStand_29 : decode cX3_canStand 29 = .ok (.iconst 1, 1) := by decide +kernel
theorem dX3_canStand_30 : decode cX3_canStand 30 = .ok (.goto 24, 3) := by decide +kernel
theorem dX3_canStand_33 : decode cX3_canStand 33 = .ok (.iconst 0, 1) := by decide +kernel
theorem dX3_canStand_34 : decode cX3_canStand 34 = .ok (.goto 20, 3) := by decide +kernel
theorem dX3_canStand_37 : decode cX3_canStand 37 = .ok (.iload_n 0, 1) := by decide +kernel
theorem dX3_canStand_38 : decode cX3_canStand 38 = .ok (.bipush 48, 2) := by decide +kernel
theorem dX3_canStand_40 : decode cX3_canStand 40 = .ok (.if_icmp .lt 13, 3) := by decide +kernel
theorem dX3_canStand_43 : decode cX3_canStand 43 = .ok (.iload_n 0, 1) := by decide +kernel
theorem dX3_canStand_44 : decode cX3_canStand 44 = .ok (.bipush 57, 2) := by decide +kernel
theorem dX3_canStand_46 : decode cX3_canStand 46 = .ok (.if_icmp .gt 7, 3) := by decide +kernel
theorem dX3_canStand_49 : decode cX3_canStand 49 = .ok (.iconst 1, 1) := by decide +kernel
theorem dX3_canStand_50 : decode cX3_canStand 50 = .ok (.goto 4, 3) := by decide +kernel
theorem dX3_canStand_53 : decode cX3_canStand 53 = .ok (.iconst 0, 1) := by decide +kernel
theorem dX3_canStand_54 : decode cX3_canStand 54 = .ok (.ireturn, 1) := by decide +kernel
def fX3_canStand (x0 : Int32) (x1 : Int32) : Option (Int32) := (if x1 = (-1 : Int32) then (Option.bind (fX3_figuresOf x0) (fun r_1 : Int32 => (if r_1 = (-1 : Int32) then (zbk (0 : Int32) (some ((0 : Int32)))) else (zbk (1 : Int32) (some ((1 : Int32))))))) else (if x1 = 0 then (if x0 = (59 : Int32) then (zbk (1 : Int32) (some ((1 : Int32)))) else (zbk (0 : Int32) (some ((0 : Int32))))) else (if x0 < (48 : Int32) then (zbk (0 : Int32) (some ((0 : Int32)))) else (if (57 : Int32) < x0 then (zbk (0 : Int32) (some ((0 : Int32)))) else (zbk (1 : Int32) (some ((1 : Int32))))))))
set_option maxRecDepth 20000 in
theorem wX3_canStand {X : zCx} {res : Int32}   {x0 : Int32} {x1 : Int32} (C : zC X RX3 cX3_canStand 2 1 20) (hR : zR X (some .boolean) (some (.int res)) [])  : zJ X 2 res (fX3_canStand x0 x1) 0 [(0, (.int x0)), (1, (.int x1))] [] [] := by
  unfold fX3_canStand
  refine z_iload_n (pc := 0) 1 rfl rfl C dX3_canStand_0 ?_
  refine z_iconst (pc := 1) (-1 : Int32) (by decide) C dX3_canStand_1 ?_
  refine z_icmp_ne (pc := 2) 19 C dX3_canStand_2 (by decide) ?_ ?_
  · refine z_iload_n (pc := 5) 0 rfl rfl C dX3_canStand_5 ?_
    refine z_callS (pc := 6) (rf' := 0) (rl' := 0) (fX3_figuresOf x0) [(.int x0)] [] [] (fun r_1 => (some (.int r_1))) (fun r_1 => []) [] (fun r_1 => []) C dX3_canStand_6 zy_X3_figuresOf zw_660 (fun _ hr9 => mX3_figuresOf  hr9) (by decide) rfl (Nat.le_of_ble_eq_true rfl) (List.Perm.refl _) (fun _ => List.Perm.refl _) rfl (fun r_1 hr_2 => ?_)
    show zJ X 2 res _ 9 [(0, (.int x0)), (1, (.int x1))] [(.int r_1)] []
    refine z_iconst (pc := 9) (-1 : Int32) (by decide) C dX3_canStand_9 ?_
    refine z_icmp_eq (pc := 10) 17 C dX3_canStand_10 (by decide) ?_ ?_
    · refine z_iconst (pc := 17) (0 : Int32) (by decide) C dX3_canStand_17 ?_
      exact z_zreturn (pc := 18) C hR dX3_canStand_18 (fun h => by subst h; exact ⟨rfl, rfl⟩)
    · refine z_iconst (pc := 13) (1 : Int32) (by decide) C dX3_canStand_13 ?_
      refine z_goto (pc := 14) 18 C dX3_canStand_14 (by decide) ?_
      exact z_zreturn (pc := 18) C hR dX3_canStand_18 (fun h => by subst h; exact ⟨rfl, rfl⟩)
  · refine z_iload_n (pc := 19) 1 rfl rfl C dX3_canStand_19 ?_
    refine z_if_ne (pc := 20) 37 C dX3_canStand_20 (by decide) ?_ ?_
    · refine z_iload_n (pc := 23) 0 rfl rfl C dX3_canStand_23 ?_
      refine z_bipush (pc := 24) (59 : Int32) (by decide) C dX3_canStand_24 ?_
      refine z_icmp_ne (pc := 26) 33 C dX3_canStand_26 (by decide) ?_ ?_
      · refine z_iconst (pc := 29) (1 : Int32) (by decide) C dX3_canStand_29 ?_
        refine z_goto (pc := 30) 54 C dX3_canStand_30 (by decide) ?_
        exact z_zreturn (pc := 54) C hR dX3_canStand_54 (fun h => by subst h; exact ⟨rfl, rfl⟩)
      · refine z_iconst (pc := 33) (0 : Int32) (by decide) C dX3_canStand_33 ?_
        refine z_goto (pc := 34) 54 C dX3_canStand_34 (by decide) ?_
        exact z_zreturn (pc := 54) C hR dX3_canStand_54 (fun h => by subst h; exact ⟨rfl, rfl⟩)
    · refine z_iload_n (pc := 37) 0 rfl rfl C dX3_canStand_37 ?_
      refine z_bipush (pc := 38) (48 : Int32) (by decide) C dX3_canStand_38 ?_
      refine z_icmp_lt (pc := 40) 53 C dX3_canStand_40 (by decide) ?_ ?_
      · refine z_iconst (pc := 53) (0 : Int32) (by decide) C dX3_canStand_53 ?_
        exact z_zreturn (pc := 54) C hR dX3_canStand_54 (fun h => by subst h; exact ⟨rfl, rfl⟩)
      · refine z_iload_n (pc := 43) 0 rfl rfl C dX3_canStand_43 ?_
        refine z_bipush (pc := 44) (57 : Int32) (by decide) C dX3_canStand_44 ?_
        refine z_icmp_gt (pc := 46) 53 C dX3_canStand_46 (by decide) ?_ ?_
        · refine z_iconst (pc := 53) (0 : Int32) (by decide) C dX3_canStand_53 ?_
          exact z_zreturn (pc := 54) C hR dX3_canStand_54 (fun h => by subst h; exact ⟨rfl, rfl⟩)
        · refine z_iconst (pc := 49) (1 : Int32) (by decide) C dX3_canStand_49 ?_
          refine z_goto (pc := 50) 54 C dX3_canStand_50 (by decide) ?_
          exact z_zreturn (pc := 54) C hR dX3_canStand_54 (fun h => by subst h; exact ⟨rfl, rfl⟩)
theorem mX3_canStand   {x0 : Int32} {x1 : Int32} {res : Int32}  (hf : fX3_canStand x0 x1 = some res) : zM yX3_canStand cX3_canStand 2 (some .boolean) 1 20 [(.int x0), (.int x1)] [] (some (.int res)) [] := zM_of (by decide +kernel) (Nat.le_of_ble_eq_true rfl) (fun X C hR => wX3_canStand C hR  hf)
theorem dJ13_bitCount_95d88_0 : decode cJ13_bitCount_95d88 0 = .ok (.lload_n 0, 1) := by decide +kernel
theorem dJ13_bitCount_95d88_1 : decode cJ13_bitCount_95d88 1 = .ok (.lload_n 0, 1) := by decide +kernel
theorem dJ13_bitCount_95d88_2 : decode cJ13_bitCount_95d88 2 = .ok (.iconst 1, 1) := by decide +kernel
theorem dJ13_bitCount_95d88_3 : decode cJ13_bitCount_95d88 3 = .ok (.lushr, 1) := by decide +kernel
theorem dJ13_bitCount_95d88_4 : decode cJ13_bitCount_95d88 4 = .ok (.ldc2_w 314, 3) := by decide +kernel
theorem dJ13_bitCount_95d88_7 : decode cJ13_bitCount_95d88 7 = .ok (.land, 1) := by decide +kernel
theorem dJ13_bitCount_95d88_8 : decode cJ13_bitCount_95d88 8 = .ok (.lsub, 1) := by decide +kernel
theorem dJ13_bitCount_95d88_9 : decode cJ13_bitCount_95d88 9 = .ok (.lstore_n 0, 1) := by decide +kernel
theorem dJ13_bitCount_95d88_10 : decode cJ13_bitCount_95d88 10 = .ok (.lload_n 0, 1) := by decide +kernel
theorem dJ13_bitCount_95d88_11 : decode cJ13_bitCount_95d88 11 = .ok (.ldc2_w 316, 3) := by decide +kernel
theorem dJ13_bitCount_95d88_14 : decode cJ13_bitCount_95d88 14 = .ok (.land, 1) := by decide +kernel
theorem dJ13_bitCount_95d88_15 : decode cJ13_bitCount_95d88 15 = .ok (.lload_n 0, 1) := by decide +kernel
theorem dJ13_bitCount_95d88_16 : decode cJ13_bitCount_95d88 16 = .ok (.iconst 2, 1) := by decide +kernel
theorem dJ13_bitCount_95d88_17 : decode cJ13_bitCount_95d88 17 = .ok (.lushr, 1) := by decide +kernel
theorem dJ13_bitCount_95d88_18 : decode cJ13_bitCount_95d88 18 = .ok (.ldc2_w 316, 3) := by decide +kernel
theorem dJ13_bitCount_95d88_21 : decode cJ13_bitCount_95d88 21 = .ok (.land, 1) := by decide +kernel
theorem dJ13_bitCount_95d88_22 : decode cJ13_bitCount_95d88 22 = .ok (.ladd, 1) := by decide +kernel
theorem dJ13_bitCount_95d88_23 : decode cJ13_bitCount_95d88 23 = .ok (.lstore_n 0, 1) := by decide +kernel
theorem dJ13_bitCount_95d88_24 : decode cJ13_bitCount_95d88 24 = .ok (.lload_n 0, 1) := by decide +kernel
theorem dJ13_bitCount_95d88_25 : decode cJ13_bitCount_95d88 25 = .ok (.lload_n 0, 1) := by decide +kernel
theorem dJ13_bitCount_95d88_26 : decode cJ13_bitCount_95d88 26 = .ok (.iconst 4, 1) := by decide +kernel
theorem dJ13_bitCount_95d88_27 : decode cJ13_bitCount_95d88 27 = .ok (.lushr, 1) := by decide +kernel
theorem dJ13_bitCount_95d88_28 : decode cJ13_bitCount_95d88 28 = .ok (.ladd, 1) := by decide +kernel
theorem dJ13_bitCount_95d88_29 : decode cJ13_bitCount_95d88 29 = .ok (.ldc2_w 318, 3) := by decide +kernel
theorem dJ13_bitCount_95d88_32 : decode cJ13_bitCount_95d88 32 = .ok (.land, 1) := by decide +kernel
theorem dJ13_bitCount_95d88_33 : decode cJ13_bitCount_95d88 33 = .ok (.lstore_n 0, 1) := by decide +kernel
theorem dJ13_bitCount_95d88_34 : decode cJ13_bitCount_95d88 34 = .ok (.lload_n 0, 1) := by decide +kernel
theorem dJ13_bitCount_95d88_35 : decode cJ13_bitCount_95d88 35 = .ok (.lload_n 0, 1) := by decide +kernel
theorem dJ13_bitCount_95d88_36 : decode cJ13_bitCount_95d88 36 = .ok (.bipush 8, 2) := by decide +kernel
theorem dJ13_bitCount_95d88_38 : decode cJ13_bitCount_95d88 38 = .ok (.lushr, 1) := by decide +kernel
theorem dJ13_bitCount_95d88_39 : decode cJ13_bitCount_95d88 39 = .ok (.ladd, 1) := by decide +kernel
theorem dJ13_bitCount_95d88_40 : decode cJ13_bitCount_95d88 40 = .ok (.lstore_n 0, 1) := by decide +kernel
theorem dJ13_bitCount_95d88_41 : decode cJ13_bitCount_95d88 41 = .ok (.lload_n 0, 1) := by decide +kernel
theorem dJ13_bitCount_95d88_42 : decode cJ13_bitCount_95d88 42 = .ok (.lload_n 0, 1) := by decide +kernel
theorem dJ13_bitCount_95d88_43 : decode cJ13_bitCount_95d88 43 = .ok (.bipush 16, 2) := by decide +kernel
theorem dJ13_bitCount_95d88_45 : decode cJ13_bitCount_95d88 45 = .ok (.lushr, 1) := by decide +kernel
theorem dJ13_bitCount_95d88_46 : decode cJ13_bitCount_95d88 46 = .ok (.ladd, 1) := by decide +kernel
theorem dJ13_bitCount_95d88_47 : decode cJ13_bitCount_95d88 47 = .ok (.lstore_n 0, 1) := by decide +kernel
theorem dJ13_bitCount_95d88_48 : decode cJ13_bitCount_95d88 48 = .ok (.lload_n 0, 1) := by decide +kernel
theorem dJ13_bitCount_95d88_49 : decode cJ13_bitCount_95d88 49 = .ok (.lload_n 0, 1) := by decide +kernel
theorem dJ13_bitCount_95d88_50 : decode cJ13_bitCount_95d88 50 = .ok (.bipush 32, 2) := by decide +kernel
theorem dJ13_bitCount_95d88_52 : decode cJ13_bitCount_95d88 52 = .ok (.lushr, 1) := by decide +kernel
theorem dJ13_bitCount_95d88_53 : decode cJ13_bitCount_95d88 53 = .ok (.ladd, 1) := by decide +kernel
theorem dJ13_bitCount_95d88_54 : decode cJ13_bitCount_95d88 54 = .ok (.lstore_n 0, 1) := by decide +kernel
theorem dJ13_bitCount_95d88_55 : decode cJ13_bitCount_95d88 55 = .ok (.lload_n 0, 1) := by decide +kernel
theorem dJ13_bitCount_95d88_56 : decode cJ13_bitCount_95d88 56 = .ok (.l2i, 1) := by decide +kernel
theorem dJ13_bitCount_95d88_57 : decode cJ13_bitCount_95d88 57 = .ok (.bipush 127, 2) := by decide +kernel
theorem dJ13_bitCount_95d88_59 : decode cJ13_bitCount_95d88 59 = .ok (.iand, 1) := by decide +kernel
theorem dJ13_bitCount_95d88_60 : decode cJ13_bitCount_95d88 60 = .ok (.ireturn, 1) := by decide +kernel
def fJ13_bitCount_95d88 (x0 : Int64) : Option (Int32) := (zlet (x0 - (((x0.toUInt64 >>> ((1 : Int32).toInt64.toUInt64 &&& Int64.toUInt64 63)).toInt64) &&& (6148914691236517205 : Int64))) (fun x0_1 : Int64 => (zlet ((x0_1 &&& (3689348814741910323 : Int64)) + (((x0_1.toUInt64 >>> ((2 : Int32).toInt64.toUInt64 &&& Int64.toUInt64 63)).toInt64) &&& (3689348814741910323 : Int64))) (fun x0_2 : Int64 => (zlet ((x0_2 + ((x0_2.toUInt64 >>> ((4 : Int32).toInt64.toUInt64 &&& Int64.toUInt64 63)).toInt64)) &&& (1085102592571150095 : Int64)) (fun x0_3 : Int64 => (zlet (x0_3 + ((x0_3.toUInt64 >>> ((8 : Int32).toInt64.toUInt64 &&& Int64.toUInt64 63)).toInt64)) (fun x0_4 : Int64 => (zlet (x0_4 + ((x0_4.toUInt64 >>> ((16 : Int32).toInt64.toUInt64 &&& Int64.toUInt64 63)).toInt64)) (fun x0_5 : Int64 => (zlet (x0_5 + ((x0_5.toUInt64 >>> ((32 : Int32).toInt64.toUInt64 &&& Int64.toUInt64 63)).toInt64)) (fun x0_6 : Int64 => (some (x0_6.toInt32 &&& (127 : Int32)))))))))))))))
set_option maxRecDepth 20000 in
theorem wJ13_bitCount_95d88 {X : zCx} {res : Int32}   {x0 : Int64} (C : zC X RJ13 cJ13_bitCount_95d88 2 0 0) (hR : zR X (some .int) (some (.int res)) [])  : zJ X 2 res (fJ13_bitCount_95d88 x0) 0 [(0, (.long x0))] [] [] := by
  unfold fJ13_bitCount_95d88
  refine z_lload_n (pc := 0) 0 rfl rfl C dJ13_bitCount_95d88_0 ?_
  refine z_lload_n (pc := 1) 0 rfl rfl C dJ13_bitCount_95d88_1 ?_
  refine z_iconst (pc := 2) (1 : Int32) (by decide) C dJ13_bitCount_95d88_2 ?_
  refine z_lushr (pc := 3) C dJ13_bitCount_95d88_3 ?_
  refine z_ldc2_w (pc := 4) (6148914691236517205 : Int64) zw_317 C dJ13_bitCount_95d88_4 ?_
  refine z_land (pc := 7) C dJ13_bitCount_95d88_7 ?_
  refine z_lsub (pc := 8) C dJ13_bitCount_95d88_8 ?_
  refine z_letl (fun x0_1 => ?_)
  refine z_lstore_n (pc := 9) [(0, (.long x0_1))] [0] (by decide) rfl rfl C dJ13_bitCount_95d88_9 ?_
  refine z_lload_n (pc := 10) 0 rfl rfl C dJ13_bitCount_95d88_10 ?_
  refine z_ldc2_w (pc := 11) (3689348814741910323 : Int64) zw_318 C dJ13_bitCount_95d88_11 ?_
  refine z_land (pc := 14) C dJ13_bitCount_95d88_14 ?_
  refine z_lload_n (pc := 15) 0 rfl rfl C dJ13_bitCount_95d88_15 ?_
  refine z_iconst (pc := 16) (2 : Int32) (by decide) C dJ13_bitCount_95d88_16 ?_
  refine z_lushr (pc := 17) C dJ13_bitCount_95d88_17 ?_
  refine z_ldc2_w (pc := 18) (3689348814741910323 : Int64) zw_318 C dJ13_bitCount_95d88_18 ?_
  refine z_land (pc := 21) C dJ13_bitCount_95d88_21 ?_
  refine z_ladd (pc := 22) C dJ13_bitCount_95d88_22 ?_
  refine z_letl (fun x0_2 => ?_)
  refine z_lstore_n (pc := 23) [(0, (.long x0_2))] [0] (by decide) rfl rfl C dJ13_bitCount_95d88_23 ?_
  refine z_lload_n (pc := 24) 0 rfl rfl C dJ13_bitCount_95d88_24 ?_
  refine z_lload_n (pc := 25) 0 rfl rfl C dJ13_bitCount_95d88_25 ?_
  refine z_iconst (pc := 26) (4 : Int32) (by decide) C dJ13_bitCount_95d88_26 ?_
  refine z_lushr (pc := 27) C dJ13_bitCount_95d88_27 ?_
  refine z_ladd (pc := 28) C dJ13_bitCount_95d88_28 ?_
  refine z_ldc2_w (pc := 29) (1085102592571150095 : Int64) zw_319 C dJ13_bitCount_95d88_29 ?_
  refine z_land (pc := 32) C dJ13_bitCount_95d88_32 ?_
  refine z_letl (fun x0_3 => ?_)
  refine z_lstore_n (pc := 33) [(0, (.long x0_3))] [0] (by decide) rfl rfl C dJ13_bitCount_95d88_33 ?_
  refine z_lload_n (pc := 34) 0 rfl rfl C dJ13_bitCount_95d88_34 ?_
  refine z_lload_n (pc := 35) 0 rfl rfl C dJ13_bitCount_95d88_35 ?_
  refine z_bipush (pc := 36) (8 : Int32) (by decide) C dJ13_bitCount_95d88_36 ?_
  refine z_lushr (pc := 38) C dJ13_bitCount_95d88_38 ?_
  refine z_ladd (pc := 39) C dJ13_bitCount_95d88_39 ?_
  refine z_letl (fun x0_4 => ?_)
  refine z_lstore_n (pc := 40) [(0, (.long x0_4))] [0] (by decide) rfl rfl C dJ13_bitCount_95d88_40 ?_
  refine z_lload_n (pc := 41) 0 rfl rfl C dJ13_bitCount_95d88_41 ?_
  refine z_lload_n (pc := 42) 0 rfl rfl C dJ13_bitCount_95d88_42 ?_
  refine z_bipush (pc := 43) (16 : Int32) (by decide) C dJ13_bitCount_95d88_43 ?_
  refine z_lushr (pc := 45) C dJ13_bitCount_95d88_45 ?_
  refine z_ladd (pc := 46) C dJ13_bitCount_95d88_46 ?_
  refine z_letl (fun x0_5 => ?_)
  refine z_lstore_n (pc := 47) [(0, (.long x0_5))] [0] (by decide) rfl rfl C dJ13_bitCount_95d88_47 ?_
  refine z_lload_n (pc := 48) 0 rfl rfl C dJ13_bitCount_95d88_48 ?_
  refine z_lload_n (pc := 49) 0 rfl rfl C dJ13_bitCount_95d88_49 ?_
  refine z_bipush (pc := 50) (32 : Int32) (by decide) C dJ13_bitCount_95d88_50 ?_
  refine z_lushr (pc := 52) C dJ13_bitCount_95d88_52 ?_
  refine z_ladd (pc := 53) C dJ13_bitCount_95d88_53 ?_
  refine z_letl (fun x0_6 => ?_)
  refine z_lstore_n (pc := 54) [(0, (.long x0_6))] [0] (by decide) rfl rfl C dJ13_bitCount_95d88_54 ?_
  refine z_lload_n (pc := 55) 0 rfl rfl C dJ13_bitCount_95d88_55 ?_
  refine z_l2i (pc := 56) C dJ13_bitCount_95d88_56 ?_
  refine z_bipush (pc := 57) (127 : Int32) (by decide) C dJ13_bitCount_95d88_57 ?_
  refine z_iand (pc := 59) C dJ13_bitCount_95d88_59 ?_
  exact z_ireturn (pc := 60) C hR dJ13_bitCount_95d88_60 (fun h => by subst h; exact ⟨rfl, rfl⟩)
theorem mJ13_bitCount_95d88   {x0 : Int64} {res : Int32}  (hf : fJ13_bitCount_95d88 x0 = some res) : zM yJ13_bitCount_95d88 cJ13_bitCount_95d88 2 (some .int) 0 0 [(.long x0)] [] (some (.int res)) [] := zM_of (by decide +kernel) (Nat.le_of_ble_eq_true rfl) (fun X C hR => wJ13_bitCount_95d88 C hR  hf)
theorem dJ6_numberOfTrailingZeros_0f7a4_0 : decode cJ6_numberOfTrailingZeros_0f7a4 0 = .ok (.iload_n 0, 1) := by decide +kernel
theorem dJ6_numberOfTrailingZeros_0f7a4_1 : decode cJ6_numberOfTrailingZeros_0f7a4 1 = .ok (.iconst (-1), 1) := by decide +kernel
theorem dJ6_numberOfTrailingZeros_0f7a4_2 : decode cJ6_numberOfTrailingZeros_0f7a4 2 = .ok (.ixor, 1) := by decide +kernel
theorem dJ6_numberOfTrailingZeros_0f7a4_3 : decode cJ6_numberOfTrailingZeros_0f7a4 3 = .ok (.iload_n 0, 1) := by decide +kernel
theorem dJ6_numberOfTrailingZeros_0f7a4_4 : decode cJ6_numberOfTrailingZeros_0f7a4 4 = .ok (.iconst 1, 1) := by decide +kernel
theorem dJ6_numberOfTrailingZeros_0f7a4_5 : decode cJ6_numberOfTrailingZeros_0f7a4 5 = .ok (.isub, 1) := by decide +kernel
theorem dJ6_numberOfTrailingZeros_0f7a4_6 : decode cJ6_numberOfTrailingZeros_0f7a4 6 = .ok (.iand, 1) := by decide +kernel
theorem dJ6_numberOfTrailingZeros_0f7a4_7 : decode cJ6_numberOfTrailingZeros_0f7a4 7 = .ok (.istore_n 0, 1) := by decide +kernel
theorem dJ6_numberOfTrailingZeros_0f7a4_8 : decode cJ6_numberOfTrailingZeros_0f7a4 8 = .ok (.iload_n 0, 1) := by decide +kernel
theorem dJ6_numberOfTrailingZeros_0f7a4_9 : decode cJ6_numberOfTrailingZeros_0f7a4 9 = .ok (.ifCond .gt 8, 3) := by decide +kernel
theorem dJ6_numberOfTrailingZeros_0f7a4_12 : decode cJ6_numberOfTrailingZeros_0f7a4 12 = .ok (.iload_n 0, 1) := by decide +kernel
theorem dJ6_numberOfTrailingZeros_0f7a4_13 : decode cJ6_numberOfTrailingZeros_0f7a4 13 = .ok (.bipush 32, 2) := by decide +kernel
theorem dJ6_numberOfTrailingZeros_0f7a4_15 : decode cJ6_numberOfTrailingZeros_0f7a4 15 = .ok (.iand, 1) := by decide +kernel
theorem dJ6_numberOfTrailingZeros_0f7a4_16 : decode cJ6_numberOfTrailingZeros_0f7a4 16 = .ok (.ireturn, 1) := by decide +kernel
theorem dJ6_numberOfTrailingZeros_0f7a4_17 : decode cJ6_numberOfTrailingZeros_0f7a4 17 = .ok (.iconst 1, 1) := by decide +kernel
theorem dJ6_numberOfTrailingZeros_0f7a4_18 : decode cJ6_numberOfTrailingZeros_0f7a4 18 = .ok (.istore_n 1, 1) := by decide +kernel
theorem dJ6_numberOfTrailingZeros_0f7a4_19 : decode cJ6_numberOfTrailingZeros_0f7a4 19 = .ok (.iload_n 0, 1) := by decide +kernel
theorem dJ6_numberOfTrailingZeros_0f7a4_20 : decode cJ6_numberOfTrailingZeros_0f7a4 20 = .ok (.ldc_w 264, 3) := by decide +kernel
theorem dJ6_numberOfTrailingZeros_0f7a4_23 : decode cJ6_numberOfTrailingZeros_0f7a4 23 = .ok (.if_icmp .le 11, 3) := by decide +kernel
theorem dJ6_numberOfTrailingZeros_0f7a4_26 : decode cJ6_numberOfTrailingZeros_0f7a4 26 = .ok (.iinc 1 16, 3) := by decide +kernel
theorem dJ6_numberOfTrailingZeros_0f7a4_29 : decode cJ6_numberOfTrailingZeros_0f7a4 29 = .ok (.iload_n 0, 1) := by decide +kernel
theorem dJ6_numberOfTrailingZeros_0f7a4_30 : decode cJ6_numberOfTrailingZeros_0f7a4 30 = .ok (.bipush 16, 2) := by decide +kernel
theorem dJ6_numberOfTrailingZeros_0f7a4_32 : decode cJ6_numberOfTrailingZeros_0f7a4 32 = .ok (.iushr, 1) := by decide +kernel
theorem dJ6_numberOfTrailingZeros_0f7a4_33 : decode cJ6_numberOfTrailingZeros_0f7a4 33 = .ok (.istore_n 0, 1) := by decide +kernel
theorem dJ6_numberOfTrailingZeros_0f7a4_34 : decode cJ6_numberOfTrailingZeros_0f7a4 34 = .ok (.iload_n 0, 1) := by decide +kernel
theorem dJ6_numberOfTrailingZeros_0f7a4_35 : decode cJ6_numberOfTrailingZeros_0f7a4 35 = .ok (.sipush 256, 3) := by decide +kernel
theorem dJ6_numberOfTrailingZeros_0f7a4_38 : decode cJ6_numberOfTrailingZeros_0f7a4 38 = .ok (.if_icmp .le 11, 3) := by decide +kernel
theorem dJ6_numberOfTrailingZeros_0f7a4_41 : decode cJ6_numberOfTrailingZeros_0f7a4 41 = .ok (.iinc 1 8, 3) := by decide +kernel
theorem dJ6_numberOfTrailingZeros_0f7a4_44 : decode cJ6_numberOfTrailingZeros_0f7a4 44 = .ok (.iload_n 0, 1) := by decide +kernel
theorem dJ6_numberOfTrailingZeros_0f7a4_45 : decode cJ6_numberOfTrailingZeros_0f7a4 45 = .ok (.bipush 8, 2) := by decide +kernel
theorem dJ6_numberOfTrailingZeros_0f7a4_47 : decode cJ6_numberOfTrailingZeros_0f7a4 47 = .ok (.iushr, 1) := by decide +kernel
theorem dJ6_numberOfTrailingZeros_0f7a4_48 : decode cJ6_numberOfTrailingZeros_0f7a4 48 = .ok (.istore_n 0, 1) := by decide +kernel
theorem dJ6_numberOfTrailingZeros_0f7a4_49 : decode cJ6_numberOfTrailingZeros_0f7a4 49 = .ok (.iload_n 0, 1) := by decide +kernel
theorem dJ6_numberOfTrailingZeros_0f7a4_50 : decode cJ6_numberOfTrailingZeros_0f7a4 50 = .ok (.bipush 16, 2) := by decide +kernel
theorem dJ6_numberOfTrailingZeros_0f7a4_52 : decode cJ6_numberOfTrailingZeros_0f7a4 52 = .ok (.if_icmp .le 10, 3) := by decide +kernel
theorem dJ6_numberOfTrailingZeros_0f7a4_55 : decode cJ6_numberOfTrailingZeros_0f7a4 55 = .ok (.iinc 1 4, 3) := by decide +kernel
theorem dJ6_numberOfTrailingZeros_0f7a4_58 : decode cJ6_numberOfTrailingZeros_0f7a4 58 = .ok (.iload_n 0, 1) := by decide +kernel
theorem dJ6_numberOfTrailingZeros_0f7a4_59 : decode cJ6_numberOfTrailingZeros_0f7a4 59 = .ok (.iconst 4, 1) := by decide +kernel
theorem dJ6_numberOfTrailingZeros_0f7a4_60 : decode cJ6_numberOfTrailingZeros_0f7a4 60 = .ok (.iushr, 1) := by decide +kernel
theorem dJ6_numberOfTrailingZeros_0f7a4_61 : decode cJ6_numberOfTrailingZeros_0f7a4 61 = .ok (.istore_n 0, 1) := by decide +kernel
theorem dJ6_numberOfTrailingZeros_0f7a4_62 : decode cJ6_numberOfTrailingZeros_0f7a4 62 = .ok (.iload_n 0, 1) := by decide +kernel
theorem dJ6_numberOfTrailingZeros_0f7a4_63 : decode cJ6_numberOfTrailingZeros_0f7a4 63 = .ok (.iconst 4, 1) := by decide +kernel
theorem dJ6_numberOfTrailingZeros_0f7a4_64 : decode cJ6_numberOfTrailingZeros_0f7a4 64 = .ok (.if_icmp .le 10, 3) := by decide +kernel
theorem dJ6_numberOfTrailingZeros_0f7a4_67 : decode cJ6_numberOfTrailingZeros_0f7a4 67 = .ok (.iinc 1 2, 3) := by decide +kernel
theorem dJ6_numberOfTrailingZeros_0f7a4_70 : decode cJ6_numberOfTrailingZeros_0f7a4 70 = .ok (.iload_n 0, 1) := by decide +kernel
theorem dJ6_numberOfTrailingZeros_0f7a4_71 : decode cJ6_numberOfTrailingZeros_0f7a4 71 = .ok (.iconst 2, 1) := by decide +kernel
theorem dJ6_numberOfTrailingZeros_0f7a4_72 : decode cJ6_numberOfTrailingZeros_0f7a4 72 = .ok (.iushr, 1) := by decide +kernel
theorem dJ6_numberOfTrailingZeros_0f7a4_73 : decode cJ6_numberOfTrailingZeros_0f7a4 73 = .ok (.istore_n 0, 1) := by decide +kernel
theorem dJ6_numberOfTrailingZeros_0f7a4_74 : decode cJ6_numberOfTrailingZeros_0f7a4 74 = .ok (.iload_n 1, 1) := by decide +kernel
theorem dJ6_numberOfTrailingZeros_0f7a4_75 : decode cJ6_numberOfTrailingZeros_0f7a4 75 = .ok (.iload_n 0, 1) := by decide +kernel
theorem dJ6_numberOfTrailingZeros_0f7a4_76 : decode cJ6_numberOfTrailingZeros_0f7a4 76 = .ok (.iconst 1, 1) := by decide +kernel
theorem dJ6_numberOfTrailingZeros_0f7a4_77 : decode cJ6_numberOfTrailingZeros_0f7a4 77 = .ok (.iushr, 1) := by decide +kernel
theorem dJ6_numberOfTrailingZeros_0f7a4_78 : decode cJ6_numberOfTrailingZeros_0f7a4 78 = .ok (.iadd, 1) := by decide +kernel
theorem dJ6_numberOfTrailingZeros_0f7a4_79 : decode cJ6_numberOfTrailingZeros_0f7a4 79 = .ok (.ireturn, 1) := by decide +kernel
def jJ6_numberOfTrailingZeros_0f7a4_62 (x0 : Int32) (x1 : Int32) : Option (Int32) := (if x0 ≤ (4 : Int32) then (some (x1 + ((x0.toUInt32 >>> ((1 : Int32).toUInt32 &&& Int32.toUInt32 31)).toInt32))) else (zlet ((x0.toUInt32 >>> ((2 : Int32).toUInt32 &&& Int32.toUInt32 31)).toInt32) (fun x0_2 : Int32 => (some ((x1 + 2) + ((x0_2.toUInt32 >>> ((1 : Int32).toUInt32 &&& Int32.toUInt32 31)).toInt32))))))
set_option maxRecDepth 20000 in
theorem wJ6_numberOfTrailingZeros_0f7a4_62 {X : zCx} {res : Int32} (C : zC X RJ6 cJ6_numberOfTrailingZeros_0f7a4 2 0 0) (hR : zR X (some .int) (some (.int res)) []) (x0 : Int32) (x1 : Int32) : zJ X 2 res (jJ6_numberOfTrailingZeros_0f7a4_62 x0 x1) 62 [(0, (.int x0)), (1, (.int x1))] [] [] := by
  unfold jJ6_numberOfTrailingZeros_0f7a4_62
  refine z_iload_n (pc := 62) 0 rfl rfl C dJ6_numberOfTrailingZeros_0f7a4_62 ?_
  refine z_iconst (pc := 63) (4 : Int32) (by decide) C dJ6_numberOfTrailingZeros_0f7a4_63 ?_
  refine z_icmp_le (pc := 64) 74 C dJ6_numberOfTrailingZeros_0f7a4_64 (by decide) ?_ ?_
  · refine z_iload_n (pc := 74) 1 rfl rfl C dJ6_numberOfTrailingZeros_0f7a4_74 ?_
    refine z_iload_n (pc := 75) 0 rfl rfl C dJ6_numberOfTrailingZeros_0f7a4_75 ?_
    refine z_iconst (pc := 76) (1 : Int32) (by decide) C dJ6_numberOfTrailingZeros_0f7a4_76 ?_
    refine z_iushr (pc := 77) C dJ6_numberOfTrailingZeros_0f7a4_77 ?_
    refine z_iadd (pc := 78) C dJ6_numberOfTrailingZeros_0f7a4_78 ?_
    exact z_ireturn (pc := 79) C hR dJ6_numberOfTrailingZeros_0f7a4_79 (fun h => by subst h; exact ⟨rfl, rfl⟩)
  · refine z_iinc (pc := 67) (x1 + 2) 1 rfl rfl [(0, (.int x0)), (1, (.int (x1 + 2)))] [1, 0] (by decide) rfl C dJ6_numberOfTrailingZeros_0f7a4_67 ?_
    refine z_iload_n (pc := 70) 0 rfl rfl C dJ6_numberOfTrailingZeros_0f7a4_70 ?_
    refine z_iconst (pc := 71) (2 : Int32) (by decide) C dJ6_numberOfTrailingZeros_0f7a4_71 ?_
    refine z_iushr (pc := 72) C dJ6_numberOfTrailingZeros_0f7a4_72 ?_
    refine z_leti (fun x0_2 => ?_)
    refine z_istore_n (pc := 73) [(0, (.int x0_2)), (1, (.int (x1 + 2)))] [0, 1] (by decide) rfl rfl C dJ6_numberOfTrailingZeros_0f7a4_73 ?_
    refine z_iload_n (pc := 74) 1 rfl rfl C dJ6_numberOfTrailingZeros_0f7a4_74 ?_
    refine z_iload_n (pc := 75) 0 rfl rfl C dJ6_numberOfTrailingZeros_0f7a4_75 ?_
    refine z_iconst (pc := 76) (1 : Int32) (by decide) C dJ6_numberOfTrailingZeros_0f7a4_76 ?_
    refine z_iushr (pc := 77) C dJ6_numberOfTrailingZeros_0f7a4_77 ?_
    refine z_iadd (pc := 78) C dJ6_numberOfTrailingZeros_0f7a4_78 ?_
    exact z_ireturn (pc := 79) C hR dJ6_numberOfTrailingZeros_0f7a4_79 (fun h => by subst h; exact ⟨rfl, rfl⟩)
def jJ6_numberOfTrailingZeros_0f7a4_49 (x0 : Int32) (x1 : Int32) : Option (Int32) := (if x0 ≤ (16 : Int32) then (jJ6_numberOfTrailingZeros_0f7a4_62 x0 x1) else (zlet ((x0.toUInt32 >>> ((4 : Int32).toUInt32 &&& Int32.toUInt32 31)).toInt32) (fun x0_3 : Int32 => (jJ6_numberOfTrailingZeros_0f7a4_62 x0_3 (x1 + 4)))))
set_option maxRecDepth 20000 in
theorem wJ6_numberOfTrailingZeros_0f7a4_49 {X : zCx} {res : Int32} (C : zC X RJ6 cJ6_numberOfTrailingZeros_0f7a4 2 0 0) (hR : zR X (some .int) (some (.int res)) []) (x0 : Int32) (x1 : Int32) : zJ X 2 res (jJ6_numberOfTrailingZeros_0f7a4_49 x0 x1) 49 [(0, (.int x0)), (1, (.int x1))] [] [] := by
  unfold jJ6_numberOfTrailingZeros_0f7a4_49
  refine z_iload_n (pc := 49) 0 rfl rfl C dJ6_numberOfTrailingZeros_0f7a4_49 ?_
  refine z_bipush (pc := 50) (16 : Int32) (by decide) C dJ6_numberOfTrailingZeros_0f7a4_50 ?_
  refine z_icmp_le (pc := 52) 62 C dJ6_numberOfTrailingZeros_0f7a4_52 (by decide) ?_ ?_
  · exact wJ6_numberOfTrailingZeros_0f7a4_62 C hR   _ _
  · refine z_iinc (pc := 55) (x1 + 4) 1 rfl rfl [(0, (.int x0)), (1, (.int (x1 + 4)))] [1, 0] (by decide) rfl C dJ6_numberOfTrailingZeros_0f7a4_55 ?_
    refine z_iload_n (pc := 58) 0 rfl rfl C dJ6_numberOfTrailingZeros_0f7a4_58 ?_
    refine z_iconst (pc := 59) (4 : Int32) (by decide) C dJ6_numberOfTrailingZeros_0f7a4_59 ?_
    refine z_iushr (pc := 60) C dJ6_numberOfTrailingZeros_0f7a4_60 ?_
    refine z_leti (fun x0_3 => ?_)
    refine z_istore_n (pc := 61) [(0, (.int x0_3)), (1, (.int (x1 + 4)))] [0, 1] (by decide) rfl rfl C dJ6_numberOfTrailingZeros_0f7a4_61 ?_
    exact wJ6_numberOfTrailingZeros_0f7a4_62 C hR   _ _
def jJ6_numberOfTrailingZeros_0f7a4_34 (x0 : Int32) (x1 : Int32) : Option (Int32) := (if x0 ≤ (256 : Int32) then (jJ6_numberOfTrailingZeros_0f7a4_49 x0 x1) else (zlet ((x0.toUInt32 >>> ((8 : Int32).toUInt32 &&& Int32.toUInt32 31)).toInt32) (fun x0_4 : Int32 => (jJ6_numberOfTrailingZeros_0f7a4_49 x0_4 (x1 + 8)))))
set_option maxRecDepth 20000 in
theorem wJ6_numberOfTrailingZeros_0f7a4_34 {X : zCx} {res : Int32} (C : zC X RJ6 cJ6_numberOfTrailingZeros_0f7a4 2 0 0) (hR : zR X (some .int) (some (.int res)) []) (x0 : Int32) (x1 : Int32) : zJ X 2 res (jJ6_numberOfTrailingZeros_0f7a4_34 x0 x1) 34 [(0, (.int x0)), (1, (.int x1))] [] [] := by
  unfold jJ6_numberOfTrailingZeros_0f7a4_34
  refine z_iload_n (pc := 34) 0 rfl rfl C dJ6_numberOfTrailingZeros_0f7a4_34 ?_
  refine z_sipush (pc := 35) (256 : Int32) (by decide) C dJ6_numberOfTrailingZeros_0f7a4_35 ?_
  refine z_icmp_le (pc := 38) 49 C dJ6_numberOfTrailingZeros_0f7a4_38 (by decide) ?_ ?_
  · exact wJ6_numberOfTrailingZeros_0f7a4_49 C hR   _ _
  · refine z_iinc (pc := 41) (x1 + 8) 1 rfl rfl [(0, (.int x0)), (1, (.int (x1 + 8)))] [1, 0] (by decide) rfl C dJ6_numberOfTrailingZeros_0f7a4_41 ?_
    refine z_iload_n (pc := 44) 0 rfl rfl C dJ6_numberOfTrailingZeros_0f7a4_44 ?_
    refine z_bipush (pc := 45) (8 : Int32) (by decide) C dJ6_numberOfTrailingZeros_0f7a4_45 ?_
    refine z_iushr (pc := 47) C dJ6_numberOfTrailingZeros_0f7a4_47 ?_
    refine z_leti (fun x0_4 => ?_)
    refine z_istore_n (pc := 48) [(0, (.int x0_4)), (1, (.int (x1 + 8)))] [0, 1] (by decide) rfl rfl C dJ6_numberOfTrailingZeros_0f7a4_48 ?_
    exact wJ6_numberOfTrailingZeros_0f7a4_49 C hR   _ _
def fJ6_numberOfTrailingZeros_0f7a4 (x0 : Int32) : Option (Int32) := (zlet ((x0 ^^^ (-1 : Int32)) &&& (x0 - (1 : Int32))) (fun x0_1 : Int32 => (if 0 < x0_1 then (if x0_1 ≤ (65536 : Int32) then (jJ6_numberOfTrailingZeros_0f7a4_34 x0_1 (1 : Int32)) else (zlet ((x0_1.toUInt32 >>> ((16 : Int32).toUInt32 &&& Int32.toUInt32 31)).toInt32) (fun x0_5 : Int32 => (jJ6_numberOfTrailingZeros_0f7a4_34 x0_5 ((1 : Int32) + 16))))) else (some (x0_1 &&& (32 : Int32))))))
set_option maxRecDepth 20000 in
theorem wJ6_numberOfTrailingZeros_0f7a4 {X : zCx} {res : Int32}   {x0 : Int32} (C : zC X RJ6 cJ6_numberOfTrailingZeros_0f7a4 2 0 0) (hR : zR X (some .int) (some (.int res)) [])  : zJ X 2 res (fJ6_numberOfTrailingZeros_0f7a4 x0) 0 [(0, (.int x0))] [] [] := by
  unfold fJ6_numberOfTrailingZeros_0f7a4
  refine z_iload_n (pc := 0) 0 rfl rfl C dJ6_numberOfTrailingZeros_0f7a4_0 ?_
  refine z_iconst (pc := 1) (-1 : Int32) (by decide) C dJ6_numberOfTrailingZeros_0f7a4_1 ?_
  refine z_ixor (pc := 2) C dJ6_numberOfTrailingZeros_0f7a4_2 ?_
  refine z_iload_n (pc := 3) 0 rfl rfl C dJ6_numberOfTrailingZeros_0f7a4_3 ?_
  refine z_iconst (pc := 4) (1 : Int32) (by decide) C dJ6_numberOfTrailingZeros_0f7a4_4 ?_
  refine z_isub (pc := 5) C dJ6_numberOfTrailingZeros_0f7a4_5 ?_
  refine z_iand (pc := 6) C dJ6_numberOfTrailingZeros_0f7a4_6 ?_
  refine z_leti (fun x0_1 => ?_)
  refine z_istore_n (pc := 7) [(0, (.int x0_1))] [0] (by decide) rfl rfl C dJ6_numberOfTrailingZeros_0f7a4_7 ?_
  refine z_iload_n (pc := 8) 0 rfl rfl C dJ6_numberOfTrailingZeros_0f7a4_8 ?_
  refine z_if_gt (pc := 9) 17 C dJ6_numberOfTrailingZeros_0f7a4_9 (by decide) ?_ ?_
  · refine z_iconst (pc := 17) (1 : Int32) (by decide) C dJ6_numberOfTrailingZeros_0f7a4_17 ?_
    refine z_istore_n (pc := 18) [(0, (.int x0_1)), (1, (.int (1 : Int32)))] [1, 0] (by decide) rfl rfl C dJ6_numberOfTrailingZeros_0f7a4_18 ?_
    refine z_iload_n (pc := 19) 0 rfl rfl C dJ6_numberOfTrailingZeros_0f7a4_19 ?_
    refine z_ldc_w (pc := 20) (65536 : Int32) zw_601 C dJ6_numberOfTrailingZeros_0f7a4_20 ?_
    refine z_icmp_le (pc := 23) 34 C dJ6_numberOfTrailingZeros_0f7a4_23 (by decide) ?_ ?_
    · exact wJ6_numberOfTrailingZeros_0f7a4_34 C hR   _ _
    · refine z_iinc (pc := 26) ((1 : Int32) + 16) 1 rfl rfl [(0, (.int x0_1)), (1, (.int ((1 : Int32) + 16)))] [1, 0] (by decide) rfl C dJ6_numberOfTrailingZeros_0f7a4_26 ?_
      refine z_iload_n (pc := 29) 0 rfl rfl C dJ6_numberOfTrailingZeros_0f7a4_29 ?_
      refine z_bipush (pc := 30) (16 : Int32) (by decide) C dJ6_numberOfTrailingZeros_0f7a4_30 ?_
      refine z_iushr (pc := 32) C dJ6_numberOfTrailingZeros_0f7a4_32 ?_
      refine z_leti (fun x0_5 => ?_)
      refine z_istore_n (pc := 33) [(0, (.int x0_5)), (1, (.int ((1 : Int32) + 16)))] [0, 1] (by decide) rfl rfl C dJ6_numberOfTrailingZeros_0f7a4_33 ?_
      exact wJ6_numberOfTrailingZeros_0f7a4_34 C hR   _ _
  · refine z_iload_n (pc := 12) 0 rfl rfl C dJ6_numberOfTrailingZeros_0f7a4_12 ?_
    refine z_bipush (pc := 13) (32 : Int32) (by decide) C dJ6_numberOfTrailingZeros_0f7a4_13 ?_
    refine z_iand (pc := 15) C dJ6_numberOfTrailingZeros_0f7a4_15 ?_
    exact z_ireturn (pc := 16) C hR dJ6_numberOfTrailingZeros_0f7a4_16 (fun h => by subst h; exact ⟨rfl, rfl⟩)
theorem mJ6_numberOfTrailingZeros_0f7a4   {x0 : Int32} {res : Int32}  (hf : fJ6_numberOfTrailingZeros_0f7a4 x0 = some res) : zM yJ6_numberOfTrailingZeros_0f7a4 cJ6_numberOfTrailingZeros_0f7a4 2 (some .int) 0 0 [(.int x0)] [] (some (.int res)) [] := zM_of (by decide +kernel) (Nat.le_of_ble_eq_true rfl) (fun X C hR => wJ6_numberOfTrailingZeros_0f7a4 C hR  hf)
theorem dJ13_numberOfTrailingZeros_95d88_0 : decode cJ13_numberOfTrailingZeros_95d88 0 = .ok (.lload_n 0, 1) := by decide +kernel
theorem dJ13_numberOfTrailingZeros_95d88_1 : decode cJ13_numberOfTrailingZeros_95d88 1 = .ok (.l2i, 1) := by decide +kernel
theorem dJ13_numberOfTrailingZeros_95d88_2 : decode cJ13_numberOfTrailingZeros_95d88 2 = .ok (.istore_n 2, 1) := by decide +kernel
theorem dJ13_numberOfTrailingZeros_95d88_3 : decode cJ13_numberOfTrailingZeros_95d88 3 = .ok (.iload_n 2, 1) := by decide +kernel
theorem dJ13_numberOfTrailingZeros_95d88_4 : decode cJ13_numberOfTrailingZeros_95d88 4 = .ok (.ifCond .ne 17, 3) := by decide +kernel
theorem dJ13_numberOfTrailingZeros_95d88_7 : decode cJ13_numberOfTrailingZeros_95d88 7 = .ok (.bipush 32, 2) := by decide +kernel
theorem dJ13_numberOfTrailingZeros_95d88_9 : decode cJ13_numberOfTrailingZeros_95d88 9 = .ok (.lload_n 0, 1) := by decide +kernel
theorem dJ13_numberOfTrailingZeros_95d88_10 : decode cJ13_numberOfTrailingZeros_95d88 10 = .ok (.bipush 32, 2) := by decide +kernel
theorem dJ13_numberOfTrailingZeros_95d88_12 : decode cJ13_numberOfTrailingZeros_95d88 12 = .ok (.lushr, 1) := by decide +kernel
theorem dJ13_numberOfTrailingZeros_95d88_13 : decode cJ13_numberOfTrailingZeros_95d88 13 = .ok (.l2i, 1) := by decide +kernel
theorem dJ13_numberOfTrailingZeros_95d88_14 : decode cJ13_numberOfTrailingZeros_95d88 14 = .ok (.invokestatic 311, 3) := by decide +kernel
theorem dJ13_numberOfTrailingZeros_95d88_17 : decode cJ13_numberOfTrailingZeros_95d88 17 = .ok (.iadd, 1) := by decide +kernel
theorem dJ13_numberOfTrailingZeros_95d88_18 : decode cJ13_numberOfTrailingZeros_95d88 18 = .ok (.goto 7, 3) := by decide +kernel
theorem dJ13_numberOfTrailingZeros_95d88_21 : decode cJ13_numberOfTrailingZeros_95d88 21 = .ok (.iload_n 2, 1) := by decide +kernel
theorem dJ13_numberOfTrailingZeros_95d88_22 : decode cJ13_numberOfTrailingZeros_95d88 22 = .ok (.invokestatic 311, 3) := by decide +kernel
theorem dJ13_numberOfTrailingZeros_95d88_25 : decode cJ13_numberOfTrailingZeros_95d88 25 = .ok (.ireturn, 1) := by decide +kernel
def fJ13_numberOfTrailingZeros_95d88 (x0 : Int64) : Option (Int32) := (zlet x0.toInt32 (fun x2_1 : Int32 => (if x2_1 = 0 then (Option.bind (fJ6_numberOfTrailingZeros_0f7a4 (((x0.toUInt64 >>> ((32 : Int32).toInt64.toUInt64 &&& Int64.toUInt64 63)).toInt64).toInt32)) (fun r_2 : Int32 => (some ((32 : Int32) + r_2)))) else (Option.bind (fJ6_numberOfTrailingZeros_0f7a4 x2_1) (fun r_4 : Int32 => (some (r_4)))))))
set_option maxRecDepth 20000 in
theorem wJ13_numberOfTrailingZeros_95d88 {X : zCx} {res : Int32}   {x0 : Int64} (C : zC X RJ13 cJ13_numberOfTrailingZeros_95d88 3 1 21) (hR : zR X (some .int) (some (.int res)) [])  : zJ X 3 res (fJ13_numberOfTrailingZeros_95d88 x0) 0 [(0, (.long x0))] [] [] := by
  unfold fJ13_numberOfTrailingZeros_95d88
  refine z_lload_n (pc := 0) 0 rfl rfl C dJ13_numberOfTrailingZeros_95d88_0 ?_
  refine z_l2i (pc := 1) C dJ13_numberOfTrailingZeros_95d88_1 ?_
  refine z_leti (fun x2_1 => ?_)
  refine z_istore_n (pc := 2) [(0, (.long x0)), (2, (.int x2_1))] [1, 0] (by decide) rfl rfl C dJ13_numberOfTrailingZeros_95d88_2 ?_
  refine z_iload_n (pc := 3) 1 rfl rfl C dJ13_numberOfTrailingZeros_95d88_3 ?_
  refine z_if_ne (pc := 4) 21 C dJ13_numberOfTrailingZeros_95d88_4 (by decide) ?_ ?_
  · refine z_bipush (pc := 7) (32 : Int32) (by decide) C dJ13_numberOfTrailingZeros_95d88_7 ?_
    refine z_lload_n (pc := 9) 0 rfl rfl C dJ13_numberOfTrailingZeros_95d88_9 ?_
    refine z_bipush (pc := 10) (32 : Int32) (by decide) C dJ13_numberOfTrailingZeros_95d88_10 ?_
    refine z_lushr (pc := 12) C dJ13_numberOfTrailingZeros_95d88_12 ?_
    refine z_l2i (pc := 13) C dJ13_numberOfTrailingZeros_95d88_13 ?_
    refine z_callS (pc := 14) (rf' := 0) (rl' := 0) (fJ6_numberOfTrailingZeros_0f7a4 (((x0.toUInt64 >>> ((32 : Int32).toInt64.toUInt64 &&& Int64.toUInt64 63)).toInt64).toInt32)) [(.int (((x0.toUInt64 >>> ((32 : Int32).toInt64.toUInt64 &&& Int64.toUInt64 63)).toInt64).toInt32))] [(.int (32 : Int32))] [] (fun r_2 => (some (.int r_2))) (fun r_2 => []) [] (fun r_2 => []) C dJ13_numberOfTrailingZeros_95d88_14 zy_J6_numberOfTrailingZeros_0f7a4 zw_598 (fun _ hr9 => mJ6_numberOfTrailingZeros_0f7a4  hr9) (by decide) rfl (Nat.le_of_ble_eq_true rfl) (List.Perm.refl _) (fun _ => List.Perm.refl _) rfl (fun r_2 hr_3 => ?_)
    show zJ X 3 res _ 17 [(0, (.long x0)), (2, (.int x2_1))] [(.int r_2), (.int (32 : Int32))] []
    refine z_iadd (pc := 17) C dJ13_numberOfTrailingZeros_95d88_17 ?_
    refine z_goto (pc := 18) 25 C dJ13_numberOfTrailingZeros_95d88_18 (by decide) ?_
    exact z_ireturn (pc := 25) C hR dJ13_numberOfTrailingZeros_95d88_25 (fun h => by subst h; exact ⟨rfl, rfl⟩)
  · refine z_iload_n (pc := 21) 1 rfl rfl C dJ13_numberOfTrailingZeros_95d88_21 ?_
    refine z_callS (pc := 22) (rf' := 0) (rl' := 0) (fJ6_numberOfTrailingZeros_0f7a4 x2_1) [(.int x2_1)] [] [] (fun r_4 => (some (.int r_4))) (fun r_4 => []) [] (fun r_4 => []) C dJ13_numberOfTrailingZeros_95d88_22 zy_J6_numberOfTrailingZeros_0f7a4 zw_598 (fun _ hr9 => mJ6_numberOfTrailingZeros_0f7a4  hr9) (by decide) rfl (Nat.le_of_ble_eq_true rfl) (List.Perm.refl _) (fun _ => List.Perm.refl _) rfl (fun r_4 hr_5 => ?_)
    show zJ X 3 res _ 25 [(0, (.long x0)), (2, (.int x2_1))] [(.int r_4)] []
    exact z_ireturn (pc := 25) C hR dJ13_numberOfTrailingZeros_95d88_25 (fun h => by subst h; exact ⟨rfl, rfl⟩)
theorem mJ13_numberOfTrailingZeros_95d88   {x0 : Int64} {res : Int32}  (hf : fJ13_numberOfTrailingZeros_95d88 x0 = some res) : zM yJ13_numberOfTrailingZeros_95d88 cJ13_numberOfTrailingZeros_95d88 3 (some .int) 1 21 [(.long x0)] [] (some (.int res)) [] := zM_of (by decide +kernel) (Nat.le_of_ble_eq_true rfl) (fun X C hR => wJ13_numberOfTrailingZeros_95d88 C hR  hf)
theorem dJ7_fill_53178_0 : decode cJ7_fill_53178 0 = .ok (.iconst 0, 1) := by decide +kernel
theorem dJ7_fill_53178_1 : decode cJ7_fill_53178 1 = .ok (.istore_n 2, 1) := by decide +kernel
theorem dJ7_fill_53178_2 : decode cJ7_fill_53178 2 = .ok (.aload_n 0, 1) := by decide +kernel
theorem dJ7_fill_53178_3 : decode cJ7_fill_53178 3 = .ok (.arraylength, 1) := by decide +kernel
theorem dJ7_fill_53178_4 : decode cJ7_fill_53178 4 = .ok (.istore_n 3, 1) := by decide +kernel
theorem dJ7_fill_53178_5 : decode cJ7_fill_53178 5 = .ok (.iload_n 2, 1) := by decide +kernel
theorem dJ7_fill_53178_6 : decode cJ7_fill_53178 6 = .ok (.iload_n 3, 1) := by decide +kernel
theorem dJ7_fill_53178_7 : decode cJ7_fill_53178 7 = .ok (.if_icmp .ge 13, 3) := by decide +kernel
theorem dJ7_fill_53178_10 : decode cJ7_fill_53178 10 = .ok (.aload_n 0, 1) := by decide +kernel
theorem dJ7_fill_53178_11 : decode cJ7_fill_53178 11 = .ok (.iload_n 2, 1) := by decide +kernel
theorem dJ7_fill_53178_12 : decode cJ7_fill_53178 12 = .ok (.iload_n 1, 1) := by decide +kernel
theorem dJ7_fill_53178_13 : decode cJ7_fill_53178 13 = .ok (.iastore, 1) := by decide +kernel
theorem dJ7_fill_53178_14 : decode cJ7_fill_53178 14 = .ok (.iinc 2 1, 3) := by decide +kernel
theorem dJ7_fill_53178_17 : decode cJ7_fill_53178 17 = .ok (.goto (-12), 3) := by decide +kernel
theorem dJ7_fill_53178_20 : decode cJ7_fill_53178 20 = .ok (.return_, 1) := by decide +kernel
def bJ7_fill_53178_5 (F : Nat) (nZ : Nat) (k0 : Nat) (x1 : Int32) (x3 : Int32) (kc_5 : (Int32 × zOS) → Option (zOS)) (x2 : Int32) (sZ : zOS) : Option (zOS) := (if x3 ≤ x2 then (some (sZ)) else (zchk x2 nZ (zlet (zsI sZ k0 (upd (zI sZ k0) x2.toNatClampNeg x1)) (fun sZ_2 : zOS => (kc_5 ((x2 + 1), sZ_2))))))
set_option maxRecDepth 20000 in
theorem vJ7_fill_53178_5 {X : zCx} {res : zOS} {F : Nat} {qZ : Nat → Nat} {cZ nZ : Nat} {k0 : Nat} {x1 : Int32} {x3 : Int32} {kc_5 : (Int32 × zOS) → Option (zOS)} (C : zC X RJ7 cJ7_fill_53178 4 0 0) (hR : zR X none none [(cZ, qZ, res)]) (ha0 : zAr cZ k0 0 nZ) (hk_5 : ∀ (y2 : Int32) (tZ : zOS), zJ X 4 res (kc_5 (y2, tZ)) 5 [(0, (.ref (qZ k0))), (1, (.int x1)), (2, (.int y2)), (3, (.int x3))] [] [(cZ, qZ, tZ)]) (x2 : Int32) (sZ : zOS) : zJ X 4 res (bJ7_fill_53178_5 F nZ k0 x1 x3 kc_5 x2 sZ) 5 [(0, (.ref (qZ k0))), (1, (.int x1)), (2, (.int x2)), (3, (.int x3))] [] [(cZ, qZ, sZ)] := by
  unfold bJ7_fill_53178_5
  refine z_iload_n (pc := 5) 2 rfl rfl C dJ7_fill_53178_5 ?_
  refine z_iload_n (pc := 6) 3 rfl rfl C dJ7_fill_53178_6 ?_
  refine z_icmp_ge (pc := 7) 20 C dJ7_fill_53178_7 (by decide) ?_ ?_
  · exact z_return (pc := 20) C hR dJ7_fill_53178_20 (fun h => by subst h; exact ⟨rfl, rfl⟩)
  · refine z_aload_n (pc := 10) 0 rfl rfl C dJ7_fill_53178_10 ?_
    refine z_iload_n (pc := 11) 2 rfl rfl C dJ7_fill_53178_11 ?_
    refine z_iload_n (pc := 12) 1 rfl rfl C dJ7_fill_53178_12 ?_
    refine z_iast (pc := 13) 0 C dJ7_fill_53178_13 rfl ha0 [(cZ, qZ, (zsI sZ k0 (upd (zI sZ k0) x2.toNatClampNeg x1)))] rfl ?_
    refine z_letc (fun z9 => [(cZ, qZ, z9)]) (fun sZ_2 => ?_)
    refine z_iinc (pc := 14) (x2 + 1) 2 rfl rfl [(0, (.ref (qZ k0))), (1, (.int x1)), (2, (.int (x2 + 1))), (3, (.int x3))] [1, 2, 0, 3] (by decide) rfl C dJ7_fill_53178_14 ?_
    refine z_goto (pc := 17) 5 C dJ7_fill_53178_17 (by decide) ?_
    exact hk_5 _ _
def fJ7_fill_53178 (F : Nat) (nZ : Nat) (k0 : Nat) (x1 : Int32) (sZ : zOS) : Option (zOS) := (zlet (nI nZ) (fun x3_1 : Int32 => (zit (P := Int32 × zOS) (R := zOS) (fun kc9 p9 => bJ7_fill_53178_5 F nZ k0 x1 x3_1 kc9 p9.1 p9.2) F ((0 : Int32), sZ))))
set_option maxRecDepth 20000 in
theorem wJ7_fill_53178 {X : zCx} {res : zOS} {F : Nat} {qZ : Nat → Nat} {cZ nZ : Nat} {k0 : Nat} {x1 : Int32} {sZ : zOS} (C : zC X RJ7 cJ7_fill_53178 4 0 0) (hR : zR X none none [(cZ, qZ, res)]) (ha0 : zAr cZ k0 0 nZ) : zJ X 4 res (fJ7_fill_53178 F nZ k0 x1 sZ) 0 [(0, (.ref (qZ k0))), (1, (.int x1))] [] [(cZ, qZ, sZ)] := by
  unfold fJ7_fill_53178
  refine z_iconst (pc := 0) (0 : Int32) (by decide) C dJ7_fill_53178_0 ?_
  refine z_istore_n (pc := 1) [(0, (.ref (qZ k0))), (1, (.int x1)), (2, (.int (0 : Int32)))] [1, 2, 0] (by decide) rfl rfl C dJ7_fill_53178_1 ?_
  refine z_aload_n (pc := 2) 0 rfl rfl C dJ7_fill_53178_2 ?_
  refine z_alen (pc := 3) 0 0 (nI nZ) C dJ7_fill_53178_3 rfl ha0 (by decide) rfl ?_
  refine z_leti (fun x3_1 => ?_)
  refine z_istore_n (pc := 4) [(0, (.ref (qZ k0))), (1, (.int x1)), (2, (.int (0 : Int32))), (3, (.int x3_1))] [1, 2, 3, 0] (by decide) rfl rfl C dJ7_fill_53178_4 ?_
  exact zit_J (fun p9 => [(0, (.ref (qZ k0))), (1, (.int x1)), (2, (.int p9.1)), (3, (.int x3_1))]) (fun p9 => [(cZ, qZ, p9.2)]) (fun kc9 hk9 p9 => vJ7_fill_53178_5 C hR ha0  (fun a0 a1 => hk9 (a0, a1)) _ _) F _
theorem mJ7_fill_53178 {F : Nat} {qZ : Nat → Nat} {cZ nZ : Nat} {k0 : Nat} {x1 : Int32} {sZ : zOS} {res : zOS} (ha0 : zAr cZ k0 0 nZ) (hf : fJ7_fill_53178 F nZ k0 x1 sZ = some res) : zM yJ7_fill_53178 cJ7_fill_53178 4 none 0 0 [(.ref (qZ k0)), (.int x1)] [(cZ, qZ, sZ)] none [(cZ, qZ, res)] := zM_of (by decide +kernel) (Nat.le_of_ble_eq_true rfl) (fun X C hR => wJ7_fill_53178 (F := F) C hR ha0 hf)
end
