section
-- ===== PART A: goes FIRST, ahead of the names: the tables' words, and 'selects' of the private methods out of them =====
/-- a private method of a class that the tables say can be made, by its rows of tables_1 -/
def lw_okq (q : MethodName × Nat) : Prop := (q.1.cls ≠ "java/lang/invoke/MethodHandle" ∧ q.1.cls ≠ "java/lang/invoke/VarHandle") ∧ Cond.instantiable q.1.cls q.2 ∈ tables_1 ∧ Cond.privateMethod q.1 ∈ tables_1 ∧ Cond.instanceMethod q.1 ∈ tables_1
theorem lw_p0 : lw_okq (⟨"ShareSolve", "tellShare", "(IIIJJ)Z"⟩, 4) := ⟨⟨by decide +kernel, by decide +kernel⟩, List.mem_of_getElem? (i := 13) (by decide +kernel), List.mem_of_getElem? (i := 272) (by decide +kernel), List.mem_of_getElem? (i := 273) (by decide +kernel)⟩
theorem lw_p1 : lw_okq (⟨"ShareSolve", "solveAll", "()I"⟩, 4) := ⟨⟨by decide +kernel, by decide +kernel⟩, List.mem_of_getElem? (i := 13) (by decide +kernel), List.mem_of_getElem? (i := 320) (by decide +kernel), List.mem_of_getElem? (i := 321) (by decide +kernel)⟩
theorem lw_p2 : lw_okq (⟨"ShareSolve$Line", "spreadGetsAway", "()V"⟩, 13) := ⟨⟨by decide +kernel, by decide +kernel⟩, List.mem_of_getElem? (i := 21) (by decide +kernel), List.mem_of_getElem? (i := 328) (by decide +kernel), List.mem_of_getElem? (i := 329) (by decide +kernel)⟩
theorem lw_p3 : lw_okq (⟨"ShareSolve$Line", "leavesAs", "(II)Z"⟩, 13) := ⟨⟨by decide +kernel, by decide +kernel⟩, List.mem_of_getElem? (i := 21) (by decide +kernel), List.mem_of_getElem? (i := 332) (by decide +kernel), List.mem_of_getElem? (i := 333) (by decide +kernel)⟩
theorem lw_p4 : lw_okq (⟨"ShareSolve$Flow", "readColumn", "(II)V"⟩, 14) := ⟨⟨by decide +kernel, by decide +kernel⟩, List.mem_of_getElem? (i := 91) (by decide +kernel), List.mem_of_getElem? (i := 348) (by decide +kernel), List.mem_of_getElem? (i := 349) (by decide +kernel)⟩
theorem lw_p5 : lw_okq (⟨"ShareSolve$Flow", "sendAs", "(IIII)V"⟩, 14) := ⟨⟨by decide +kernel, by decide +kernel⟩, List.mem_of_getElem? (i := 91) (by decide +kernel), List.mem_of_getElem? (i := 354) (by decide +kernel), List.mem_of_getElem? (i := 355) (by decide +kernel)⟩
theorem lw_p6 : lw_okq (⟨"ShareSolve$Flow", "shrinkColumn", "(I)V"⟩, 14) := ⟨⟨by decide +kernel, by decide +kernel⟩, List.mem_of_getElem? (i := 91) (by decide +kernel), List.mem_of_getElem? (i := 360) (by decide +kernel), List.mem_of_getElem? (i := 361) (by decide +kernel)⟩
theorem lw_p7 : lw_okq (⟨"ShareSolve$Flow", "divideColumn", "(II)V"⟩, 14) := ⟨⟨by decide +kernel, by decide +kernel⟩, List.mem_of_getElem? (i := 91) (by decide +kernel), List.mem_of_getElem? (i := 367) (by decide +kernel), List.mem_of_getElem? (i := 368) (by decide +kernel)⟩
theorem lw_p8 : lw_okq (⟨"ShareSolve$Flow", "cell", "(II)LShareSolve$Whole;"⟩, 14) := ⟨⟨by decide +kernel, by decide +kernel⟩, List.mem_of_getElem? (i := 91) (by decide +kernel), List.mem_of_getElem? (i := 371) (by decide +kernel), List.mem_of_getElem? (i := 372) (by decide +kernel)⟩
theorem lw_p9 : lw_okq (⟨"ShareSolve$Whole", "dropZeros", "(I)V"⟩, 2) := ⟨⟨by decide +kernel, by decide +kernel⟩, List.mem_of_getElem? (i := 103) (by decide +kernel), List.mem_of_getElem? (i := 381) (by decide +kernel), List.mem_of_getElem? (i := 382) (by decide +kernel)⟩
theorem lw_p10 : lw_okq (⟨"ShareSolve$Flow", "eliminateCell", "(III)V"⟩, 14) := ⟨⟨by decide +kernel, by decide +kernel⟩, List.mem_of_getElem? (i := 91) (by decide +kernel), List.mem_of_getElem? (i := 389) (by decide +kernel), List.mem_of_getElem? (i := 390) (by decide +kernel)⟩
theorem lw_p11 : lw_okq (⟨"ShareSolve$Division", "nextDigit", "(I)I"⟩, 4) := ⟨⟨by decide +kernel, by decide +kernel⟩, List.mem_of_getElem? (i := 97) (by decide +kernel), List.mem_of_getElem? (i := 443) (by decide +kernel), List.mem_of_getElem? (i := 444) (by decide +kernel)⟩
theorem lw_p12 : lw_okq (⟨"ShareSolve$Division", "guessDigit", "(I)I"⟩, 4) := ⟨⟨by decide +kernel, by decide +kernel⟩, List.mem_of_getElem? (i := 97) (by decide +kernel), List.mem_of_getElem? (i := 447) (by decide +kernel), List.mem_of_getElem? (i := 448) (by decide +kernel)⟩
theorem lw_p13 : lw_okq (⟨"ShareSolve", "takeSolution", "()V"⟩, 4) := ⟨⟨by decide +kernel, by decide +kernel⟩, List.mem_of_getElem? (i := 13) (by decide +kernel), List.mem_of_getElem? (i := 473) (by decide +kernel), List.mem_of_getElem? (i := 474) (by decide +kernel)⟩
theorem lw_p14 : lw_okq (⟨"ShareSolve$Flow", "addAtPort", "(IIILShareSolve$Whole;)V"⟩, 14) := ⟨⟨by decide +kernel, by decide +kernel⟩, List.mem_of_getElem? (i := 91) (by decide +kernel), List.mem_of_getElem? (i := 487) (by decide +kernel), List.mem_of_getElem? (i := 488) (by decide +kernel)⟩
theorem lw_p15 : lw_okq (⟨"ShareSolve", "isOutsideSpan", "(I)Z"⟩, 4) := ⟨⟨by decide +kernel, by decide +kernel⟩, List.mem_of_getElem? (i := 13) (by decide +kernel), List.mem_of_getElem? (i := 536) (by decide +kernel), List.mem_of_getElem? (i := 537) (by decide +kernel)⟩
def lw_privs_1 : List (MethodName × Nat) := [(⟨"ShareSolve", "tellShare", "(IIIJJ)Z"⟩, 4), (⟨"ShareSolve", "solveAll", "()I"⟩, 4), (⟨"ShareSolve$Line", "spreadGetsAway", "()V"⟩, 13), (⟨"ShareSolve$Line", "leavesAs", "(II)Z"⟩, 13), (⟨"ShareSolve$Flow", "readColumn", "(II)V"⟩, 14), (⟨"ShareSolve$Flow", "sendAs", "(IIII)V"⟩, 14), (⟨"ShareSolve$Flow", "shrinkColumn", "(I)V"⟩, 14), (⟨"ShareSolve$Flow", "divideColumn", "(II)V"⟩, 14), (⟨"ShareSolve$Flow", "cell", "(II)LShareSolve$Whole;"⟩, 14), (⟨"ShareSolve$Whole", "dropZeros", "(I)V"⟩, 2), (⟨"ShareSolve$Flow", "eliminateCell", "(III)V"⟩, 14), (⟨"ShareSolve$Division", "nextDigit", "(I)I"⟩, 4), (⟨"ShareSolve$Division", "guessDigit", "(I)I"⟩, 4), (⟨"ShareSolve", "takeSolution", "()V"⟩, 4), (⟨"ShareSolve$Flow", "addAtPort", "(IIILShareSolve$Whole;)V"⟩, 14), (⟨"ShareSolve", "isOutsideSpan", "(I)Z"⟩, 4)]
theorem lw_r1 : ∀ q ∈ lw_privs_1, lw_okq q := List.forall_mem_cons.mpr ⟨lw_p0, List.forall_mem_cons.mpr ⟨lw_p1, List.forall_mem_cons.mpr ⟨lw_p2, List.forall_mem_cons.mpr ⟨lw_p3, List.forall_mem_cons.mpr ⟨lw_p4, List.forall_mem_cons.mpr ⟨lw_p5, List.forall_mem_cons.mpr ⟨lw_p6, List.forall_mem_cons.mpr ⟨lw_p7, List.forall_mem_cons.mpr ⟨lw_p8, List.forall_mem_cons.mpr ⟨lw_p9, List.forall_mem_cons.mpr ⟨lw_p10, List.forall_mem_cons.mpr ⟨lw_p11, List.forall_mem_cons.mpr ⟨lw_p12, List.forall_mem_cons.mpr ⟨lw_p13, List.forall_mem_cons.mpr ⟨lw_p14, List.forall_mem_cons.mpr ⟨lw_p15, fun _ h => absurd h List.not_mem_nil⟩⟩⟩⟩⟩⟩⟩⟩⟩⟩⟩⟩⟩⟩⟩⟩
theorem lw_p16 : lw_okq (⟨"ShareSolve$Flow", "putGram", "(III)V"⟩, 14) := ⟨⟨by decide +kernel, by decide +kernel⟩, List.mem_of_getElem? (i := 91) (by decide +kernel), List.mem_of_getElem? (i := 561) (by decide +kernel), List.mem_of_getElem? (i := 562) (by decide +kernel)⟩
theorem lw_p17 : lw_okq (⟨"ShareSolve$Flow", "putReached", "(IIILShareSolve$Whole;)V"⟩, 14) := ⟨⟨by decide +kernel, by decide +kernel⟩, List.mem_of_getElem? (i := 91) (by decide +kernel), List.mem_of_getElem? (i := 566) (by decide +kernel), List.mem_of_getElem? (i := 567) (by decide +kernel)⟩
theorem lw_p18 : lw_okq (⟨"ShareSolve$Flow", "putPassing", "(IILShareSolve$Whole;)V"⟩, 14) := ⟨⟨by decide +kernel, by decide +kernel⟩, List.mem_of_getElem? (i := 91) (by decide +kernel), List.mem_of_getElem? (i := 571) (by decide +kernel), List.mem_of_getElem? (i := 572) (by decide +kernel)⟩
theorem lw_p19 : lw_okq (⟨"ShareSolve", "bringsToPortZero", "(IJ)Z"⟩, 4) := ⟨⟨by decide +kernel, by decide +kernel⟩, List.mem_of_getElem? (i := 13) (by decide +kernel), List.mem_of_getElem? (i := 601) (by decide +kernel), List.mem_of_getElem? (i := 602) (by decide +kernel)⟩
theorem lw_p20 : lw_okq (⟨"ShareSolveModel", "touch", "()V"⟩, 34) := ⟨⟨by decide +kernel, by decide +kernel⟩, List.mem_of_getElem? (i := 617) (by decide +kernel), List.mem_of_getElem? (i := 738) (by decide +kernel), List.mem_of_getElem? (i := 739) (by decide +kernel)⟩
theorem lw_p21 : lw_okq (⟨"ShareSolveModel", "isOut", "(II)Z"⟩, 34) := ⟨⟨by decide +kernel, by decide +kernel⟩, List.mem_of_getElem? (i := 617) (by decide +kernel), List.mem_of_getElem? (i := 750) (by decide +kernel), List.mem_of_getElem? (i := 751) (by decide +kernel)⟩
theorem lw_p22 : lw_okq (⟨"ShareSolveModel", "isMachine", "(I)Z"⟩, 34) := ⟨⟨by decide +kernel, by decide +kernel⟩, List.mem_of_getElem? (i := 617) (by decide +kernel), List.mem_of_getElem? (i := 754) (by decide +kernel), List.mem_of_getElem? (i := 755) (by decide +kernel)⟩
theorem lw_p23 : lw_okq (⟨"ShareSolveModel", "isFree", "(III)Z"⟩, 34) := ⟨⟨by decide +kernel, by decide +kernel⟩, List.mem_of_getElem? (i := 617) (by decide +kernel), List.mem_of_getElem? (i := 762) (by decide +kernel), List.mem_of_getElem? (i := 763) (by decide +kernel)⟩
theorem lw_p24 : lw_okq (⟨"ShareSolveModel", "isKind", "(I)Z"⟩, 34) := ⟨⟨by decide +kernel, by decide +kernel⟩, List.mem_of_getElem? (i := 617) (by decide +kernel), List.mem_of_getElem? (i := 766) (by decide +kernel), List.mem_of_getElem? (i := 767) (by decide +kernel)⟩
theorem lw_p25 : lw_okq (⟨"ShareSolveModel", "fits", "(IIIJJ)Z"⟩, 34) := ⟨⟨by decide +kernel, by decide +kernel⟩, List.mem_of_getElem? (i := 617) (by decide +kernel), List.mem_of_getElem? (i := 774) (by decide +kernel), List.mem_of_getElem? (i := 775) (by decide +kernel)⟩
theorem lw_p26 : lw_okq (⟨"ShareSolveModel", "layOut", "(I)V"⟩, 34) := ⟨⟨by decide +kernel, by decide +kernel⟩, List.mem_of_getElem? (i := 617) (by decide +kernel), List.mem_of_getElem? (i := 796) (by decide +kernel), List.mem_of_getElem? (i := 797) (by decide +kernel)⟩
theorem lw_p27 : lw_okq (⟨"ShareSolveModel", "layNode", "(III)V"⟩, 34) := ⟨⟨by decide +kernel, by decide +kernel⟩, List.mem_of_getElem? (i := 617) (by decide +kernel), List.mem_of_getElem? (i := 800) (by decide +kernel), List.mem_of_getElem? (i := 801) (by decide +kernel)⟩
theorem lw_p28 : lw_okq (⟨"ShareSolveModel", "common", "(III)J"⟩, 34) := ⟨⟨by decide +kernel, by decide +kernel⟩, List.mem_of_getElem? (i := 617) (by decide +kernel), List.mem_of_getElem? (i := 804) (by decide +kernel), List.mem_of_getElem? (i := 805) (by decide +kernel)⟩
theorem lw_p29 : lw_okq (⟨"ShareSolveModel", "shareAt", "(IIII)I"⟩, 34) := ⟨⟨by decide +kernel, by decide +kernel⟩, List.mem_of_getElem? (i := 617) (by decide +kernel), List.mem_of_getElem? (i := 808) (by decide +kernel), List.mem_of_getElem? (i := 809) (by decide +kernel)⟩
theorem lw_p30 : lw_okq (⟨"ShareSolveModel", "part", "(IIII)J"⟩, 34) := ⟨⟨by decide +kernel, by decide +kernel⟩, List.mem_of_getElem? (i := 617) (by decide +kernel), List.mem_of_getElem? (i := 812) (by decide +kernel), List.mem_of_getElem? (i := 813) (by decide +kernel)⟩
theorem lw_p31 : lw_okq (⟨"ShareSolveModel", "stuck", "(I)I"⟩, 34) := ⟨⟨by decide +kernel, by decide +kernel⟩, List.mem_of_getElem? (i := 617) (by decide +kernel), List.mem_of_getElem? (i := 816) (by decide +kernel), List.mem_of_getElem? (i := 817) (by decide +kernel)⟩
def lw_privs_2 : List (MethodName × Nat) := [(⟨"ShareSolve$Flow", "putGram", "(III)V"⟩, 14), (⟨"ShareSolve$Flow", "putReached", "(IIILShareSolve$Whole;)V"⟩, 14), (⟨"ShareSolve$Flow", "putPassing", "(IILShareSolve$Whole;)V"⟩, 14), (⟨"ShareSolve", "bringsToPortZero", "(IJ)Z"⟩, 4), (⟨"ShareSolveModel", "touch", "()V"⟩, 34), (⟨"ShareSolveModel", "isOut", "(II)Z"⟩, 34), (⟨"ShareSolveModel", "isMachine", "(I)Z"⟩, 34), (⟨"ShareSolveModel", "isFree", "(III)Z"⟩, 34), (⟨"ShareSolveModel", "isKind", "(I)Z"⟩, 34), (⟨"ShareSolveModel", "fits", "(IIIJJ)Z"⟩, 34), (⟨"ShareSolveModel", "layOut", "(I)V"⟩, 34), (⟨"ShareSolveModel", "layNode", "(III)V"⟩, 34), (⟨"ShareSolveModel", "common", "(III)J"⟩, 34), (⟨"ShareSolveModel", "shareAt", "(IIII)I"⟩, 34), (⟨"ShareSolveModel", "part", "(IIII)J"⟩, 34), (⟨"ShareSolveModel", "stuck", "(I)I"⟩, 34)]
theorem lw_r2 : ∀ q ∈ lw_privs_2, lw_okq q := List.forall_mem_cons.mpr ⟨lw_p16, List.forall_mem_cons.mpr ⟨lw_p17, List.forall_mem_cons.mpr ⟨lw_p18, List.forall_mem_cons.mpr ⟨lw_p19, List.forall_mem_cons.mpr ⟨lw_p20, List.forall_mem_cons.mpr ⟨lw_p21, List.forall_mem_cons.mpr ⟨lw_p22, List.forall_mem_cons.mpr ⟨lw_p23, List.forall_mem_cons.mpr ⟨lw_p24, List.forall_mem_cons.mpr ⟨lw_p25, List.forall_mem_cons.mpr ⟨lw_p26, List.forall_mem_cons.mpr ⟨lw_p27, List.forall_mem_cons.mpr ⟨lw_p28, List.forall_mem_cons.mpr ⟨lw_p29, List.forall_mem_cons.mpr ⟨lw_p30, List.forall_mem_cons.mpr ⟨lw_p31, fun _ h => absurd h List.not_mem_nil⟩⟩⟩⟩⟩⟩⟩⟩⟩⟩⟩⟩⟩⟩⟩⟩
theorem lw_p32 : lw_okq (⟨"ShareSolveModel", "goes", "(IIII)Z"⟩, 34) := ⟨⟨by decide +kernel, by decide +kernel⟩, List.mem_of_getElem? (i := 617) (by decide +kernel), List.mem_of_getElem? (i := 820) (by decide +kernel), List.mem_of_getElem? (i := 821) (by decide +kernel)⟩
theorem lw_p33 : lw_okq (⟨"ShareSolveModel", "freeze", "()V"⟩, 34) := ⟨⟨by decide +kernel, by decide +kernel⟩, List.mem_of_getElem? (i := 617) (by decide +kernel), List.mem_of_getElem? (i := 824) (by decide +kernel), List.mem_of_getElem? (i := 825) (by decide +kernel)⟩
theorem lw_p34 : lw_okq (⟨"ShareSolveModel", "prepare", "(I)V"⟩, 34) := ⟨⟨by decide +kernel, by decide +kernel⟩, List.mem_of_getElem? (i := 617) (by decide +kernel), List.mem_of_getElem? (i := 833) (by decide +kernel), List.mem_of_getElem? (i := 834) (by decide +kernel)⟩
theorem lw_p35 : lw_okq (⟨"ShareSolveModel", "turn", "()V"⟩, 34) := ⟨⟨by decide +kernel, by decide +kernel⟩, List.mem_of_getElem? (i := 617) (by decide +kernel), List.mem_of_getElem? (i := 837) (by decide +kernel), List.mem_of_getElem? (i := 838) (by decide +kernel)⟩
theorem lw_p36 : lw_okq (⟨"ShareSolveModel", "turnBy", "(IJ)V"⟩, 34) := ⟨⟨by decide +kernel, by decide +kernel⟩, List.mem_of_getElem? (i := 617) (by decide +kernel), List.mem_of_getElem? (i := 841) (by decide +kernel), List.mem_of_getElem? (i := 842) (by decide +kernel)⟩
theorem lw_p37 : lw_okq (⟨"ShareSolveModel", "multiply", "(J)V"⟩, 34) := ⟨⟨by decide +kernel, by decide +kernel⟩, List.mem_of_getElem? (i := 617) (by decide +kernel), List.mem_of_getElem? (i := 845) (by decide +kernel), List.mem_of_getElem? (i := 846) (by decide +kernel)⟩
theorem lw_p38 : lw_okq (⟨"ShareSolveModel", "gatherOver", "(I)V"⟩, 34) := ⟨⟨by decide +kernel, by decide +kernel⟩, List.mem_of_getElem? (i := 617) (by decide +kernel), List.mem_of_getElem? (i := 856) (by decide +kernel), List.mem_of_getElem? (i := 857) (by decide +kernel)⟩
theorem lw_p39 : lw_okq (⟨"ShareSolveModel", "gather", "(I)V"⟩, 34) := ⟨⟨by decide +kernel, by decide +kernel⟩, List.mem_of_getElem? (i := 617) (by decide +kernel), List.mem_of_getElem? (i := 860) (by decide +kernel), List.mem_of_getElem? (i := 861) (by decide +kernel)⟩
theorem lw_p40 : lw_okq (⟨"ShareSolveModel", "clear", "(I)V"⟩, 34) := ⟨⟨by decide +kernel, by decide +kernel⟩, List.mem_of_getElem? (i := 617) (by decide +kernel), List.mem_of_getElem? (i := 864) (by decide +kernel), List.mem_of_getElem? (i := 865) (by decide +kernel)⟩
theorem lw_p41 : lw_okq (⟨"ShareSolveModel", "grow", "(IJJ)V"⟩, 34) := ⟨⟨by decide +kernel, by decide +kernel⟩, List.mem_of_getElem? (i := 617) (by decide +kernel), List.mem_of_getElem? (i := 868) (by decide +kernel), List.mem_of_getElem? (i := 869) (by decide +kernel)⟩
theorem lw_p42 : lw_okq (⟨"ShareSolveModel", "add", "(IJ)V"⟩, 34) := ⟨⟨by decide +kernel, by decide +kernel⟩, List.mem_of_getElem? (i := 617) (by decide +kernel), List.mem_of_getElem? (i := 873) (by decide +kernel), List.mem_of_getElem? (i := 874) (by decide +kernel)⟩
theorem lw_p43 : lw_okq (⟨"ShareSolveModel", "clearWeights", "()V"⟩, 34) := ⟨⟨by decide +kernel, by decide +kernel⟩, List.mem_of_getElem? (i := 617) (by decide +kernel), List.mem_of_getElem? (i := 877) (by decide +kernel), List.mem_of_getElem? (i := 878) (by decide +kernel)⟩
theorem lw_p44 : lw_okq (⟨"ShareSolveModel", "weighPort", "(III)V"⟩, 34) := ⟨⟨by decide +kernel, by decide +kernel⟩, List.mem_of_getElem? (i := 617) (by decide +kernel), List.mem_of_getElem? (i := 881) (by decide +kernel), List.mem_of_getElem? (i := 882) (by decide +kernel)⟩
theorem lw_p45 : lw_okq (⟨"ShareSolveModel", "gatherAmount", "(II)V"⟩, 34) := ⟨⟨by decide +kernel, by decide +kernel⟩, List.mem_of_getElem? (i := 617) (by decide +kernel), List.mem_of_getElem? (i := 885) (by decide +kernel), List.mem_of_getElem? (i := 886) (by decide +kernel)⟩
theorem lw_p46 : lw_okq (⟨"ShareSolveModel", "partOf", "(IZ)J"⟩, 34) := ⟨⟨by decide +kernel, by decide +kernel⟩, List.mem_of_getElem? (i := 617) (by decide +kernel), List.mem_of_getElem? (i := 889) (by decide +kernel), List.mem_of_getElem? (i := 890) (by decide +kernel)⟩
theorem lw_p47 : lw_okq (⟨"ShareSolveModel", "divide", "(I)J"⟩, 34) := ⟨⟨by decide +kernel, by decide +kernel⟩, List.mem_of_getElem? (i := 617) (by decide +kernel), List.mem_of_getElem? (i := 893) (by decide +kernel), List.mem_of_getElem? (i := 894) (by decide +kernel)⟩
def lw_privs_3 : List (MethodName × Nat) := [(⟨"ShareSolveModel", "goes", "(IIII)Z"⟩, 34), (⟨"ShareSolveModel", "freeze", "()V"⟩, 34), (⟨"ShareSolveModel", "prepare", "(I)V"⟩, 34), (⟨"ShareSolveModel", "turn", "()V"⟩, 34), (⟨"ShareSolveModel", "turnBy", "(IJ)V"⟩, 34), (⟨"ShareSolveModel", "multiply", "(J)V"⟩, 34), (⟨"ShareSolveModel", "gatherOver", "(I)V"⟩, 34), (⟨"ShareSolveModel", "gather", "(I)V"⟩, 34), (⟨"ShareSolveModel", "clear", "(I)V"⟩, 34), (⟨"ShareSolveModel", "grow", "(IJJ)V"⟩, 34), (⟨"ShareSolveModel", "add", "(IJ)V"⟩, 34), (⟨"ShareSolveModel", "clearWeights", "()V"⟩, 34), (⟨"ShareSolveModel", "weighPort", "(III)V"⟩, 34), (⟨"ShareSolveModel", "gatherAmount", "(II)V"⟩, 34), (⟨"ShareSolveModel", "partOf", "(IZ)J"⟩, 34), (⟨"ShareSolveModel", "divide", "(I)J"⟩, 34)]
theorem lw_r3 : ∀ q ∈ lw_privs_3, lw_okq q := List.forall_mem_cons.mpr ⟨lw_p32, List.forall_mem_cons.mpr ⟨lw_p33, List.forall_mem_cons.mpr ⟨lw_p34, List.forall_mem_cons.mpr ⟨lw_p35, List.forall_mem_cons.mpr ⟨lw_p36, List.forall_mem_cons.mpr ⟨lw_p37, List.forall_mem_cons.mpr ⟨lw_p38, List.forall_mem_cons.mpr ⟨lw_p39, List.forall_mem_cons.mpr ⟨lw_p40, List.forall_mem_cons.mpr ⟨lw_p41, List.forall_mem_cons.mpr ⟨lw_p42, List.forall_mem_cons.mpr ⟨lw_p43, List.forall_mem_cons.mpr ⟨lw_p44, List.forall_mem_cons.mpr ⟨lw_p45, List.forall_mem_cons.mpr ⟨lw_p46, List.forall_mem_cons.mpr ⟨lw_p47, fun _ h => absurd h List.not_mem_nil⟩⟩⟩⟩⟩⟩⟩⟩⟩⟩⟩⟩⟩⟩⟩⟩
theorem lw_p48 : lw_okq (⟨"ShareSolveModel", "wordsOf", "(I)I"⟩, 34) := ⟨⟨by decide +kernel, by decide +kernel⟩, List.mem_of_getElem? (i := 617) (by decide +kernel), List.mem_of_getElem? (i := 897) (by decide +kernel), List.mem_of_getElem? (i := 898) (by decide +kernel)⟩
theorem lw_p49 : lw_okq (⟨"ShareSolveModel", "growUsed", "(J)V"⟩, 34) := ⟨⟨by decide +kernel, by decide +kernel⟩, List.mem_of_getElem? (i := 617) (by decide +kernel), List.mem_of_getElem? (i := 901) (by decide +kernel), List.mem_of_getElem? (i := 902) (by decide +kernel)⟩
theorem lw_p50 : lw_okq (⟨"ShareSolveModel", "isLeftLess", "()Z"⟩, 34) := ⟨⟨by decide +kernel, by decide +kernel⟩, List.mem_of_getElem? (i := 617) (by decide +kernel), List.mem_of_getElem? (i := 905) (by decide +kernel), List.mem_of_getElem? (i := 906) (by decide +kernel)⟩
theorem lw_p51 : lw_okq (⟨"ShareSolveModel", "lessenLeft", "()V"⟩, 34) := ⟨⟨by decide +kernel, by decide +kernel⟩, List.mem_of_getElem? (i := 617) (by decide +kernel), List.mem_of_getElem? (i := 909) (by decide +kernel), List.mem_of_getElem? (i := 910) (by decide +kernel)⟩
theorem lw_p52 : lw_okq (⟨"ShareSolveModel", "isZero", "(I)Z"⟩, 34) := ⟨⟨by decide +kernel, by decide +kernel⟩, List.mem_of_getElem? (i := 617) (by decide +kernel), List.mem_of_getElem? (i := 913) (by decide +kernel), List.mem_of_getElem? (i := 914) (by decide +kernel)⟩
theorem lw_p53 : lw_okq (⟨"ShareSolveModel", "copy", "(II)V"⟩, 34) := ⟨⟨by decide +kernel, by decide +kernel⟩, List.mem_of_getElem? (i := 617) (by decide +kernel), List.mem_of_getElem? (i := 917) (by decide +kernel), List.mem_of_getElem? (i := 918) (by decide +kernel)⟩
theorem lw_p54 : lw_okq (⟨"ShareSolveModel", "lessen", "(II)V"⟩, 34) := ⟨⟨by decide +kernel, by decide +kernel⟩, List.mem_of_getElem? (i := 617) (by decide +kernel), List.mem_of_getElem? (i := 921) (by decide +kernel), List.mem_of_getElem? (i := 922) (by decide +kernel)⟩
theorem lw_p55 : lw_okq (⟨"ShareSolveModel", "reckonLoad", "(I)V"⟩, 34) := ⟨⟨by decide +kernel, by decide +kernel⟩, List.mem_of_getElem? (i := 617) (by decide +kernel), List.mem_of_getElem? (i := 929) (by decide +kernel), List.mem_of_getElem? (i := 930) (by decide +kernel)⟩
theorem lw_p56 : lw_okq (⟨"ShareSolveModel", "isOver", "(I)Z"⟩, 34) := ⟨⟨by decide +kernel, by decide +kernel⟩, List.mem_of_getElem? (i := 617) (by decide +kernel), List.mem_of_getElem? (i := 937) (by decide +kernel), List.mem_of_getElem? (i := 938) (by decide +kernel)⟩
theorem lw_p57 : lw_okq (⟨"ShareSolveModel", "gatherOut", "(IIIII)V"⟩, 34) := ⟨⟨by decide +kernel, by decide +kernel⟩, List.mem_of_getElem? (i := 617) (by decide +kernel), List.mem_of_getElem? (i := 945) (by decide +kernel), List.mem_of_getElem? (i := 946) (by decide +kernel)⟩
theorem lw_p58 : lw_okq (⟨"ShareSolveModel", "gatherWorth", "(II)V"⟩, 34) := ⟨⟨by decide +kernel, by decide +kernel⟩, List.mem_of_getElem? (i := 617) (by decide +kernel), List.mem_of_getElem? (i := 949) (by decide +kernel), List.mem_of_getElem? (i := 950) (by decide +kernel)⟩
theorem lw_p59 : lw_okq (⟨"ShareSolveModel", "isLess", "(II)Z"⟩, 34) := ⟨⟨by decide +kernel, by decide +kernel⟩, List.mem_of_getElem? (i := 617) (by decide +kernel), List.mem_of_getElem? (i := 953) (by decide +kernel), List.mem_of_getElem? (i := 954) (by decide +kernel)⟩
theorem lw_p60 : lw_okq (⟨"ShareSolveModel", "multiply", "(III)V"⟩, 34) := ⟨⟨by decide +kernel, by decide +kernel⟩, List.mem_of_getElem? (i := 617) (by decide +kernel), List.mem_of_getElem? (i := 957) (by decide +kernel), List.mem_of_getElem? (i := 958) (by decide +kernel)⟩
theorem lw_p61 : lw_okq (⟨"ShareSolveModel", "brings", "(IJ)Z"⟩, 34) := ⟨⟨by decide +kernel, by decide +kernel⟩, List.mem_of_getElem? (i := 617) (by decide +kernel), List.mem_of_getElem? (i := 975) (by decide +kernel), List.mem_of_getElem? (i := 976) (by decide +kernel)⟩
def lw_privs_4 : List (MethodName × Nat) := [(⟨"ShareSolveModel", "wordsOf", "(I)I"⟩, 34), (⟨"ShareSolveModel", "growUsed", "(J)V"⟩, 34), (⟨"ShareSolveModel", "isLeftLess", "()Z"⟩, 34), (⟨"ShareSolveModel", "lessenLeft", "()V"⟩, 34), (⟨"ShareSolveModel", "isZero", "(I)Z"⟩, 34), (⟨"ShareSolveModel", "copy", "(II)V"⟩, 34), (⟨"ShareSolveModel", "lessen", "(II)V"⟩, 34), (⟨"ShareSolveModel", "reckonLoad", "(I)V"⟩, 34), (⟨"ShareSolveModel", "isOver", "(I)Z"⟩, 34), (⟨"ShareSolveModel", "gatherOut", "(IIIII)V"⟩, 34), (⟨"ShareSolveModel", "gatherWorth", "(II)V"⟩, 34), (⟨"ShareSolveModel", "isLess", "(II)Z"⟩, 34), (⟨"ShareSolveModel", "multiply", "(III)V"⟩, 34), (⟨"ShareSolveModel", "brings", "(IJ)Z"⟩, 34)]
theorem lw_r4 : ∀ q ∈ lw_privs_4, lw_okq q := List.forall_mem_cons.mpr ⟨lw_p48, List.forall_mem_cons.mpr ⟨lw_p49, List.forall_mem_cons.mpr ⟨lw_p50, List.forall_mem_cons.mpr ⟨lw_p51, List.forall_mem_cons.mpr ⟨lw_p52, List.forall_mem_cons.mpr ⟨lw_p53, List.forall_mem_cons.mpr ⟨lw_p54, List.forall_mem_cons.mpr ⟨lw_p55, List.forall_mem_cons.mpr ⟨lw_p56, List.forall_mem_cons.mpr ⟨lw_p57, List.forall_mem_cons.mpr ⟨lw_p58, List.forall_mem_cons.mpr ⟨lw_p59, List.forall_mem_cons.mpr ⟨lw_p60, List.forall_mem_cons.mpr ⟨lw_p61, fun _ h => absurd h List.not_mem_nil⟩⟩⟩⟩⟩⟩⟩⟩⟩⟩⟩⟩⟩⟩
def lw_privs : List (MethodName × Nat) := lw_privs_1 ++ (lw_privs_2 ++ (lw_privs_3 ++ (lw_privs_4)))
def lw_tbl : List Cond := k2_sels lw_privs ++ tables_1
theorem lw_privs_ok : ∀ q ∈ lw_privs, lw_okq q := by
  show ∀ q ∈ lw_privs_1 ++ (lw_privs_2 ++ (lw_privs_3 ++ (lw_privs_4))), lw_okq q
  exact List.forall_mem_append.mpr ⟨lw_r1, List.forall_mem_append.mpr ⟨lw_r2, List.forall_mem_append.mpr ⟨lw_r3, lw_r4⟩⟩⟩
/-! ===== the classes: fields, types, words ===== -/
def jm_T0 : u_T := fun k => match k with
  | 0 => ("ShareSolve$Division", "quotient", "LShareSolve$Whole;", true)
  | 1 => ("ShareSolve$Division", "rest", "LShareSolve$Whole;", true)
  | 2 => ("ShareSolve$Division", "shifted", "LShareSolve$Whole;", true)
  | _ => ("ShareSolve$Division", "next", "LShareSolve$Whole;", true)
def jm_T1 : u_T := fun k => match k with
  | 0 => ("ShareSolve$Flow", "division", "LShareSolve$Division;", true)
  | 1 => ("ShareSolve$Flow", "below", "LShareSolve$Whole;", true)
  | 2 => ("ShareSolve$Flow", "line", "LShareSolve$Line;", true)
  | 3 => ("ShareSolve$Flow", "size", "I", false)
  | 4 => ("ShareSolve$Flow", "scale", "[I", true)
  | 5 => ("ShareSolve$Flow", "moves", "[[I", true)
  | 6 => ("ShareSolve$Flow", "leaves", "[[I", true)
  | 7 => ("ShareSolve$Flow", "turns", "[[I", true)
  | 8 => ("ShareSolve$Flow", "cells", "[LShareSolve$Whole;", true)
  | 9 => ("ShareSolve$Flow", "first", "LShareSolve$Whole;", true)
  | 10 => ("ShareSolve$Flow", "second", "LShareSolve$Whole;", true)
  | 11 => ("ShareSolve$Flow", "passing", "LShareSolve$Whole;", true)
  | 12 => ("ShareSolve$Flow", "product", "LShareSolve$Whole;", true)
  | _ => ("ShareSolve$Flow", "square", "LShareSolve$Whole;", true)
def jm_T2 : u_T := fun k => match k with
  | 0 => ("ShareSolve$Line", "kinds", "I", true)
  | 1 => ("ShareSolve$Line", "machines", "I", false)
  | 2 => ("ShareSolve$Line", "ports", "I", false)
  | 3 => ("ShareSolve$Line", "outs", "[I", true)
  | 4 => ("ShareSolve$Line", "joins", "[I", true)
  | 5 => ("ShareSolve$Line", "shares", "[I", true)
  | 6 => ("ShareSolve$Line", "crushed", "[I", true)
  | 7 => ("ShareSolve$Line", "becomes", "[I", true)
  | 8 => ("ShareSolve$Line", "feeds", "[J", true)
  | 9 => ("ShareSolve$Line", "spanned", "[Z", true)
  | 10 => ("ShareSolve$Line", "lows", "[J", true)
  | 11 => ("ShareSolve$Line", "highs", "[J", true)
  | _ => ("ShareSolve$Line", "getsAway", "[Z", true)
def jm_T3 : u_T := fun k => match k with
  | 0 => ("ShareSolve$Solved", "known", "Z", false)
  | 1 => ("ShareSolve$Solved", "machines", "I", false)
  | 2 => ("ShareSolve$Solved", "ports", "I", false)
  | 3 => ("ShareSolve$Solved", "below", "LShareSolve$Whole;", true)
  | 4 => ("ShareSolve$Solved", "atPorts", "[LShareSolve$Whole;", true)
  | 5 => ("ShareSolve$Solved", "loads", "[LShareSolve$Whole;", true)
  | _ => ("ShareSolve$Solved", "sum", "LShareSolve$Whole;", true)
def jm_T4 : u_T := fun k => match k with
  | 0 => ("ShareSolve$Whole", "limbs", "[I", true)
  | _ => ("ShareSolve$Whole", "used", "I", false)
def jm_T5 : u_T := fun k => match k with
  | 0 => ("ShareSolve", "line", "LShareSolve$Line;", true)
  | 1 => ("ShareSolve", "flow", "LShareSolve$Flow;", true)
  | 2 => ("ShareSolve", "solved", "LShareSolve$Solved;", true)
  | _ => ("ShareSolve", "untouched", "Z", false)
def jm_T6 : u_T := fun k => match k with
  | 0 => ("ShareSolveModel", "kinds", "I", true)
  | 1 => ("ShareSolveModel", "machines", "[I", true)
  | 2 => ("ShareSolveModel", "ports", "[I", true)
  | 3 => ("ShareSolveModel", "outs", "[I", true)
  | 4 => ("ShareSolveModel", "joins", "[I", true)
  | 5 => ("ShareSolveModel", "shareAbove", "[I", true)
  | 6 => ("ShareSolveModel", "shareBelow", "[I", true)
  | 7 => ("ShareSolveModel", "crushTo", "[I", true)
  | 8 => ("ShareSolveModel", "crushAbove", "[I", true)
  | 9 => ("ShareSolveModel", "crushBelow", "[I", true)
  | 10 => ("ShareSolveModel", "feeds", "[I", true)
  | 11 => ("ShareSolveModel", "spanned", "[Z", true)
  | 12 => ("ShareSolveModel", "lows", "[J", true)
  | 13 => ("ShareSolveModel", "highs", "[J", true)
  | 14 => ("ShareSolveModel", "isKnown", "Z", false)
  | 15 => ("ShareSolveModel", "isKept", "Z", false)
  | 16 => ("ShareSolveModel", "primes", "[J", true)
  | 17 => ("ShareSolveModel", "wholes", "[J", true)
  | 18 => ("ShareSolveModel", "table", "[J", true)
  | 19 => ("ShareSolveModel", "ways", "[J", true)
  | 20 => ("ShareSolveModel", "matrix", "[J", true)
  | 21 => ("ShareSolveModel", "power", "[J", true)
  | 22 => ("ShareSolveModel", "next", "[J", true)
  | 23 => ("ShareSolveModel", "turned", "[J", true)
  | 24 => ("ShareSolveModel", "over", "[J", true)
  | 25 => ("ShareSolveModel", "big", "[J", true)
  | 26 => ("ShareSolveModel", "residues", "[J", true)
  | 27 => ("ShareSolveModel", "digits", "[J", true)
  | 28 => ("ShareSolveModel", "used", "I", false)
  | 29 => ("ShareSolveModel", "isBeyond", "Z", false)
  | 30 => ("ShareSolveModel", "weights", "[J", true)
  | 31 => ("ShareSolveModel", "held", "I", false)
  | 32 => ("ShareSolveModel", "heldTurn", "I", false)
  | _ => ("ShareSolveModel", "turns", "[I", true)
abbrev jm_cl : List vw_C := [("ShareSolve$Division", jm_T0, 4), ("ShareSolve$Flow", jm_T1, 14), ("ShareSolve$Line", jm_T2, 13), ("ShareSolve$Solved", jm_T3, 7), ("ShareSolve$Whole", jm_T4, 2), ("ShareSolve", jm_T5, 4), ("ShareSolveModel", jm_T6, 34)]
def jm_FT : Nat → List FieldType := fun c => match c with
  | 0 => [.object "ShareSolve$Whole", .object "ShareSolve$Whole", .object "ShareSolve$Whole", .object "ShareSolve$Whole"]
  | 1 => [.object "ShareSolve$Division", .object "ShareSolve$Whole", .object "ShareSolve$Line", .int, .array .int, .array (.array .int), .array (.array .int), .array (.array .int), .array (.object "ShareSolve$Whole"), .object "ShareSolve$Whole", .object "ShareSolve$Whole", .object "ShareSolve$Whole", .object "ShareSolve$Whole", .object "ShareSolve$Whole"]
  | 2 => [.int, .int, .int, .array .int, .array .int, .array .int, .array .int, .array .int, .array .long, .array .boolean, .array .long, .array .long, .array .boolean]
  | 3 => [.boolean, .int, .int, .object "ShareSolve$Whole", .array (.object "ShareSolve$Whole"), .array (.object "ShareSolve$Whole"), .object "ShareSolve$Whole"]
  | 4 => [.array .int, .int]
  | 5 => [.object "ShareSolve$Line", .object "ShareSolve$Flow", .object "ShareSolve$Solved", .boolean]
  | 6 => [.int, .array .int, .array .int, .array .int, .array .int, .array .int, .array .int, .array .int, .array .int, .array .int, .array .int, .array .boolean, .array .long, .array .long, .boolean, .boolean, .array .long, .array .long, .array .long, .array .long, .array .long, .array .long, .array .long, .array .long, .array .long, .array .long, .array .long, .array .long, .int, .boolean, .array .long, .int, .int, .array .int]
  | _ => []
abbrev jm_ft (c k : Nat) : FieldType := (jm_FT c).getD k .int
abbrev jm_sz (c : Nat) : Nat := (jm_FT c).length
def jm_AT : Nat → FieldType := fun k => match k with
  | 50 => .int
  | 51 => .long
  | 52 => .boolean
  | 53 => .object "ShareSolve$Whole"
  | _ => .array .int
/-- the words that a callee may be given -/
def jm_Tb : List Cond := lw_tbl.filter goodWord
def jm_wd (q : Cond) (i : Nat) : Bool := decide (lw_tbl[i]? = some q) && goodWord q
theorem jm_wd_in {q : Cond} {i : Nat} (h : jm_wd q i = true) : q ∈ jm_Tb := by
  simp only [jm_wd, Bool.and_eq_true, decide_eq_true_eq] at h
  exact List.mem_filter.mpr ⟨List.mem_of_getElem? h.1, h.2⟩
theorem jm_good : GoodIn jm_Tb jm_Tb := fun q h => ⟨h, good_of_word (List.mem_filter.mp h).2⟩
theorem jm_lay0 : ∀ k, k < 4 → jm_wd (u_lay "ShareSolve$Division" jm_T0 k) ([183, 185, 187, 189].getD k 0) = true := by decide +kernel
theorem jm_typ0 : ∀ k, k < 4 → parseFieldDescriptor (jm_T0 k).2.2.1 = some (jm_ft 0 k) := by decide +kernel
theorem jm_nam0 : ∀ a, a < 4 → ∀ b, b < 4 → a ≠ b → (jm_T0 a).2.1 ≠ (jm_T0 b).2.1 := by decide +kernel
theorem jm_own0 : ∀ k, k < 4 → (jm_T0 k).1 = "ShareSolve$Division" := by decide +kernel
theorem jm_ini0 : jm_wd (.initialized "ShareSolve$Division") 67 = true ∧ jm_wd (.instantiable "ShareSolve$Division" 4) 159 = true := by decide +kernel
theorem jm_lay1 : ∀ k, k < 14 → jm_wd (u_lay "ShareSolve$Flow" jm_T1 k) ([213, 215, 217, 219, 221, 223, 225, 227, 229, 231, 233, 235, 237, 239].getD k 0) = true := by decide +kernel
theorem jm_typ1 : ∀ k, k < 14 → parseFieldDescriptor (jm_T1 k).2.2.1 = some (jm_ft 1 k) := by decide +kernel
theorem jm_nam1 : ∀ a, a < 14 → ∀ b, b < 14 → a ≠ b → (jm_T1 a).2.1 ≠ (jm_T1 b).2.1 := by decide +kernel
theorem jm_own1 : ∀ k, k < 14 → (jm_T1 k).1 = "ShareSolve$Flow" := by decide +kernel
theorem jm_ini1 : jm_wd (.initialized "ShareSolve$Flow") 66 = true ∧ jm_wd (.instantiable "ShareSolve$Flow" 14) 153 = true := by decide +kernel
theorem jm_lay2 : ∀ k, k < 13 → jm_wd (u_lay "ShareSolve$Line" jm_T2 k) ([122, 124, 126, 128, 130, 132, 134, 136, 138, 140, 142, 144, 146].getD k 0) = true := by decide +kernel
theorem jm_typ2 : ∀ k, k < 13 → parseFieldDescriptor (jm_T2 k).2.2.1 = some (jm_ft 2 k) := by decide +kernel
theorem jm_nam2 : ∀ a, a < 13 → ∀ b, b < 13 → a ≠ b → (jm_T2 a).2.1 ≠ (jm_T2 b).2.1 := by decide +kernel
theorem jm_own2 : ∀ k, k < 13 → (jm_T2 k).1 = "ShareSolve$Line" := by decide +kernel
theorem jm_ini2 : jm_wd (.initialized "ShareSolve$Line") 64 = true ∧ jm_wd (.instantiable "ShareSolve$Line" 13) 83 = true := by decide +kernel
theorem jm_lay3 : ∀ k, k < 7 → jm_wd (u_lay "ShareSolve$Solved" jm_T3 k) ([261, 263, 265, 267, 269, 271, 273].getD k 0) = true := by decide +kernel
theorem jm_typ3 : ∀ k, k < 7 → parseFieldDescriptor (jm_T3 k).2.2.1 = some (jm_ft 3 k) := by decide +kernel
theorem jm_nam3 : ∀ a, a < 7 → ∀ b, b < 7 → a ≠ b → (jm_T3 a).2.1 ≠ (jm_T3 b).2.1 := by decide +kernel
theorem jm_own3 : ∀ k, k < 7 → (jm_T3 k).1 = "ShareSolve$Solved" := by decide +kernel
theorem jm_ini3 : jm_wd (.initialized "ShareSolve$Solved") 69 = true ∧ jm_wd (.instantiable "ShareSolve$Solved" 7) 243 = true := by decide +kernel
theorem jm_lay4 : ∀ k, k < 2 → jm_wd (u_lay "ShareSolve$Whole" jm_T4 k) ([173, 175].getD k 0) = true := by decide +kernel
theorem jm_typ4 : ∀ k, k < 2 → parseFieldDescriptor (jm_T4 k).2.2.1 = some (jm_ft 4 k) := by decide +kernel
theorem jm_nam4 : ∀ a, a < 2 → ∀ b, b < 2 → a ≠ b → (jm_T4 a).2.1 ≠ (jm_T4 b).2.1 := by decide +kernel
theorem jm_own4 : ∀ k, k < 2 → (jm_T4 k).1 = "ShareSolve$Whole" := by decide +kernel
theorem jm_ini4 : jm_wd (.initialized "ShareSolve$Whole") 68 = true ∧ jm_wd (.instantiable "ShareSolve$Whole" 2) 165 = true := by decide +kernel
theorem jm_lay5 : ∀ k, k < 4 → jm_wd (u_lay "ShareSolve" jm_T5 k) ([280, 282, 284, 286].getD k 0) = true := by decide +kernel
theorem jm_typ5 : ∀ k, k < 4 → parseFieldDescriptor (jm_T5 k).2.2.1 = some (jm_ft 5 k) := by decide +kernel
theorem jm_nam5 : ∀ a, a < 4 → ∀ b, b < 4 → a ≠ b → (jm_T5 a).2.1 ≠ (jm_T5 b).2.1 := by decide +kernel
theorem jm_own5 : ∀ k, k < 4 → (jm_T5 k).1 = "ShareSolve" := by decide +kernel
theorem jm_ini5 : jm_wd (.initialized "ShareSolve") 63 = true ∧ jm_wd (.instantiable "ShareSolve" 4) 75 = true := by decide +kernel
theorem jm_lay6 : ∀ k, k < 34 → jm_wd (u_lay "ShareSolveModel" jm_T6 k) ([726, 728, 730, 732, 734, 736, 738, 740, 742, 744, 746, 748, 750, 752, 754, 756, 758, 760, 762, 764, 766, 768, 770, 772, 774, 776, 778, 780, 782, 784, 786, 788, 790, 792].getD k 0) = true := by decide +kernel
theorem jm_typ6 : ∀ k, k < 34 → parseFieldDescriptor (jm_T6 k).2.2.1 = some (jm_ft 6 k) := by decide +kernel
theorem jm_nam6 : ∀ a, a < 34 → ∀ b, b < 34 → a ≠ b → (jm_T6 a).2.1 ≠ (jm_T6 b).2.1 := by decide +kernel
theorem jm_own6 : ∀ k, k < 34 → (jm_T6 k).1 = "ShareSolveModel" := by decide +kernel
theorem jm_ini6 : jm_wd (.initialized "ShareSolveModel") 70 = true ∧ jm_wd (.instantiable "ShareSolveModel" 34) 679 = true := by decide +kernel
theorem jm_arr50 : jm_wd (.arrayClass (jm_AT 50)) 149 = true := by decide +kernel
theorem jm_arr51 : jm_wd (.arrayClass (jm_AT 51)) 150 = true := by decide +kernel
theorem jm_arr52 : jm_wd (.arrayClass (jm_AT 52)) 151 = true := by decide +kernel
theorem jm_obj1 : jm_wd (.instanceMethod objectInit) 80 = true := by decide +kernel
set_option maxRecDepth 100000 in
theorem jm_obj2 : Cond.code objectInit ⟨#[0xb1]⟩ 1 none ∈ jm_Tb := List.mem_filter.mpr ⟨List.mem_of_getElem? (i := 81) rfl, rfl⟩
theorem jm_mth : jm_wd (.initialized "java/lang/Math") 71 = true := by decide +kernel
theorem jm_mx1 : jm_wd (.static Lib.Math.max.name) 475 = true := by decide +kernel
set_option maxRecDepth 100000 in
theorem jm_mx2 : Cond.code Lib.Math.max.name Lib.Math.max.code 2 (some .int) ∈ jm_Tb := List.mem_filter.mpr ⟨List.mem_of_getElem? (i := 476) rfl, rfl⟩
theorem jm_mn1 : jm_wd (.static Lib.Math.min.name) 478 = true := by decide +kernel
set_option maxRecDepth 100000 in
theorem jm_mn2 : Cond.code Lib.Math.min.name Lib.Math.min.code 2 (some .int) ∈ jm_Tb := List.mem_filter.mpr ⟨List.mem_of_getElem? (i := 479) rfl, rfl⟩
theorem jm_ml1 : jm_wd (.static Lib.MathLoose.min_long.x) 515 = true := by decide +kernel
set_option maxRecDepth 100000 in
theorem jm_ml2 : Cond.code Lib.MathLoose.min_long.x Lib.MathLoose.min_long.code 4 (some .long) ∈ jm_Tb := List.mem_filter.mpr ⟨List.mem_of_getElem? (i := 516) rfl, rfl⟩
theorem jm_ac1 : jm_wd (.static arraycopyName) 490 = true ∧ jm_wd (.native arraycopyName) 491 = true ∧ jm_wd (.initialized "java/lang/System") 72 = true := by decide +kernel
/-- all that is said of a class -/
def jm_cls (i : Nat) (C : String) (T : u_T) (N : Nat) : Prop := (∀ q ∈ u_ws C T N, q ∈ jm_Tb) ∧ (∀ k, k < N → parseFieldDescriptor (T k).2.2.1 = some (jm_ft i k)) ∧ (∀ a, a < N → ∀ b, b < N → a ≠ b → (T a).2.1 ≠ (T b).2.1) ∧ (∀ k, k < N → (T k).1 = C) ∧ Cond.initialized C ∈ jm_Tb ∧ Cond.instantiable C N ∈ jm_Tb ∧ (jm_FT i).length = N
theorem jm_ws_in {C : String} {T : u_T} {N : Nat} {l : List Nat} (h : ∀ k, k < N → jm_wd (u_lay C T k) (l.getD k 0) = true) : ∀ q ∈ u_ws C T N, q ∈ jm_Tb := by
  intro q hq
  obtain ⟨k, hk, rfl⟩ := List.mem_map.mp hq
  exact jm_wd_in (h k (List.mem_range.mp hk))
theorem jm_cls_all : ∀ (i : Nat) (C : String) (T : u_T) (N : Nat), jm_cl[i]? = some (C, T, N) → jm_cls i C T N := by
  intro i C T N h
  match i, h with
  | 0, h => cases h; exact ⟨jm_ws_in jm_lay0, jm_typ0, jm_nam0, jm_own0, jm_wd_in jm_ini0.1, jm_wd_in jm_ini0.2, rfl⟩
  | 1, h => cases h; exact ⟨jm_ws_in jm_lay1, jm_typ1, jm_nam1, jm_own1, jm_wd_in jm_ini1.1, jm_wd_in jm_ini1.2, rfl⟩
  | 2, h => cases h; exact ⟨jm_ws_in jm_lay2, jm_typ2, jm_nam2, jm_own2, jm_wd_in jm_ini2.1, jm_wd_in jm_ini2.2, rfl⟩
  | 3, h => cases h; exact ⟨jm_ws_in jm_lay3, jm_typ3, jm_nam3, jm_own3, jm_wd_in jm_ini3.1, jm_wd_in jm_ini3.2, rfl⟩
  | 4, h => cases h; exact ⟨jm_ws_in jm_lay4, jm_typ4, jm_nam4, jm_own4, jm_wd_in jm_ini4.1, jm_wd_in jm_ini4.2, rfl⟩
  | 5, h => cases h; exact ⟨jm_ws_in jm_lay5, jm_typ5, jm_nam5, jm_own5, jm_wd_in jm_ini5.1, jm_wd_in jm_ini5.2, rfl⟩
  | 6, h => cases h; exact ⟨jm_ws_in jm_lay6, jm_typ6, jm_nam6, jm_own6, jm_wd_in jm_ini6.1, jm_wd_in jm_ini6.2, rfl⟩
  | i + 7, h => simp [jm_cl] at h
end
section
/-! ===== the methods: name, code, locals, answer, frames and words of locals below it; the words by their places ===== -/
abbrev jm_I : Type := MethodName × ByteArray × Nat × Option FieldType × Nat × Nat
/-- its own code; static or of an object (and selected there); its class is ready -/
def jm_mok (y : jm_I) (st : Bool) (i1 i2 i3 i4 : Nat) : Bool := decide (y.1.cls ≠ "java/lang/invoke/MethodHandle" ∧ y.1.cls ≠ "java/lang/invoke/VarHandle") && plainName y.1.cls && jm_wd (.initialized y.1.cls) i4 && (if st then jm_wd (.static y.1) i2 else jm_wd (.instanceMethod y.1) i2 && (decide (y.1.name = "<init>") || jm_wd (.selects y.1.cls y.1 y.1) i3))
def y_Dv_init : jm_I := (⟨"ShareSolve$Division", "<init>", "()V"⟩, prog_2_method_1_code, 1, none, 2, 40)
def y_Dv_divide : jm_I := (⟨"ShareSolve$Division", "divide", "(LShareSolve$Whole;LShareSolve$Whole;)V"⟩, prog_2_method_4_code, 6, none, 3, 87)
def y_Dv_nextDigit : jm_I := (⟨"ShareSolve$Division", "nextDigit", "(I)I"⟩, prog_2_method_5_code, 5, (some (.int)), 2, 63)
def y_Dv_guessDigit : jm_I := (⟨"ShareSolve$Division", "guessDigit", "(I)I"⟩, prog_2_method_6_code, 6, (some (.int)), 1, 38)
def y_Dv_partOf : jm_I := (⟨"ShareSolve$Division", "partOf", "(LShareSolve$Whole;LShareSolve$Whole;I)J"⟩, prog_2_method_2_code, 5, (some (.long)), 4, 112)
def y_Dv_partOfNegative : jm_I := (⟨"ShareSolve$Division", "partOfNegative", "(LShareSolve$Whole;LShareSolve$Whole;I)J"⟩, prog_2_method_3_code, 4, (some (.long)), 5, 136)
def y_Fl_init : jm_I := (⟨"ShareSolve$Flow", "<init>", "(LShareSolve$Line;)V"⟩, prog_3_method_1_code, 3, none, 3, 60)
def y_Fl_readLine : jm_I := (⟨"ShareSolve$Flow", "readLine", "()V"⟩, prog_3_method_2_code, 3, none, 4, 96)
def y_Fl_readColumn : jm_I := (⟨"ShareSolve$Flow", "readColumn", "(II)V"⟩, prog_3_method_9_code, 5, none, 3, 72)
def y_Fl_sendAs : jm_I := (⟨"ShareSolve$Flow", "sendAs", "(IIII)V"⟩, prog_3_method_10_code, 8, none, 2, 45)
def y_Fl_shrinkColumn : jm_I := (⟨"ShareSolve$Flow", "shrinkColumn", "(I)V"⟩, prog_3_method_11_code, 4, none, 1, 25)
def y_Fl_commonDivisor : jm_I := (⟨"ShareSolve$Flow", "commonDivisor", "(II)I"⟩, prog_3_method_13_code, 6, (some (.int)), 0, 0)
def y_Fl_divideColumn : jm_I := (⟨"ShareSolve$Flow", "divideColumn", "(II)V"⟩, prog_3_method_12_code, 4, none, 0, 0)
def y_Fl_cell : jm_I := (⟨"ShareSolve$Flow", "cell", "(II)LShareSolve$Whole;"⟩, prog_3_method_8_code, 3, (some (.object "ShareSolve$Whole")), 0, 0)
def y_Fl_eliminate : jm_I := (⟨"ShareSolve$Flow", "eliminate", "(I)V"⟩, prog_3_method_3_code, 5, none, 5, 138)
def y_Fl_eliminateCell : jm_I := (⟨"ShareSolve$Flow", "eliminateCell", "(III)V"⟩, prog_3_method_14_code, 7, none, 4, 112)
def y_Fl_putAtPort : jm_I := (⟨"ShareSolve$Flow", "putAtPort", "(IILShareSolve$Whole;)V"⟩, prog_3_method_4_code, 4, none, 3, 93)
def y_Fl_addAtPort : jm_I := (⟨"ShareSolve$Flow", "addAtPort", "(IIILShareSolve$Whole;)V"⟩, prog_3_method_16_code, 7, none, 2, 67)
def y_Fl_putLoad : jm_I := (⟨"ShareSolve$Flow", "putLoad", "(ILShareSolve$Whole;)V"⟩, prog_3_method_5_code, 5, none, 2, 67)
def y_Fl_slopePart : jm_I := (⟨"ShareSolve$Flow", "slopePart", "(IIIII)J"⟩, prog_3_method_7_code, 11, (some (.long)), 6, 162)
def y_Fl_putGram : jm_I := (⟨"ShareSolve$Flow", "putGram", "(III)V"⟩, prog_3_method_15_code, 5, none, 2, 45)
def y_Fl_putReached : jm_I := (⟨"ShareSolve$Flow", "putReached", "(IIILShareSolve$Whole;)V"⟩, prog_3_method_17_code, 6, none, 3, 93)
def y_Fl_putPassing : jm_I := (⟨"ShareSolve$Flow", "putPassing", "(IILShareSolve$Whole;)V"⟩, prog_3_method_18_code, 6, none, 2, 67)
def y_Fl_bringsAtLeast : jm_I := (⟨"ShareSolve$Flow", "bringsAtLeast", "(IIJ)Z"⟩, prog_3_method_6_code, 5, (some (.boolean)), 4, 116)
def y_Ln_init : jm_I := (⟨"ShareSolve$Line", "<init>", "(I)V"⟩, prog_4_method_1_code, 2, none, 1, 23)
def y_Ln_addMachine : jm_I := (⟨"ShareSolve$Line", "addMachine", "(I)I"⟩, prog_4_method_13_code, 4, (some (.int)), 1, 22)
def y_Ln_row : jm_I := (⟨"ShareSolve$Line", "row", "(II)I"⟩, prog_4_method_10_code, 3, (some (.int)), 0, 0)
def y_Ln_addPort : jm_I := (⟨"ShareSolve$Line", "addPort", "()I"⟩, prog_4_method_14_code, 1, (some (.int)), 0, 0)
def y_Ln_hasOut : jm_I := (⟨"ShareSolve$Line", "hasOut", "(II)Z"⟩, prog_4_method_6_code, 3, (some (.boolean)), 1, 21)
def y_Ln_hasMachine : jm_I := (⟨"ShareSolve$Line", "hasMachine", "(I)Z"⟩, prog_4_method_2_code, 2, (some (.boolean)), 0, 0)
def y_Ln_hasTarget : jm_I := (⟨"ShareSolve$Line", "hasTarget", "(I)Z"⟩, prog_4_method_8_code, 2, (some (.boolean)), 1, 21)
def y_Ln_hasPort : jm_I := (⟨"ShareSolve$Line", "hasPort", "(I)Z"⟩, prog_4_method_3_code, 2, (some (.boolean)), 0, 0)
def y_Ln_hasSharedOut : jm_I := (⟨"ShareSolve$Line", "hasSharedOut", "(III)Z"⟩, prog_4_method_7_code, 4, (some (.boolean)), 2, 43)
def y_Ln_hasKind : jm_I := (⟨"ShareSolve$Line", "hasKind", "(I)Z"⟩, prog_4_method_4_code, 2, (some (.boolean)), 0, 0)
def y_Ln_lastOut : jm_I := (⟨"ShareSolve$Line", "lastOut", "(I)I"⟩, prog_4_method_9_code, 2, (some (.int)), 0, 0)
def y_Ln_setShare : jm_I := (⟨"ShareSolve$Line", "setShare", "(IIII)Z"⟩, prog_4_method_15_code, 8, (some (.boolean)), 1, 22)
def y_Ln_hasRow : jm_I := (⟨"ShareSolve$Line", "hasRow", "(II)Z"⟩, prog_4_method_5_code, 3, (some (.boolean)), 1, 21)
def y_Ln_firstStuck : jm_I := (⟨"ShareSolve$Line", "firstStuck", "()I"⟩, prog_4_method_16_code, 3, (some (.int)), 4, 92)
def y_Ln_spreadGetsAway : jm_I := (⟨"ShareSolve$Line", "spreadGetsAway", "()V"⟩, prog_4_method_17_code, 4, none, 3, 69)
def y_Ln_leavesAs : jm_I := (⟨"ShareSolve$Line", "leavesAs", "(II)Z"⟩, prog_4_method_18_code, 5, (some (.boolean)), 2, 45)
def y_Ln_target : jm_I := (⟨"ShareSolve$Line", "target", "(II)I"⟩, prog_4_method_12_code, 3, (some (.int)), 0, 0)
def y_Ln_shareOf : jm_I := (⟨"ShareSolve$Line", "shareOf", "(III)I"⟩, prog_4_method_11_code, 4, (some (.int)), 1, 22)
def y_So_init : jm_I := (⟨"ShareSolve$Solved", "<init>", "()V"⟩, prog_5_method_1_code, 2, none, 2, 40)
def y_So_take : jm_I := (⟨"ShareSolve$Solved", "take", "(LShareSolve$Flow;LShareSolve$Line;)V"⟩, prog_5_method_4_code, 5, none, 4, 116)
def y_So_hasPort : jm_I := (⟨"ShareSolve$Solved", "hasPort", "(I)Z"⟩, prog_5_method_3_code, 2, (some (.boolean)), 0, 0)
def y_So_hasMachine : jm_I := (⟨"ShareSolve$Solved", "hasMachine", "(I)Z"⟩, prog_5_method_2_code, 2, (some (.boolean)), 0, 0)
def y_So_compareLoad : jm_I := (⟨"ShareSolve$Solved", "compareLoad", "(IJ)I"⟩, prog_5_method_6_code, 4, (some (.int)), 2, 67)
def y_So_allAtPort : jm_I := (⟨"ShareSolve$Solved", "allAtPort", "(ILShareSolve$Line;)LShareSolve$Whole;"⟩, prog_5_method_5_code, 4, (some (.object "ShareSolve$Whole")), 2, 67)
def y_Wh_init : jm_I := (⟨"ShareSolve$Whole", "<init>", "()V"⟩, prog_6_method_1_code, 1, none, 1, 20)
def y_Wh_become_1 : jm_I := (⟨"ShareSolve$Whole", "become", "(J)V"⟩, prog_6_method_6_code, 3, none, 1, 23)
def y_Wh_dropZeros : jm_I := (⟨"ShareSolve$Whole", "dropZeros", "(I)V"⟩, prog_6_method_17_code, 3, none, 0, 0)
def y_Wh_isZero : jm_I := (⟨"ShareSolve$Whole", "isZero", "()Z"⟩, prog_6_method_2_code, 1, (some (.boolean)), 0, 0)
def y_Wh_becomeProduct : jm_I := (⟨"ShareSolve$Whole", "becomeProduct", "(LShareSolve$Whole;LShareSolve$Whole;)V"⟩, prog_6_method_8_code, 11, none, 1, 23)
def y_Wh_limb : jm_I := (⟨"ShareSolve$Whole", "limb", "(I)I"⟩, prog_6_method_3_code, 2, (some (.int)), 0, 0)
def y_Wh_subtract : jm_I := (⟨"ShareSolve$Whole", "subtract", "(LShareSolve$Whole;)V"⟩, prog_6_method_11_code, 5, none, 1, 22)
def y_Wh_addTimes : jm_I := (⟨"ShareSolve$Whole", "addTimes", "(LShareSolve$Whole;J)V"⟩, prog_6_method_10_code, 10, none, 1, 38)
def y_Wh_become_2 : jm_I := (⟨"ShareSolve$Whole", "become", "(LShareSolve$Whole;)V"⟩, prog_6_method_7_code, 2, none, 1, 38)
def y_Wh_topLimb : jm_I := (⟨"ShareSolve$Whole", "topLimb", "()I"⟩, prog_6_method_4_code, 1, (some (.int)), 0, 0)
def y_Wh_shiftUp : jm_I := (⟨"ShareSolve$Whole", "shiftUp", "(I)V"⟩, prog_6_method_15_code, 8, none, 1, 38)
def y_Wh_subtractTimes : jm_I := (⟨"ShareSolve$Whole", "subtractTimes", "(LShareSolve$Whole;JI)I"⟩, prog_6_method_12_code, 10, (some (.int)), 1, 21)
def y_Wh_addAt : jm_I := (⟨"ShareSolve$Whole", "addAt", "(LShareSolve$Whole;I)I"⟩, prog_6_method_13_code, 6, (some (.int)), 1, 21)
def y_Wh_setLimb : jm_I := (⟨"ShareSolve$Whole", "setLimb", "(II)V"⟩, prog_6_method_14_code, 3, none, 1, 38)
def y_Wh_shiftDown : jm_I := (⟨"ShareSolve$Whole", "shiftDown", "(I)V"⟩, prog_6_method_16_code, 7, none, 1, 22)
def y_Wh_lowestBits : jm_I := (⟨"ShareSolve$Whole", "lowestBits", "()J"⟩, prog_6_method_5_code, 1, (some (.long)), 0, 0)
def y_Wh_compareWith : jm_I := (⟨"ShareSolve$Whole", "compareWith", "(LShareSolve$Whole;)I"⟩, prog_6_method_9_code, 3, (some (.int)), 0, 0)
def y_Sh_init : jm_I := (⟨"ShareSolve", "<init>", "(I)V"⟩, prog_1_method_1_code, 2, none, 4, 82)
def y_Sh_machine : jm_I := (⟨"ShareSolve", "machine", "(I)I"⟩, prog_1_method_2_code, 2, (some (.int)), 2, 45)
def y_Sh_port : jm_I := (⟨"ShareSolve", "port", "()I"⟩, prog_1_method_3_code, 1, (some (.int)), 1, 20)
def y_Sh_joinOut : jm_I := (⟨"ShareSolve", "joinOut", "(III)Z"⟩, prog_1_method_4_code, 4, (some (.boolean)), 2, 43)
def y_Sh_share : jm_I := (⟨"ShareSolve", "share", "(IIIJJ)Z"⟩, prog_1_method_5_code, 8, (some (.boolean)), 4, 93)
def y_Sh_tellShare : jm_I := (⟨"ShareSolve", "tellShare", "(IIIJJ)Z"⟩, prog_1_method_21_code, 8, (some (.boolean)), 3, 66)
def y_Sh_isShare : jm_I := (⟨"ShareSolve", "isShare", "(JJ)Z"⟩, prog_1_method_19_code, 4, (some (.boolean)), 0, 0)
def y_Sh_inUnits : jm_I := (⟨"ShareSolve", "inUnits", "(JJ)I"⟩, prog_1_method_20_code, 4, (some (.int)), 0, 0)
def y_Sh_crush : jm_I := (⟨"ShareSolve", "crush", "(IIIJJ)Z"⟩, prog_1_method_6_code, 9, (some (.boolean)), 2, 43)
def y_Sh_feed : jm_I := (⟨"ShareSolve", "feed", "(IIJ)Z"⟩, prog_1_method_7_code, 5, (some (.boolean)), 2, 43)
def y_Sh_solve : jm_I := (⟨"ShareSolve", "solve", "()I"⟩, prog_1_method_8_code, 1, (some (.int)), 7, 183)
def y_Sh_solveAll : jm_I := (⟨"ShareSolve", "solveAll", "()I"⟩, prog_1_method_22_code, 2, (some (.int)), 6, 162)
def y_Sh_takeSolution : jm_I := (⟨"ShareSolve", "takeSolution", "()V"⟩, prog_1_method_23_code, 1, none, 5, 140)
def y_Sh_out : jm_I := (⟨"ShareSolve", "out", "(III)J"⟩, prog_1_method_9_code, 5, (some (.long)), 5, 136)
def y_Sh_isPart : jm_I := (⟨"ShareSolve", "isPart", "(I)Z"⟩, prog_1_method_18_code, 1, (some (.boolean)), 0, 0)
def y_Sh_load : jm_I := (⟨"ShareSolve", "load", "(II)J"⟩, prog_1_method_10_code, 3, (some (.long)), 5, 136)
def y_Sh_span : jm_I := (⟨"ShareSolve", "span", "(IJJ)Z"⟩, prog_1_method_11_code, 6, (some (.boolean)), 1, 21)
def y_Sh_over : jm_I := (⟨"ShareSolve", "over", "(I)I"⟩, prog_1_method_12_code, 4, (some (.int)), 4, 111)
def y_Sh_isOutsideSpan : jm_I := (⟨"ShareSolve", "isOutsideSpan", "(I)Z"⟩, prog_1_method_25_code, 2, (some (.boolean)), 3, 90)
def y_Sh_slope : jm_I := (⟨"ShareSolve", "slope", "(IIIII)J"⟩, prog_1_method_13_code, 6, (some (.long)), 7, 192)
def y_Sh_purity : jm_I := (⟨"ShareSolve", "purity", "(III)J"⟩, prog_1_method_14_code, 5, (some (.long)), 5, 136)
def y_Sh_change : jm_I := (⟨"ShareSolve", "change", "(IIIJJ)Z"⟩, prog_1_method_15_code, 8, (some (.boolean)), 7, 183)
def y_Sh_find : jm_I := (⟨"ShareSolve", "find", "(IIJ)I"⟩, prog_1_method_16_code, 8, (some (.int)), 7, 185)
def y_Sh_bringsToPortZero : jm_I := (⟨"ShareSolve", "bringsToPortZero", "(IJ)Z"⟩, prog_1_method_24_code, 4, (some (.boolean)), 6, 162)
def y_Sh_kept : jm_I := (⟨"ShareSolve", "kept", "()Z"⟩, prog_1_method_17_code, 1, (some (.boolean)), 0, 0)
def y_Mo_init : jm_I := (⟨"ShareSolveModel", "<init>", "(I)V"⟩, prog_8_method_1_code, 3, none, 1, 20)
def y_Mo_machine : jm_I := (⟨"ShareSolveModel", "machine", "(I)I"⟩, prog_8_method_7_code, 2, (some (.int)), 1, 20)
def y_Mo_touch : jm_I := (⟨"ShareSolveModel", "touch", "()V"⟩, prog_8_method_6_code, 1, none, 0, 0)
def y_Mo_port : jm_I := (⟨"ShareSolveModel", "port", "()I"⟩, prog_8_method_8_code, 1, (some (.int)), 1, 20)
def y_Mo_joinOut : jm_I := (⟨"ShareSolveModel", "joinOut", "(III)Z"⟩, prog_8_method_10_code, 5, (some (.boolean)), 2, 43)
def y_Mo_isOut : jm_I := (⟨"ShareSolveModel", "isOut", "(II)Z"⟩, prog_8_method_9_code, 3, (some (.boolean)), 1, 21)
def y_Mo_isMachine : jm_I := (⟨"ShareSolveModel", "isMachine", "(I)Z"⟩, prog_8_method_4_code, 2, (some (.boolean)), 0, 0)
def y_Mo_share : jm_I := (⟨"ShareSolveModel", "share", "(IIIJJ)Z"⟩, prog_8_method_13_code, 8, (some (.boolean)), 3, 66)
def y_Mo_isFree : jm_I := (⟨"ShareSolveModel", "isFree", "(III)Z"⟩, prog_8_method_12_code, 4, (some (.boolean)), 2, 43)
def y_Mo_isKind : jm_I := (⟨"ShareSolveModel", "isKind", "(I)Z"⟩, prog_8_method_5_code, 2, (some (.boolean)), 0, 0)
def y_Mo_isShare : jm_I := (⟨"ShareSolveModel", "isShare", "(JJ)Z"⟩, prog_8_method_3_code, 4, (some (.boolean)), 0, 0)
def y_Mo_fits : jm_I := (⟨"ShareSolveModel", "fits", "(IIIJJ)Z"⟩, prog_8_method_11_code, 11, (some (.boolean)), 0, 0)
def y_Mo_crush : jm_I := (⟨"ShareSolveModel", "crush", "(IIIJJ)Z"⟩, prog_8_method_14_code, 8, (some (.boolean)), 1, 23)
def y_Mo_feed : jm_I := (⟨"ShareSolveModel", "feed", "(IIJ)Z"⟩, prog_8_method_15_code, 5, (some (.boolean)), 1, 21)
def y_Mo_span : jm_I := (⟨"ShareSolveModel", "span", "(IJJ)Z"⟩, prog_8_method_16_code, 6, (some (.boolean)), 1, 21)
def y_Mo_solve : jm_I := (⟨"ShareSolveModel", "solve", "()I"⟩, prog_8_method_51_code, 2, (some (.int)), 5, 138)
def y_Mo_layOut : jm_I := (⟨"ShareSolveModel", "layOut", "(I)V"⟩, prog_8_method_21_code, 5, none, 4, 114)
def y_Mo_layNode : jm_I := (⟨"ShareSolveModel", "layNode", "(III)V"⟩, prog_8_method_22_code, 17, none, 3, 78)
def y_Mo_common : jm_I := (⟨"ShareSolveModel", "common", "(III)J"⟩, prog_8_method_19_code, 4, (some (.long)), 1, 24)
def y_Mo_shareAt : jm_I := (⟨"ShareSolveModel", "shareAt", "(IIII)I"⟩, prog_8_method_18_code, 5, (some (.int)), 0, 0)
def y_Mo_part : jm_I := (⟨"ShareSolveModel", "part", "(IIII)J"⟩, prog_8_method_20_code, 12, (some (.long)), 2, 47)
def y_Mo_stuck : jm_I := (⟨"ShareSolveModel", "stuck", "(I)I"⟩, prog_8_method_23_code, 6, (some (.int)), 1, 30)
def y_Mo_goes : jm_I := (⟨"ShareSolveModel", "goes", "(IIII)Z"⟩, prog_8_method_24_code, 11, (some (.boolean)), 0, 0)
def y_Mo_freeze : jm_I := (⟨"ShareSolveModel", "freeze", "()V"⟩, prog_8_method_17_code, 2, none, 0, 0)
def y_Mo_out : jm_I := (⟨"ShareSolveModel", "out", "(III)J"⟩, prog_8_method_52_code, 4, (some (.long)), 6, 159)
def y_Mo_prepare : jm_I := (⟨"ShareSolveModel", "prepare", "(I)V"⟩, prog_8_method_50_code, 2, none, 5, 138)
def y_Mo_turn : jm_I := (⟨"ShareSolveModel", "turn", "()V"⟩, prog_8_method_27_code, 2, none, 3, 83)
def y_Mo_turnBy : jm_I := (⟨"ShareSolveModel", "turnBy", "(IJ)V"⟩, prog_8_method_28_code, 10, none, 2, 54)
def y_Mo_multiply_1 : jm_I := (⟨"ShareSolveModel", "multiply", "(J)V"⟩, prog_8_method_29_code, 8, none, 0, 0)
def y_Mo_inverse : jm_I := (⟨"ShareSolveModel", "inverse", "(JJ)J"⟩, prog_8_method_26_code, 4, (some (.long)), 1, 31)
def y_Mo_raise : jm_I := (⟨"ShareSolveModel", "raise", "(JJJ)J"⟩, prog_8_method_25_code, 12, (some (.long)), 0, 0)
def y_Mo_gatherOver : jm_I := (⟨"ShareSolveModel", "gatherOver", "(I)V"⟩, prog_8_method_46_code, 3, none, 3, 81)
def y_Mo_gather : jm_I := (⟨"ShareSolveModel", "gather", "(I)V"⟩, prog_8_method_37_code, 8, none, 2, 54)
def y_Mo_clear : jm_I := (⟨"ShareSolveModel", "clear", "(I)V"⟩, prog_8_method_30_code, 3, none, 0, 0)
def y_Mo_grow : jm_I := (⟨"ShareSolveModel", "grow", "(IJJ)V"⟩, prog_8_method_32_code, 11, none, 0, 0)
def y_Mo_add : jm_I := (⟨"ShareSolveModel", "add", "(IJ)V"⟩, prog_8_method_38_code, 9, none, 0, 0)
def y_Mo_clearWeights : jm_I := (⟨"ShareSolveModel", "clearWeights", "()V"⟩, prog_8_method_45_code, 2, none, 0, 0)
def y_Mo_weighPort : jm_I := (⟨"ShareSolveModel", "weighPort", "(III)V"⟩, prog_8_method_49_code, 9, none, 0, 0)
def y_Mo_gatherAmount : jm_I := (⟨"ShareSolveModel", "gatherAmount", "(II)V"⟩, prog_8_method_47_code, 12, none, 3, 81)
def y_Mo_partOf : jm_I := (⟨"ShareSolveModel", "partOf", "(IZ)J"⟩, prog_8_method_44_code, 6, (some (.long)), 2, 51)
def y_Mo_divide : jm_I := (⟨"ShareSolveModel", "divide", "(I)J"⟩, prog_8_method_43_code, 5, (some (.long)), 1, 27)
def y_Mo_wordsOf : jm_I := (⟨"ShareSolveModel", "wordsOf", "(I)I"⟩, prog_8_method_42_code, 3, (some (.int)), 0, 0)
def y_Mo_growUsed : jm_I := (⟨"ShareSolveModel", "growUsed", "(J)V"⟩, prog_8_method_39_code, 8, none, 0, 0)
def y_Mo_isLeftLess : jm_I := (⟨"ShareSolveModel", "isLeftLess", "()Z"⟩, prog_8_method_40_code, 2, (some (.boolean)), 0, 0)
def y_Mo_lessenLeft : jm_I := (⟨"ShareSolveModel", "lessenLeft", "()V"⟩, prog_8_method_41_code, 6, none, 0, 0)
def y_Mo_isZero : jm_I := (⟨"ShareSolveModel", "isZero", "(I)Z"⟩, prog_8_method_34_code, 4, (some (.boolean)), 0, 0)
def y_Mo_copy : jm_I := (⟨"ShareSolveModel", "copy", "(II)V"⟩, prog_8_method_31_code, 4, none, 0, 0)
def y_Mo_lessen : jm_I := (⟨"ShareSolveModel", "lessen", "(II)V"⟩, prog_8_method_35_code, 8, none, 0, 0)
def y_Mo_load : jm_I := (⟨"ShareSolveModel", "load", "(II)J"⟩, prog_8_method_54_code, 3, (some (.long)), 7, 181)
def y_Mo_reckonLoad : jm_I := (⟨"ShareSolveModel", "reckonLoad", "(I)V"⟩, prog_8_method_53_code, 3, none, 6, 159)
def y_Mo_over : jm_I := (⟨"ShareSolveModel", "over", "(I)I"⟩, prog_8_method_56_code, 4, (some (.int)), 8, 204)
def y_Mo_isOver : jm_I := (⟨"ShareSolveModel", "isOver", "(I)Z"⟩, prog_8_method_55_code, 4, (some (.boolean)), 7, 181)
def y_Mo_slope : jm_I := (⟨"ShareSolveModel", "slope", "(IIIII)J"⟩, prog_8_method_58_code, 9, (some (.long)), 6, 159)
def y_Mo_gatherOut : jm_I := (⟨"ShareSolveModel", "gatherOut", "(IIIII)V"⟩, prog_8_method_57_code, 7, none, 4, 109)
def y_Mo_gatherWorth : jm_I := (⟨"ShareSolveModel", "gatherWorth", "(II)V"⟩, prog_8_method_48_code, 9, none, 3, 81)
def y_Mo_isLess : jm_I := (⟨"ShareSolveModel", "isLess", "(II)Z"⟩, prog_8_method_33_code, 4, (some (.boolean)), 0, 0)
def y_Mo_multiply_2 : jm_I := (⟨"ShareSolveModel", "multiply", "(III)V"⟩, prog_8_method_36_code, 10, none, 1, 22)
def y_Mo_purity : jm_I := (⟨"ShareSolveModel", "purity", "(III)J"⟩, prog_8_method_59_code, 4, (some (.long)), 6, 159)
def y_Mo_change : jm_I := (⟨"ShareSolveModel", "change", "(IIIJJ)Z"⟩, prog_8_method_60_code, 9, (some (.boolean)), 6, 159)
def y_Mo_find : jm_I := (⟨"ShareSolveModel", "find", "(IIJ)I"⟩, prog_8_method_61_code, 10, (some (.int)), 7, 182)
def y_Mo_brings : jm_I := (⟨"ShareSolveModel", "brings", "(IJ)Z"⟩, prog_8_method_62_code, 4, (some (.boolean)), 6, 159)
def y_Mo_kept : jm_I := (⟨"ShareSolveModel", "kept", "()Z"⟩, prog_8_method_63_code, 1, (some (.boolean)), 0, 0)
def y_Ar_fill : jm_I := (⟨"java/util/Arrays", "fill", "([II)V"⟩, prog_12_method_103_code, 4, none, 0, 0)
def y_In_numberOfLeadingZeros : jm_I := (⟨"java/lang/Integer", "numberOfLeadingZeros", "(I)I"⟩, prog_9_method_47_code, 2, (some (.int)), 0, 0)
def y_Lw_cell : jm_I := (⟨"ShareSolveLaw", "cell", "([II)I"⟩, method_2_code, 2, (some (.int)), 0, 0)
abbrev n_Dv_init : Nat := 0
abbrev n_Dv_divide : Nat := 1
abbrev n_Dv_nextDigit : Nat := 2
abbrev n_Dv_guessDigit : Nat := 3
abbrev n_Dv_partOf : Nat := 4
abbrev n_Dv_partOfNegative : Nat := 5
abbrev n_Fl_init : Nat := 6
abbrev n_Fl_readLine : Nat := 7
abbrev n_Fl_readColumn : Nat := 8
abbrev n_Fl_sendAs : Nat := 9
abbrev n_Fl_shrinkColumn : Nat := 10
abbrev n_Fl_commonDivisor : Nat := 11
abbrev n_Fl_divideColumn : Nat := 12
abbrev n_Fl_cell : Nat := 13
abbrev n_Fl_eliminate : Nat := 14
abbrev n_Fl_eliminateCell : Nat := 15
abbrev n_Fl_putAtPort : Nat := 16
abbrev n_Fl_addAtPort : Nat := 17
abbrev n_Fl_putLoad : Nat := 18
abbrev n_Fl_slopePart : Nat := 19
abbrev n_Fl_putGram : Nat := 20
abbrev n_Fl_putReached : Nat := 21
abbrev n_Fl_putPassing : Nat := 22
abbrev n_Fl_bringsAtLeast : Nat := 23
abbrev n_Ln_init : Nat := 24
abbrev n_Ln_addMachine : Nat := 25
abbrev n_Ln_row : Nat := 26
abbrev n_Ln_addPort : Nat := 27
abbrev n_Ln_hasOut : Nat := 28
abbrev n_Ln_hasMachine : Nat := 29
abbrev n_Ln_hasTarget : Nat := 30
abbrev n_Ln_hasPort : Nat := 31
abbrev n_Ln_hasSharedOut : Nat := 32
abbrev n_Ln_hasKind : Nat := 33
abbrev n_Ln_lastOut : Nat := 34
abbrev n_Ln_setShare : Nat := 35
abbrev n_Ln_hasRow : Nat := 36
abbrev n_Ln_firstStuck : Nat := 37
abbrev n_Ln_spreadGetsAway : Nat := 38
abbrev n_Ln_leavesAs : Nat := 39
abbrev n_Ln_target : Nat := 40
abbrev n_Ln_shareOf : Nat := 41
abbrev n_So_init : Nat := 42
abbrev n_So_take : Nat := 43
abbrev n_So_hasPort : Nat := 44
abbrev n_So_hasMachine : Nat := 45
abbrev n_So_compareLoad : Nat := 46
abbrev n_So_allAtPort : Nat := 47
abbrev n_Wh_init : Nat := 48
abbrev n_Wh_become_1 : Nat := 49
abbrev n_Wh_dropZeros : Nat := 50
abbrev n_Wh_isZero : Nat := 51
abbrev n_Wh_becomeProduct : Nat := 52
abbrev n_Wh_limb : Nat := 53
abbrev n_Wh_subtract : Nat := 54
abbrev n_Wh_addTimes : Nat := 55
abbrev n_Wh_become_2 : Nat := 56
abbrev n_Wh_topLimb : Nat := 57
abbrev n_Wh_shiftUp : Nat := 58
abbrev n_Wh_subtractTimes : Nat := 59
abbrev n_Wh_addAt : Nat := 60
abbrev n_Wh_setLimb : Nat := 61
abbrev n_Wh_shiftDown : Nat := 62
abbrev n_Wh_lowestBits : Nat := 63
abbrev n_Wh_compareWith : Nat := 64
abbrev n_Sh_init : Nat := 65
abbrev n_Sh_machine : Nat := 66
abbrev n_Sh_port : Nat := 67
abbrev n_Sh_joinOut : Nat := 68
abbrev n_Sh_share : Nat := 69
abbrev n_Sh_tellShare : Nat := 70
abbrev n_Sh_isShare : Nat := 71
abbrev n_Sh_inUnits : Nat := 72
abbrev n_Sh_crush : Nat := 73
abbrev n_Sh_feed : Nat := 74
abbrev n_Sh_solve : Nat := 75
abbrev n_Sh_solveAll : Nat := 76
abbrev n_Sh_takeSolution : Nat := 77
abbrev n_Sh_out : Nat := 78
abbrev n_Sh_isPart : Nat := 79
abbrev n_Sh_load : Nat := 80
abbrev n_Sh_span : Nat := 81
abbrev n_Sh_over : Nat := 82
abbrev n_Sh_isOutsideSpan : Nat := 83
abbrev n_Sh_slope : Nat := 84
abbrev n_Sh_purity : Nat := 85
abbrev n_Sh_change : Nat := 86
abbrev n_Sh_find : Nat := 87
abbrev n_Sh_bringsToPortZero : Nat := 88
abbrev n_Sh_kept : Nat := 89
abbrev n_Mo_init : Nat := 90
abbrev n_Mo_machine : Nat := 91
abbrev n_Mo_touch : Nat := 92
abbrev n_Mo_port : Nat := 93
abbrev n_Mo_joinOut : Nat := 94
abbrev n_Mo_isOut : Nat := 95
abbrev n_Mo_isMachine : Nat := 96
abbrev n_Mo_share : Nat := 97
abbrev n_Mo_isFree : Nat := 98
abbrev n_Mo_isKind : Nat := 99
abbrev n_Mo_isShare : Nat := 100
abbrev n_Mo_fits : Nat := 101
abbrev n_Mo_crush : Nat := 102
abbrev n_Mo_feed : Nat := 103
abbrev n_Mo_span : Nat := 104
abbrev n_Mo_solve : Nat := 105
abbrev n_Mo_layOut : Nat := 106
abbrev n_Mo_layNode : Nat := 107
abbrev n_Mo_common : Nat := 108
abbrev n_Mo_shareAt : Nat := 109
abbrev n_Mo_part : Nat := 110
abbrev n_Mo_stuck : Nat := 111
abbrev n_Mo_goes : Nat := 112
abbrev n_Mo_freeze : Nat := 113
abbrev n_Mo_out : Nat := 114
abbrev n_Mo_prepare : Nat := 115
abbrev n_Mo_turn : Nat := 116
abbrev n_Mo_turnBy : Nat := 117
abbrev n_Mo_multiply_1 : Nat := 118
abbrev n_Mo_inverse : Nat := 119
abbrev n_Mo_raise : Nat := 120
abbrev n_Mo_gatherOver : Nat := 121
abbrev n_Mo_gather : Nat := 122
abbrev n_Mo_clear : Nat := 123
abbrev n_Mo_grow : Nat := 124
abbrev n_Mo_add : Nat := 125
abbrev n_Mo_clearWeights : Nat := 126
abbrev n_Mo_weighPort : Nat := 127
abbrev n_Mo_gatherAmount : Nat := 128
abbrev n_Mo_partOf : Nat := 129
abbrev n_Mo_divide : Nat := 130
abbrev n_Mo_wordsOf : Nat := 131
abbrev n_Mo_growUsed : Nat := 132
abbrev n_Mo_isLeftLess : Nat := 133
abbrev n_Mo_lessenLeft : Nat := 134
abbrev n_Mo_isZero : Nat := 135
abbrev n_Mo_copy : Nat := 136
abbrev n_Mo_lessen : Nat := 137
abbrev n_Mo_load : Nat := 138
abbrev n_Mo_reckonLoad : Nat := 139
abbrev n_Mo_over : Nat := 140
abbrev n_Mo_isOver : Nat := 141
abbrev n_Mo_slope : Nat := 142
abbrev n_Mo_gatherOut : Nat := 143
abbrev n_Mo_gatherWorth : Nat := 144
abbrev n_Mo_isLess : Nat := 145
abbrev n_Mo_multiply_2 : Nat := 146
abbrev n_Mo_purity : Nat := 147
abbrev n_Mo_change : Nat := 148
abbrev n_Mo_find : Nat := 149
abbrev n_Mo_brings : Nat := 150
abbrev n_Mo_kept : Nat := 151
abbrev n_Ar_fill : Nat := 152
abbrev n_In_numberOfLeadingZeros : Nat := 153
abbrev n_Lw_cell : Nat := 154
def jm_mtL : List jm_I := [y_Dv_init, y_Dv_divide, y_Dv_nextDigit, y_Dv_guessDigit, y_Dv_partOf, y_Dv_partOfNegative, y_Fl_init, y_Fl_readLine, y_Fl_readColumn, y_Fl_sendAs, y_Fl_shrinkColumn, y_Fl_commonDivisor, y_Fl_divideColumn, y_Fl_cell, y_Fl_eliminate, y_Fl_eliminateCell, y_Fl_putAtPort, y_Fl_addAtPort, y_Fl_putLoad, y_Fl_slopePart, y_Fl_putGram, y_Fl_putReached, y_Fl_putPassing, y_Fl_bringsAtLeast, y_Ln_init, y_Ln_addMachine, y_Ln_row, y_Ln_addPort, y_Ln_hasOut, y_Ln_hasMachine, y_Ln_hasTarget, y_Ln_hasPort, y_Ln_hasSharedOut, y_Ln_hasKind, y_Ln_lastOut, y_Ln_setShare, y_Ln_hasRow, y_Ln_firstStuck, y_Ln_spreadGetsAway, y_Ln_leavesAs, y_Ln_target, y_Ln_shareOf, y_So_init, y_So_take, y_So_hasPort, y_So_hasMachine, y_So_compareLoad, y_So_allAtPort, y_Wh_init, y_Wh_become_1, y_Wh_dropZeros, y_Wh_isZero, y_Wh_becomeProduct, y_Wh_limb, y_Wh_subtract, y_Wh_addTimes, y_Wh_become_2, y_Wh_topLimb, y_Wh_shiftUp, y_Wh_subtractTimes, y_Wh_addAt, y_Wh_setLimb, y_Wh_shiftDown, y_Wh_lowestBits, y_Wh_compareWith, y_Sh_init, y_Sh_machine, y_Sh_port, y_Sh_joinOut, y_Sh_share, y_Sh_tellShare, y_Sh_isShare, y_Sh_inUnits, y_Sh_crush, y_Sh_feed, y_Sh_solve, y_Sh_solveAll, y_Sh_takeSolution, y_Sh_out, y_Sh_isPart, y_Sh_load, y_Sh_span, y_Sh_over, y_Sh_isOutsideSpan, y_Sh_slope, y_Sh_purity, y_Sh_change, y_Sh_find, y_Sh_bringsToPortZero, y_Sh_kept, y_Mo_init, y_Mo_machine, y_Mo_touch, y_Mo_port, y_Mo_joinOut, y_Mo_isOut, y_Mo_isMachine, y_Mo_share, y_Mo_isFree, y_Mo_isKind, y_Mo_isShare, y_Mo_fits, y_Mo_crush, y_Mo_feed, y_Mo_span, y_Mo_solve, y_Mo_layOut, y_Mo_layNode, y_Mo_common, y_Mo_shareAt, y_Mo_part, y_Mo_stuck, y_Mo_goes, y_Mo_freeze, y_Mo_out, y_Mo_prepare, y_Mo_turn, y_Mo_turnBy, y_Mo_multiply_1, y_Mo_inverse, y_Mo_raise, y_Mo_gatherOver, y_Mo_gather, y_Mo_clear, y_Mo_grow, y_Mo_add, y_Mo_clearWeights, y_Mo_weighPort, y_Mo_gatherAmount, y_Mo_partOf, y_Mo_divide, y_Mo_wordsOf, y_Mo_growUsed, y_Mo_isLeftLess, y_Mo_lessenLeft, y_Mo_isZero, y_Mo_copy, y_Mo_lessen, y_Mo_load, y_Mo_reckonLoad, y_Mo_over, y_Mo_isOver, y_Mo_slope, y_Mo_gatherOut, y_Mo_gatherWorth, y_Mo_isLess, y_Mo_multiply_2, y_Mo_purity, y_Mo_change, y_Mo_find, y_Mo_brings, y_Mo_kept, y_Ar_fill, y_In_numberOfLeadingZeros, y_Lw_cell]
def jm_mt (k : Nat) : jm_I := jm_mtL.getD k y_Dv_init
def jm_stL : List (Bool × Nat × Nat × Nat × Nat) := [(false, 162, 161, 0, 67), (false, 483, 481, 482, 67), (false, 507, 506, 11, 67), (false, 511, 510, 12, 67), (false, 571, 569, 570, 67), (false, 639, 637, 638, 67), (false, 156, 155, 0, 66), (false, 408, 406, 407, 66), (false, 412, 411, 4, 66), (false, 418, 417, 5, 66), (false, 424, 423, 6, 66), (true, 427, 426, 0, 66), (false, 431, 430, 7, 66), (false, 435, 434, 8, 66), (false, 449, 447, 448, 66), (false, 453, 452, 10, 66), (false, 547, 545, 546, 66), (false, 551, 550, 14, 66), (false, 555, 553, 554, 66), (false, 619, 617, 618, 66), (false, 625, 624, 16, 66), (false, 630, 629, 17, 66), (false, 635, 634, 18, 66), (false, 669, 667, 668, 66), (false, 86, 85, 0, 64), (false, 296, 294, 295, 64), (false, 300, 298, 299, 64), (false, 308, 306, 307, 64), (false, 316, 314, 315, 64), (false, 320, 318, 319, 64), (false, 324, 322, 323, 64), (false, 328, 326, 327, 64), (false, 340, 338, 339, 64), (false, 345, 343, 344, 64), (false, 349, 347, 348, 64), (false, 361, 359, 360, 64), (false, 369, 367, 368, 64), (false, 388, 386, 387, 64), (false, 392, 391, 2, 64), (false, 396, 395, 3, 64), (false, 400, 398, 399, 64), (false, 404, 402, 403, 64), (false, 246, 245, 0, 69), (false, 541, 539, 540, 69), (false, 563, 561, 562, 69), (false, 586, 584, 585, 69), (false, 604, 602, 603, 69), (false, 651, 649, 650, 69), (false, 168, 167, 0, 68), (false, 439, 437, 438, 68), (false, 445, 444, 9, 68), (false, 457, 455, 456, 68), (false, 461, 459, 460, 68), (false, 465, 463, 464, 68), (false, 469, 467, 468, 68), (false, 473, 471, 472, 68), (false, 488, 486, 487, 68), (false, 495, 493, 494, 68), (false, 503, 501, 502, 68), (false, 520, 518, 519, 68), (false, 524, 522, 523, 68), (false, 528, 526, 527, 68), (false, 532, 530, 531, 68), (false, 578, 576, 577, 68), (false, 610, 608, 609, 68), (false, 78, 77, 0, 63), (false, 292, 290, 291, 63), (false, 304, 302, 303, 63), (false, 312, 310, 311, 63), (false, 332, 330, 331, 63), (false, 336, 335, 0, 63), (true, 352, 351, 0, 63), (true, 356, 355, 0, 63), (false, 365, 363, 364, 63), (false, 375, 373, 374, 63), (false, 380, 378, 379, 63), (false, 384, 383, 1, 63), (false, 537, 536, 13, 63), (false, 559, 557, 558, 63), (true, 566, 565, 0, 63), (false, 582, 580, 581, 63), (false, 590, 588, 589, 63), (false, 596, 594, 595, 63), (false, 600, 599, 15, 63), (false, 614, 612, 613, 63), (false, 647, 645, 646, 63), (false, 656, 654, 655, 63), (false, 660, 658, 659, 63), (false, 665, 664, 19, 63), (false, 674, 672, 673, 63), (false, 682, 681, 0, 70), (false, 798, 796, 797, 70), (false, 802, 801, 20, 70), (false, 806, 804, 805, 70), (false, 810, 808, 809, 70), (false, 814, 813, 21, 70), (false, 818, 817, 22, 70), (false, 822, 820, 821, 70), (false, 826, 825, 23, 70), (false, 830, 829, 24, 70), (true, 833, 832, 0, 70), (false, 838, 837, 25, 70), (false, 842, 840, 841, 70), (false, 846, 844, 845, 70), (false, 851, 849, 850, 70), (false, 856, 854, 855, 70), (false, 860, 859, 26, 70), (false, 864, 863, 27, 70), (false, 868, 867, 28, 70), (false, 872, 871, 29, 70), (false, 876, 875, 30, 70), (false, 880, 879, 31, 70), (false, 884, 883, 32, 70), (false, 888, 887, 33, 70), (false, 892, 890, 891, 70), (false, 897, 896, 34, 70), (false, 901, 900, 35, 70), (false, 905, 904, 36, 70), (false, 909, 908, 37, 70), (true, 912, 911, 0, 70), (true, 916, 915, 0, 70), (false, 920, 919, 38, 70), (false, 924, 923, 39, 70), (false, 928, 927, 40, 70), (false, 932, 931, 41, 70), (false, 937, 936, 42, 70), (false, 941, 940, 43, 70), (false, 945, 944, 44, 70), (false, 949, 948, 45, 70), (false, 953, 952, 46, 70), (false, 957, 956, 47, 70), (false, 961, 960, 48, 70), (false, 965, 964, 49, 70), (false, 969, 968, 50, 70), (false, 973, 972, 51, 70), (false, 977, 976, 52, 70), (false, 981, 980, 53, 70), (false, 985, 984, 54, 70), (false, 989, 987, 988, 70), (false, 993, 992, 55, 70), (false, 997, 995, 996, 70), (false, 1001, 1000, 56, 70), (false, 1005, 1003, 1004, 70), (false, 1009, 1008, 57, 70), (false, 1013, 1012, 58, 70), (false, 1017, 1016, 59, 70), (false, 1021, 1020, 60, 70), (false, 1025, 1023, 1024, 70), (false, 1029, 1027, 1028, 70), (false, 1035, 1033, 1034, 70), (false, 1039, 1038, 61, 70), (false, 1043, 1041, 1042, 70), (true, 90, 89, 0, 65), (true, 498, 497, 0, 73), (true, 677, 676, 0, 62)]
def jm_st (k : Nat) : Bool × Nat × Nat × Nat × Nat := jm_stL.getD k (true, 0, 0, 0, 0)
set_option maxRecDepth 100000 in
theorem ck_0 : Cond.code y_Dv_init.1 y_Dv_init.2.1 y_Dv_init.2.2.1 y_Dv_init.2.2.2.1 ∈ lw_tbl := List.mem_of_getElem? (i := 162) rfl
set_option maxRecDepth 100000 in
theorem ck_1 : Cond.code y_Dv_divide.1 y_Dv_divide.2.1 y_Dv_divide.2.2.1 y_Dv_divide.2.2.2.1 ∈ lw_tbl := List.mem_of_getElem? (i := 483) rfl
set_option maxRecDepth 100000 in
theorem ck_2 : Cond.code y_Dv_nextDigit.1 y_Dv_nextDigit.2.1 y_Dv_nextDigit.2.2.1 y_Dv_nextDigit.2.2.2.1 ∈ lw_tbl := List.mem_of_getElem? (i := 507) rfl
set_option maxRecDepth 100000 in
theorem ck_3 : Cond.code y_Dv_guessDigit.1 y_Dv_guessDigit.2.1 y_Dv_guessDigit.2.2.1 y_Dv_guessDigit.2.2.2.1 ∈ lw_tbl := List.mem_of_getElem? (i := 511) rfl
set_option maxRecDepth 100000 in
theorem ck_4 : Cond.code y_Dv_partOf.1 y_Dv_partOf.2.1 y_Dv_partOf.2.2.1 y_Dv_partOf.2.2.2.1 ∈ lw_tbl := List.mem_of_getElem? (i := 571) rfl
set_option maxRecDepth 100000 in
theorem ck_5 : Cond.code y_Dv_partOfNegative.1 y_Dv_partOfNegative.2.1 y_Dv_partOfNegative.2.2.1 y_Dv_partOfNegative.2.2.2.1 ∈ lw_tbl := List.mem_of_getElem? (i := 639) rfl
set_option maxRecDepth 100000 in
theorem ck_6 : Cond.code y_Fl_init.1 y_Fl_init.2.1 y_Fl_init.2.2.1 y_Fl_init.2.2.2.1 ∈ lw_tbl := List.mem_of_getElem? (i := 156) rfl
set_option maxRecDepth 100000 in
theorem ck_7 : Cond.code y_Fl_readLine.1 y_Fl_readLine.2.1 y_Fl_readLine.2.2.1 y_Fl_readLine.2.2.2.1 ∈ lw_tbl := List.mem_of_getElem? (i := 408) rfl
set_option maxRecDepth 100000 in
theorem ck_8 : Cond.code y_Fl_readColumn.1 y_Fl_readColumn.2.1 y_Fl_readColumn.2.2.1 y_Fl_readColumn.2.2.2.1 ∈ lw_tbl := List.mem_of_getElem? (i := 412) rfl
set_option maxRecDepth 100000 in
theorem ck_9 : Cond.code y_Fl_sendAs.1 y_Fl_sendAs.2.1 y_Fl_sendAs.2.2.1 y_Fl_sendAs.2.2.2.1 ∈ lw_tbl := List.mem_of_getElem? (i := 418) rfl
set_option maxRecDepth 100000 in
theorem ck_10 : Cond.code y_Fl_shrinkColumn.1 y_Fl_shrinkColumn.2.1 y_Fl_shrinkColumn.2.2.1 y_Fl_shrinkColumn.2.2.2.1 ∈ lw_tbl := List.mem_of_getElem? (i := 424) rfl
set_option maxRecDepth 100000 in
theorem ck_11 : Cond.code y_Fl_commonDivisor.1 y_Fl_commonDivisor.2.1 y_Fl_commonDivisor.2.2.1 y_Fl_commonDivisor.2.2.2.1 ∈ lw_tbl := List.mem_of_getElem? (i := 427) rfl
set_option maxRecDepth 100000 in
theorem ck_12 : Cond.code y_Fl_divideColumn.1 y_Fl_divideColumn.2.1 y_Fl_divideColumn.2.2.1 y_Fl_divideColumn.2.2.2.1 ∈ lw_tbl := List.mem_of_getElem? (i := 431) rfl
set_option maxRecDepth 100000 in
theorem ck_13 : Cond.code y_Fl_cell.1 y_Fl_cell.2.1 y_Fl_cell.2.2.1 y_Fl_cell.2.2.2.1 ∈ lw_tbl := List.mem_of_getElem? (i := 435) rfl
set_option maxRecDepth 100000 in
theorem ck_14 : Cond.code y_Fl_eliminate.1 y_Fl_eliminate.2.1 y_Fl_eliminate.2.2.1 y_Fl_eliminate.2.2.2.1 ∈ lw_tbl := List.mem_of_getElem? (i := 449) rfl
set_option maxRecDepth 100000 in
theorem ck_15 : Cond.code y_Fl_eliminateCell.1 y_Fl_eliminateCell.2.1 y_Fl_eliminateCell.2.2.1 y_Fl_eliminateCell.2.2.2.1 ∈ lw_tbl := List.mem_of_getElem? (i := 453) rfl
set_option maxRecDepth 100000 in
theorem ck_16 : Cond.code y_Fl_putAtPort.1 y_Fl_putAtPort.2.1 y_Fl_putAtPort.2.2.1 y_Fl_putAtPort.2.2.2.1 ∈ lw_tbl := List.mem_of_getElem? (i := 547) rfl
set_option maxRecDepth 100000 in
theorem ck_17 : Cond.code y_Fl_addAtPort.1 y_Fl_addAtPort.2.1 y_Fl_addAtPort.2.2.1 y_Fl_addAtPort.2.2.2.1 ∈ lw_tbl := List.mem_of_getElem? (i := 551) rfl
set_option maxRecDepth 100000 in
theorem ck_18 : Cond.code y_Fl_putLoad.1 y_Fl_putLoad.2.1 y_Fl_putLoad.2.2.1 y_Fl_putLoad.2.2.2.1 ∈ lw_tbl := List.mem_of_getElem? (i := 555) rfl
set_option maxRecDepth 100000 in
theorem ck_19 : Cond.code y_Fl_slopePart.1 y_Fl_slopePart.2.1 y_Fl_slopePart.2.2.1 y_Fl_slopePart.2.2.2.1 ∈ lw_tbl := List.mem_of_getElem? (i := 619) rfl
set_option maxRecDepth 100000 in
theorem ck_20 : Cond.code y_Fl_putGram.1 y_Fl_putGram.2.1 y_Fl_putGram.2.2.1 y_Fl_putGram.2.2.2.1 ∈ lw_tbl := List.mem_of_getElem? (i := 625) rfl
set_option maxRecDepth 100000 in
theorem ck_21 : Cond.code y_Fl_putReached.1 y_Fl_putReached.2.1 y_Fl_putReached.2.2.1 y_Fl_putReached.2.2.2.1 ∈ lw_tbl := List.mem_of_getElem? (i := 630) rfl
set_option maxRecDepth 100000 in
theorem ck_22 : Cond.code y_Fl_putPassing.1 y_Fl_putPassing.2.1 y_Fl_putPassing.2.2.1 y_Fl_putPassing.2.2.2.1 ∈ lw_tbl := List.mem_of_getElem? (i := 635) rfl
set_option maxRecDepth 100000 in
theorem ck_23 : Cond.code y_Fl_bringsAtLeast.1 y_Fl_bringsAtLeast.2.1 y_Fl_bringsAtLeast.2.2.1 y_Fl_bringsAtLeast.2.2.2.1 ∈ lw_tbl := List.mem_of_getElem? (i := 669) rfl
set_option maxRecDepth 100000 in
theorem ck_24 : Cond.code y_Ln_init.1 y_Ln_init.2.1 y_Ln_init.2.2.1 y_Ln_init.2.2.2.1 ∈ lw_tbl := List.mem_of_getElem? (i := 86) rfl
set_option maxRecDepth 100000 in
theorem ck_25 : Cond.code y_Ln_addMachine.1 y_Ln_addMachine.2.1 y_Ln_addMachine.2.2.1 y_Ln_addMachine.2.2.2.1 ∈ lw_tbl := List.mem_of_getElem? (i := 296) rfl
set_option maxRecDepth 100000 in
theorem ck_26 : Cond.code y_Ln_row.1 y_Ln_row.2.1 y_Ln_row.2.2.1 y_Ln_row.2.2.2.1 ∈ lw_tbl := List.mem_of_getElem? (i := 300) rfl
set_option maxRecDepth 100000 in
theorem ck_27 : Cond.code y_Ln_addPort.1 y_Ln_addPort.2.1 y_Ln_addPort.2.2.1 y_Ln_addPort.2.2.2.1 ∈ lw_tbl := List.mem_of_getElem? (i := 308) rfl
set_option maxRecDepth 100000 in
theorem ck_28 : Cond.code y_Ln_hasOut.1 y_Ln_hasOut.2.1 y_Ln_hasOut.2.2.1 y_Ln_hasOut.2.2.2.1 ∈ lw_tbl := List.mem_of_getElem? (i := 316) rfl
set_option maxRecDepth 100000 in
theorem ck_29 : Cond.code y_Ln_hasMachine.1 y_Ln_hasMachine.2.1 y_Ln_hasMachine.2.2.1 y_Ln_hasMachine.2.2.2.1 ∈ lw_tbl := List.mem_of_getElem? (i := 320) rfl
set_option maxRecDepth 100000 in
theorem ck_30 : Cond.code y_Ln_hasTarget.1 y_Ln_hasTarget.2.1 y_Ln_hasTarget.2.2.1 y_Ln_hasTarget.2.2.2.1 ∈ lw_tbl := List.mem_of_getElem? (i := 324) rfl
set_option maxRecDepth 100000 in
theorem ck_31 : Cond.code y_Ln_hasPort.1 y_Ln_hasPort.2.1 y_Ln_hasPort.2.2.1 y_Ln_hasPort.2.2.2.1 ∈ lw_tbl := List.mem_of_getElem? (i := 328) rfl
set_option maxRecDepth 100000 in
theorem ck_32 : Cond.code y_Ln_hasSharedOut.1 y_Ln_hasSharedOut.2.1 y_Ln_hasSharedOut.2.2.1 y_Ln_hasSharedOut.2.2.2.1 ∈ lw_tbl := List.mem_of_getElem? (i := 340) rfl
set_option maxRecDepth 100000 in
theorem ck_33 : Cond.code y_Ln_hasKind.1 y_Ln_hasKind.2.1 y_Ln_hasKind.2.2.1 y_Ln_hasKind.2.2.2.1 ∈ lw_tbl := List.mem_of_getElem? (i := 345) rfl
set_option maxRecDepth 100000 in
theorem ck_34 : Cond.code y_Ln_lastOut.1 y_Ln_lastOut.2.1 y_Ln_lastOut.2.2.1 y_Ln_lastOut.2.2.2.1 ∈ lw_tbl := List.mem_of_getElem? (i := 349) rfl
set_option maxRecDepth 100000 in
theorem ck_35 : Cond.code y_Ln_setShare.1 y_Ln_setShare.2.1 y_Ln_setShare.2.2.1 y_Ln_setShare.2.2.2.1 ∈ lw_tbl := List.mem_of_getElem? (i := 361) rfl
set_option maxRecDepth 100000 in
theorem ck_36 : Cond.code y_Ln_hasRow.1 y_Ln_hasRow.2.1 y_Ln_hasRow.2.2.1 y_Ln_hasRow.2.2.2.1 ∈ lw_tbl := List.mem_of_getElem? (i := 369) rfl
set_option maxRecDepth 100000 in
theorem ck_37 : Cond.code y_Ln_firstStuck.1 y_Ln_firstStuck.2.1 y_Ln_firstStuck.2.2.1 y_Ln_firstStuck.2.2.2.1 ∈ lw_tbl := List.mem_of_getElem? (i := 388) rfl
set_option maxRecDepth 100000 in
theorem ck_38 : Cond.code y_Ln_spreadGetsAway.1 y_Ln_spreadGetsAway.2.1 y_Ln_spreadGetsAway.2.2.1 y_Ln_spreadGetsAway.2.2.2.1 ∈ lw_tbl := List.mem_of_getElem? (i := 392) rfl
set_option maxRecDepth 100000 in
theorem ck_39 : Cond.code y_Ln_leavesAs.1 y_Ln_leavesAs.2.1 y_Ln_leavesAs.2.2.1 y_Ln_leavesAs.2.2.2.1 ∈ lw_tbl := List.mem_of_getElem? (i := 396) rfl
set_option maxRecDepth 100000 in
theorem ck_40 : Cond.code y_Ln_target.1 y_Ln_target.2.1 y_Ln_target.2.2.1 y_Ln_target.2.2.2.1 ∈ lw_tbl := List.mem_of_getElem? (i := 400) rfl
set_option maxRecDepth 100000 in
theorem ck_41 : Cond.code y_Ln_shareOf.1 y_Ln_shareOf.2.1 y_Ln_shareOf.2.2.1 y_Ln_shareOf.2.2.2.1 ∈ lw_tbl := List.mem_of_getElem? (i := 404) rfl
set_option maxRecDepth 100000 in
theorem ck_42 : Cond.code y_So_init.1 y_So_init.2.1 y_So_init.2.2.1 y_So_init.2.2.2.1 ∈ lw_tbl := List.mem_of_getElem? (i := 246) rfl
set_option maxRecDepth 100000 in
theorem ck_43 : Cond.code y_So_take.1 y_So_take.2.1 y_So_take.2.2.1 y_So_take.2.2.2.1 ∈ lw_tbl := List.mem_of_getElem? (i := 541) rfl
set_option maxRecDepth 100000 in
theorem ck_44 : Cond.code y_So_hasPort.1 y_So_hasPort.2.1 y_So_hasPort.2.2.1 y_So_hasPort.2.2.2.1 ∈ lw_tbl := List.mem_of_getElem? (i := 563) rfl
set_option maxRecDepth 100000 in
theorem ck_45 : Cond.code y_So_hasMachine.1 y_So_hasMachine.2.1 y_So_hasMachine.2.2.1 y_So_hasMachine.2.2.2.1 ∈ lw_tbl := List.mem_of_getElem? (i := 586) rfl
set_option maxRecDepth 100000 in
theorem ck_46 : Cond.code y_So_compareLoad.1 y_So_compareLoad.2.1 y_So_compareLoad.2.2.1 y_So_compareLoad.2.2.2.1 ∈ lw_tbl := List.mem_of_getElem? (i := 604) rfl
set_option maxRecDepth 100000 in
theorem ck_47 : Cond.code y_So_allAtPort.1 y_So_allAtPort.2.1 y_So_allAtPort.2.2.1 y_So_allAtPort.2.2.2.1 ∈ lw_tbl := List.mem_of_getElem? (i := 651) rfl
set_option maxRecDepth 100000 in
theorem ck_48 : Cond.code y_Wh_init.1 y_Wh_init.2.1 y_Wh_init.2.2.1 y_Wh_init.2.2.2.1 ∈ lw_tbl := List.mem_of_getElem? (i := 168) rfl
set_option maxRecDepth 100000 in
theorem ck_49 : Cond.code y_Wh_become_1.1 y_Wh_become_1.2.1 y_Wh_become_1.2.2.1 y_Wh_become_1.2.2.2.1 ∈ lw_tbl := List.mem_of_getElem? (i := 439) rfl
set_option maxRecDepth 100000 in
theorem ck_50 : Cond.code y_Wh_dropZeros.1 y_Wh_dropZeros.2.1 y_Wh_dropZeros.2.2.1 y_Wh_dropZeros.2.2.2.1 ∈ lw_tbl := List.mem_of_getElem? (i := 445) rfl
set_option maxRecDepth 100000 in
theorem ck_51 : Cond.code y_Wh_isZero.1 y_Wh_isZero.2.1 y_Wh_isZero.2.2.1 y_Wh_isZero.2.2.2.1 ∈ lw_tbl := List.mem_of_getElem? (i := 457) rfl
set_option maxRecDepth 100000 in
theorem ck_52 : Cond.code y_Wh_becomeProduct.1 y_Wh_becomeProduct.2.1 y_Wh_becomeProduct.2.2.1 y_Wh_becomeProduct.2.2.2.1 ∈ lw_tbl := List.mem_of_getElem? (i := 461) rfl
set_option maxRecDepth 100000 in
theorem ck_53 : Cond.code y_Wh_limb.1 y_Wh_limb.2.1 y_Wh_limb.2.2.1 y_Wh_limb.2.2.2.1 ∈ lw_tbl := List.mem_of_getElem? (i := 465) rfl
set_option maxRecDepth 100000 in
theorem ck_54 : Cond.code y_Wh_subtract.1 y_Wh_subtract.2.1 y_Wh_subtract.2.2.1 y_Wh_subtract.2.2.2.1 ∈ lw_tbl := List.mem_of_getElem? (i := 469) rfl
set_option maxRecDepth 100000 in
theorem ck_55 : Cond.code y_Wh_addTimes.1 y_Wh_addTimes.2.1 y_Wh_addTimes.2.2.1 y_Wh_addTimes.2.2.2.1 ∈ lw_tbl := List.mem_of_getElem? (i := 473) rfl
set_option maxRecDepth 100000 in
theorem ck_56 : Cond.code y_Wh_become_2.1 y_Wh_become_2.2.1 y_Wh_become_2.2.2.1 y_Wh_become_2.2.2.2.1 ∈ lw_tbl := List.mem_of_getElem? (i := 488) rfl
set_option maxRecDepth 100000 in
theorem ck_57 : Cond.code y_Wh_topLimb.1 y_Wh_topLimb.2.1 y_Wh_topLimb.2.2.1 y_Wh_topLimb.2.2.2.1 ∈ lw_tbl := List.mem_of_getElem? (i := 495) rfl
set_option maxRecDepth 100000 in
theorem ck_58 : Cond.code y_Wh_shiftUp.1 y_Wh_shiftUp.2.1 y_Wh_shiftUp.2.2.1 y_Wh_shiftUp.2.2.2.1 ∈ lw_tbl := List.mem_of_getElem? (i := 503) rfl
set_option maxRecDepth 100000 in
theorem ck_59 : Cond.code y_Wh_subtractTimes.1 y_Wh_subtractTimes.2.1 y_Wh_subtractTimes.2.2.1 y_Wh_subtractTimes.2.2.2.1 ∈ lw_tbl := List.mem_of_getElem? (i := 520) rfl
set_option maxRecDepth 100000 in
theorem ck_60 : Cond.code y_Wh_addAt.1 y_Wh_addAt.2.1 y_Wh_addAt.2.2.1 y_Wh_addAt.2.2.2.1 ∈ lw_tbl := List.mem_of_getElem? (i := 524) rfl
set_option maxRecDepth 100000 in
theorem ck_61 : Cond.code y_Wh_setLimb.1 y_Wh_setLimb.2.1 y_Wh_setLimb.2.2.1 y_Wh_setLimb.2.2.2.1 ∈ lw_tbl := List.mem_of_getElem? (i := 528) rfl
set_option maxRecDepth 100000 in
theorem ck_62 : Cond.code y_Wh_shiftDown.1 y_Wh_shiftDown.2.1 y_Wh_shiftDown.2.2.1 y_Wh_shiftDown.2.2.2.1 ∈ lw_tbl := List.mem_of_getElem? (i := 532) rfl
set_option maxRecDepth 100000 in
theorem ck_63 : Cond.code y_Wh_lowestBits.1 y_Wh_lowestBits.2.1 y_Wh_lowestBits.2.2.1 y_Wh_lowestBits.2.2.2.1 ∈ lw_tbl := List.mem_of_getElem? (i := 578) rfl
set_option maxRecDepth 100000 in
theorem ck_64 : Cond.code y_Wh_compareWith.1 y_Wh_compareWith.2.1 y_Wh_compareWith.2.2.1 y_Wh_compareWith.2.2.2.1 ∈ lw_tbl := List.mem_of_getElem? (i := 610) rfl
set_option maxRecDepth 100000 in
theorem ck_65 : Cond.code y_Sh_init.1 y_Sh_init.2.1 y_Sh_init.2.2.1 y_Sh_init.2.2.2.1 ∈ lw_tbl := List.mem_of_getElem? (i := 78) rfl
set_option maxRecDepth 100000 in
theorem ck_66 : Cond.code y_Sh_machine.1 y_Sh_machine.2.1 y_Sh_machine.2.2.1 y_Sh_machine.2.2.2.1 ∈ lw_tbl := List.mem_of_getElem? (i := 292) rfl
set_option maxRecDepth 100000 in
theorem ck_67 : Cond.code y_Sh_port.1 y_Sh_port.2.1 y_Sh_port.2.2.1 y_Sh_port.2.2.2.1 ∈ lw_tbl := List.mem_of_getElem? (i := 304) rfl
set_option maxRecDepth 100000 in
theorem ck_68 : Cond.code y_Sh_joinOut.1 y_Sh_joinOut.2.1 y_Sh_joinOut.2.2.1 y_Sh_joinOut.2.2.2.1 ∈ lw_tbl := List.mem_of_getElem? (i := 312) rfl
set_option maxRecDepth 100000 in
theorem ck_69 : Cond.code y_Sh_share.1 y_Sh_share.2.1 y_Sh_share.2.2.1 y_Sh_share.2.2.2.1 ∈ lw_tbl := List.mem_of_getElem? (i := 332) rfl
set_option maxRecDepth 100000 in
theorem ck_70 : Cond.code y_Sh_tellShare.1 y_Sh_tellShare.2.1 y_Sh_tellShare.2.2.1 y_Sh_tellShare.2.2.2.1 ∈ lw_tbl := List.mem_of_getElem? (i := 336) rfl
set_option maxRecDepth 100000 in
theorem ck_71 : Cond.code y_Sh_isShare.1 y_Sh_isShare.2.1 y_Sh_isShare.2.2.1 y_Sh_isShare.2.2.2.1 ∈ lw_tbl := List.mem_of_getElem? (i := 352) rfl
set_option maxRecDepth 100000 in
theorem ck_72 : Cond.code y_Sh_inUnits.1 y_Sh_inUnits.2.1 y_Sh_inUnits.2.2.1 y_Sh_inUnits.2.2.2.1 ∈ lw_tbl := List.mem_of_getElem? (i := 356) rfl
set_option maxRecDepth 100000 in
theorem ck_73 : Cond.code y_Sh_crush.1 y_Sh_crush.2.1 y_Sh_crush.2.2.1 y_Sh_crush.2.2.2.1 ∈ lw_tbl := List.mem_of_getElem? (i := 365) rfl
set_option maxRecDepth 100000 in
theorem ck_74 : Cond.code y_Sh_feed.1 y_Sh_feed.2.1 y_Sh_feed.2.2.1 y_Sh_feed.2.2.2.1 ∈ lw_tbl := List.mem_of_getElem? (i := 375) rfl
set_option maxRecDepth 100000 in
theorem ck_75 : Cond.code y_Sh_solve.1 y_Sh_solve.2.1 y_Sh_solve.2.2.1 y_Sh_solve.2.2.2.1 ∈ lw_tbl := List.mem_of_getElem? (i := 380) rfl
set_option maxRecDepth 100000 in
theorem ck_76 : Cond.code y_Sh_solveAll.1 y_Sh_solveAll.2.1 y_Sh_solveAll.2.2.1 y_Sh_solveAll.2.2.2.1 ∈ lw_tbl := List.mem_of_getElem? (i := 384) rfl
set_option maxRecDepth 100000 in
theorem ck_77 : Cond.code y_Sh_takeSolution.1 y_Sh_takeSolution.2.1 y_Sh_takeSolution.2.2.1 y_Sh_takeSolution.2.2.2.1 ∈ lw_tbl := List.mem_of_getElem? (i := 537) rfl
set_option maxRecDepth 100000 in
theorem ck_78 : Cond.code y_Sh_out.1 y_Sh_out.2.1 y_Sh_out.2.2.1 y_Sh_out.2.2.2.1 ∈ lw_tbl := List.mem_of_getElem? (i := 559) rfl
set_option maxRecDepth 100000 in
theorem ck_79 : Cond.code y_Sh_isPart.1 y_Sh_isPart.2.1 y_Sh_isPart.2.2.1 y_Sh_isPart.2.2.2.1 ∈ lw_tbl := List.mem_of_getElem? (i := 566) rfl
set_option maxRecDepth 100000 in
theorem ck_80 : Cond.code y_Sh_load.1 y_Sh_load.2.1 y_Sh_load.2.2.1 y_Sh_load.2.2.2.1 ∈ lw_tbl := List.mem_of_getElem? (i := 582) rfl
set_option maxRecDepth 100000 in
theorem ck_81 : Cond.code y_Sh_span.1 y_Sh_span.2.1 y_Sh_span.2.2.1 y_Sh_span.2.2.2.1 ∈ lw_tbl := List.mem_of_getElem? (i := 590) rfl
set_option maxRecDepth 100000 in
theorem ck_82 : Cond.code y_Sh_over.1 y_Sh_over.2.1 y_Sh_over.2.2.1 y_Sh_over.2.2.2.1 ∈ lw_tbl := List.mem_of_getElem? (i := 596) rfl
set_option maxRecDepth 100000 in
theorem ck_83 : Cond.code y_Sh_isOutsideSpan.1 y_Sh_isOutsideSpan.2.1 y_Sh_isOutsideSpan.2.2.1 y_Sh_isOutsideSpan.2.2.2.1 ∈ lw_tbl := List.mem_of_getElem? (i := 600) rfl
set_option maxRecDepth 100000 in
theorem ck_84 : Cond.code y_Sh_slope.1 y_Sh_slope.2.1 y_Sh_slope.2.2.1 y_Sh_slope.2.2.2.1 ∈ lw_tbl := List.mem_of_getElem? (i := 614) rfl
set_option maxRecDepth 100000 in
theorem ck_85 : Cond.code y_Sh_purity.1 y_Sh_purity.2.1 y_Sh_purity.2.2.1 y_Sh_purity.2.2.2.1 ∈ lw_tbl := List.mem_of_getElem? (i := 647) rfl
set_option maxRecDepth 100000 in
theorem ck_86 : Cond.code y_Sh_change.1 y_Sh_change.2.1 y_Sh_change.2.2.1 y_Sh_change.2.2.2.1 ∈ lw_tbl := List.mem_of_getElem? (i := 656) rfl
set_option maxRecDepth 100000 in
theorem ck_87 : Cond.code y_Sh_find.1 y_Sh_find.2.1 y_Sh_find.2.2.1 y_Sh_find.2.2.2.1 ∈ lw_tbl := List.mem_of_getElem? (i := 660) rfl
set_option maxRecDepth 100000 in
theorem ck_88 : Cond.code y_Sh_bringsToPortZero.1 y_Sh_bringsToPortZero.2.1 y_Sh_bringsToPortZero.2.2.1 y_Sh_bringsToPortZero.2.2.2.1 ∈ lw_tbl := List.mem_of_getElem? (i := 665) rfl
set_option maxRecDepth 100000 in
theorem ck_89 : Cond.code y_Sh_kept.1 y_Sh_kept.2.1 y_Sh_kept.2.2.1 y_Sh_kept.2.2.2.1 ∈ lw_tbl := List.mem_of_getElem? (i := 674) rfl
set_option maxRecDepth 100000 in
theorem ck_90 : Cond.code y_Mo_init.1 y_Mo_init.2.1 y_Mo_init.2.2.1 y_Mo_init.2.2.2.1 ∈ lw_tbl := List.mem_of_getElem? (i := 682) rfl
set_option maxRecDepth 100000 in
theorem ck_91 : Cond.code y_Mo_machine.1 y_Mo_machine.2.1 y_Mo_machine.2.2.1 y_Mo_machine.2.2.2.1 ∈ lw_tbl := List.mem_of_getElem? (i := 798) rfl
set_option maxRecDepth 100000 in
theorem ck_92 : Cond.code y_Mo_touch.1 y_Mo_touch.2.1 y_Mo_touch.2.2.1 y_Mo_touch.2.2.2.1 ∈ lw_tbl := List.mem_of_getElem? (i := 802) rfl
set_option maxRecDepth 100000 in
theorem ck_93 : Cond.code y_Mo_port.1 y_Mo_port.2.1 y_Mo_port.2.2.1 y_Mo_port.2.2.2.1 ∈ lw_tbl := List.mem_of_getElem? (i := 806) rfl
set_option maxRecDepth 100000 in
theorem ck_94 : Cond.code y_Mo_joinOut.1 y_Mo_joinOut.2.1 y_Mo_joinOut.2.2.1 y_Mo_joinOut.2.2.2.1 ∈ lw_tbl := List.mem_of_getElem? (i := 810) rfl
set_option maxRecDepth 100000 in
theorem ck_95 : Cond.code y_Mo_isOut.1 y_Mo_isOut.2.1 y_Mo_isOut.2.2.1 y_Mo_isOut.2.2.2.1 ∈ lw_tbl := List.mem_of_getElem? (i := 814) rfl
set_option maxRecDepth 100000 in
theorem ck_96 : Cond.code y_Mo_isMachine.1 y_Mo_isMachine.2.1 y_Mo_isMachine.2.2.1 y_Mo_isMachine.2.2.2.1 ∈ lw_tbl := List.mem_of_getElem? (i := 818) rfl
set_option maxRecDepth 100000 in
theorem ck_97 : Cond.code y_Mo_share.1 y_Mo_share.2.1 y_Mo_share.2.2.1 y_Mo_share.2.2.2.1 ∈ lw_tbl := List.mem_of_getElem? (i := 822) rfl
set_option maxRecDepth 100000 in
theorem ck_98 : Cond.code y_Mo_isFree.1 y_Mo_isFree.2.1 y_Mo_isFree.2.2.1 y_Mo_isFree.2.2.2.1 ∈ lw_tbl := List.mem_of_getElem? (i := 826) rfl
set_option maxRecDepth 100000 in
theorem ck_99 : Cond.code y_Mo_isKind.1 y_Mo_isKind.2.1 y_Mo_isKind.2.2.1 y_Mo_isKind.2.2.2.1 ∈ lw_tbl := List.mem_of_getElem? (i := 830) rfl
set_option maxRecDepth 100000 in
theorem ck_100 : Cond.code y_Mo_isShare.1 y_Mo_isShare.2.1 y_Mo_isShare.2.2.1 y_Mo_isShare.2.2.2.1 ∈ lw_tbl := List.mem_of_getElem? (i := 833) rfl
set_option maxRecDepth 100000 in
theorem ck_101 : Cond.code y_Mo_fits.1 y_Mo_fits.2.1 y_Mo_fits.2.2.1 y_Mo_fits.2.2.2.1 ∈ lw_tbl := List.mem_of_getElem? (i := 838) rfl
set_option maxRecDepth 100000 in
theorem ck_102 : Cond.code y_Mo_crush.1 y_Mo_crush.2.1 y_Mo_crush.2.2.1 y_Mo_crush.2.2.2.1 ∈ lw_tbl := List.mem_of_getElem? (i := 842) rfl
set_option maxRecDepth 100000 in
theorem ck_103 : Cond.code y_Mo_feed.1 y_Mo_feed.2.1 y_Mo_feed.2.2.1 y_Mo_feed.2.2.2.1 ∈ lw_tbl := List.mem_of_getElem? (i := 846) rfl
set_option maxRecDepth 100000 in
theorem ck_104 : Cond.code y_Mo_span.1 y_Mo_span.2.1 y_Mo_span.2.2.1 y_Mo_span.2.2.2.1 ∈ lw_tbl := List.mem_of_getElem? (i := 851) rfl
set_option maxRecDepth 100000 in
theorem ck_105 : Cond.code y_Mo_solve.1 y_Mo_solve.2.1 y_Mo_solve.2.2.1 y_Mo_solve.2.2.2.1 ∈ lw_tbl := List.mem_of_getElem? (i := 856) rfl
set_option maxRecDepth 100000 in
theorem ck_106 : Cond.code y_Mo_layOut.1 y_Mo_layOut.2.1 y_Mo_layOut.2.2.1 y_Mo_layOut.2.2.2.1 ∈ lw_tbl := List.mem_of_getElem? (i := 860) rfl
set_option maxRecDepth 100000 in
theorem ck_107 : Cond.code y_Mo_layNode.1 y_Mo_layNode.2.1 y_Mo_layNode.2.2.1 y_Mo_layNode.2.2.2.1 ∈ lw_tbl := List.mem_of_getElem? (i := 864) rfl
set_option maxRecDepth 100000 in
theorem ck_108 : Cond.code y_Mo_common.1 y_Mo_common.2.1 y_Mo_common.2.2.1 y_Mo_common.2.2.2.1 ∈ lw_tbl := List.mem_of_getElem? (i := 868) rfl
set_option maxRecDepth 100000 in
theorem ck_109 : Cond.code y_Mo_shareAt.1 y_Mo_shareAt.2.1 y_Mo_shareAt.2.2.1 y_Mo_shareAt.2.2.2.1 ∈ lw_tbl := List.mem_of_getElem? (i := 872) rfl
set_option maxRecDepth 100000 in
theorem ck_110 : Cond.code y_Mo_part.1 y_Mo_part.2.1 y_Mo_part.2.2.1 y_Mo_part.2.2.2.1 ∈ lw_tbl := List.mem_of_getElem? (i := 876) rfl
set_option maxRecDepth 100000 in
theorem ck_111 : Cond.code y_Mo_stuck.1 y_Mo_stuck.2.1 y_Mo_stuck.2.2.1 y_Mo_stuck.2.2.2.1 ∈ lw_tbl := List.mem_of_getElem? (i := 880) rfl
set_option maxRecDepth 100000 in
theorem ck_112 : Cond.code y_Mo_goes.1 y_Mo_goes.2.1 y_Mo_goes.2.2.1 y_Mo_goes.2.2.2.1 ∈ lw_tbl := List.mem_of_getElem? (i := 884) rfl
set_option maxRecDepth 100000 in
theorem ck_113 : Cond.code y_Mo_freeze.1 y_Mo_freeze.2.1 y_Mo_freeze.2.2.1 y_Mo_freeze.2.2.2.1 ∈ lw_tbl := List.mem_of_getElem? (i := 888) rfl
set_option maxRecDepth 100000 in
theorem ck_114 : Cond.code y_Mo_out.1 y_Mo_out.2.1 y_Mo_out.2.2.1 y_Mo_out.2.2.2.1 ∈ lw_tbl := List.mem_of_getElem? (i := 892) rfl
set_option maxRecDepth 100000 in
theorem ck_115 : Cond.code y_Mo_prepare.1 y_Mo_prepare.2.1 y_Mo_prepare.2.2.1 y_Mo_prepare.2.2.2.1 ∈ lw_tbl := List.mem_of_getElem? (i := 897) rfl
set_option maxRecDepth 100000 in
theorem ck_116 : Cond.code y_Mo_turn.1 y_Mo_turn.2.1 y_Mo_turn.2.2.1 y_Mo_turn.2.2.2.1 ∈ lw_tbl := List.mem_of_getElem? (i := 901) rfl
set_option maxRecDepth 100000 in
theorem ck_117 : Cond.code y_Mo_turnBy.1 y_Mo_turnBy.2.1 y_Mo_turnBy.2.2.1 y_Mo_turnBy.2.2.2.1 ∈ lw_tbl := List.mem_of_getElem? (i := 905) rfl
set_option maxRecDepth 100000 in
theorem ck_118 : Cond.code y_Mo_multiply_1.1 y_Mo_multiply_1.2.1 y_Mo_multiply_1.2.2.1 y_Mo_multiply_1.2.2.2.1 ∈ lw_tbl := List.mem_of_getElem? (i := 909) rfl
set_option maxRecDepth 100000 in
theorem ck_119 : Cond.code y_Mo_inverse.1 y_Mo_inverse.2.1 y_Mo_inverse.2.2.1 y_Mo_inverse.2.2.2.1 ∈ lw_tbl := List.mem_of_getElem? (i := 912) rfl
set_option maxRecDepth 100000 in
theorem ck_120 : Cond.code y_Mo_raise.1 y_Mo_raise.2.1 y_Mo_raise.2.2.1 y_Mo_raise.2.2.2.1 ∈ lw_tbl := List.mem_of_getElem? (i := 916) rfl
set_option maxRecDepth 100000 in
theorem ck_121 : Cond.code y_Mo_gatherOver.1 y_Mo_gatherOver.2.1 y_Mo_gatherOver.2.2.1 y_Mo_gatherOver.2.2.2.1 ∈ lw_tbl := List.mem_of_getElem? (i := 920) rfl
set_option maxRecDepth 100000 in
theorem ck_122 : Cond.code y_Mo_gather.1 y_Mo_gather.2.1 y_Mo_gather.2.2.1 y_Mo_gather.2.2.2.1 ∈ lw_tbl := List.mem_of_getElem? (i := 924) rfl
set_option maxRecDepth 100000 in
theorem ck_123 : Cond.code y_Mo_clear.1 y_Mo_clear.2.1 y_Mo_clear.2.2.1 y_Mo_clear.2.2.2.1 ∈ lw_tbl := List.mem_of_getElem? (i := 928) rfl
set_option maxRecDepth 100000 in
theorem ck_124 : Cond.code y_Mo_grow.1 y_Mo_grow.2.1 y_Mo_grow.2.2.1 y_Mo_grow.2.2.2.1 ∈ lw_tbl := List.mem_of_getElem? (i := 932) rfl
set_option maxRecDepth 100000 in
theorem ck_125 : Cond.code y_Mo_add.1 y_Mo_add.2.1 y_Mo_add.2.2.1 y_Mo_add.2.2.2.1 ∈ lw_tbl := List.mem_of_getElem? (i := 937) rfl
set_option maxRecDepth 100000 in
theorem ck_126 : Cond.code y_Mo_clearWeights.1 y_Mo_clearWeights.2.1 y_Mo_clearWeights.2.2.1 y_Mo_clearWeights.2.2.2.1 ∈ lw_tbl := List.mem_of_getElem? (i := 941) rfl
set_option maxRecDepth 100000 in
theorem ck_127 : Cond.code y_Mo_weighPort.1 y_Mo_weighPort.2.1 y_Mo_weighPort.2.2.1 y_Mo_weighPort.2.2.2.1 ∈ lw_tbl := List.mem_of_getElem? (i := 945) rfl
set_option maxRecDepth 100000 in
theorem ck_128 : Cond.code y_Mo_gatherAmount.1 y_Mo_gatherAmount.2.1 y_Mo_gatherAmount.2.2.1 y_Mo_gatherAmount.2.2.2.1 ∈ lw_tbl := List.mem_of_getElem? (i := 949) rfl
set_option maxRecDepth 100000 in
theorem ck_129 : Cond.code y_Mo_partOf.1 y_Mo_partOf.2.1 y_Mo_partOf.2.2.1 y_Mo_partOf.2.2.2.1 ∈ lw_tbl := List.mem_of_getElem? (i := 953) rfl
set_option maxRecDepth 100000 in
theorem ck_130 : Cond.code y_Mo_divide.1 y_Mo_divide.2.1 y_Mo_divide.2.2.1 y_Mo_divide.2.2.2.1 ∈ lw_tbl := List.mem_of_getElem? (i := 957) rfl
set_option maxRecDepth 100000 in
theorem ck_131 : Cond.code y_Mo_wordsOf.1 y_Mo_wordsOf.2.1 y_Mo_wordsOf.2.2.1 y_Mo_wordsOf.2.2.2.1 ∈ lw_tbl := List.mem_of_getElem? (i := 961) rfl
set_option maxRecDepth 100000 in
theorem ck_132 : Cond.code y_Mo_growUsed.1 y_Mo_growUsed.2.1 y_Mo_growUsed.2.2.1 y_Mo_growUsed.2.2.2.1 ∈ lw_tbl := List.mem_of_getElem? (i := 965) rfl
set_option maxRecDepth 100000 in
theorem ck_133 : Cond.code y_Mo_isLeftLess.1 y_Mo_isLeftLess.2.1 y_Mo_isLeftLess.2.2.1 y_Mo_isLeftLess.2.2.2.1 ∈ lw_tbl := List.mem_of_getElem? (i := 969) rfl
set_option maxRecDepth 100000 in
theorem ck_134 : Cond.code y_Mo_lessenLeft.1 y_Mo_lessenLeft.2.1 y_Mo_lessenLeft.2.2.1 y_Mo_lessenLeft.2.2.2.1 ∈ lw_tbl := List.mem_of_getElem? (i := 973) rfl
set_option maxRecDepth 100000 in
theorem ck_135 : Cond.code y_Mo_isZero.1 y_Mo_isZero.2.1 y_Mo_isZero.2.2.1 y_Mo_isZero.2.2.2.1 ∈ lw_tbl := List.mem_of_getElem? (i := 977) rfl
set_option maxRecDepth 100000 in
theorem ck_136 : Cond.code y_Mo_copy.1 y_Mo_copy.2.1 y_Mo_copy.2.2.1 y_Mo_copy.2.2.2.1 ∈ lw_tbl := List.mem_of_getElem? (i := 981) rfl
set_option maxRecDepth 100000 in
theorem ck_137 : Cond.code y_Mo_lessen.1 y_Mo_lessen.2.1 y_Mo_lessen.2.2.1 y_Mo_lessen.2.2.2.1 ∈ lw_tbl := List.mem_of_getElem? (i := 985) rfl
set_option maxRecDepth 100000 in
theorem ck_138 : Cond.code y_Mo_load.1 y_Mo_load.2.1 y_Mo_load.2.2.1 y_Mo_load.2.2.2.1 ∈ lw_tbl := List.mem_of_getElem? (i := 989) rfl
set_option maxRecDepth 100000 in
theorem ck_139 : Cond.code y_Mo_reckonLoad.1 y_Mo_reckonLoad.2.1 y_Mo_reckonLoad.2.2.1 y_Mo_reckonLoad.2.2.2.1 ∈ lw_tbl := List.mem_of_getElem? (i := 993) rfl
set_option maxRecDepth 100000 in
theorem ck_140 : Cond.code y_Mo_over.1 y_Mo_over.2.1 y_Mo_over.2.2.1 y_Mo_over.2.2.2.1 ∈ lw_tbl := List.mem_of_getElem? (i := 997) rfl
set_option maxRecDepth 100000 in
theorem ck_141 : Cond.code y_Mo_isOver.1 y_Mo_isOver.2.1 y_Mo_isOver.2.2.1 y_Mo_isOver.2.2.2.1 ∈ lw_tbl := List.mem_of_getElem? (i := 1001) rfl
set_option maxRecDepth 100000 in
theorem ck_142 : Cond.code y_Mo_slope.1 y_Mo_slope.2.1 y_Mo_slope.2.2.1 y_Mo_slope.2.2.2.1 ∈ lw_tbl := List.mem_of_getElem? (i := 1005) rfl
set_option maxRecDepth 100000 in
theorem ck_143 : Cond.code y_Mo_gatherOut.1 y_Mo_gatherOut.2.1 y_Mo_gatherOut.2.2.1 y_Mo_gatherOut.2.2.2.1 ∈ lw_tbl := List.mem_of_getElem? (i := 1009) rfl
set_option maxRecDepth 100000 in
theorem ck_144 : Cond.code y_Mo_gatherWorth.1 y_Mo_gatherWorth.2.1 y_Mo_gatherWorth.2.2.1 y_Mo_gatherWorth.2.2.2.1 ∈ lw_tbl := List.mem_of_getElem? (i := 1013) rfl
set_option maxRecDepth 100000 in
theorem ck_145 : Cond.code y_Mo_isLess.1 y_Mo_isLess.2.1 y_Mo_isLess.2.2.1 y_Mo_isLess.2.2.2.1 ∈ lw_tbl := List.mem_of_getElem? (i := 1017) rfl
set_option maxRecDepth 100000 in
theorem ck_146 : Cond.code y_Mo_multiply_2.1 y_Mo_multiply_2.2.1 y_Mo_multiply_2.2.2.1 y_Mo_multiply_2.2.2.2.1 ∈ lw_tbl := List.mem_of_getElem? (i := 1021) rfl
set_option maxRecDepth 100000 in
theorem ck_147 : Cond.code y_Mo_purity.1 y_Mo_purity.2.1 y_Mo_purity.2.2.1 y_Mo_purity.2.2.2.1 ∈ lw_tbl := List.mem_of_getElem? (i := 1025) rfl
set_option maxRecDepth 100000 in
theorem ck_148 : Cond.code y_Mo_change.1 y_Mo_change.2.1 y_Mo_change.2.2.1 y_Mo_change.2.2.2.1 ∈ lw_tbl := List.mem_of_getElem? (i := 1029) rfl
set_option maxRecDepth 100000 in
theorem ck_149 : Cond.code y_Mo_find.1 y_Mo_find.2.1 y_Mo_find.2.2.1 y_Mo_find.2.2.2.1 ∈ lw_tbl := List.mem_of_getElem? (i := 1035) rfl
set_option maxRecDepth 100000 in
theorem ck_150 : Cond.code y_Mo_brings.1 y_Mo_brings.2.1 y_Mo_brings.2.2.1 y_Mo_brings.2.2.2.1 ∈ lw_tbl := List.mem_of_getElem? (i := 1039) rfl
set_option maxRecDepth 100000 in
theorem ck_151 : Cond.code y_Mo_kept.1 y_Mo_kept.2.1 y_Mo_kept.2.2.1 y_Mo_kept.2.2.2.1 ∈ lw_tbl := List.mem_of_getElem? (i := 1043) rfl
set_option maxRecDepth 100000 in
theorem ck_152 : Cond.code y_Ar_fill.1 y_Ar_fill.2.1 y_Ar_fill.2.2.1 y_Ar_fill.2.2.2.1 ∈ lw_tbl := List.mem_of_getElem? (i := 90) rfl
set_option maxRecDepth 100000 in
theorem ck_153 : Cond.code y_In_numberOfLeadingZeros.1 y_In_numberOfLeadingZeros.2.1 y_In_numberOfLeadingZeros.2.2.1 y_In_numberOfLeadingZeros.2.2.2.1 ∈ lw_tbl := List.mem_of_getElem? (i := 498) rfl
set_option maxRecDepth 100000 in
theorem ck_154 : Cond.code y_Lw_cell.1 y_Lw_cell.2.1 y_Lw_cell.2.2.1 y_Lw_cell.2.2.2.1 ∈ lw_tbl := List.mem_of_getElem? (i := 677) rfl
theorem jm_ck : ∀ y ∈ jm_mtL, Cond.code y.1 y.2.1 y.2.2.1 y.2.2.2.1 ∈ lw_tbl := List.forall_mem_cons.mpr ⟨ck_0, List.forall_mem_cons.mpr ⟨ck_1, List.forall_mem_cons.mpr ⟨ck_2, List.forall_mem_cons.mpr ⟨ck_3, List.forall_mem_cons.mpr ⟨ck_4, List.forall_mem_cons.mpr ⟨ck_5, List.forall_mem_cons.mpr ⟨ck_6, List.forall_mem_cons.mpr ⟨ck_7, List.forall_mem_cons.mpr ⟨ck_8, List.forall_mem_cons.mpr ⟨ck_9, List.forall_mem_cons.mpr ⟨ck_10, List.forall_mem_cons.mpr ⟨ck_11, List.forall_mem_cons.mpr ⟨ck_12, List.forall_mem_cons.mpr ⟨ck_13, List.forall_mem_cons.mpr ⟨ck_14, List.forall_mem_cons.mpr ⟨ck_15, List.forall_mem_cons.mpr ⟨ck_16, List.forall_mem_cons.mpr ⟨ck_17, List.forall_mem_cons.mpr ⟨ck_18, List.forall_mem_cons.mpr ⟨ck_19, List.forall_mem_cons.mpr ⟨ck_20, List.forall_mem_cons.mpr ⟨ck_21, List.forall_mem_cons.mpr ⟨ck_22, List.forall_mem_cons.mpr ⟨ck_23, List.forall_mem_cons.mpr ⟨ck_24, List.forall_mem_cons.mpr ⟨ck_25, List.forall_mem_cons.mpr ⟨ck_26, List.forall_mem_cons.mpr ⟨ck_27, List.forall_mem_cons.mpr ⟨ck_28, List.forall_mem_cons.mpr ⟨ck_29, List.forall_mem_cons.mpr ⟨ck_30, List.forall_mem_cons.mpr ⟨ck_31, List.forall_mem_cons.mpr ⟨ck_32, List.forall_mem_cons.mpr ⟨ck_33, List.forall_mem_cons.mpr ⟨ck_34, List.forall_mem_cons.mpr ⟨ck_35, List.forall_mem_cons.mpr ⟨ck_36, List.forall_mem_cons.mpr ⟨ck_37, List.forall_mem_cons.mpr ⟨ck_38, List.forall_mem_cons.mpr ⟨ck_39, List.forall_mem_cons.mpr ⟨ck_40, List.forall_mem_cons.mpr ⟨ck_41, List.forall_mem_cons.mpr ⟨ck_42, List.forall_mem_cons.mpr ⟨ck_43, List.forall_mem_cons.mpr ⟨ck_44, List.forall_mem_cons.mpr ⟨ck_45, List.forall_mem_cons.mpr ⟨ck_46, List.forall_mem_cons.mpr ⟨ck_47, List.forall_mem_cons.mpr ⟨ck_48, List.forall_mem_cons.mpr ⟨ck_49, List.forall_mem_cons.mpr ⟨ck_50, List.forall_mem_cons.mpr ⟨ck_51, List.forall_mem_cons.mpr ⟨ck_52, List.forall_mem_cons.mpr ⟨ck_53, List.forall_mem_cons.mpr ⟨ck_54, List.forall_mem_cons.mpr ⟨ck_55, List.forall_mem_cons.mpr ⟨ck_56, List.forall_mem_cons.mpr ⟨ck_57, List.forall_mem_cons.mpr ⟨ck_58, List.forall_mem_cons.mpr ⟨ck_59, List.forall_mem_cons.mpr ⟨ck_60, List.forall_mem_cons.mpr ⟨ck_61, List.forall_mem_cons.mpr ⟨ck_62, List.forall_mem_cons.mpr ⟨ck_63, List.forall_mem_cons.mpr ⟨ck_64, List.forall_mem_cons.mpr ⟨ck_65, List.forall_mem_cons.mpr ⟨ck_66, List.forall_mem_cons.mpr ⟨ck_67, List.forall_mem_cons.mpr ⟨ck_68, List.forall_mem_cons.mpr ⟨ck_69, List.forall_mem_cons.mpr ⟨ck_70, List.forall_mem_cons.mpr ⟨ck_71, List.forall_mem_cons.mpr ⟨ck_72, List.forall_mem_cons.mpr ⟨ck_73, List.forall_mem_cons.mpr ⟨ck_74, List.forall_mem_cons.mpr ⟨ck_75, List.forall_mem_cons.mpr ⟨ck_76, List.forall_mem_cons.mpr ⟨ck_77, List.forall_mem_cons.mpr ⟨ck_78, List.forall_mem_cons.mpr ⟨ck_79, List.forall_mem_cons.mpr ⟨ck_80, List.forall_mem_cons.mpr ⟨ck_81, List.forall_mem_cons.mpr ⟨ck_82, List.forall_mem_cons.mpr ⟨ck_83, List.forall_mem_cons.mpr ⟨ck_84, List.forall_mem_cons.mpr ⟨ck_85, List.forall_mem_cons.mpr ⟨ck_86, List.forall_mem_cons.mpr ⟨ck_87, List.forall_mem_cons.mpr ⟨ck_88, List.forall_mem_cons.mpr ⟨ck_89, List.forall_mem_cons.mpr ⟨ck_90, List.forall_mem_cons.mpr ⟨ck_91, List.forall_mem_cons.mpr ⟨ck_92, List.forall_mem_cons.mpr ⟨ck_93, List.forall_mem_cons.mpr ⟨ck_94, List.forall_mem_cons.mpr ⟨ck_95, List.forall_mem_cons.mpr ⟨ck_96, List.forall_mem_cons.mpr ⟨ck_97, List.forall_mem_cons.mpr ⟨ck_98, List.forall_mem_cons.mpr ⟨ck_99, List.forall_mem_cons.mpr ⟨ck_100, List.forall_mem_cons.mpr ⟨ck_101, List.forall_mem_cons.mpr ⟨ck_102, List.forall_mem_cons.mpr ⟨ck_103, List.forall_mem_cons.mpr ⟨ck_104, List.forall_mem_cons.mpr ⟨ck_105, List.forall_mem_cons.mpr ⟨ck_106, List.forall_mem_cons.mpr ⟨ck_107, List.forall_mem_cons.mpr ⟨ck_108, List.forall_mem_cons.mpr ⟨ck_109, List.forall_mem_cons.mpr ⟨ck_110, List.forall_mem_cons.mpr ⟨ck_111, List.forall_mem_cons.mpr ⟨ck_112, List.forall_mem_cons.mpr ⟨ck_113, List.forall_mem_cons.mpr ⟨ck_114, List.forall_mem_cons.mpr ⟨ck_115, List.forall_mem_cons.mpr ⟨ck_116, List.forall_mem_cons.mpr ⟨ck_117, List.forall_mem_cons.mpr ⟨ck_118, List.forall_mem_cons.mpr ⟨ck_119, List.forall_mem_cons.mpr ⟨ck_120, List.forall_mem_cons.mpr ⟨ck_121, List.forall_mem_cons.mpr ⟨ck_122, List.forall_mem_cons.mpr ⟨ck_123, List.forall_mem_cons.mpr ⟨ck_124, List.forall_mem_cons.mpr ⟨ck_125, List.forall_mem_cons.mpr ⟨ck_126, List.forall_mem_cons.mpr ⟨ck_127, List.forall_mem_cons.mpr ⟨ck_128, List.forall_mem_cons.mpr ⟨ck_129, List.forall_mem_cons.mpr ⟨ck_130, List.forall_mem_cons.mpr ⟨ck_131, List.forall_mem_cons.mpr ⟨ck_132, List.forall_mem_cons.mpr ⟨ck_133, List.forall_mem_cons.mpr ⟨ck_134, List.forall_mem_cons.mpr ⟨ck_135, List.forall_mem_cons.mpr ⟨ck_136, List.forall_mem_cons.mpr ⟨ck_137, List.forall_mem_cons.mpr ⟨ck_138, List.forall_mem_cons.mpr ⟨ck_139, List.forall_mem_cons.mpr ⟨ck_140, List.forall_mem_cons.mpr ⟨ck_141, List.forall_mem_cons.mpr ⟨ck_142, List.forall_mem_cons.mpr ⟨ck_143, List.forall_mem_cons.mpr ⟨ck_144, List.forall_mem_cons.mpr ⟨ck_145, List.forall_mem_cons.mpr ⟨ck_146, List.forall_mem_cons.mpr ⟨ck_147, List.forall_mem_cons.mpr ⟨ck_148, List.forall_mem_cons.mpr ⟨ck_149, List.forall_mem_cons.mpr ⟨ck_150, List.forall_mem_cons.mpr ⟨ck_151, List.forall_mem_cons.mpr ⟨ck_152, List.forall_mem_cons.mpr ⟨ck_153, List.forall_mem_cons.mpr ⟨ck_154, fun _ h => absurd h List.not_mem_nil⟩⟩⟩⟩⟩⟩⟩⟩⟩⟩⟩⟩⟩⟩⟩⟩⟩⟩⟩⟩⟩⟩⟩⟩⟩⟩⟩⟩⟩⟩⟩⟩⟩⟩⟩⟩⟩⟩⟩⟩⟩⟩⟩⟩⟩⟩⟩⟩⟩⟩⟩⟩⟩⟩⟩⟩⟩⟩⟩⟩⟩⟩⟩⟩⟩⟩⟩⟩⟩⟩⟩⟩⟩⟩⟩⟩⟩⟩⟩⟩⟩⟩⟩⟩⟩⟩⟩⟩⟩⟩⟩⟩⟩⟩⟩⟩⟩⟩⟩⟩⟩⟩⟩⟩⟩⟩⟩⟩⟩⟩⟩⟩⟩⟩⟩⟩⟩⟩⟩⟩⟩⟩⟩⟩⟩⟩⟩⟩⟩⟩⟩⟩⟩⟩⟩⟩⟩⟩⟩⟩⟩⟩⟩⟩⟩⟩⟩⟩⟩⟩⟩⟩⟩⟩⟩
theorem jm_mok_all : (List.range 155).all (fun k => jm_mok (jm_mt k) (jm_st k).1 (jm_st k).2.1 (jm_st k).2.2.1 (jm_st k).2.2.2.1 (jm_st k).2.2.2.2) = true := by decide +kernel
/-- all that is said of a method -/
def jm_mf (k : Nat) : Prop := (Cond.code (jm_mt k).1 (jm_mt k).2.1 (jm_mt k).2.2.1 (jm_mt k).2.2.2.1 ∈ jm_Tb) ∧ ((jm_mt k).1.cls ≠ "java/lang/invoke/MethodHandle" ∧ (jm_mt k).1.cls ≠ "java/lang/invoke/VarHandle") ∧ plainName (jm_mt k).1.cls = true ∧ Cond.initialized (jm_mt k).1.cls ∈ jm_Tb ∧ ((jm_st k).1 = true → Cond.static (jm_mt k).1 ∈ jm_Tb) ∧ ((jm_st k).1 = false → Cond.instanceMethod (jm_mt k).1 ∈ jm_Tb ∧ ((jm_mt k).1.name = "<init>" ∨ Cond.selects (jm_mt k).1.cls (jm_mt k).1 (jm_mt k).1 ∈ jm_Tb))
theorem jm_mf_all (k : Nat) (h : k < jm_mtL.length) : jm_mf k := by
  have h1 := List.all_eq_true.mp jm_mok_all k (List.mem_range.mpr h)
  have h2 : jm_mt k ∈ jm_mtL := by
    unfold jm_mt
    rw [List.getD_eq_getElem?_getD, List.getElem?_eq_getElem h]
    exact List.getElem_mem h
  have h3 := jm_ck _ h2
  simp only [jm_mok, Bool.and_eq_true, decide_eq_true_eq] at h1
  obtain ⟨⟨⟨q1, q2⟩, q3⟩, q4⟩ := h1
  refine ⟨List.mem_filter.mpr ⟨h3, rfl⟩, q1, q2, jm_wd_in q3, fun e => ?_, fun e => ?_⟩
  · rw [e] at q4
    exact jm_wd_in q4
  · rw [e] at q4
    simp only [Bool.false_eq_true, if_false, Bool.and_eq_true, Bool.or_eq_true, decide_eq_true_eq] at q4
    exact ⟨jm_wd_in q4.1, q4.2.elim Or.inl (fun z => Or.inr (jm_wd_in z))⟩
end
section
/-! The memory in pure words: the addresses that are held, what stands at each (a class below 50, or an array type from 50 on with its length), its ints, longs and references. -/
abbrev jm_M : Type := List Nat × (Nat → Nat × Nat) × (Nat → Nat → Int32) × (Nat → Nat → Int64) × (Nat → Nat → Option Nat)
abbrev jL (m : jm_M) : List Nat := m.1
abbrev jT (m : jm_M) : Nat → Nat × Nat := m.2.1
abbrev jI (m : jm_M) : Nat → Nat → Int32 := m.2.2.1
abbrev jJ (m : jm_M) : Nat → Nat → Int64 := m.2.2.2.1
abbrev jR (m : jm_M) : Nat → Nat → Option Nat := m.2.2.2.2
/-- a row of ints, of longs, of references is another -/
def uA (m : jm_M) (a : Nat) (g : Nat → Int32) : jm_M := (m.1, m.2.1, va_up m.2.2.1 a g, m.2.2.2.1, m.2.2.2.2)
def uJA (m : jm_M) (a : Nat) (g : Nat → Int64) : jm_M := (m.1, m.2.1, m.2.2.1, va_up m.2.2.2.1 a g, m.2.2.2.2)
def uRA (m : jm_M) (a : Nat) (g : Nat → Option Nat) : jm_M := (m.1, m.2.1, m.2.2.1, m.2.2.2.1, va_up m.2.2.2.2 a g)
def uI (m : jm_M) (a k : Nat) (x : Int32) : jm_M := uA m a (va_up (m.2.2.1 a) k x)
def uJ (m : jm_M) (a k : Nat) (x : Int64) : jm_M := uJA m a (va_up (m.2.2.2.1 a) k x)
def uR (m : jm_M) (a k : Nat) (x : Option Nat) : jm_M := uRA m a (va_up (m.2.2.2.2 a) k x)
/-- a new thing at q, all its places as they are at first -/
def aN (m : jm_M) (q k n : Nat) : jm_M := (m.1 ++ [q], va_up m.2.1 q (k, n), va_up m.2.2.1 q (fun _ => 0), va_up m.2.2.2.1 q (fun _ => 0), va_up m.2.2.2.2 q (fun _ => none))
abbrev jm_ok (m : jm_M) (a k : Nat) : Prop := a ∈ m.1 ∧ (m.2.1 a).1 = k
def jm_val (t : FieldType) (m : jm_M) (a k : Nat) : Value := match t with
  | .long => .long (m.2.2.2.1 a k)
  | .object _ => va_rf (m.2.2.2.2 a k)
  | .array _ => va_rf (m.2.2.2.2 a k)
  | _ => .int (m.2.2.1 a k)
def jm_fs (ts : List FieldType) (m : jm_M) (a : Nat) : List Value := (List.range ts.length).map (fun k => jm_val (ts.getD k .int) m a k)
def jm_con (k : Nat) (m : jm_M) (a : Nat) : (Nat → Int32) ⊕ (Nat → Int64) ⊕ (Nat → UInt32) ⊕ (Nat → UInt64) ⊕ (Nat → Option Nat) :=
  if k = 51 then .inr (.inl (m.2.2.2.1 a)) else if k < 53 then .inl (m.2.2.1 a) else .inr (.inr (.inr (.inr (m.2.2.2.2 a))))
abbrev jm_LV : Type := List (Nat × Value)
abbrev jm_K : Type := Nat → jm_LV → List Value → jm_M → Nat → Nat → Prop
/-- an instruction: its place, itself, the next place, two numbers (a local; a branch's end; a class and a field; a method and its arguments), a constant -/
abbrev jm_e : Type := Nat × Instr × Nat × Nat × Nat × Nat × Int32 × Int64 × Nat
def jm_at : List jm_e → Nat → Option jm_e
  | [], _ => none
  | e :: r, pc => bif Nat.beq e.1 pc then some e else jm_at r pc
def jm_get : jm_LV → Nat → Option Value
  | [], _ => none
  | q :: r, k => bif Nat.beq q.1 k then some q.2 else jm_get r k
abbrev jm_put1 (lv : jm_LV) (i : Nat) (v : Value) : jm_LV := (i, v) :: lv.filter (fun q => !(q.1 == i) && !(q.1 + 1 == i && q.2.category == 2))
abbrev jm_put2 (lv : jm_LV) (i : Nat) (v : Value) : jm_LV := (i, v) :: lv.filter (fun q => !(q.1 == i) && (!(q.1 == i + 1) && !(q.1 + 1 == i && q.2.category == 2)))
end
section
/-! One instruction, in pure words: what must hold at it so that it goes on with X. -/
abbrev jm_Ct : Type := Nat → List Value → jm_M → Nat → Nat → (Option Value → jm_M → Prop) → Prop
abbrev jm_Rt : Type := Option Value → jm_M → Nat → Nat → Prop
abbrev jm_if (P : Prop) (X : jm_K) (t f : Nat) (lv : jm_LV) (st : List Value) (m : jm_M) (nc ns : Nat) : Prop := (P → X t lv st m nc ns) ∧ (¬ P → X f lv st m nc ns)
def jm_step (ft : Nat → Nat → FieldType) (sz : Nat → Nat) (cap : Nat × Nat) (Ct : jm_Ct) (Rt : jm_Rt) (S : Nat × Nat × (Nat → Int32)) (e : jm_e) (lv : jm_LV) (st : List Value) (m : jm_M) (nc ns : Nat) (X : jm_K) : Prop :=
  match e.2.1 with
  | .iconst _ => X e.2.2.1 lv (.int e.2.2.2.2.2.2.1 :: st) m nc ns
  | .bipush _ => X e.2.2.1 lv (.int e.2.2.2.2.2.2.1 :: st) m nc ns
  | .sipush _ => X e.2.2.1 lv (.int e.2.2.2.2.2.2.1 :: st) m nc ns
  | .ldc _ => X e.2.2.1 lv (.int e.2.2.2.2.2.2.1 :: st) m nc ns
  | .ldc_w _ => X e.2.2.1 lv (.int e.2.2.2.2.2.2.1 :: st) m nc ns
  | .lconst _ => X e.2.2.1 lv (.long e.2.2.2.2.2.2.2.1 :: st) m nc ns
  | .ldc2_w _ => X e.2.2.1 lv (.long e.2.2.2.2.2.2.2.1 :: st) m nc ns
  | .aconst_null => X e.2.2.1 lv (.null :: st) m nc ns
  | .iload _ => (match jm_get lv e.2.2.2.1 with | some (.int x) => X e.2.2.1 lv (.int x :: st) m nc ns | _ => False)
  | .iload_n _ => (match jm_get lv e.2.2.2.1 with | some (.int x) => X e.2.2.1 lv (.int x :: st) m nc ns | _ => False)
  | .lload _ => (match jm_get lv e.2.2.2.1 with | some (.long x) => X e.2.2.1 lv (.long x :: st) m nc ns | _ => False)
  | .lload_n _ => (match jm_get lv e.2.2.2.1 with | some (.long x) => X e.2.2.1 lv (.long x :: st) m nc ns | _ => False)
  | .aload _ => (match jm_get lv e.2.2.2.1 with | some (.ref x) => X e.2.2.1 lv (.ref x :: st) m nc ns | some .null => X e.2.2.1 lv (.null :: st) m nc ns | _ => False)
  | .aload_n _ => (match jm_get lv e.2.2.2.1 with | some (.ref x) => X e.2.2.1 lv (.ref x :: st) m nc ns | some .null => X e.2.2.1 lv (.null :: st) m nc ns | _ => False)
  | .istore _ => (match st with | .int x :: r => X e.2.2.1 (jm_put1 lv e.2.2.2.1 (.int x)) r m nc ns | _ => False)
  | .istore_n _ => (match st with | .int x :: r => X e.2.2.1 (jm_put1 lv e.2.2.2.1 (.int x)) r m nc ns | _ => False)
  | .lstore _ => (match st with | .long x :: r => X e.2.2.1 (jm_put2 lv e.2.2.2.1 (.long x)) r m nc ns | _ => False)
  | .lstore_n _ => (match st with | .long x :: r => X e.2.2.1 (jm_put2 lv e.2.2.2.1 (.long x)) r m nc ns | _ => False)
  | .astore _ => (match st with | .ref x :: r => X e.2.2.1 (jm_put1 lv e.2.2.2.1 (.ref x)) r m nc ns | .null :: r => X e.2.2.1 (jm_put1 lv e.2.2.2.1 .null) r m nc ns | _ => False)
  | .astore_n _ => (match st with | .ref x :: r => X e.2.2.1 (jm_put1 lv e.2.2.2.1 (.ref x)) r m nc ns | .null :: r => X e.2.2.1 (jm_put1 lv e.2.2.2.1 .null) r m nc ns | _ => False)
  | .iinc _ _ => (match jm_get lv e.2.2.2.1 with | some (.int x) => X e.2.2.1 (jm_put1 lv e.2.2.2.1 (.int (x + e.2.2.2.2.2.2.1))) st m nc ns | _ => False)
  | .iadd => (match st with | .int y :: .int x :: r => X e.2.2.1 lv (.int (x + y) :: r) m nc ns | _ => False)
  | .isub => (match st with | .int y :: .int x :: r => X e.2.2.1 lv (.int (x - y) :: r) m nc ns | _ => False)
  | .imul => (match st with | .int y :: .int x :: r => X e.2.2.1 lv (.int (x * y) :: r) m nc ns | _ => False)
  | .iand => (match st with | .int y :: .int x :: r => X e.2.2.1 lv (.int (x &&& y) :: r) m nc ns | _ => False)
  | .ior => (match st with | .int y :: .int x :: r => X e.2.2.1 lv (.int (x ||| y) :: r) m nc ns | _ => False)
  | .ixor => (match st with | .int y :: .int x :: r => X e.2.2.1 lv (.int (x ^^^ y) :: r) m nc ns | _ => False)
  | .ishl => (match st with | .int y :: .int x :: r => X e.2.2.1 lv (.int (x <<< (y &&& 31)) :: r) m nc ns | _ => False)
  | .ishr => (match st with | .int y :: .int x :: r => X e.2.2.1 lv (.int (x >>> (y &&& 31)) :: r) m nc ns | _ => False)
  | .iushr => (match st with | .int y :: .int x :: r => X e.2.2.1 lv (.int ((x.toUInt32 >>> (y.toUInt32 &&& Int32.toUInt32 31)).toInt32) :: r) m nc ns | _ => False)
  | .idiv => (match st with | .int y :: .int x :: r => ¬ y = 0 ∧ X e.2.2.1 lv (.int (x / y) :: r) m nc ns | _ => False)
  | .irem => (match st with | .int y :: .int x :: r => ¬ y = 0 ∧ X e.2.2.1 lv (.int (x - x / y * y) :: r) m nc ns | _ => False)
  | .ineg => (match st with | .int x :: r => X e.2.2.1 lv (.int (-x) :: r) m nc ns | _ => False)
  | .ladd => (match st with | .long y :: .long x :: r => X e.2.2.1 lv (.long (x + y) :: r) m nc ns | _ => False)
  | .lsub => (match st with | .long y :: .long x :: r => X e.2.2.1 lv (.long (x - y) :: r) m nc ns | _ => False)
  | .lmul => (match st with | .long y :: .long x :: r => X e.2.2.1 lv (.long (x * y) :: r) m nc ns | _ => False)
  | .land => (match st with | .long y :: .long x :: r => X e.2.2.1 lv (.long (x &&& y) :: r) m nc ns | _ => False)
  | .lor => (match st with | .long y :: .long x :: r => X e.2.2.1 lv (.long (x ||| y) :: r) m nc ns | _ => False)
  | .lxor => (match st with | .long y :: .long x :: r => X e.2.2.1 lv (.long (x ^^^ y) :: r) m nc ns | _ => False)
  | .ldiv => (match st with | .long y :: .long x :: r => ¬ y = 0 ∧ X e.2.2.1 lv (.long (x / y) :: r) m nc ns | _ => False)
  | .lrem => (match st with | .long y :: .long x :: r => ¬ y = 0 ∧ X e.2.2.1 lv (.long (x - x / y * y) :: r) m nc ns | _ => False)
  | .lneg => (match st with | .long x :: r => X e.2.2.1 lv (.long (-x) :: r) m nc ns | _ => False)
  | .lshl => (match st with | .int y :: .long x :: r => X e.2.2.1 lv (.long (x <<< (y.toInt64 &&& 63)) :: r) m nc ns | _ => False)
  | .lshr => (match st with | .int y :: .long x :: r => X e.2.2.1 lv (.long (x >>> (y.toInt64 &&& 63)) :: r) m nc ns | _ => False)
  | .lushr => (match st with | .int y :: .long x :: r => X e.2.2.1 lv (.long ((x.toUInt64 >>> (y.toInt64.toUInt64 &&& Int64.toUInt64 63)).toInt64) :: r) m nc ns | _ => False)
  | .i2l => (match st with | .int x :: r => X e.2.2.1 lv (.long x.toInt64 :: r) m nc ns | _ => False)
  | .l2i => (match st with | .long x :: r => X e.2.2.1 lv (.int x.toInt32 :: r) m nc ns | _ => False)
  | .lcmp => (match st with | .long y :: .long x :: r => X e.2.2.1 lv (.int (lg_cmp x y) :: r) m nc ns | _ => False)
  | .dup => (match st with | v :: r => v.category = 1 ∧ X e.2.2.1 lv (v :: v :: r) m nc ns | _ => False)
  | .pop => (match st with | v :: r => v.category = 1 ∧ X e.2.2.1 lv r m nc ns | _ => False)
  | .dup_x1 => (match st with | v :: u :: r => v.category = 1 ∧ u.category = 1 ∧ X e.2.2.1 lv (v :: u :: v :: r) m nc ns | _ => False)
  | .dup_x2 => (match st with | v :: u :: z :: r => v.category = 1 ∧ u.category = 1 ∧ z.category = 1 ∧ X e.2.2.1 lv (v :: u :: z :: v :: r) m nc ns | _ => False)
  | .dup2 => (match st with | .long x :: r => X e.2.2.1 lv (.long x :: .long x :: r) m nc ns | v :: u :: r => v.category = 1 ∧ u.category = 1 ∧ X e.2.2.1 lv (v :: u :: v :: u :: r) m nc ns | _ => False)
  | .pop2 => (match st with | .long _ :: r => X e.2.2.1 lv r m nc ns | v :: u :: r => v.category = 1 ∧ u.category = 1 ∧ X e.2.2.1 lv r m nc ns | _ => False)
  | .goto _ => X e.2.2.2.1 lv st m nc ns
  | .ifCond .eq _ => (match st with | .int x :: r => jm_if (x = 0) X e.2.2.2.1 e.2.2.1 lv r m nc ns | _ => False)
  | .ifCond .ne _ => (match st with | .int x :: r => jm_if (x = 0) X e.2.2.1 e.2.2.2.1 lv r m nc ns | _ => False)
  | .ifCond .lt _ => (match st with | .int x :: r => jm_if (x < 0) X e.2.2.2.1 e.2.2.1 lv r m nc ns | _ => False)
  | .ifCond .ge _ => (match st with | .int x :: r => jm_if (0 ≤ x) X e.2.2.2.1 e.2.2.1 lv r m nc ns | _ => False)
  | .ifCond .gt _ => (match st with | .int x :: r => jm_if (0 < x) X e.2.2.2.1 e.2.2.1 lv r m nc ns | _ => False)
  | .ifCond .le _ => (match st with | .int x :: r => jm_if (x ≤ 0) X e.2.2.2.1 e.2.2.1 lv r m nc ns | _ => False)
  | .if_icmp .eq _ => (match st with | .int y :: .int x :: r => jm_if (x = y) X e.2.2.2.1 e.2.2.1 lv r m nc ns | _ => False)
  | .if_icmp .ne _ => (match st with | .int y :: .int x :: r => jm_if (x = y) X e.2.2.1 e.2.2.2.1 lv r m nc ns | _ => False)
  | .if_icmp .lt _ => (match st with | .int y :: .int x :: r => jm_if (x < y) X e.2.2.2.1 e.2.2.1 lv r m nc ns | _ => False)
  | .if_icmp .ge _ => (match st with | .int y :: .int x :: r => jm_if (y ≤ x) X e.2.2.2.1 e.2.2.1 lv r m nc ns | _ => False)
  | .if_icmp .gt _ => (match st with | .int y :: .int x :: r => jm_if (y < x) X e.2.2.2.1 e.2.2.1 lv r m nc ns | _ => False)
  | .if_icmp .le _ => (match st with | .int y :: .int x :: r => jm_if (x ≤ y) X e.2.2.2.1 e.2.2.1 lv r m nc ns | _ => False)
  | .ifnull _ => (match st with | .ref _ :: r => X e.2.2.1 lv r m nc ns | .null :: r => X e.2.2.2.1 lv r m nc ns | _ => False)
  | .ifnonnull _ => (match st with | .ref _ :: r => X e.2.2.2.1 lv r m nc ns | .null :: r => X e.2.2.1 lv r m nc ns | _ => False)
  | .tableswitch d lo hi offs => (match st with | .int x :: r => ∃ tgt : Nat, (((x.toInt < lo ∨ hi < x.toInt) ∧ (e.1 : Int) + d = (tgt : Int)) ∨ (¬ x.toInt < lo ∧ ¬ hi < x.toInt ∧ ∃ off : Int, offs[(x.toInt - lo).toNat]? = some off ∧ (e.1 : Int) + off = (tgt : Int))) ∧ X tgt lv r m nc ns | _ => False)
  | .getfield _ => (match st with | .ref a :: r => jm_ok m a e.2.2.2.1 ∧ (match ft e.2.2.2.1 e.2.2.2.2.1 with | .long => X e.2.2.1 lv (.long (m.2.2.2.1 a e.2.2.2.2.1) :: r) m nc ns | .object _ => ∃ z : Option Nat, m.2.2.2.2 a e.2.2.2.2.1 = z ∧ X e.2.2.1 lv (va_rf z :: r) m nc ns | .array _ => ∃ z : Option Nat, m.2.2.2.2 a e.2.2.2.2.1 = z ∧ X e.2.2.1 lv (va_rf z :: r) m nc ns | .int => X e.2.2.1 lv (.int (m.2.2.1 a e.2.2.2.2.1) :: r) m nc ns | .boolean => X e.2.2.1 lv (.int (m.2.2.1 a e.2.2.2.2.1) :: r) m nc ns | _ => False) | _ => False)
  | .putfield _ => (match ft e.2.2.2.1 e.2.2.2.2.1 with | .long => (match st with | .long x :: .ref a :: r => jm_ok m a e.2.2.2.1 ∧ X e.2.2.1 lv r (uJ m a e.2.2.2.2.1 x) nc ns | _ => False) | .object _ => (match st with | .ref x :: .ref a :: r => jm_ok m a e.2.2.2.1 ∧ X e.2.2.1 lv r (uR m a e.2.2.2.2.1 (some x)) nc ns | .null :: .ref a :: r => jm_ok m a e.2.2.2.1 ∧ X e.2.2.1 lv r (uR m a e.2.2.2.2.1 none) nc ns | _ => False) | .array _ => (match st with | .ref x :: .ref a :: r => jm_ok m a e.2.2.2.1 ∧ X e.2.2.1 lv r (uR m a e.2.2.2.2.1 (some x)) nc ns | .null :: .ref a :: r => jm_ok m a e.2.2.2.1 ∧ X e.2.2.1 lv r (uR m a e.2.2.2.2.1 none) nc ns | _ => False) | .int => (match st with | .int x :: .ref a :: r => jm_ok m a e.2.2.2.1 ∧ X e.2.2.1 lv r (uI m a e.2.2.2.2.1 x) nc ns | _ => False) | .boolean => (match st with | .int x :: .ref a :: r => jm_ok m a e.2.2.2.1 ∧ (x = 0 ∨ x = 1) ∧ X e.2.2.1 lv r (uI m a e.2.2.2.2.1 x) nc ns | _ => False) | _ => False)
  | .iaload => (match st with | .int i :: .ref a :: r => (bif Nat.beq e.2.2.2.1 1 then a = S.1 ∧ vp_in i S.2.1 ∧ X e.2.2.1 lv (.int (S.2.2 i.toNatClampNeg) :: r) m nc ns else jm_ok m a 50 ∧ vp_in i (m.2.1 a).2 ∧ X e.2.2.1 lv (.int (m.2.2.1 a i.toNatClampNeg) :: r) m nc ns) | _ => False)
  | .laload => (match st with | .int i :: .ref a :: r => jm_ok m a 51 ∧ vp_in i (m.2.1 a).2 ∧ X e.2.2.1 lv (.long (m.2.2.2.1 a i.toNatClampNeg) :: r) m nc ns | _ => False)
  | .baload => (match st with | .int i :: .ref a :: r => jm_ok m a 52 ∧ vp_in i (m.2.1 a).2 ∧ X e.2.2.1 lv (.int (m.2.2.1 a i.toNatClampNeg) :: r) m nc ns | _ => False)
  | .aaload => (match st with | .int i :: .ref a :: r => jm_ok m a e.2.2.2.1 ∧ vp_in i (m.2.1 a).2 ∧ ∃ z : Option Nat, m.2.2.2.2 a i.toNatClampNeg = z ∧ X e.2.2.1 lv (va_rf z :: r) m nc ns | _ => False)
  | .iastore => (match st with | .int x :: .int i :: .ref a :: r => jm_ok m a 50 ∧ vp_in i (m.2.1 a).2 ∧ X e.2.2.1 lv r (uI m a i.toNatClampNeg x) nc ns | _ => False)
  | .lastore => (match st with | .long x :: .int i :: .ref a :: r => jm_ok m a 51 ∧ vp_in i (m.2.1 a).2 ∧ X e.2.2.1 lv r (uJ m a i.toNatClampNeg x) nc ns | _ => False)
  | .bastore => (match st with | .int x :: .int i :: .ref a :: r => jm_ok m a 52 ∧ vp_in i (m.2.1 a).2 ∧ (x = 0 ∨ x = 1) ∧ X e.2.2.1 lv r (uI m a i.toNatClampNeg x) nc ns | _ => False)
  | .aastore => (match st with | .ref x :: .int i :: .ref a :: r => jm_ok m a e.2.2.2.1 ∧ vp_in i (m.2.1 a).2 ∧ jm_ok m x e.2.2.2.2.1 ∧ X e.2.2.1 lv r (uR m a i.toNatClampNeg (some x)) nc ns | _ => False)
  | .arraylength => (match st with | .ref a :: r => (bif Nat.beq e.2.2.2.1 1 then a = S.1 ∧ X e.2.2.1 lv (.int (Int32.ofNat S.2.1) :: r) m nc ns else a ∈ m.1 ∧ 50 ≤ (m.2.1 a).1 ∧ (m.2.1 a).1 ≤ 54 ∧ X e.2.2.1 lv (.int (Int32.ofNat (m.2.1 a).2) :: r) m nc ns) | _ => False)
  | .new _ => nc + 1 ≤ cap.1 ∧ ns + sz e.2.2.2.1 ≤ cap.2 ∧ ∀ q : Nat, q ∉ m.1 → X e.2.2.1 lv (.ref q :: st) (aN m q e.2.2.2.1 0) (nc + 1) (ns + sz e.2.2.2.1)
  | .newarray _ => (match st with | .int i :: r => ¬ i < 0 ∧ i.toNatClampNeg ≤ 1000000 ∧ nc + 1 ≤ cap.1 ∧ ns + i.toNatClampNeg ≤ cap.2 ∧ ∀ q : Nat, q ∉ m.1 → X e.2.2.1 lv (.ref q :: r) (aN m q e.2.2.2.1 i.toNatClampNeg) (nc + 1) (ns + i.toNatClampNeg) | _ => False)
  | .anewarray _ => (match st with | .int i :: r => ¬ i < 0 ∧ i.toNatClampNeg ≤ 1000000 ∧ nc + 1 ≤ cap.1 ∧ ns + i.toNatClampNeg ≤ cap.2 ∧ ∀ q : Nat, q ∉ m.1 → X e.2.2.1 lv (.ref q :: r) (aN m q e.2.2.2.1 i.toNatClampNeg) (nc + 1) (ns + i.toNatClampNeg) | _ => False)
  | .invokevirtual _ => (match (st.take e.2.2.2.2.1).reverse with | .ref o :: _ => jm_ok m o e.2.2.2.2.2.1 | _ => False) ∧ ((st.drop e.2.2.2.2.1).map fun v => v.category).sum ≤ 8 ∧ e.2.2.2.2.1 ≤ st.length ∧ ∃ (a b : Nat) (Q : Option Value → jm_M → Prop), nc + a ≤ cap.1 ∧ ns + b ≤ cap.2 ∧ Ct e.2.2.2.1 (st.take e.2.2.2.2.1).reverse m a b Q ∧ ∀ v m', Q v m' → X e.2.2.1 lv (v.toList ++ st.drop e.2.2.2.2.1) m' (nc + a) (ns + b)
  | .invokespecial _ => (bif Nat.beq e.2.2.2.1 999 then (match st with | .ref _ :: r => (r.map fun v => v.category).sum ≤ 8 ∧ X e.2.2.1 lv r m nc ns | _ => False) else (match (st.take e.2.2.2.2.1).reverse with | .ref _ :: _ => True | _ => False) ∧ ((st.drop e.2.2.2.2.1).map fun v => v.category).sum ≤ 8 ∧ e.2.2.2.2.1 ≤ st.length ∧ ∃ (a b : Nat) (Q : Option Value → jm_M → Prop), nc + a ≤ cap.1 ∧ ns + b ≤ cap.2 ∧ Ct e.2.2.2.1 (st.take e.2.2.2.2.1).reverse m a b Q ∧ ∀ v m', Q v m' → X e.2.2.1 lv (v.toList ++ st.drop e.2.2.2.2.1) m' (nc + a) (ns + b))
  | .invokestatic _ => (bif Nat.blt e.2.2.2.1 900 then ((st.drop e.2.2.2.2.1).map fun v => v.category).sum ≤ 8 ∧ e.2.2.2.2.1 ≤ st.length ∧ ∃ (a b : Nat) (Q : Option Value → jm_M → Prop), nc + a ≤ cap.1 ∧ ns + b ≤ cap.2 ∧ Ct e.2.2.2.1 (st.take e.2.2.2.2.1).reverse m a b Q ∧ ∀ v m', Q v m' → X e.2.2.1 lv (v.toList ++ st.drop e.2.2.2.2.1) m' (nc + a) (ns + b) else bif Nat.beq e.2.2.2.1 900 then (match st with | .int y :: .int x :: r => (r.map fun v => v.category).sum ≤ 8 ∧ nc ≤ cap.1 ∧ ns ≤ cap.2 ∧ X e.2.2.1 lv (.int (if x < y then y else x) :: r) m nc ns | _ => False) else bif Nat.beq e.2.2.2.1 901 then (match st with | .int y :: .int x :: r => (r.map fun v => v.category).sum ≤ 8 ∧ nc ≤ cap.1 ∧ ns ≤ cap.2 ∧ X e.2.2.1 lv (.int (if y < x then y else x) :: r) m nc ns | _ => False) else bif Nat.beq e.2.2.2.1 903 then (match st with | .long y :: .long x :: r => (r.map fun v => v.category).sum ≤ 8 ∧ nc ≤ cap.1 ∧ ns ≤ cap.2 ∧ X e.2.2.1 lv (.long (if y < x then y else x) :: r) m nc ns | _ => False) else bif Nat.beq e.2.2.2.1 904 then (match st with | .int n :: .int dp :: .ref a :: .int sp :: .ref a0 :: r => jm_ok m a0 50 ∧ jm_ok m a 50 ∧ ¬ sp < 0 ∧ ¬ dp < 0 ∧ ¬ n < 0 ∧ sp.toNatClampNeg + n.toNatClampNeg ≤ (m.2.1 a0).2 ∧ dp.toNatClampNeg + n.toNatClampNeg ≤ (m.2.1 a).2 ∧ (r.map fun v => v.category).sum ≤ 8 ∧ X e.2.2.1 lv r (uA m a (va_cpy (m.2.2.1 a0) (m.2.2.1 a) sp.toNatClampNeg dp.toNatClampNeg n.toNatClampNeg)) nc ns | _ => False) else False)
  | .ireturn => (match st with | [.int x] => Rt (some (.int x)) m nc ns | _ => False)
  | .lreturn => (match st with | [.long x] => Rt (some (.long x)) m nc ns | _ => False)
  | .areturn => (match st with | [.ref x] => Rt (some (.ref x)) m nc ns | _ => False)
  | .return_ => (match st with | [] => Rt none m nc ns | _ => False)
  | _ => False
end
section
/-! The kit's world out of the pure memory. -/
theorem jm_fs_get (ts : List FieldType) (m : jm_M) (a : Nat) {k : Nat} (h : k < ts.length) : (jm_fs ts m a)[k]? = some (jm_val (ts.getD k .int) m a k) := by
  unfold jm_fs
  simp [h]
theorem jm_fs_len (ts : List FieldType) (m : jm_M) (a : Nat) : (jm_fs ts m a).length = ts.length := by simp [jm_fs]
theorem jm_fs_set {ts : List FieldType} {m m' : jm_M} {a j : Nat} {v : Value} (h1 : jm_val (ts.getD j .int) m' a j = v) (h2 : ∀ k, k ≠ j → jm_val (ts.getD k .int) m' a k = jm_val (ts.getD k .int) m a k) : (jm_fs ts m a).set j v = jm_fs ts m' a := by
  apply List.ext_getElem?
  intro k
  by_cases hk : k = j
  · subst hk
    by_cases hl : k < ts.length
    · rw [List.getElem?_set_self (by rw [jm_fs_len]; exact hl), jm_fs_get ts m' a hl, h1]
    · rw [List.getElem?_eq_none (by rw [List.length_set, jm_fs_len]; omega), List.getElem?_eq_none (by rw [jm_fs_len]; omega)]
  · rw [List.getElem?_set_ne (Ne.symm hk)]
    by_cases hl : k < ts.length
    · rw [jm_fs_get ts m a hl, jm_fs_get ts m' a hl, h2 k hk]
    · rw [List.getElem?_eq_none (by rw [jm_fs_len]; omega), List.getElem?_eq_none (by rw [jm_fs_len]; omega)]
theorem jm_fs_congr {ts : List FieldType} {m m' : jm_M} {a : Nat} (h : ∀ k, jm_val (ts.getD k .int) m' a k = jm_val (ts.getD k .int) m a k) : jm_fs ts m' a = jm_fs ts m a := by
  unfold jm_fs
  exact List.map_congr_left fun k _ => h k
def jm_cell (FT : Nat → List FieldType) (ca : Nat → ClassId) (m : jm_M) (a : Nat) : va_E :=
  if (m.2.1 a).1 < 50 then .inr ((m.2.1 a).1, jm_fs (FT (m.2.1 a).1) m a) else .inl (ca (m.2.1 a).1, (m.2.1 a).2, jm_con (m.2.1 a).1 m a)
def jm_w (FT : Nat → List FieldType) (ca : Nat → ClassId) (m : jm_M) : va_W := va_pl m.1 (jm_cell FT ca m)
theorem jm_w_get {FT : Nat → List FieldType} {ca : Nat → ClassId} {m : jm_M} {a : Nat} (h : a ∈ m.1) : ∃ k : Nat, (jm_w FT ca m)[k]? = some (a, jm_cell FT ca m a) := va_pl_get (X := []) h
theorem jm_cell_o {FT : Nat → List FieldType} {ca : Nat → ClassId} {m : jm_M} {a k : Nat} (h : (m.2.1 a).1 = k) (hk : k < 50) : jm_cell FT ca m a = .inr (k, jm_fs (FT k) m a) := by
  unfold jm_cell
  rw [h, if_pos hk]
theorem jm_cell_a {FT : Nat → List FieldType} {ca : Nat → ClassId} {m : jm_M} {a k : Nat} (h : (m.2.1 a).1 = k) (hk : 50 ≤ k) : jm_cell FT ca m a = .inl (ca k, (m.2.1 a).2, jm_con k m a) := by
  unfold jm_cell
  rw [h, if_neg (by omega)]
theorem jm_w_set {FT : Nat → List FieldType} {ca : Nat → ClassId} {A : Nat → Prop} {m m' : jm_M} {a k : Nat} {e : va_E} (hD : va_D A (jm_w FT ca m)) (h : a ∈ m.1) (hk : (jm_w FT ca m)[k]? = some (a, jm_cell FT ca m a)) (hL : m'.1 = m.1) (hT : m'.2.1 = m.2.1)
    (he : jm_cell FT ca m' a = e) (ho : ∀ b, b ≠ a → jm_cell FT ca m' b = jm_cell FT ca m b) : (jm_w FT ca m).set k (a, e) = jm_w FT ca m' := by
  have h1 := va_pl_set (X := []) (f := jm_cell FT ca m) (e := e) hD h hk
  simp only [List.nil_append] at h1
  show (va_pl m.1 (jm_cell FT ca m)).set k (a, e) = va_pl m'.1 (jm_cell FT ca m')
  rw [h1, hL]
  refine va_pl_congr fun b => ?_
  by_cases hb : b = a
  · subst hb
    rw [va_up_self, he]
  · rw [va_up_ne _ _ hb, ho b hb]
theorem jm_cell_uA {FT : Nat → List FieldType} {ca : Nat → ClassId} {m : jm_M} {a b : Nat} {g : Nat → Int32} (h : b ≠ a) : jm_cell FT ca (uA m a g) b = jm_cell FT ca m b := by
  unfold jm_cell jm_fs jm_con jm_val
  simp only [uA, va_up_ne _ _ h]
  try rfl
theorem jm_cell_uJA {FT : Nat → List FieldType} {ca : Nat → ClassId} {m : jm_M} {a b : Nat} {g : Nat → Int64} (h : b ≠ a) : jm_cell FT ca (uJA m a g) b = jm_cell FT ca m b := by
  unfold jm_cell jm_fs jm_con jm_val
  simp only [uJA, va_up_ne _ _ h]
  try rfl
theorem jm_cell_uRA {FT : Nat → List FieldType} {ca : Nat → ClassId} {m : jm_M} {a b : Nat} {g : Nat → Option Nat} (h : b ≠ a) : jm_cell FT ca (uRA m a g) b = jm_cell FT ca m b := by
  unfold jm_cell jm_fs jm_con jm_val
  simp only [uRA, va_up_ne _ _ h]
  try rfl
/-- a new thing -/
theorem jm_w_new {FT : Nat → List FieldType} {ca : Nat → ClassId} {m : jm_M} {q k n : Nat} (h : q ∉ m.1) : jm_w FT ca m ++ [(q, jm_cell FT ca (aN m q k n) q)] = jm_w FT ca (aN m q k n) := by
  have h1 := va_pl_push (f := jm_cell FT ca m) (e := jm_cell FT ca (aN m q k n) q) h
  show va_pl m.1 (jm_cell FT ca m) ++ _ = va_pl (m.1 ++ [q]) (jm_cell FT ca (aN m q k n))
  rw [h1]
  refine va_pl_congr fun b => ?_
  by_cases hb : b = q
  · subst hb
    rw [va_up_self]
  · rw [va_up_ne _ _ hb]
    unfold jm_cell jm_fs jm_con jm_val
    simp only [aN, va_up_ne _ _ hb]
theorem jm_lv_at {ls : Array Slot} {nL : Nat} : ∀ {lv : jm_LV} {k : Nat} {v : Value}, lv_has ls nL lv → jm_get lv k = some v → ls[k]? = some (.val v)
  | [], _, _, _, h => by cases h
  | q :: r, k, v, hl, h => by
    unfold jm_get at h
    cases hb : Nat.beq q.1 k with
    | true =>
      rw [hb] at h
      have e1 : q.1 = k := Nat.eq_of_beq_eq_true hb
      have e2 : q.2 = v := Option.some.inj h
      have := hl.2.2 q List.mem_cons_self
      rw [e1, e2] at this
      exact this
    | false =>
      rw [hb] at h
      exact jm_lv_at (lv := r) ⟨hl.1, hl.2.1, fun z hz => hl.2.2 z (List.mem_cons_of_mem _ hz)⟩ h
theorem jm_at_mem : ∀ {cd : List jm_e} {pc : Nat} {e : jm_e}, jm_at cd pc = some e → e ∈ cd ∧ e.1 = pc
  | [], _, _, h => by cases h
  | q :: r, pc, e, h => by
    unfold jm_at at h
    cases hb : Nat.beq q.1 pc with
    | true =>
      rw [hb] at h
      have : q = e := Option.some.inj h
      subst this
      exact ⟨List.mem_cons_self, Nat.eq_of_beq_eq_true hb⟩
    | false =>
      rw [hb] at h
      have := jm_at_mem (cd := r) h
      exact ⟨List.mem_cons_of_mem _ this.1, this.2⟩
end
section
/-! A program that looks an instruction of a method over: it is the one that the code has, what it links is in the tables, it fits the room. -/
def jm_dec (cc : ByteArray) (e : jm_e) (n : Nat) : Bool := decide (decode cc e.1 = .ok (e.2.1, n)) && decide (e.2.2.1 = e.1 + n)
def jm_isN : Cond → Bool
  | .methodLinkNest .. => true
  | _ => false
def jm_nest : List Cond := lw_tbl.filter jm_isN
def jm_nw (q : Cond) (i : Nat) : Bool := decide (lw_tbl[i]? = some q) && jm_isN q
theorem jm_nw_in {q : Cond} {i : Nat} (h : jm_nw q i = true) : q ∈ jm_nest := by
  simp only [jm_nw, Bool.and_eq_true, decide_eq_true_eq] at h
  exact List.mem_filter.mpr ⟨List.mem_of_getElem? h.1, h.2⟩
/-- a call: what it links (k: 0 of an object, 1 a constructor, 2 static), its arguments, the room below it -/
def jm_call (own : String) (fr lo k i : Nat) (e : jm_e) : Bool :=
  decide (e.2.2.2.1 < jm_mtL.length) && decide ((jm_mt e.2.2.2.1).2.2.2.2.1 + 1 ≤ fr) && decide (8 + ((jm_mt e.2.2.2.1).2.2.1 + 11) + (jm_mt e.2.2.2.1).2.2.2.2.2 ≤ lo) && (jm_wd (.methodLink own i (jm_mt e.2.2.2.1).1) e.2.2.2.2.2.2.2.2 || jm_nw (.methodLinkNest own i (jm_mt e.2.2.2.1).1 "ShareSolve") e.2.2.2.2.2.2.2.2) && (match k with | 0 => decide ((jm_st e.2.2.2.1).1 = false) && decide ((jm_mt e.2.2.2.1).1.name ≠ "<init>") && decide ((jm_cl[e.2.2.2.2.2.1]?).map (fun q => q.1) = some (jm_mt e.2.2.2.1).1.cls) && decide ((parseMethodDescriptor (jm_mt e.2.2.2.1).1.desc).map (fun d => d.parameters.length + 1) = some e.2.2.2.2.1) | 1 => decide ((jm_st e.2.2.2.1).1 = false) && decide ((jm_mt e.2.2.2.1).1.name = "<init>") && decide ((jm_mt e.2.2.2.1).2.2.2.1 = none) && decide ((parseMethodDescriptor (jm_mt e.2.2.2.1).1.desc).map (fun d => d.parameters.length + 1) = some e.2.2.2.2.1) | _ => decide ((jm_st e.2.2.2.1).1 = true) && decide ((parseMethodDescriptor (jm_mt e.2.2.2.1).1.desc).map (fun d => d.parameters.length) = some e.2.2.2.2.1))
def jm_okE (own : String) (cc : ByteArray) (nL fr lo : Nat) (law ini : Bool) (ret : Option FieldType) (e : jm_e) : Bool :=
  match e.2.1 with
  | .iconst n => jm_dec cc e 1 && decide (Int32.ofInt n = e.2.2.2.2.2.2.1)
  | .bipush n => jm_dec cc e 2 && decide ((Int8.ofInt n).toInt32 = e.2.2.2.2.2.2.1)
  | .sipush n => jm_dec cc e 3 && decide ((Int16.ofInt n).toInt32 = e.2.2.2.2.2.2.1)
  | .lconst n => jm_dec cc e 1 && decide (Int64.ofNat (n : Nat) = e.2.2.2.2.2.2.2.1)
  | .ldc i => jm_dec cc e 2 && jm_wd (.constant own i e.2.2.2.2.2.2.1) e.2.2.2.2.2.2.2.2
  | .ldc_w i => jm_dec cc e 3 && jm_wd (.constant own i e.2.2.2.2.2.2.1) e.2.2.2.2.2.2.2.2
  | .ldc2_w i => jm_dec cc e 3 && jm_wd (.constantLong own i e.2.2.2.2.2.2.2.1) e.2.2.2.2.2.2.2.2
  | .iload i => jm_dec cc e 2 && decide (i = e.2.2.2.1)
  | .iload_n k => jm_dec cc e 1 && decide ((k : Nat) = e.2.2.2.1)
  | .istore i => jm_dec cc e 2 && decide (i = e.2.2.2.1) && decide (e.2.2.2.1 < nL)
  | .istore_n k => jm_dec cc e 1 && decide ((k : Nat) = e.2.2.2.1) && decide (e.2.2.2.1 < nL)
  | .lload i => jm_dec cc e 2 && decide (i = e.2.2.2.1)
  | .lload_n k => jm_dec cc e 1 && decide ((k : Nat) = e.2.2.2.1)
  | .lstore i => jm_dec cc e 2 && decide (i = e.2.2.2.1) && decide (e.2.2.2.1 + 1 < nL)
  | .lstore_n k => jm_dec cc e 1 && decide ((k : Nat) = e.2.2.2.1) && decide (e.2.2.2.1 + 1 < nL)
  | .aload i => jm_dec cc e 2 && decide (i = e.2.2.2.1)
  | .aload_n k => jm_dec cc e 1 && decide ((k : Nat) = e.2.2.2.1)
  | .astore i => jm_dec cc e 2 && decide (i = e.2.2.2.1) && decide (e.2.2.2.1 < nL)
  | .astore_n k => jm_dec cc e 1 && decide ((k : Nat) = e.2.2.2.1) && decide (e.2.2.2.1 < nL)
  | .iinc i n => jm_dec cc e 3 && decide (i = e.2.2.2.1) && decide (e.2.2.2.1 < nL) && decide (Int32.ofInt n = e.2.2.2.2.2.2.1)
  | .aconst_null => jm_dec cc e 1
  | .iadd => jm_dec cc e 1
  | .isub => jm_dec cc e 1
  | .imul => jm_dec cc e 1
  | .iand => jm_dec cc e 1
  | .ior => jm_dec cc e 1
  | .ixor => jm_dec cc e 1
  | .ishl => jm_dec cc e 1
  | .ishr => jm_dec cc e 1
  | .iushr => jm_dec cc e 1
  | .idiv => jm_dec cc e 1
  | .irem => jm_dec cc e 1
  | .ineg => jm_dec cc e 1
  | .ladd => jm_dec cc e 1
  | .lsub => jm_dec cc e 1
  | .lmul => jm_dec cc e 1
  | .land => jm_dec cc e 1
  | .lor => jm_dec cc e 1
  | .lxor => jm_dec cc e 1
  | .ldiv => jm_dec cc e 1
  | .lrem => jm_dec cc e 1
  | .lneg => jm_dec cc e 1
  | .lshl => jm_dec cc e 1
  | .lshr => jm_dec cc e 1
  | .lushr => jm_dec cc e 1
  | .i2l => jm_dec cc e 1
  | .l2i => jm_dec cc e 1
  | .lcmp => jm_dec cc e 1
  | .dup => jm_dec cc e 1
  | .pop => jm_dec cc e 1
  | .dup_x1 => jm_dec cc e 1
  | .dup_x2 => jm_dec cc e 1
  | .dup2 => jm_dec cc e 1
  | .pop2 => jm_dec cc e 1
  | .laload => jm_dec cc e 1
  | .baload => jm_dec cc e 1
  | .iastore => jm_dec cc e 1
  | .lastore => jm_dec cc e 1
  | .bastore => jm_dec cc e 1
  | .goto off => jm_dec cc e 3 && decide ((e.1 : Int) + off = ((e.2.2.2.1 : Nat) : Int))
  | .ifCond _ off => jm_dec cc e 3 && decide ((e.1 : Int) + off = ((e.2.2.2.1 : Nat) : Int))
  | .if_icmp _ off => jm_dec cc e 3 && decide ((e.1 : Int) + off = ((e.2.2.2.1 : Nat) : Int))
  | .ifnull off => jm_dec cc e 3 && decide ((e.1 : Int) + off = ((e.2.2.2.1 : Nat) : Int))
  | .ifnonnull off => jm_dec cc e 3 && decide ((e.1 : Int) + off = ((e.2.2.2.1 : Nat) : Int))
  | .tableswitch _ _ _ _ => jm_dec cc e (e.2.2.1 - e.1)
  | .getfield i => jm_dec cc e 3 && (match jm_cl[e.2.2.2.1]? with | some q => decide (e.2.2.2.2.1 < q.2.2) && jm_wd (.fieldLink own i q.1 (q.2.1 e.2.2.2.2.1).2.1 (q.2.1 e.2.2.2.2.1).2.2.1) e.2.2.2.2.2.2.2.2 | none => false)
  | .putfield i => jm_dec cc e 3 && (match jm_cl[e.2.2.2.1]? with | some q => decide (e.2.2.2.2.1 < q.2.2) && jm_wd (.fieldLink own i q.1 (q.2.1 e.2.2.2.2.1).2.1 (q.2.1 e.2.2.2.2.1).2.2.1) e.2.2.2.2.2.2.2.2 && (decide ((q.2.1 e.2.2.2.2.1).2.2.2 = false) || (ini && decide (own = q.1))) | none => false)
  | .new i => jm_dec cc e 3 && (match jm_cl[e.2.2.2.1]? with | some q => jm_wd (.classLink own i q.1) e.2.2.2.2.2.2.2.2 | none => false)
  | .newarray t => jm_dec cc e 2 && decide (50 ≤ e.2.2.2.1) && decide (e.2.2.2.1 ≤ 52) && decide (jm_AT e.2.2.2.1 = newarray.typeOf t)
  | .anewarray i => jm_dec cc e 3 && decide (e.2.2.2.1 = 53) && jm_wd (.classLink own i "ShareSolve$Whole") e.2.2.2.2.2.2.2.2
  | .aaload => jm_dec cc e 1 && decide (e.2.2.2.1 = 53 ∨ e.2.2.2.1 = 54)
  | .aastore => jm_dec cc e 1 && decide (e.2.2.2.1 = 53) && decide (e.2.2.2.2.1 = 4)
  | .iaload => jm_dec cc e 1 && (decide (e.2.2.2.1 = 0) || law)
  | .arraylength => jm_dec cc e 1 && (decide (e.2.2.2.1 = 0) || law)
  | .invokevirtual i => jm_dec cc e 3 && jm_call own fr lo 0 i e
  | .invokespecial i => jm_dec cc e 3 && (bif Nat.beq e.2.2.2.1 999 then jm_wd (.methodLink own i objectInit) e.2.2.2.2.2.2.2.2 && decide (1 ≤ fr) && decide (20 ≤ lo) else jm_call own fr lo 1 i e)
  | .invokestatic i => jm_dec cc e 3 && (bif Nat.blt e.2.2.2.1 900 then jm_call own fr lo 2 i e else decide (1 ≤ fr) && decide (38 ≤ lo) && (bif Nat.beq e.2.2.2.1 900 then jm_wd (.methodLink own i Lib.Math.max.name) e.2.2.2.2.2.2.2.2 else bif Nat.beq e.2.2.2.1 901 then jm_wd (.methodLink own i Lib.Math.min.name) e.2.2.2.2.2.2.2.2 else bif Nat.beq e.2.2.2.1 903 then jm_wd (.methodLink own i Lib.MathLoose.min_long.x) e.2.2.2.2.2.2.2.2 else bif Nat.beq e.2.2.2.1 904 then jm_wd (.methodLink own i arraycopyName) e.2.2.2.2.2.2.2.2 else false))
  | .ireturn => jm_dec cc e 1 && decide (ret = some .int ∨ ret = some .boolean)
  | .lreturn => jm_dec cc e 1 && decide (ret = some .long)
  | .areturn => jm_dec cc e 1 && (match ret with | some (.object _) => true | some (.array _) => true | _ => false)
  | .return_ => jm_dec cc e 1 && decide (ret = none)
  | _ => false
end
section
/-! the code of ShareSolve$Whole, java/util/Arrays, java/lang/Integer, ShareSolve$Division -/
def cd_Dv_init : List jm_e := [(0, .aload_n 0, 1, 0, 0, 0, 0, 0, 0), (1, .invokespecial 3, 4, 999, 1, 0, 0, 0, 163), (4, .aload_n 0, 5, 0, 0, 0, 0, 0, 0), (5, .new 9, 8, 4, 0, 0, 0, 0, 164), (8, .dup, 9, 0, 0, 0, 0, 0, 0), (9, .invokespecial 11, 12, 48, 1, 4, 0, 0, 166), (12, .putfield 12, 15, 0, 0, 0, 0, 0, 178), (15, .aload_n 0, 16, 0, 0, 0, 0, 0, 0), (16, .new 9, 19, 4, 0, 0, 0, 0, 164), (19, .dup, 20, 0, 0, 0, 0, 0, 0), (20, .invokespecial 11, 23, 48, 1, 4, 0, 0, 166), (23, .putfield 18, 26, 0, 1, 0, 0, 0, 180), (26, .aload_n 0, 27, 0, 0, 0, 0, 0, 0), (27, .new 9, 30, 4, 0, 0, 0, 0, 164), (30, .dup, 31, 0, 0, 0, 0, 0, 0), (31, .invokespecial 11, 34, 48, 1, 4, 0, 0, 166), (34, .putfield 21, 37, 0, 2, 0, 0, 0, 181), (37, .aload_n 0, 38, 0, 0, 0, 0, 0, 0), (38, .new 9, 41, 4, 0, 0, 0, 0, 164), (41, .dup, 42, 0, 0, 0, 0, 0, 0), (42, .invokespecial 11, 45, 48, 1, 4, 0, 0, 166), (45, .putfield 24, 48, 0, 3, 0, 0, 0, 182), (48, .return_, 49, 0, 0, 0, 0, 0, 0)]
theorem ok_Dv_init : cd_Dv_init.all (jm_okE "ShareSolve$Division" prog_2_method_1_code 1 2 40 false true none) = true := by decide +kernel
def cd_Dv_divide : List jm_e := [(0, .aload_n 0, 1, 0, 0, 0, 0, 0, 0), (1, .getfield 12, 4, 0, 0, 0, 0, 0, 178), (4, .lconst 0, 5, 0, 0, 0, 0, 0, 0), (5, .invokevirtual 31, 8, 49, 2, 4, 0, 0, 484), (8, .aload_n 0, 9, 0, 0, 0, 0, 0, 0), (9, .getfield 18, 12, 0, 1, 0, 0, 0, 180), (12, .aload_n 1, 13, 1, 0, 0, 0, 0, 0), (13, .invokevirtual 49, 16, 56, 2, 4, 0, 0, 485), (16, .aload_n 2, 17, 2, 0, 0, 0, 0, 0), (17, .invokevirtual 59, 20, 57, 1, 4, 0, 0, 492), (20, .istore_n 3, 21, 3, 0, 0, 0, 0, 0), (21, .iload_n 3, 22, 3, 0, 0, 0, 0, 0), (22, .ifCond .ne 4, 25, 26, 0, 0, 0, 0, 0), (25, .return_, 26, 0, 0, 0, 0, 0, 0), (26, .iload_n 3, 27, 3, 0, 0, 0, 0, 0), (27, .invokestatic 63, 30, 153, 1, 0, 0, 0, 496), (30, .iconst 2, 31, 0, 0, 0, 2, 0, 0), (31, .isub, 32, 0, 0, 0, 0, 0, 0), (32, .istore 4, 34, 4, 0, 0, 0, 0, 0), (34, .aload_n 0, 35, 0, 0, 0, 0, 0, 0), (35, .getfield 21, 38, 0, 2, 0, 0, 0, 181), (38, .aload_n 2, 39, 2, 0, 0, 0, 0, 0), (39, .invokevirtual 49, 42, 56, 2, 4, 0, 0, 485), (42, .aload_n 0, 43, 0, 0, 0, 0, 0, 0), (43, .getfield 21, 46, 0, 2, 0, 0, 0, 181), (46, .iload 4, 48, 4, 0, 0, 0, 0, 0), (48, .invokevirtual 69, 51, 58, 2, 4, 0, 0, 500), (51, .aload_n 0, 52, 0, 0, 0, 0, 0, 0), (52, .getfield 18, 55, 0, 1, 0, 0, 0, 180), (55, .iload 4, 57, 4, 0, 0, 0, 0, 0), (57, .invokevirtual 69, 60, 58, 2, 4, 0, 0, 500), (60, .aload_n 0, 61, 0, 0, 0, 0, 0, 0), (61, .getfield 18, 64, 0, 1, 0, 0, 0, 180), (64, .getfield 73, 67, 4, 1, 0, 0, 0, 172), (67, .aload_n 0, 68, 0, 0, 0, 0, 0, 0), (68, .getfield 21, 71, 0, 2, 0, 0, 0, 181), (71, .getfield 73, 74, 4, 1, 0, 0, 0, 172), (74, .isub, 75, 0, 0, 0, 0, 0, 0), (75, .istore 5, 77, 5, 0, 0, 0, 0, 0), (77, .iload 5, 79, 5, 0, 0, 0, 0, 0), (79, .ifCond .lt 24, 82, 103, 0, 0, 0, 0, 0), (82, .aload_n 0, 83, 0, 0, 0, 0, 0, 0), (83, .getfield 12, 86, 0, 0, 0, 0, 0, 178), (86, .iload 5, 88, 5, 0, 0, 0, 0, 0), (88, .aload_n 0, 89, 0, 0, 0, 0, 0, 0), (89, .iload 5, 91, 5, 0, 0, 0, 0, 0), (91, .invokevirtual 77, 94, 2, 2, 0, 0, 0, 504), (94, .invokevirtual 80, 97, 61, 3, 4, 0, 0, 525), (97, .iinc 5 (-1), 100, 5, 0, 0, (-1), 0, 0), (100, .goto (-23), 103, 77, 0, 0, 0, 0, 0), (103, .aload_n 0, 104, 0, 0, 0, 0, 0, 0), (104, .getfield 18, 107, 0, 1, 0, 0, 0, 180), (107, .iload 4, 109, 4, 0, 0, 0, 0, 0), (109, .invokevirtual 84, 112, 62, 2, 4, 0, 0, 529), (112, .return_, 113, 0, 0, 0, 0, 0, 0)]
theorem ok_Dv_divide : cd_Dv_divide.all (jm_okE "ShareSolve$Division" prog_2_method_4_code 6 3 87 false false none) = true := by decide +kernel
def cd_Dv_nextDigit : List jm_e := [(0, .aload_n 0, 1, 0, 0, 0, 0, 0, 0), (1, .iload_n 1, 2, 1, 0, 0, 0, 0, 0), (2, .invokevirtual 87, 5, 3, 2, 0, 0, 0, 508), (5, .istore_n 2, 6, 2, 0, 0, 0, 0, 0), (6, .aload_n 0, 7, 0, 0, 0, 0, 0, 0), (7, .getfield 18, 10, 0, 1, 0, 0, 0, 180), (10, .aload_n 0, 11, 0, 0, 0, 0, 0, 0), (11, .getfield 21, 14, 0, 2, 0, 0, 0, 181), (14, .iload_n 2, 15, 2, 0, 0, 0, 0, 0), (15, .i2l, 16, 0, 0, 0, 0, 0, 0), (16, .iload_n 1, 17, 1, 0, 0, 0, 0, 0), (17, .invokevirtual 90, 20, 59, 4, 4, 0, 0, 517), (20, .istore_n 3, 21, 3, 0, 0, 0, 0, 0), (21, .iconst 0, 22, 0, 0, 0, 0, 0, 0), (22, .istore 4, 24, 4, 0, 0, 0, 0, 0), (24, .iload 4, 26, 4, 0, 0, 0, 0, 0), (26, .iconst 2, 27, 0, 0, 0, 2, 0, 0), (27, .if_icmp .ge 31, 30, 58, 0, 0, 0, 0, 0), (30, .iload_n 3, 31, 3, 0, 0, 0, 0, 0), (31, .ifCond .eq 27, 34, 58, 0, 0, 0, 0, 0), (34, .iinc 2 (-1), 37, 2, 0, 0, (-1), 0, 0), (37, .iload_n 3, 38, 3, 0, 0, 0, 0, 0), (38, .aload_n 0, 39, 0, 0, 0, 0, 0, 0), (39, .getfield 18, 42, 0, 1, 0, 0, 0, 180), (42, .aload_n 0, 43, 0, 0, 0, 0, 0, 0), (43, .getfield 21, 46, 0, 2, 0, 0, 0, 181), (46, .iload_n 1, 47, 1, 0, 0, 0, 0, 0), (47, .invokevirtual 94, 50, 60, 3, 4, 0, 0, 521), (50, .isub, 51, 0, 0, 0, 0, 0, 0), (51, .istore_n 3, 52, 3, 0, 0, 0, 0, 0), (52, .iinc 4 1, 55, 4, 0, 0, 1, 0, 0), (55, .goto (-31), 58, 24, 0, 0, 0, 0, 0), (58, .iload_n 2, 59, 2, 0, 0, 0, 0, 0), (59, .ireturn, 60, 0, 0, 0, 0, 0, 0)]
theorem ok_Dv_nextDigit : cd_Dv_nextDigit.all (jm_okE "ShareSolve$Division" prog_2_method_5_code 5 2 63 false false (some (.int))) = true := by decide +kernel
def cd_Dv_guessDigit : List jm_e := [(0, .aload_n 0, 1, 0, 0, 0, 0, 0, 0), (1, .getfield 21, 4, 0, 2, 0, 0, 0, 181), (4, .invokevirtual 59, 7, 57, 1, 4, 0, 0, 492), (7, .istore_n 2, 8, 2, 0, 0, 0, 0, 0), (8, .iload_n 2, 9, 2, 0, 0, 0, 0, 0), (9, .ifCond .ne 5, 12, 14, 0, 0, 0, 0, 0), (12, .iconst 0, 13, 0, 0, 0, 0, 0, 0), (13, .ireturn, 14, 0, 0, 0, 0, 0, 0), (14, .iload_n 1, 15, 1, 0, 0, 0, 0, 0), (15, .aload_n 0, 16, 0, 0, 0, 0, 0, 0), (16, .getfield 21, 19, 0, 2, 0, 0, 0, 181), (19, .getfield 73, 22, 4, 1, 0, 0, 0, 172), (22, .iadd, 23, 0, 0, 0, 0, 0, 0), (23, .istore_n 3, 24, 3, 0, 0, 0, 0, 0), (24, .aload_n 0, 25, 0, 0, 0, 0, 0, 0), (25, .getfield 18, 28, 0, 1, 0, 0, 0, 180), (28, .iload_n 3, 29, 3, 0, 0, 0, 0, 0), (29, .invokevirtual 98, 32, 53, 2, 4, 0, 0, 512), (32, .i2l, 33, 0, 0, 0, 0, 0, 0), (33, .bipush 30, 35, 0, 0, 0, 30, 0, 0), (35, .lshl, 36, 0, 0, 0, 0, 0, 0), (36, .aload_n 0, 37, 0, 0, 0, 0, 0, 0), (37, .getfield 18, 40, 0, 1, 0, 0, 0, 180), (40, .iload_n 3, 41, 3, 0, 0, 0, 0, 0), (41, .iconst 1, 42, 0, 0, 0, 1, 0, 0), (42, .isub, 43, 0, 0, 0, 0, 0, 0), (43, .invokevirtual 98, 46, 53, 2, 4, 0, 0, 512), (46, .i2l, 47, 0, 0, 0, 0, 0, 0), (47, .ladd, 48, 0, 0, 0, 0, 0, 0), (48, .lstore 4, 50, 4, 0, 0, 0, 0, 0), (50, .lload 4, 52, 4, 0, 0, 0, 0, 0), (52, .iload_n 2, 53, 2, 0, 0, 0, 0, 0), (53, .i2l, 54, 0, 0, 0, 0, 0, 0), (54, .ldiv, 55, 0, 0, 0, 0, 0, 0), (55, .ldc2_w 101, 58, 0, 0, 0, 0, 1073741823, 513), (58, .invokestatic 103, 61, 903, 2, 0, 0, 0, 514), (61, .l2i, 62, 0, 0, 0, 0, 0, 0), (62, .ireturn, 63, 0, 0, 0, 0, 0, 0)]
theorem ok_Dv_guessDigit : cd_Dv_guessDigit.all (jm_okE "ShareSolve$Division" prog_2_method_6_code 6 1 38 false false (some (.int))) = true := by decide +kernel
def cd_Dv_partOf : List jm_e := [(0, .aload_n 0, 1, 0, 0, 0, 0, 0, 0), (1, .aload_n 1, 2, 1, 0, 0, 0, 0, 0), (2, .aload_n 2, 3, 2, 0, 0, 0, 0, 0), (3, .invokevirtual 27, 6, 1, 3, 0, 0, 0, 572), (6, .iconst 0, 7, 0, 0, 0, 0, 0, 0), (7, .istore 4, 9, 4, 0, 0, 0, 0, 0), (9, .iload 4, 11, 4, 0, 0, 0, 0, 0), (11, .iload_n 3, 12, 3, 0, 0, 0, 0, 0), (12, .if_icmp .ge 40, 15, 52, 0, 0, 0, 0, 0), (15, .aload_n 0, 16, 0, 0, 0, 0, 0, 0), (16, .getfield 24, 19, 0, 3, 0, 0, 0, 182), (19, .lconst 0, 20, 0, 0, 0, 0, 0, 0), (20, .invokevirtual 31, 23, 49, 2, 4, 0, 0, 484), (23, .aload_n 0, 24, 0, 0, 0, 0, 0, 0), (24, .getfield 24, 27, 0, 3, 0, 0, 0, 182), (27, .aload_n 0, 28, 0, 0, 0, 0, 0, 0), (28, .getfield 18, 31, 0, 1, 0, 0, 0, 180), (31, .ldc2_w 35, 34, 0, 0, 0, 0, 1000000000, 573), (34, .invokevirtual 37, 37, 55, 3, 4, 0, 0, 574), (37, .aload_n 0, 38, 0, 0, 0, 0, 0, 0), (38, .aload_n 0, 39, 0, 0, 0, 0, 0, 0), (39, .getfield 24, 42, 0, 3, 0, 0, 0, 182), (42, .aload_n 2, 43, 2, 0, 0, 0, 0, 0), (43, .invokevirtual 27, 46, 1, 3, 0, 0, 0, 572), (46, .iinc 4 1, 49, 4, 0, 0, 1, 0, 0), (49, .goto (-40), 52, 9, 0, 0, 0, 0, 0), (52, .aload_n 0, 53, 0, 0, 0, 0, 0, 0), (53, .getfield 12, 56, 0, 0, 0, 0, 0, 178), (56, .invokevirtual 41, 59, 63, 1, 4, 0, 0, 575), (59, .lreturn, 60, 0, 0, 0, 0, 0, 0)]
theorem ok_Dv_partOf : cd_Dv_partOf.all (jm_okE "ShareSolve$Division" prog_2_method_2_code 5 4 112 false false (some (.long))) = true := by decide +kernel
def cd_Dv_partOfNegative : List jm_e := [(0, .aload_n 0, 1, 0, 0, 0, 0, 0, 0), (1, .aload_n 1, 2, 1, 0, 0, 0, 0, 0), (2, .aload_n 2, 3, 2, 0, 0, 0, 0, 0), (3, .invokevirtual 27, 6, 1, 3, 0, 0, 0, 572), (6, .aload_n 0, 7, 0, 0, 0, 0, 0, 0), (7, .getfield 18, 10, 0, 1, 0, 0, 0, 180), (10, .invokevirtual 45, 13, 51, 1, 4, 0, 0, 640), (13, .ifCond .eq 20, 16, 33, 0, 0, 0, 0, 0), (16, .iload_n 3, 17, 3, 0, 0, 0, 0, 0), (17, .ifCond .ne 14, 20, 31, 0, 0, 0, 0, 0), (20, .aload_n 0, 21, 0, 0, 0, 0, 0, 0), (21, .getfield 12, 24, 0, 0, 0, 0, 0, 178), (24, .invokevirtual 41, 27, 63, 1, 4, 0, 0, 575), (27, .lneg, 28, 0, 0, 0, 0, 0, 0), (28, .goto 4, 31, 32, 0, 0, 0, 0, 0), (31, .lconst 0, 32, 0, 0, 0, 0, 0, 0), (32, .lreturn, 33, 0, 0, 0, 0, 0, 0), (33, .iload_n 3, 34, 3, 0, 0, 0, 0, 0), (34, .ifCond .ne 14, 37, 48, 0, 0, 0, 0, 0), (37, .aload_n 0, 38, 0, 0, 0, 0, 0, 0), (38, .getfield 12, 41, 0, 0, 0, 0, 0, 178), (41, .invokevirtual 41, 44, 63, 1, 4, 0, 0, 575), (44, .lneg, 45, 0, 0, 0, 0, 0, 0), (45, .lconst 1, 46, 0, 0, 0, 0, 1, 0), (46, .lsub, 47, 0, 0, 0, 0, 0, 0), (47, .lreturn, 48, 0, 0, 0, 0, 0, 0), (48, .aload_n 0, 49, 0, 0, 0, 0, 0, 0), (49, .getfield 24, 52, 0, 3, 0, 0, 0, 182), (52, .aload_n 2, 53, 2, 0, 0, 0, 0, 0), (53, .invokevirtual 49, 56, 56, 2, 4, 0, 0, 485), (56, .aload_n 0, 57, 0, 0, 0, 0, 0, 0), (57, .getfield 24, 60, 0, 3, 0, 0, 0, 182), (60, .aload_n 0, 61, 0, 0, 0, 0, 0, 0), (61, .getfield 18, 64, 0, 1, 0, 0, 0, 180), (64, .invokevirtual 52, 67, 54, 2, 4, 0, 0, 641), (67, .aload_n 0, 68, 0, 0, 0, 0, 0, 0), (68, .aload_n 0, 69, 0, 0, 0, 0, 0, 0), (69, .getfield 24, 72, 0, 3, 0, 0, 0, 182), (72, .aload_n 2, 73, 2, 0, 0, 0, 0, 0), (73, .iload_n 3, 74, 3, 0, 0, 0, 0, 0), (74, .invokevirtual 55, 77, 4, 4, 0, 0, 0, 642), (77, .lreturn, 78, 0, 0, 0, 0, 0, 0)]
theorem ok_Dv_partOfNegative : cd_Dv_partOfNegative.all (jm_okE "ShareSolve$Division" prog_2_method_3_code 4 5 136 false false (some (.long))) = true := by decide +kernel
def cd_Wh_init : List jm_e := [(0, .aload_n 0, 1, 0, 0, 0, 0, 0, 0), (1, .invokespecial 3, 4, 999, 1, 0, 0, 0, 169), (4, .aload_n 0, 5, 0, 0, 0, 0, 0, 0), (5, .bipush 13, 7, 0, 0, 0, 13, 0, 0), (7, .newarray .int, 9, 50, 0, 0, 0, 0, 0), (9, .putfield 9, 12, 4, 0, 0, 0, 0, 170), (12, .return_, 13, 0, 0, 0, 0, 0, 0)]
theorem ok_Wh_init : cd_Wh_init.all (jm_okE "ShareSolve$Whole" prog_6_method_1_code 1 1 20 false true none) = true := by decide +kernel
def cd_Wh_become_1 : List jm_e := [(0, .aload_n 0, 1, 0, 0, 0, 0, 0, 0), (1, .getfield 9, 4, 4, 0, 0, 0, 0, 170), (4, .iconst 0, 5, 0, 0, 0, 0, 0, 0), (5, .invokestatic 17, 8, 152, 2, 0, 0, 0, 440), (8, .aload_n 0, 9, 0, 0, 0, 0, 0, 0), (9, .getfield 9, 12, 4, 0, 0, 0, 0, 170), (12, .iconst 0, 13, 0, 0, 0, 0, 0, 0), (13, .lload_n 1, 14, 1, 0, 0, 0, 0, 0), (14, .ldc2_w 23, 17, 0, 0, 0, 0, 1073741823, 441), (17, .land, 18, 0, 0, 0, 0, 0, 0), (18, .l2i, 19, 0, 0, 0, 0, 0, 0), (19, .iastore, 20, 0, 0, 0, 0, 0, 0), (20, .aload_n 0, 21, 0, 0, 0, 0, 0, 0), (21, .getfield 9, 24, 4, 0, 0, 0, 0, 170), (24, .iconst 1, 25, 0, 0, 0, 1, 0, 0), (25, .lload_n 1, 26, 1, 0, 0, 0, 0, 0), (26, .bipush 30, 28, 0, 0, 0, 30, 0, 0), (28, .lushr, 29, 0, 0, 0, 0, 0, 0), (29, .ldc2_w 23, 32, 0, 0, 0, 0, 1073741823, 441), (32, .land, 33, 0, 0, 0, 0, 0, 0), (33, .l2i, 34, 0, 0, 0, 0, 0, 0), (34, .iastore, 35, 0, 0, 0, 0, 0, 0), (35, .aload_n 0, 36, 0, 0, 0, 0, 0, 0), (36, .getfield 9, 39, 4, 0, 0, 0, 0, 170), (39, .iconst 2, 40, 0, 0, 0, 2, 0, 0), (40, .lload_n 1, 41, 1, 0, 0, 0, 0, 0), (41, .bipush 60, 43, 0, 0, 0, 60, 0, 0), (43, .lushr, 44, 0, 0, 0, 0, 0, 0), (44, .l2i, 45, 0, 0, 0, 0, 0, 0), (45, .iastore, 46, 0, 0, 0, 0, 0, 0), (46, .aload_n 0, 47, 0, 0, 0, 0, 0, 0), (47, .iconst 3, 48, 0, 0, 0, 3, 0, 0), (48, .invokevirtual 25, 51, 50, 2, 4, 0, 0, 442), (51, .return_, 52, 0, 0, 0, 0, 0, 0)]
theorem ok_Wh_become_1 : cd_Wh_become_1.all (jm_okE "ShareSolve$Whole" prog_6_method_6_code 3 1 23 false false none) = true := by decide +kernel
def cd_Wh_dropZeros : List jm_e := [(0, .iload_n 1, 1, 1, 0, 0, 0, 0, 0), (1, .bipush 13, 3, 0, 0, 0, 13, 0, 0), (3, .if_icmp .ge 7, 6, 10, 0, 0, 0, 0, 0), (6, .iload_n 1, 7, 1, 0, 0, 0, 0, 0), (7, .goto 5, 10, 12, 0, 0, 0, 0, 0), (10, .bipush 13, 12, 0, 0, 0, 13, 0, 0), (12, .istore_n 2, 13, 2, 0, 0, 0, 0, 0), (13, .iload_n 2, 14, 2, 0, 0, 0, 0, 0), (14, .ifCond .le 20, 17, 34, 0, 0, 0, 0, 0), (17, .aload_n 0, 18, 0, 0, 0, 0, 0, 0), (18, .getfield 9, 21, 4, 0, 0, 0, 0, 170), (21, .iload_n 2, 22, 2, 0, 0, 0, 0, 0), (22, .iconst 1, 23, 0, 0, 0, 1, 0, 0), (23, .isub, 24, 0, 0, 0, 0, 0, 0), (24, .iaload, 25, 0, 0, 0, 0, 0, 0), (25, .ifCond .ne 9, 28, 34, 0, 0, 0, 0, 0), (28, .iinc 2 (-1), 31, 2, 0, 0, (-1), 0, 0), (31, .goto (-18), 34, 13, 0, 0, 0, 0, 0), (34, .aload_n 0, 35, 0, 0, 0, 0, 0, 0), (35, .iload_n 2, 36, 2, 0, 0, 0, 0, 0), (36, .putfield 13, 39, 4, 1, 0, 0, 0, 171), (39, .return_, 40, 0, 0, 0, 0, 0, 0)]
theorem ok_Wh_dropZeros : cd_Wh_dropZeros.all (jm_okE "ShareSolve$Whole" prog_6_method_17_code 3 0 0 false false none) = true := by decide +kernel
def cd_Wh_isZero : List jm_e := [(0, .aload_n 0, 1, 0, 0, 0, 0, 0, 0), (1, .getfield 13, 4, 4, 1, 0, 0, 0, 171), (4, .ifCond .ne 7, 7, 11, 0, 0, 0, 0, 0), (7, .iconst 1, 8, 0, 0, 0, 1, 0, 0), (8, .goto 4, 11, 12, 0, 0, 0, 0, 0), (11, .iconst 0, 12, 0, 0, 0, 0, 0, 0), (12, .ireturn, 13, 0, 0, 0, 0, 0, 0)]
theorem ok_Wh_isZero : cd_Wh_isZero.all (jm_okE "ShareSolve$Whole" prog_6_method_2_code 1 0 0 false false (some (.boolean))) = true := by decide +kernel
def cd_Wh_becomeProduct : List jm_e := [(0, .aload_n 0, 1, 0, 0, 0, 0, 0, 0), (1, .getfield 9, 4, 4, 0, 0, 0, 0, 170), (4, .iconst 0, 5, 0, 0, 0, 0, 0, 0), (5, .invokestatic 17, 8, 152, 2, 0, 0, 0, 440), (8, .iconst 0, 9, 0, 0, 0, 0, 0, 0), (9, .istore_n 3, 10, 3, 0, 0, 0, 0, 0), (10, .iload_n 3, 11, 3, 0, 0, 0, 0, 0), (11, .aload_n 1, 12, 1, 0, 0, 0, 0, 0), (12, .getfield 13, 15, 4, 1, 0, 0, 0, 171), (15, .if_icmp .ge 97, 18, 112, 0, 0, 0, 0, 0), (18, .aload_n 1, 19, 1, 0, 0, 0, 0, 0), (19, .getfield 9, 22, 4, 0, 0, 0, 0, 170), (22, .iload_n 3, 23, 3, 0, 0, 0, 0, 0), (23, .iaload, 24, 0, 0, 0, 0, 0, 0), (24, .i2l, 25, 0, 0, 0, 0, 0, 0), (25, .lstore 4, 27, 4, 0, 0, 0, 0, 0), (27, .lconst 0, 28, 0, 0, 0, 0, 0, 0), (28, .lstore 6, 30, 6, 0, 0, 0, 0, 0), (30, .iconst 0, 31, 0, 0, 0, 0, 0, 0), (31, .istore 8, 33, 8, 0, 0, 0, 0, 0), (33, .iload 8, 35, 8, 0, 0, 0, 0, 0), (35, .aload_n 2, 36, 2, 0, 0, 0, 0, 0), (36, .getfield 13, 39, 4, 1, 0, 0, 0, 171), (39, .if_icmp .gt 67, 42, 106, 0, 0, 0, 0, 0), (42, .iload_n 3, 43, 3, 0, 0, 0, 0, 0), (43, .iload 8, 45, 8, 0, 0, 0, 0, 0), (45, .iadd, 46, 0, 0, 0, 0, 0, 0), (46, .bipush 13, 48, 0, 0, 0, 13, 0, 0), (48, .if_icmp .ge 58, 51, 106, 0, 0, 0, 0, 0), (51, .aload_n 0, 52, 0, 0, 0, 0, 0, 0), (52, .getfield 9, 55, 4, 0, 0, 0, 0, 170), (55, .iload_n 3, 56, 3, 0, 0, 0, 0, 0), (56, .iload 8, 58, 8, 0, 0, 0, 0, 0), (58, .iadd, 59, 0, 0, 0, 0, 0, 0), (59, .iaload, 60, 0, 0, 0, 0, 0, 0), (60, .i2l, 61, 0, 0, 0, 0, 0, 0), (61, .lload 4, 63, 4, 0, 0, 0, 0, 0), (63, .aload_n 2, 64, 2, 0, 0, 0, 0, 0), (64, .iload 8, 66, 8, 0, 0, 0, 0, 0), (66, .invokevirtual 35, 69, 53, 2, 4, 0, 0, 462), (69, .i2l, 70, 0, 0, 0, 0, 0, 0), (70, .lmul, 71, 0, 0, 0, 0, 0, 0), (71, .ladd, 72, 0, 0, 0, 0, 0, 0), (72, .lload 6, 74, 6, 0, 0, 0, 0, 0), (74, .ladd, 75, 0, 0, 0, 0, 0, 0), (75, .lstore 9, 77, 9, 0, 0, 0, 0, 0), (77, .aload_n 0, 78, 0, 0, 0, 0, 0, 0), (78, .getfield 9, 81, 4, 0, 0, 0, 0, 170), (81, .iload_n 3, 82, 3, 0, 0, 0, 0, 0), (82, .iload 8, 84, 8, 0, 0, 0, 0, 0), (84, .iadd, 85, 0, 0, 0, 0, 0, 0), (85, .lload 9, 87, 9, 0, 0, 0, 0, 0), (87, .ldc2_w 23, 90, 0, 0, 0, 0, 1073741823, 441), (90, .land, 91, 0, 0, 0, 0, 0, 0), (91, .l2i, 92, 0, 0, 0, 0, 0, 0), (92, .iastore, 93, 0, 0, 0, 0, 0, 0), (93, .lload 9, 95, 9, 0, 0, 0, 0, 0), (95, .bipush 30, 97, 0, 0, 0, 30, 0, 0), (97, .lushr, 98, 0, 0, 0, 0, 0, 0), (98, .lstore 6, 100, 6, 0, 0, 0, 0, 0), (100, .iinc 8 1, 103, 8, 0, 0, 1, 0, 0), (103, .goto (-70), 106, 33, 0, 0, 0, 0, 0), (106, .iinc 3 1, 109, 3, 0, 0, 1, 0, 0), (109, .goto (-99), 112, 10, 0, 0, 0, 0, 0), (112, .aload_n 0, 113, 0, 0, 0, 0, 0, 0), (113, .aload_n 1, 114, 1, 0, 0, 0, 0, 0), (114, .getfield 13, 117, 4, 1, 0, 0, 0, 171), (117, .aload_n 2, 118, 2, 0, 0, 0, 0, 0), (118, .getfield 13, 121, 4, 1, 0, 0, 0, 171), (121, .iadd, 122, 0, 0, 0, 0, 0, 0), (122, .invokevirtual 25, 125, 50, 2, 4, 0, 0, 442), (125, .return_, 126, 0, 0, 0, 0, 0, 0)]
theorem ok_Wh_becomeProduct : cd_Wh_becomeProduct.all (jm_okE "ShareSolve$Whole" prog_6_method_8_code 11 1 23 false false none) = true := by decide +kernel
def cd_Wh_limb : List jm_e := [(0, .iload_n 1, 1, 1, 0, 0, 0, 0, 0), (1, .ifCond .lt 18, 4, 19, 0, 0, 0, 0, 0), (4, .iload_n 1, 5, 1, 0, 0, 0, 0, 0), (5, .bipush 13, 7, 0, 0, 0, 13, 0, 0), (7, .if_icmp .ge 12, 10, 19, 0, 0, 0, 0, 0), (10, .aload_n 0, 11, 0, 0, 0, 0, 0, 0), (11, .getfield 9, 14, 4, 0, 0, 0, 0, 170), (14, .iload_n 1, 15, 1, 0, 0, 0, 0, 0), (15, .iaload, 16, 0, 0, 0, 0, 0, 0), (16, .goto 4, 19, 20, 0, 0, 0, 0, 0), (19, .iconst 0, 20, 0, 0, 0, 0, 0, 0), (20, .ireturn, 21, 0, 0, 0, 0, 0, 0)]
theorem ok_Wh_limb : cd_Wh_limb.all (jm_okE "ShareSolve$Whole" prog_6_method_3_code 2 0 0 false false (some (.int))) = true := by decide +kernel
def cd_Wh_subtract : List jm_e := [(0, .iconst 0, 1, 0, 0, 0, 0, 0, 0), (1, .istore_n 2, 2, 2, 0, 0, 0, 0, 0), (2, .iconst 0, 3, 0, 0, 0, 0, 0, 0), (3, .istore_n 3, 4, 3, 0, 0, 0, 0, 0), (4, .iload_n 3, 5, 3, 0, 0, 0, 0, 0), (5, .aload_n 0, 6, 0, 0, 0, 0, 0, 0), (6, .getfield 13, 9, 4, 1, 0, 0, 0, 171), (9, .if_icmp .ge 51, 12, 60, 0, 0, 0, 0, 0), (12, .aload_n 0, 13, 0, 0, 0, 0, 0, 0), (13, .getfield 9, 16, 4, 0, 0, 0, 0, 170), (16, .iload_n 3, 17, 3, 0, 0, 0, 0, 0), (17, .iaload, 18, 0, 0, 0, 0, 0, 0), (18, .aload_n 1, 19, 1, 0, 0, 0, 0, 0), (19, .getfield 9, 22, 4, 0, 0, 0, 0, 170), (22, .iload_n 3, 23, 3, 0, 0, 0, 0, 0), (23, .iaload, 24, 0, 0, 0, 0, 0, 0), (24, .isub, 25, 0, 0, 0, 0, 0, 0), (25, .iload_n 2, 26, 2, 0, 0, 0, 0, 0), (26, .isub, 27, 0, 0, 0, 0, 0, 0), (27, .istore 4, 29, 4, 0, 0, 0, 0, 0), (29, .aload_n 0, 30, 0, 0, 0, 0, 0, 0), (30, .getfield 9, 33, 4, 0, 0, 0, 0, 170), (33, .iload_n 3, 34, 3, 0, 0, 0, 0, 0), (34, .iload 4, 36, 4, 0, 0, 0, 0, 0), (36, .i2l, 37, 0, 0, 0, 0, 0, 0), (37, .ldc2_w 23, 40, 0, 0, 0, 0, 1073741823, 441), (40, .land, 41, 0, 0, 0, 0, 0, 0), (41, .l2i, 42, 0, 0, 0, 0, 0, 0), (42, .iastore, 43, 0, 0, 0, 0, 0, 0), (43, .iload 4, 45, 4, 0, 0, 0, 0, 0), (45, .ifCond .ge 7, 48, 52, 0, 0, 0, 0, 0), (48, .iconst 1, 49, 0, 0, 0, 1, 0, 0), (49, .goto 4, 52, 53, 0, 0, 0, 0, 0), (52, .iconst 0, 53, 0, 0, 0, 0, 0, 0), (53, .istore_n 2, 54, 2, 0, 0, 0, 0, 0), (54, .iinc 3 1, 57, 3, 0, 0, 1, 0, 0), (57, .goto (-53), 60, 4, 0, 0, 0, 0, 0), (60, .aload_n 0, 61, 0, 0, 0, 0, 0, 0), (61, .aload_n 0, 62, 0, 0, 0, 0, 0, 0), (62, .getfield 13, 65, 4, 1, 0, 0, 0, 171), (65, .invokevirtual 25, 68, 50, 2, 4, 0, 0, 442), (68, .return_, 69, 0, 0, 0, 0, 0, 0)]
theorem ok_Wh_subtract : cd_Wh_subtract.all (jm_okE "ShareSolve$Whole" prog_6_method_11_code 5 1 22 false false none) = true := by decide +kernel
def cd_Wh_addTimes : List jm_e := [(0, .lconst 0, 1, 0, 0, 0, 0, 0, 0), (1, .lstore 4, 3, 4, 0, 0, 0, 0, 0), (3, .aload_n 0, 4, 0, 0, 0, 0, 0, 0), (4, .getfield 13, 7, 4, 1, 0, 0, 0, 171), (7, .aload_n 1, 8, 1, 0, 0, 0, 0, 0), (8, .getfield 13, 11, 4, 1, 0, 0, 0, 171), (11, .invokestatic 39, 14, 900, 2, 0, 0, 0, 474), (14, .iconst 2, 15, 0, 0, 0, 2, 0, 0), (15, .iadd, 16, 0, 0, 0, 0, 0, 0), (16, .bipush 13, 18, 0, 0, 0, 13, 0, 0), (18, .invokestatic 45, 21, 901, 2, 0, 0, 0, 477), (21, .istore 6, 23, 6, 0, 0, 0, 0, 0), (23, .iconst 0, 24, 0, 0, 0, 0, 0, 0), (24, .istore 7, 26, 7, 0, 0, 0, 0, 0), (26, .iload 7, 28, 7, 0, 0, 0, 0, 0), (28, .iload 6, 30, 6, 0, 0, 0, 0, 0), (30, .if_icmp .ge 54, 33, 84, 0, 0, 0, 0, 0), (33, .aload_n 0, 34, 0, 0, 0, 0, 0, 0), (34, .getfield 9, 37, 4, 0, 0, 0, 0, 170), (37, .iload 7, 39, 7, 0, 0, 0, 0, 0), (39, .iaload, 40, 0, 0, 0, 0, 0, 0), (40, .i2l, 41, 0, 0, 0, 0, 0, 0), (41, .aload_n 1, 42, 1, 0, 0, 0, 0, 0), (42, .getfield 9, 45, 4, 0, 0, 0, 0, 170), (45, .iload 7, 47, 7, 0, 0, 0, 0, 0), (47, .iaload, 48, 0, 0, 0, 0, 0, 0), (48, .i2l, 49, 0, 0, 0, 0, 0, 0), (49, .lload_n 2, 50, 2, 0, 0, 0, 0, 0), (50, .lmul, 51, 0, 0, 0, 0, 0, 0), (51, .ladd, 52, 0, 0, 0, 0, 0, 0), (52, .lload 4, 54, 4, 0, 0, 0, 0, 0), (54, .ladd, 55, 0, 0, 0, 0, 0, 0), (55, .lstore 8, 57, 8, 0, 0, 0, 0, 0), (57, .aload_n 0, 58, 0, 0, 0, 0, 0, 0), (58, .getfield 9, 61, 4, 0, 0, 0, 0, 170), (61, .iload 7, 63, 7, 0, 0, 0, 0, 0), (63, .lload 8, 65, 8, 0, 0, 0, 0, 0), (65, .ldc2_w 23, 68, 0, 0, 0, 0, 1073741823, 441), (68, .land, 69, 0, 0, 0, 0, 0, 0), (69, .l2i, 70, 0, 0, 0, 0, 0, 0), (70, .iastore, 71, 0, 0, 0, 0, 0, 0), (71, .lload 8, 73, 8, 0, 0, 0, 0, 0), (73, .bipush 30, 75, 0, 0, 0, 30, 0, 0), (75, .lushr, 76, 0, 0, 0, 0, 0, 0), (76, .lstore 4, 78, 4, 0, 0, 0, 0, 0), (78, .iinc 7 1, 81, 7, 0, 0, 1, 0, 0), (81, .goto (-55), 84, 26, 0, 0, 0, 0, 0), (84, .aload_n 0, 85, 0, 0, 0, 0, 0, 0), (85, .iload 6, 87, 6, 0, 0, 0, 0, 0), (87, .invokevirtual 25, 90, 50, 2, 4, 0, 0, 442), (90, .return_, 91, 0, 0, 0, 0, 0, 0)]
theorem ok_Wh_addTimes : cd_Wh_addTimes.all (jm_okE "ShareSolve$Whole" prog_6_method_10_code 10 1 38 false false none) = true := by decide +kernel
def cd_Wh_become_2 : List jm_e := [(0, .aload_n 1, 1, 1, 0, 0, 0, 0, 0), (1, .getfield 9, 4, 4, 0, 0, 0, 0, 170), (4, .iconst 0, 5, 0, 0, 0, 0, 0, 0), (5, .aload_n 0, 6, 0, 0, 0, 0, 0, 0), (6, .getfield 9, 9, 4, 0, 0, 0, 0, 170), (9, .iconst 0, 10, 0, 0, 0, 0, 0, 0), (10, .bipush 13, 12, 0, 0, 0, 13, 0, 0), (12, .invokestatic 29, 15, 904, 5, 0, 0, 0, 489), (15, .aload_n 0, 16, 0, 0, 0, 0, 0, 0), (16, .aload_n 1, 17, 1, 0, 0, 0, 0, 0), (17, .getfield 13, 20, 4, 1, 0, 0, 0, 171), (20, .putfield 13, 23, 4, 1, 0, 0, 0, 171), (23, .return_, 24, 0, 0, 0, 0, 0, 0)]
theorem ok_Wh_become_2 : cd_Wh_become_2.all (jm_okE "ShareSolve$Whole" prog_6_method_7_code 2 1 38 false false none) = true := by decide +kernel
def cd_Wh_topLimb : List jm_e := [(0, .aload_n 0, 1, 0, 0, 0, 0, 0, 0), (1, .getfield 13, 4, 4, 1, 0, 0, 0, 171), (4, .iconst 1, 5, 0, 0, 0, 1, 0, 0), (5, .if_icmp .lt 26, 8, 31, 0, 0, 0, 0, 0), (8, .aload_n 0, 9, 0, 0, 0, 0, 0, 0), (9, .getfield 13, 12, 4, 1, 0, 0, 0, 171), (12, .bipush 13, 14, 0, 0, 0, 13, 0, 0), (14, .if_icmp .gt 17, 17, 31, 0, 0, 0, 0, 0), (17, .aload_n 0, 18, 0, 0, 0, 0, 0, 0), (18, .getfield 9, 21, 4, 0, 0, 0, 0, 170), (21, .aload_n 0, 22, 0, 0, 0, 0, 0, 0), (22, .getfield 13, 25, 4, 1, 0, 0, 0, 171), (25, .iconst 1, 26, 0, 0, 0, 1, 0, 0), (26, .isub, 27, 0, 0, 0, 0, 0, 0), (27, .iaload, 28, 0, 0, 0, 0, 0, 0), (28, .goto 4, 31, 32, 0, 0, 0, 0, 0), (31, .iconst 0, 32, 0, 0, 0, 0, 0, 0), (32, .ireturn, 33, 0, 0, 0, 0, 0, 0)]
theorem ok_Wh_topLimb : cd_Wh_topLimb.all (jm_okE "ShareSolve$Whole" prog_6_method_4_code 1 0 0 false false (some (.int))) = true := by decide +kernel
def cd_Wh_shiftUp : List jm_e := [(0, .lconst 0, 1, 0, 0, 0, 0, 0, 0), (1, .lstore_n 2, 2, 2, 0, 0, 0, 0, 0), (2, .aload_n 0, 3, 0, 0, 0, 0, 0, 0), (3, .getfield 13, 6, 4, 1, 0, 0, 0, 171), (6, .iconst 1, 7, 0, 0, 0, 1, 0, 0), (7, .iadd, 8, 0, 0, 0, 0, 0, 0), (8, .bipush 13, 10, 0, 0, 0, 13, 0, 0), (10, .invokestatic 45, 13, 901, 2, 0, 0, 0, 477), (13, .istore 4, 15, 4, 0, 0, 0, 0, 0), (15, .iconst 0, 16, 0, 0, 0, 0, 0, 0), (16, .istore 5, 18, 5, 0, 0, 0, 0, 0), (18, .iload 5, 20, 5, 0, 0, 0, 0, 0), (20, .iload 4, 22, 4, 0, 0, 0, 0, 0), (22, .if_icmp .ge 43, 25, 65, 0, 0, 0, 0, 0), (25, .aload_n 0, 26, 0, 0, 0, 0, 0, 0), (26, .getfield 9, 29, 4, 0, 0, 0, 0, 170), (29, .iload 5, 31, 5, 0, 0, 0, 0, 0), (31, .iaload, 32, 0, 0, 0, 0, 0, 0), (32, .i2l, 33, 0, 0, 0, 0, 0, 0), (33, .iload_n 1, 34, 1, 0, 0, 0, 0, 0), (34, .lshl, 35, 0, 0, 0, 0, 0, 0), (35, .lload_n 2, 36, 2, 0, 0, 0, 0, 0), (36, .ladd, 37, 0, 0, 0, 0, 0, 0), (37, .lstore 6, 39, 6, 0, 0, 0, 0, 0), (39, .aload_n 0, 40, 0, 0, 0, 0, 0, 0), (40, .getfield 9, 43, 4, 0, 0, 0, 0, 170), (43, .iload 5, 45, 5, 0, 0, 0, 0, 0), (45, .lload 6, 47, 6, 0, 0, 0, 0, 0), (47, .ldc2_w 23, 50, 0, 0, 0, 0, 1073741823, 441), (50, .land, 51, 0, 0, 0, 0, 0, 0), (51, .l2i, 52, 0, 0, 0, 0, 0, 0), (52, .iastore, 53, 0, 0, 0, 0, 0, 0), (53, .lload 6, 55, 6, 0, 0, 0, 0, 0), (55, .bipush 30, 57, 0, 0, 0, 30, 0, 0), (57, .lushr, 58, 0, 0, 0, 0, 0, 0), (58, .lstore_n 2, 59, 2, 0, 0, 0, 0, 0), (59, .iinc 5 1, 62, 5, 0, 0, 1, 0, 0), (62, .goto (-44), 65, 18, 0, 0, 0, 0, 0), (65, .aload_n 0, 66, 0, 0, 0, 0, 0, 0), (66, .iload 4, 68, 4, 0, 0, 0, 0, 0), (68, .invokevirtual 25, 71, 50, 2, 4, 0, 0, 442), (71, .return_, 72, 0, 0, 0, 0, 0, 0)]
theorem ok_Wh_shiftUp : cd_Wh_shiftUp.all (jm_okE "ShareSolve$Whole" prog_6_method_15_code 8 1 38 false false none) = true := by decide +kernel
def cd_Wh_subtractTimes : List jm_e := [(0, .lconst 0, 1, 0, 0, 0, 0, 0, 0), (1, .lstore 5, 3, 5, 0, 0, 0, 0, 0), (3, .iconst 0, 4, 0, 0, 0, 0, 0, 0), (4, .istore 7, 6, 7, 0, 0, 0, 0, 0), (6, .iload 7, 8, 7, 0, 0, 0, 0, 0), (8, .aload_n 1, 9, 1, 0, 0, 0, 0, 0), (9, .getfield 13, 12, 4, 1, 0, 0, 0, 171), (12, .if_icmp .gt 70, 15, 82, 0, 0, 0, 0, 0), (15, .iload 4, 17, 4, 0, 0, 0, 0, 0), (17, .iload 7, 19, 7, 0, 0, 0, 0, 0), (19, .iadd, 20, 0, 0, 0, 0, 0, 0), (20, .bipush 13, 22, 0, 0, 0, 13, 0, 0), (22, .if_icmp .ge 60, 25, 82, 0, 0, 0, 0, 0), (25, .aload_n 0, 26, 0, 0, 0, 0, 0, 0), (26, .getfield 9, 29, 4, 0, 0, 0, 0, 170), (29, .iload 4, 31, 4, 0, 0, 0, 0, 0), (31, .iload 7, 33, 7, 0, 0, 0, 0, 0), (33, .iadd, 34, 0, 0, 0, 0, 0, 0), (34, .iaload, 35, 0, 0, 0, 0, 0, 0), (35, .i2l, 36, 0, 0, 0, 0, 0, 0), (36, .aload_n 1, 37, 1, 0, 0, 0, 0, 0), (37, .iload 7, 39, 7, 0, 0, 0, 0, 0), (39, .invokevirtual 35, 42, 53, 2, 4, 0, 0, 462), (42, .i2l, 43, 0, 0, 0, 0, 0, 0), (43, .lload_n 2, 44, 2, 0, 0, 0, 0, 0), (44, .lmul, 45, 0, 0, 0, 0, 0, 0), (45, .lsub, 46, 0, 0, 0, 0, 0, 0), (46, .lload 5, 48, 5, 0, 0, 0, 0, 0), (48, .lsub, 49, 0, 0, 0, 0, 0, 0), (49, .lstore 8, 51, 8, 0, 0, 0, 0, 0), (51, .aload_n 0, 52, 0, 0, 0, 0, 0, 0), (52, .getfield 9, 55, 4, 0, 0, 0, 0, 170), (55, .iload 4, 57, 4, 0, 0, 0, 0, 0), (57, .iload 7, 59, 7, 0, 0, 0, 0, 0), (59, .iadd, 60, 0, 0, 0, 0, 0, 0), (60, .lload 8, 62, 8, 0, 0, 0, 0, 0), (62, .ldc2_w 23, 65, 0, 0, 0, 0, 1073741823, 441), (65, .land, 66, 0, 0, 0, 0, 0, 0), (66, .l2i, 67, 0, 0, 0, 0, 0, 0), (67, .iastore, 68, 0, 0, 0, 0, 0, 0), (68, .lload 8, 70, 8, 0, 0, 0, 0, 0), (70, .bipush 30, 72, 0, 0, 0, 30, 0, 0), (72, .lshr, 73, 0, 0, 0, 0, 0, 0), (73, .lneg, 74, 0, 0, 0, 0, 0, 0), (74, .lstore 5, 76, 5, 0, 0, 0, 0, 0), (76, .iinc 7 1, 79, 7, 0, 0, 1, 0, 0), (79, .goto (-73), 82, 6, 0, 0, 0, 0, 0), (82, .lload 5, 84, 5, 0, 0, 0, 0, 0), (84, .l2i, 85, 0, 0, 0, 0, 0, 0), (85, .ireturn, 86, 0, 0, 0, 0, 0, 0)]
theorem ok_Wh_subtractTimes : cd_Wh_subtractTimes.all (jm_okE "ShareSolve$Whole" prog_6_method_12_code 10 1 21 false false (some (.int))) = true := by decide +kernel
def cd_Wh_addAt : List jm_e := [(0, .iconst 0, 1, 0, 0, 0, 0, 0, 0), (1, .istore_n 3, 2, 3, 0, 0, 0, 0, 0), (2, .iconst 0, 3, 0, 0, 0, 0, 0, 0), (3, .istore 4, 5, 4, 0, 0, 0, 0, 0), (5, .iload 4, 7, 4, 0, 0, 0, 0, 0), (7, .aload_n 1, 8, 1, 0, 0, 0, 0, 0), (8, .getfield 13, 11, 4, 1, 0, 0, 0, 171), (11, .if_icmp .gt 61, 14, 72, 0, 0, 0, 0, 0), (14, .iload_n 2, 15, 2, 0, 0, 0, 0, 0), (15, .iload 4, 17, 4, 0, 0, 0, 0, 0), (17, .iadd, 18, 0, 0, 0, 0, 0, 0), (18, .bipush 13, 20, 0, 0, 0, 13, 0, 0), (20, .if_icmp .ge 52, 23, 72, 0, 0, 0, 0, 0), (23, .aload_n 0, 24, 0, 0, 0, 0, 0, 0), (24, .getfield 9, 27, 4, 0, 0, 0, 0, 170), (27, .iload_n 2, 28, 2, 0, 0, 0, 0, 0), (28, .iload 4, 30, 4, 0, 0, 0, 0, 0), (30, .iadd, 31, 0, 0, 0, 0, 0, 0), (31, .iaload, 32, 0, 0, 0, 0, 0, 0), (32, .aload_n 1, 33, 1, 0, 0, 0, 0, 0), (33, .iload 4, 35, 4, 0, 0, 0, 0, 0), (35, .invokevirtual 35, 38, 53, 2, 4, 0, 0, 462), (38, .iadd, 39, 0, 0, 0, 0, 0, 0), (39, .iload_n 3, 40, 3, 0, 0, 0, 0, 0), (40, .iadd, 41, 0, 0, 0, 0, 0, 0), (41, .istore 5, 43, 5, 0, 0, 0, 0, 0), (43, .aload_n 0, 44, 0, 0, 0, 0, 0, 0), (44, .getfield 9, 47, 4, 0, 0, 0, 0, 170), (47, .iload_n 2, 48, 2, 0, 0, 0, 0, 0), (48, .iload 4, 50, 4, 0, 0, 0, 0, 0), (50, .iadd, 51, 0, 0, 0, 0, 0, 0), (51, .iload 5, 53, 5, 0, 0, 0, 0, 0), (53, .i2l, 54, 0, 0, 0, 0, 0, 0), (54, .ldc2_w 23, 57, 0, 0, 0, 0, 1073741823, 441), (57, .land, 58, 0, 0, 0, 0, 0, 0), (58, .l2i, 59, 0, 0, 0, 0, 0, 0), (59, .iastore, 60, 0, 0, 0, 0, 0, 0), (60, .iload 5, 62, 5, 0, 0, 0, 0, 0), (62, .bipush 30, 64, 0, 0, 0, 30, 0, 0), (64, .iushr, 65, 0, 0, 0, 0, 0, 0), (65, .istore_n 3, 66, 3, 0, 0, 0, 0, 0), (66, .iinc 4 1, 69, 4, 0, 0, 1, 0, 0), (69, .goto (-64), 72, 5, 0, 0, 0, 0, 0), (72, .iload_n 3, 73, 3, 0, 0, 0, 0, 0), (73, .ireturn, 74, 0, 0, 0, 0, 0, 0)]
theorem ok_Wh_addAt : cd_Wh_addAt.all (jm_okE "ShareSolve$Whole" prog_6_method_13_code 6 1 21 false false (some (.int))) = true := by decide +kernel
def cd_Wh_setLimb : List jm_e := [(0, .iload_n 1, 1, 1, 0, 0, 0, 0, 0), (1, .ifCond .lt 30, 4, 31, 0, 0, 0, 0, 0), (4, .iload_n 1, 5, 1, 0, 0, 0, 0, 0), (5, .bipush 13, 7, 0, 0, 0, 13, 0, 0), (7, .if_icmp .ge 24, 10, 31, 0, 0, 0, 0, 0), (10, .aload_n 0, 11, 0, 0, 0, 0, 0, 0), (11, .getfield 9, 14, 4, 0, 0, 0, 0, 170), (14, .iload_n 1, 15, 1, 0, 0, 0, 0, 0), (15, .iload_n 2, 16, 2, 0, 0, 0, 0, 0), (16, .iastore, 17, 0, 0, 0, 0, 0, 0), (17, .aload_n 0, 18, 0, 0, 0, 0, 0, 0), (18, .aload_n 0, 19, 0, 0, 0, 0, 0, 0), (19, .getfield 13, 22, 4, 1, 0, 0, 0, 171), (22, .iload_n 1, 23, 1, 0, 0, 0, 0, 0), (23, .iconst 1, 24, 0, 0, 0, 1, 0, 0), (24, .iadd, 25, 0, 0, 0, 0, 0, 0), (25, .invokestatic 39, 28, 900, 2, 0, 0, 0, 474), (28, .invokevirtual 25, 31, 50, 2, 4, 0, 0, 442), (31, .return_, 32, 0, 0, 0, 0, 0, 0)]
theorem ok_Wh_setLimb : cd_Wh_setLimb.all (jm_okE "ShareSolve$Whole" prog_6_method_14_code 3 1 38 false false none) = true := by decide +kernel
def cd_Wh_shiftDown : List jm_e := [(0, .lconst 0, 1, 0, 0, 0, 0, 0, 0), (1, .lstore_n 2, 2, 2, 0, 0, 0, 0, 0), (2, .aload_n 0, 3, 0, 0, 0, 0, 0, 0), (3, .getfield 13, 6, 4, 1, 0, 0, 0, 171), (6, .iconst 1, 7, 0, 0, 0, 1, 0, 0), (7, .isub, 8, 0, 0, 0, 0, 0, 0), (8, .istore 4, 10, 4, 0, 0, 0, 0, 0), (10, .iload 4, 12, 4, 0, 0, 0, 0, 0), (12, .ifCond .lt 45, 15, 57, 0, 0, 0, 0, 0), (15, .lload_n 2, 16, 2, 0, 0, 0, 0, 0), (16, .bipush 30, 18, 0, 0, 0, 30, 0, 0), (18, .lshl, 19, 0, 0, 0, 0, 0, 0), (19, .aload_n 0, 20, 0, 0, 0, 0, 0, 0), (20, .getfield 9, 23, 4, 0, 0, 0, 0, 170), (23, .iload 4, 25, 4, 0, 0, 0, 0, 0), (25, .iaload, 26, 0, 0, 0, 0, 0, 0), (26, .i2l, 27, 0, 0, 0, 0, 0, 0), (27, .ladd, 28, 0, 0, 0, 0, 0, 0), (28, .lstore 5, 30, 5, 0, 0, 0, 0, 0), (30, .aload_n 0, 31, 0, 0, 0, 0, 0, 0), (31, .getfield 9, 34, 4, 0, 0, 0, 0, 170), (34, .iload 4, 36, 4, 0, 0, 0, 0, 0), (36, .lload 5, 38, 5, 0, 0, 0, 0, 0), (38, .iload_n 1, 39, 1, 0, 0, 0, 0, 0), (39, .lushr, 40, 0, 0, 0, 0, 0, 0), (40, .l2i, 41, 0, 0, 0, 0, 0, 0), (41, .iastore, 42, 0, 0, 0, 0, 0, 0), (42, .lload 5, 44, 5, 0, 0, 0, 0, 0), (44, .lconst 1, 45, 0, 0, 0, 0, 1, 0), (45, .iload_n 1, 46, 1, 0, 0, 0, 0, 0), (46, .lshl, 47, 0, 0, 0, 0, 0, 0), (47, .lconst 1, 48, 0, 0, 0, 0, 1, 0), (48, .lsub, 49, 0, 0, 0, 0, 0, 0), (49, .land, 50, 0, 0, 0, 0, 0, 0), (50, .lstore_n 2, 51, 2, 0, 0, 0, 0, 0), (51, .iinc 4 (-1), 54, 4, 0, 0, (-1), 0, 0), (54, .goto (-44), 57, 10, 0, 0, 0, 0, 0), (57, .aload_n 0, 58, 0, 0, 0, 0, 0, 0), (58, .aload_n 0, 59, 0, 0, 0, 0, 0, 0), (59, .getfield 13, 62, 4, 1, 0, 0, 0, 171), (62, .invokevirtual 25, 65, 50, 2, 4, 0, 0, 442), (65, .return_, 66, 0, 0, 0, 0, 0, 0)]
theorem ok_Wh_shiftDown : cd_Wh_shiftDown.all (jm_okE "ShareSolve$Whole" prog_6_method_16_code 7 1 22 false false none) = true := by decide +kernel
def cd_Wh_lowestBits : List jm_e := [(0, .aload_n 0, 1, 0, 0, 0, 0, 0, 0), (1, .getfield 9, 4, 4, 0, 0, 0, 0, 170), (4, .iconst 0, 5, 0, 0, 0, 0, 0, 0), (5, .iaload, 6, 0, 0, 0, 0, 0, 0), (6, .i2l, 7, 0, 0, 0, 0, 0, 0), (7, .aload_n 0, 8, 0, 0, 0, 0, 0, 0), (8, .getfield 9, 11, 4, 0, 0, 0, 0, 170), (11, .iconst 1, 12, 0, 0, 0, 1, 0, 0), (12, .iaload, 13, 0, 0, 0, 0, 0, 0), (13, .i2l, 14, 0, 0, 0, 0, 0, 0), (14, .bipush 30, 16, 0, 0, 0, 30, 0, 0), (16, .lshl, 17, 0, 0, 0, 0, 0, 0), (17, .lor, 18, 0, 0, 0, 0, 0, 0), (18, .aload_n 0, 19, 0, 0, 0, 0, 0, 0), (19, .getfield 9, 22, 4, 0, 0, 0, 0, 170), (22, .iconst 2, 23, 0, 0, 0, 2, 0, 0), (23, .iaload, 24, 0, 0, 0, 0, 0, 0), (24, .i2l, 25, 0, 0, 0, 0, 0, 0), (25, .bipush 60, 27, 0, 0, 0, 60, 0, 0), (27, .lshl, 28, 0, 0, 0, 0, 0, 0), (28, .lor, 29, 0, 0, 0, 0, 0, 0), (29, .lreturn, 30, 0, 0, 0, 0, 0, 0)]
theorem ok_Wh_lowestBits : cd_Wh_lowestBits.all (jm_okE "ShareSolve$Whole" prog_6_method_5_code 1 0 0 false false (some (.long))) = true := by decide +kernel
def cd_Wh_compareWith : List jm_e := [(0, .bipush 12, 2, 0, 0, 0, 12, 0, 0), (2, .istore_n 2, 3, 2, 0, 0, 0, 0, 0), (3, .iload_n 2, 4, 2, 0, 0, 0, 0, 0), (4, .ifCond .lt 45, 7, 49, 0, 0, 0, 0, 0), (7, .aload_n 0, 8, 0, 0, 0, 0, 0, 0), (8, .getfield 9, 11, 4, 0, 0, 0, 0, 170), (11, .iload_n 2, 12, 2, 0, 0, 0, 0, 0), (12, .iaload, 13, 0, 0, 0, 0, 0, 0), (13, .aload_n 1, 14, 1, 0, 0, 0, 0, 0), (14, .getfield 9, 17, 4, 0, 0, 0, 0, 170), (17, .iload_n 2, 18, 2, 0, 0, 0, 0, 0), (18, .iaload, 19, 0, 0, 0, 0, 0, 0), (19, .if_icmp .eq 24, 22, 43, 0, 0, 0, 0, 0), (22, .aload_n 0, 23, 0, 0, 0, 0, 0, 0), (23, .getfield 9, 26, 4, 0, 0, 0, 0, 170), (26, .iload_n 2, 27, 2, 0, 0, 0, 0, 0), (27, .iaload, 28, 0, 0, 0, 0, 0, 0), (28, .aload_n 1, 29, 1, 0, 0, 0, 0, 0), (29, .getfield 9, 32, 4, 0, 0, 0, 0, 170), (32, .iload_n 2, 33, 2, 0, 0, 0, 0, 0), (33, .iaload, 34, 0, 0, 0, 0, 0, 0), (34, .if_icmp .ge 7, 37, 41, 0, 0, 0, 0, 0), (37, .iconst (-1), 38, 0, 0, 0, (-1), 0, 0), (38, .goto 4, 41, 42, 0, 0, 0, 0, 0), (41, .iconst 1, 42, 0, 0, 0, 1, 0, 0), (42, .ireturn, 43, 0, 0, 0, 0, 0, 0), (43, .iinc 2 (-1), 46, 2, 0, 0, (-1), 0, 0), (46, .goto (-43), 49, 3, 0, 0, 0, 0, 0), (49, .iconst 0, 50, 0, 0, 0, 0, 0, 0), (50, .ireturn, 51, 0, 0, 0, 0, 0, 0)]
theorem ok_Wh_compareWith : cd_Wh_compareWith.all (jm_okE "ShareSolve$Whole" prog_6_method_9_code 3 0 0 false false (some (.int))) = true := by decide +kernel
def cd_Ar_fill : List jm_e := [(0, .iconst 0, 1, 0, 0, 0, 0, 0, 0), (1, .istore_n 2, 2, 2, 0, 0, 0, 0, 0), (2, .aload_n 0, 3, 0, 0, 0, 0, 0, 0), (3, .arraylength, 4, 0, 0, 0, 0, 0, 0), (4, .istore_n 3, 5, 3, 0, 0, 0, 0, 0), (5, .iload_n 2, 6, 2, 0, 0, 0, 0, 0), (6, .iload_n 3, 7, 3, 0, 0, 0, 0, 0), (7, .if_icmp .ge 13, 10, 20, 0, 0, 0, 0, 0), (10, .aload_n 0, 11, 0, 0, 0, 0, 0, 0), (11, .iload_n 2, 12, 2, 0, 0, 0, 0, 0), (12, .iload_n 1, 13, 1, 0, 0, 0, 0, 0), (13, .iastore, 14, 0, 0, 0, 0, 0, 0), (14, .iinc 2 1, 17, 2, 0, 0, 1, 0, 0), (17, .goto (-12), 20, 5, 0, 0, 0, 0, 0), (20, .return_, 21, 0, 0, 0, 0, 0, 0)]
theorem ok_Ar_fill : cd_Ar_fill.all (jm_okE "java/util/Arrays" prog_12_method_103_code 4 0 0 false false none) = true := by decide +kernel
def cd_In_numberOfLeadingZeros : List jm_e := [(0, .iload_n 0, 1, 0, 0, 0, 0, 0, 0), (1, .ifCond .gt 14, 4, 15, 0, 0, 0, 0, 0), (4, .iload_n 0, 5, 0, 0, 0, 0, 0, 0), (5, .ifCond .ne 8, 8, 13, 0, 0, 0, 0, 0), (8, .bipush 32, 10, 0, 0, 0, 32, 0, 0), (10, .goto 4, 13, 14, 0, 0, 0, 0, 0), (13, .iconst 0, 14, 0, 0, 0, 0, 0, 0), (14, .ireturn, 15, 0, 0, 0, 0, 0, 0), (15, .bipush 31, 17, 0, 0, 0, 31, 0, 0), (17, .istore_n 1, 18, 1, 0, 0, 0, 0, 0), (18, .iload_n 0, 19, 0, 0, 0, 0, 0, 0), (19, .ldc_w 264, 22, 0, 0, 0, 65536, 0, 499), (22, .if_icmp .lt 11, 25, 33, 0, 0, 0, 0, 0), (25, .iinc 1 (-16), 28, 1, 0, 0, (-16), 0, 0), (28, .iload_n 0, 29, 0, 0, 0, 0, 0, 0), (29, .bipush 16, 31, 0, 0, 0, 16, 0, 0), (31, .iushr, 32, 0, 0, 0, 0, 0, 0), (32, .istore_n 0, 33, 0, 0, 0, 0, 0, 0), (33, .iload_n 0, 34, 0, 0, 0, 0, 0, 0), (34, .sipush 256, 37, 0, 0, 0, 256, 0, 0), (37, .if_icmp .lt 11, 40, 48, 0, 0, 0, 0, 0), (40, .iinc 1 (-8), 43, 1, 0, 0, (-8), 0, 0), (43, .iload_n 0, 44, 0, 0, 0, 0, 0, 0), (44, .bipush 8, 46, 0, 0, 0, 8, 0, 0), (46, .iushr, 47, 0, 0, 0, 0, 0, 0), (47, .istore_n 0, 48, 0, 0, 0, 0, 0, 0), (48, .iload_n 0, 49, 0, 0, 0, 0, 0, 0), (49, .bipush 16, 51, 0, 0, 0, 16, 0, 0), (51, .if_icmp .lt 10, 54, 61, 0, 0, 0, 0, 0), (54, .iinc 1 (-4), 57, 1, 0, 0, (-4), 0, 0), (57, .iload_n 0, 58, 0, 0, 0, 0, 0, 0), (58, .iconst 4, 59, 0, 0, 0, 4, 0, 0), (59, .iushr, 60, 0, 0, 0, 0, 0, 0), (60, .istore_n 0, 61, 0, 0, 0, 0, 0, 0), (61, .iload_n 0, 62, 0, 0, 0, 0, 0, 0), (62, .iconst 4, 63, 0, 0, 0, 4, 0, 0), (63, .if_icmp .lt 10, 66, 73, 0, 0, 0, 0, 0), (66, .iinc 1 (-2), 69, 1, 0, 0, (-2), 0, 0), (69, .iload_n 0, 70, 0, 0, 0, 0, 0, 0), (70, .iconst 2, 71, 0, 0, 0, 2, 0, 0), (71, .iushr, 72, 0, 0, 0, 0, 0, 0), (72, .istore_n 0, 73, 0, 0, 0, 0, 0, 0), (73, .iload_n 1, 74, 1, 0, 0, 0, 0, 0), (74, .iload_n 0, 75, 0, 0, 0, 0, 0, 0), (75, .iconst 1, 76, 0, 0, 0, 1, 0, 0), (76, .iushr, 77, 0, 0, 0, 0, 0, 0), (77, .isub, 78, 0, 0, 0, 0, 0, 0), (78, .ireturn, 79, 0, 0, 0, 0, 0, 0)]
theorem ok_In_numberOfLeadingZeros : cd_In_numberOfLeadingZeros.all (jm_okE "java/lang/Integer" prog_9_method_47_code 2 0 0 false false (some (.int))) = true := by decide +kernel
end
section
/-! the code of ShareSolve$Line, ShareSolve$Solved -/
def cd_Ln_init : List jm_e := [(0, .aload_n 0, 1, 0, 0, 0, 0, 0, 0), (1, .invokespecial 3, 4, 999, 1, 0, 0, 0, 87), (4, .aload_n 0, 5, 0, 0, 0, 0, 0, 0), (5, .iconst 3, 6, 0, 0, 0, 3, 0, 0), (6, .newarray .int, 8, 50, 0, 0, 0, 0, 0), (8, .putfield 9, 11, 2, 3, 0, 0, 0, 101), (11, .aload_n 0, 12, 0, 0, 0, 0, 0, 0), (12, .bipush 9, 14, 0, 0, 0, 9, 0, 0), (14, .newarray .int, 16, 50, 0, 0, 0, 0, 0), (16, .putfield 15, 19, 2, 4, 0, 0, 0, 103), (19, .aload_n 0, 20, 0, 0, 0, 0, 0, 0), (20, .bipush 27, 22, 0, 0, 0, 27, 0, 0), (22, .newarray .int, 24, 50, 0, 0, 0, 0, 0), (24, .putfield 18, 27, 2, 5, 0, 0, 0, 105), (27, .aload_n 0, 28, 0, 0, 0, 0, 0, 0), (28, .bipush 9, 30, 0, 0, 0, 9, 0, 0), (30, .newarray .int, 32, 50, 0, 0, 0, 0, 0), (32, .putfield 21, 35, 2, 6, 0, 0, 0, 106), (35, .aload_n 0, 36, 0, 0, 0, 0, 0, 0), (36, .bipush 9, 38, 0, 0, 0, 9, 0, 0), (38, .newarray .int, 40, 50, 0, 0, 0, 0, 0), (40, .putfield 24, 43, 2, 7, 0, 0, 0, 109), (43, .aload_n 0, 44, 0, 0, 0, 0, 0, 0), (44, .bipush 9, 46, 0, 0, 0, 9, 0, 0), (46, .newarray .long, 48, 51, 0, 0, 0, 0, 0), (48, .putfield 27, 51, 2, 8, 0, 0, 0, 112), (51, .aload_n 0, 52, 0, 0, 0, 0, 0, 0), (52, .iconst 3, 53, 0, 0, 0, 3, 0, 0), (53, .newarray .boolean, 55, 52, 0, 0, 0, 0, 0), (55, .putfield 31, 58, 2, 9, 0, 0, 0, 115), (58, .aload_n 0, 59, 0, 0, 0, 0, 0, 0), (59, .iconst 3, 60, 0, 0, 0, 3, 0, 0), (60, .newarray .long, 62, 51, 0, 0, 0, 0, 0), (62, .putfield 35, 65, 2, 10, 0, 0, 0, 117), (65, .aload_n 0, 66, 0, 0, 0, 0, 0, 0), (66, .iconst 3, 67, 0, 0, 0, 3, 0, 0), (67, .newarray .long, 69, 51, 0, 0, 0, 0, 0), (69, .putfield 38, 72, 2, 11, 0, 0, 0, 119), (72, .aload_n 0, 73, 0, 0, 0, 0, 0, 0), (73, .bipush 9, 75, 0, 0, 0, 9, 0, 0), (75, .newarray .boolean, 77, 52, 0, 0, 0, 0, 0), (77, .putfield 41, 80, 2, 12, 0, 0, 0, 121), (80, .aload_n 0, 81, 0, 0, 0, 0, 0, 0), (81, .iload_n 1, 82, 1, 0, 0, 0, 0, 0), (82, .putfield 44, 85, 2, 0, 0, 0, 0, 91), (85, .aload_n 0, 86, 0, 0, 0, 0, 0, 0), (86, .getfield 15, 89, 2, 4, 0, 0, 0, 103), (89, .iconst (-1), 90, 0, 0, 0, (-1), 0, 0), (90, .invokestatic 48, 93, 152, 2, 0, 0, 0, 88), (93, .return_, 94, 0, 0, 0, 0, 0, 0)]
theorem ok_Ln_init : cd_Ln_init.all (jm_okE "ShareSolve$Line" prog_4_method_1_code 2 1 23 false true none) = true := by decide +kernel
def cd_Ln_addMachine : List jm_e := [(0, .aload_n 0, 1, 0, 0, 0, 0, 0, 0), (1, .getfield 54, 4, 2, 1, 0, 0, 0, 96), (4, .istore_n 2, 5, 2, 0, 0, 0, 0, 0), (5, .aload_n 0, 6, 0, 0, 0, 0, 0, 0), (6, .getfield 9, 9, 2, 3, 0, 0, 0, 101), (9, .iload_n 2, 10, 2, 0, 0, 0, 0, 0), (10, .iload_n 1, 11, 1, 0, 0, 0, 0, 0), (11, .iastore, 12, 0, 0, 0, 0, 0, 0), (12, .iconst 0, 13, 0, 0, 0, 0, 0, 0), (13, .istore_n 3, 14, 3, 0, 0, 0, 0, 0), (14, .iload_n 3, 15, 3, 0, 0, 0, 0, 0), (15, .aload_n 0, 16, 0, 0, 0, 0, 0, 0), (16, .getfield 44, 19, 2, 0, 0, 0, 0, 91), (19, .if_icmp .ge 29, 22, 48, 0, 0, 0, 0, 0), (22, .aload_n 0, 23, 0, 0, 0, 0, 0, 0), (23, .getfield 18, 26, 2, 5, 0, 0, 0, 105), (26, .aload_n 0, 27, 0, 0, 0, 0, 0, 0), (27, .iload_n 2, 28, 2, 0, 0, 0, 0, 0), (28, .iload_n 3, 29, 3, 0, 0, 0, 0, 0), (29, .invokevirtual 78, 32, 26, 3, 2, 0, 0, 297), (32, .iconst 3, 33, 0, 0, 0, 3, 0, 0), (33, .imul, 34, 0, 0, 0, 0, 0, 0), (34, .iload_n 1, 35, 1, 0, 0, 0, 0, 0), (35, .iadd, 36, 0, 0, 0, 0, 0, 0), (36, .iconst 1, 37, 0, 0, 0, 1, 0, 0), (37, .isub, 38, 0, 0, 0, 0, 0, 0), (38, .sipush 27720, 41, 0, 0, 0, 27720, 0, 0), (41, .iastore, 42, 0, 0, 0, 0, 0, 0), (42, .iinc 3 1, 45, 3, 0, 0, 1, 0, 0), (45, .goto (-31), 48, 14, 0, 0, 0, 0, 0), (48, .aload_n 0, 49, 0, 0, 0, 0, 0, 0), (49, .dup, 50, 0, 0, 0, 0, 0, 0), (50, .getfield 54, 53, 2, 1, 0, 0, 0, 96), (53, .iconst 1, 54, 0, 0, 0, 1, 0, 0), (54, .iadd, 55, 0, 0, 0, 0, 0, 0), (55, .putfield 54, 58, 2, 1, 0, 0, 0, 96), (58, .iload_n 2, 59, 2, 0, 0, 0, 0, 0), (59, .ireturn, 60, 0, 0, 0, 0, 0, 0)]
theorem ok_Ln_addMachine : cd_Ln_addMachine.all (jm_okE "ShareSolve$Line" prog_4_method_13_code 4 1 22 false false (some (.int))) = true := by decide +kernel
def cd_Ln_row : List jm_e := [(0, .iload_n 1, 1, 1, 0, 0, 0, 0, 0), (1, .aload_n 0, 2, 0, 0, 0, 0, 0, 0), (2, .getfield 44, 5, 2, 0, 0, 0, 0, 91), (5, .imul, 6, 0, 0, 0, 0, 0, 0), (6, .iload_n 2, 7, 2, 0, 0, 0, 0, 0), (7, .iadd, 8, 0, 0, 0, 0, 0, 0), (8, .ireturn, 9, 0, 0, 0, 0, 0, 0)]
theorem ok_Ln_row : cd_Ln_row.all (jm_okE "ShareSolve$Line" prog_4_method_10_code 3 0 0 false false (some (.int))) = true := by decide +kernel
def cd_Ln_addPort : List jm_e := [(0, .aload_n 0, 1, 0, 0, 0, 0, 0, 0), (1, .dup, 2, 0, 0, 0, 0, 0, 0), (2, .getfield 57, 5, 2, 2, 0, 0, 0, 99), (5, .iconst 1, 6, 0, 0, 0, 1, 0, 0), (6, .iadd, 7, 0, 0, 0, 0, 0, 0), (7, .putfield 57, 10, 2, 2, 0, 0, 0, 99), (10, .aload_n 0, 11, 0, 0, 0, 0, 0, 0), (11, .getfield 57, 14, 2, 2, 0, 0, 0, 99), (14, .iconst 1, 15, 0, 0, 0, 1, 0, 0), (15, .isub, 16, 0, 0, 0, 0, 0, 0), (16, .ireturn, 17, 0, 0, 0, 0, 0, 0)]
theorem ok_Ln_addPort : cd_Ln_addPort.all (jm_okE "ShareSolve$Line" prog_4_method_14_code 1 0 0 false false (some (.int))) = true := by decide +kernel
def cd_Ln_hasOut : List jm_e := [(0, .aload_n 0, 1, 0, 0, 0, 0, 0, 0), (1, .iload_n 1, 2, 1, 0, 0, 0, 0, 0), (2, .invokevirtual 60, 5, 29, 2, 2, 0, 0, 317), (5, .ifCond .eq 21, 8, 26, 0, 0, 0, 0, 0), (8, .iload_n 2, 9, 2, 0, 0, 0, 0, 0), (9, .ifCond .lt 17, 12, 26, 0, 0, 0, 0, 0), (12, .iload_n 2, 13, 2, 0, 0, 0, 0, 0), (13, .aload_n 0, 14, 0, 0, 0, 0, 0, 0), (14, .getfield 9, 17, 2, 3, 0, 0, 0, 101), (17, .iload_n 1, 18, 1, 0, 0, 0, 0, 0), (18, .iaload, 19, 0, 0, 0, 0, 0, 0), (19, .if_icmp .ge 7, 22, 26, 0, 0, 0, 0, 0), (22, .iconst 1, 23, 0, 0, 0, 1, 0, 0), (23, .goto 4, 26, 27, 0, 0, 0, 0, 0), (26, .iconst 0, 27, 0, 0, 0, 0, 0, 0), (27, .ireturn, 28, 0, 0, 0, 0, 0, 0)]
theorem ok_Ln_hasOut : cd_Ln_hasOut.all (jm_okE "ShareSolve$Line" prog_4_method_6_code 3 1 21 false false (some (.boolean))) = true := by decide +kernel
def cd_Ln_hasMachine : List jm_e := [(0, .iload_n 1, 1, 1, 0, 0, 0, 0, 0), (1, .ifCond .lt 15, 4, 16, 0, 0, 0, 0, 0), (4, .iload_n 1, 5, 1, 0, 0, 0, 0, 0), (5, .aload_n 0, 6, 0, 0, 0, 0, 0, 0), (6, .getfield 54, 9, 2, 1, 0, 0, 0, 96), (9, .if_icmp .ge 7, 12, 16, 0, 0, 0, 0, 0), (12, .iconst 1, 13, 0, 0, 0, 1, 0, 0), (13, .goto 4, 16, 17, 0, 0, 0, 0, 0), (16, .iconst 0, 17, 0, 0, 0, 0, 0, 0), (17, .ireturn, 18, 0, 0, 0, 0, 0, 0)]
theorem ok_Ln_hasMachine : cd_Ln_hasMachine.all (jm_okE "ShareSolve$Line" prog_4_method_2_code 2 0 0 false false (some (.boolean))) = true := by decide +kernel
def cd_Ln_hasTarget : List jm_e := [(0, .iload_n 1, 1, 1, 0, 0, 0, 0, 0), (1, .ifCond .lt 19, 4, 20, 0, 0, 0, 0, 0), (4, .iload_n 1, 5, 1, 0, 0, 0, 0, 0), (5, .aload_n 0, 6, 0, 0, 0, 0, 0, 0), (6, .getfield 54, 9, 2, 1, 0, 0, 0, 96), (9, .if_icmp .ge 7, 12, 16, 0, 0, 0, 0, 0), (12, .iconst 1, 13, 0, 0, 0, 1, 0, 0), (13, .goto 28, 16, 41, 0, 0, 0, 0, 0), (16, .iconst 0, 17, 0, 0, 0, 0, 0, 0), (17, .goto 24, 20, 41, 0, 0, 0, 0, 0), (20, .iload_n 1, 21, 1, 0, 0, 0, 0, 0), (21, .iconst (-1), 22, 0, 0, 0, (-1), 0, 0), (22, .if_icmp .eq 14, 25, 36, 0, 0, 0, 0, 0), (25, .aload_n 0, 26, 0, 0, 0, 0, 0, 0), (26, .bipush (-2), 28, 0, 0, 0, (-2), 0, 0), (28, .iload_n 1, 29, 1, 0, 0, 0, 0, 0), (29, .isub, 30, 0, 0, 0, 0, 0, 0), (30, .invokevirtual 75, 33, 31, 2, 2, 0, 0, 325), (33, .ifCond .eq 7, 36, 40, 0, 0, 0, 0, 0), (36, .iconst 1, 37, 0, 0, 0, 1, 0, 0), (37, .goto 4, 40, 41, 0, 0, 0, 0, 0), (40, .iconst 0, 41, 0, 0, 0, 0, 0, 0), (41, .ireturn, 42, 0, 0, 0, 0, 0, 0)]
theorem ok_Ln_hasTarget : cd_Ln_hasTarget.all (jm_okE "ShareSolve$Line" prog_4_method_8_code 2 1 21 false false (some (.boolean))) = true := by decide +kernel
def cd_Ln_hasPort : List jm_e := [(0, .iload_n 1, 1, 1, 0, 0, 0, 0, 0), (1, .ifCond .lt 15, 4, 16, 0, 0, 0, 0, 0), (4, .iload_n 1, 5, 1, 0, 0, 0, 0, 0), (5, .aload_n 0, 6, 0, 0, 0, 0, 0, 0), (6, .getfield 57, 9, 2, 2, 0, 0, 0, 99), (9, .if_icmp .ge 7, 12, 16, 0, 0, 0, 0, 0), (12, .iconst 1, 13, 0, 0, 0, 1, 0, 0), (13, .goto 4, 16, 17, 0, 0, 0, 0, 0), (16, .iconst 0, 17, 0, 0, 0, 0, 0, 0), (17, .ireturn, 18, 0, 0, 0, 0, 0, 0)]
theorem ok_Ln_hasPort : cd_Ln_hasPort.all (jm_okE "ShareSolve$Line" prog_4_method_3_code 2 0 0 false false (some (.boolean))) = true := by decide +kernel
def cd_Ln_hasSharedOut : List jm_e := [(0, .aload_n 0, 1, 0, 0, 0, 0, 0, 0), (1, .iload_n 1, 2, 1, 0, 0, 0, 0, 0), (2, .iload_n 3, 3, 3, 0, 0, 0, 0, 0), (3, .invokevirtual 67, 6, 28, 3, 2, 0, 0, 341), (6, .ifCond .eq 24, 9, 30, 0, 0, 0, 0, 0), (9, .aload_n 0, 10, 0, 0, 0, 0, 0, 0), (10, .iload_n 2, 11, 2, 0, 0, 0, 0, 0), (11, .invokevirtual 64, 14, 33, 2, 2, 0, 0, 342), (14, .ifCond .eq 16, 17, 30, 0, 0, 0, 0, 0), (17, .iload_n 3, 18, 3, 0, 0, 0, 0, 0), (18, .aload_n 0, 19, 0, 0, 0, 0, 0, 0), (19, .iload_n 1, 20, 1, 0, 0, 0, 0, 0), (20, .invokevirtual 71, 23, 34, 2, 2, 0, 0, 346), (23, .if_icmp .eq 7, 26, 30, 0, 0, 0, 0, 0), (26, .iconst 1, 27, 0, 0, 0, 1, 0, 0), (27, .goto 4, 30, 31, 0, 0, 0, 0, 0), (30, .iconst 0, 31, 0, 0, 0, 0, 0, 0), (31, .ireturn, 32, 0, 0, 0, 0, 0, 0)]
theorem ok_Ln_hasSharedOut : cd_Ln_hasSharedOut.all (jm_okE "ShareSolve$Line" prog_4_method_7_code 4 2 43 false false (some (.boolean))) = true := by decide +kernel
def cd_Ln_hasKind : List jm_e := [(0, .iload_n 1, 1, 1, 0, 0, 0, 0, 0), (1, .ifCond .lt 15, 4, 16, 0, 0, 0, 0, 0), (4, .iload_n 1, 5, 1, 0, 0, 0, 0, 0), (5, .aload_n 0, 6, 0, 0, 0, 0, 0, 0), (6, .getfield 44, 9, 2, 0, 0, 0, 0, 91), (9, .if_icmp .ge 7, 12, 16, 0, 0, 0, 0, 0), (12, .iconst 1, 13, 0, 0, 0, 1, 0, 0), (13, .goto 4, 16, 17, 0, 0, 0, 0, 0), (16, .iconst 0, 17, 0, 0, 0, 0, 0, 0), (17, .ireturn, 18, 0, 0, 0, 0, 0, 0)]
theorem ok_Ln_hasKind : cd_Ln_hasKind.all (jm_okE "ShareSolve$Line" prog_4_method_4_code 2 0 0 false false (some (.boolean))) = true := by decide +kernel
def cd_Ln_lastOut : List jm_e := [(0, .aload_n 0, 1, 0, 0, 0, 0, 0, 0), (1, .getfield 9, 4, 2, 3, 0, 0, 0, 101), (4, .iload_n 1, 5, 1, 0, 0, 0, 0, 0), (5, .iaload, 6, 0, 0, 0, 0, 0, 0), (6, .iconst 1, 7, 0, 0, 0, 1, 0, 0), (7, .isub, 8, 0, 0, 0, 0, 0, 0), (8, .ireturn, 9, 0, 0, 0, 0, 0, 0)]
theorem ok_Ln_lastOut : cd_Ln_lastOut.all (jm_okE "ShareSolve$Line" prog_4_method_9_code 2 0 0 false false (some (.int))) = true := by decide +kernel
def cd_Ln_setShare : List jm_e := [(0, .aload_n 0, 1, 0, 0, 0, 0, 0, 0), (1, .iload_n 1, 2, 1, 0, 0, 0, 0, 0), (2, .iload_n 2, 3, 2, 0, 0, 0, 0, 0), (3, .invokevirtual 78, 6, 26, 3, 2, 0, 0, 297), (6, .iconst 3, 7, 0, 0, 0, 3, 0, 0), (7, .imul, 8, 0, 0, 0, 0, 0, 0), (8, .istore 5, 10, 5, 0, 0, 0, 0, 0), (10, .iload 5, 12, 5, 0, 0, 0, 0, 0), (12, .aload_n 0, 13, 0, 0, 0, 0, 0, 0), (13, .iload_n 1, 14, 1, 0, 0, 0, 0, 0), (14, .invokevirtual 71, 17, 34, 2, 2, 0, 0, 346), (17, .iadd, 18, 0, 0, 0, 0, 0, 0), (18, .istore 6, 20, 6, 0, 0, 0, 0, 0), (20, .aload_n 0, 21, 0, 0, 0, 0, 0, 0), (21, .getfield 18, 24, 2, 5, 0, 0, 0, 105), (24, .iload 6, 26, 6, 0, 0, 0, 0, 0), (26, .iaload, 27, 0, 0, 0, 0, 0, 0), (27, .aload_n 0, 28, 0, 0, 0, 0, 0, 0), (28, .getfield 18, 31, 2, 5, 0, 0, 0, 105), (31, .iload 5, 33, 5, 0, 0, 0, 0, 0), (33, .iload_n 3, 34, 3, 0, 0, 0, 0, 0), (34, .iadd, 35, 0, 0, 0, 0, 0, 0), (35, .iaload, 36, 0, 0, 0, 0, 0, 0), (36, .iadd, 37, 0, 0, 0, 0, 0, 0), (37, .iload 4, 39, 4, 0, 0, 0, 0, 0), (39, .isub, 40, 0, 0, 0, 0, 0, 0), (40, .istore 7, 42, 7, 0, 0, 0, 0, 0), (42, .iload 7, 44, 7, 0, 0, 0, 0, 0), (44, .ifCond .ge 5, 47, 49, 0, 0, 0, 0, 0), (47, .iconst 0, 48, 0, 0, 0, 0, 0, 0), (48, .ireturn, 49, 0, 0, 0, 0, 0, 0), (49, .aload_n 0, 50, 0, 0, 0, 0, 0, 0), (50, .getfield 18, 53, 2, 5, 0, 0, 0, 105), (53, .iload 5, 55, 5, 0, 0, 0, 0, 0), (55, .iload_n 3, 56, 3, 0, 0, 0, 0, 0), (56, .iadd, 57, 0, 0, 0, 0, 0, 0), (57, .iload 4, 59, 4, 0, 0, 0, 0, 0), (59, .iastore, 60, 0, 0, 0, 0, 0, 0), (60, .aload_n 0, 61, 0, 0, 0, 0, 0, 0), (61, .getfield 18, 64, 2, 5, 0, 0, 0, 105), (64, .iload 6, 66, 6, 0, 0, 0, 0, 0), (66, .iload 7, 68, 7, 0, 0, 0, 0, 0), (68, .iastore, 69, 0, 0, 0, 0, 0, 0), (69, .iconst 1, 70, 0, 0, 0, 1, 0, 0), (70, .ireturn, 71, 0, 0, 0, 0, 0, 0)]
theorem ok_Ln_setShare : cd_Ln_setShare.all (jm_okE "ShareSolve$Line" prog_4_method_15_code 8 1 22 false false (some (.boolean))) = true := by decide +kernel
def cd_Ln_hasRow : List jm_e := [(0, .aload_n 0, 1, 0, 0, 0, 0, 0, 0), (1, .iload_n 1, 2, 1, 0, 0, 0, 0, 0), (2, .invokevirtual 60, 5, 29, 2, 2, 0, 0, 317), (5, .ifCond .eq 15, 8, 20, 0, 0, 0, 0, 0), (8, .aload_n 0, 9, 0, 0, 0, 0, 0, 0), (9, .iload_n 2, 10, 2, 0, 0, 0, 0, 0), (10, .invokevirtual 64, 13, 33, 2, 2, 0, 0, 342), (13, .ifCond .eq 7, 16, 20, 0, 0, 0, 0, 0), (16, .iconst 1, 17, 0, 0, 0, 1, 0, 0), (17, .goto 4, 20, 21, 0, 0, 0, 0, 0), (20, .iconst 0, 21, 0, 0, 0, 0, 0, 0), (21, .ireturn, 22, 0, 0, 0, 0, 0, 0)]
theorem ok_Ln_hasRow : cd_Ln_hasRow.all (jm_okE "ShareSolve$Line" prog_4_method_5_code 3 1 21 false false (some (.boolean))) = true := by decide +kernel
def cd_Ln_firstStuck : List jm_e := [(0, .iconst 0, 1, 0, 0, 0, 0, 0, 0), (1, .istore_n 1, 2, 1, 0, 0, 0, 0, 0), (2, .iload_n 1, 3, 1, 0, 0, 0, 0, 0), (3, .bipush 9, 5, 0, 0, 0, 9, 0, 0), (5, .if_icmp .ge 16, 8, 21, 0, 0, 0, 0, 0), (8, .aload_n 0, 9, 0, 0, 0, 0, 0, 0), (9, .getfield 41, 12, 2, 12, 0, 0, 0, 121), (12, .iload_n 1, 13, 1, 0, 0, 0, 0, 0), (13, .iconst 0, 14, 0, 0, 0, 0, 0, 0), (14, .bastore, 15, 0, 0, 0, 0, 0, 0), (15, .iinc 1 1, 18, 1, 0, 0, 1, 0, 0), (18, .goto (-16), 21, 2, 0, 0, 0, 0, 0), (21, .iconst 0, 22, 0, 0, 0, 0, 0, 0), (22, .istore_n 1, 23, 1, 0, 0, 0, 0, 0), (23, .iload_n 1, 24, 1, 0, 0, 0, 0, 0), (24, .bipush 9, 26, 0, 0, 0, 9, 0, 0), (26, .if_icmp .ge 13, 29, 39, 0, 0, 0, 0, 0), (29, .aload_n 0, 30, 0, 0, 0, 0, 0, 0), (30, .invokevirtual 82, 33, 38, 1, 2, 0, 0, 389), (33, .iinc 1 1, 36, 1, 0, 0, 1, 0, 0), (36, .goto (-13), 39, 23, 0, 0, 0, 0, 0), (39, .iconst 0, 40, 0, 0, 0, 0, 0, 0), (40, .istore_n 1, 41, 1, 0, 0, 0, 0, 0), (41, .iload_n 1, 42, 1, 0, 0, 0, 0, 0), (42, .aload_n 0, 43, 0, 0, 0, 0, 0, 0), (43, .getfield 54, 46, 2, 1, 0, 0, 0, 96), (46, .if_icmp .ge 41, 49, 87, 0, 0, 0, 0, 0), (49, .iconst 0, 50, 0, 0, 0, 0, 0, 0), (50, .istore_n 2, 51, 2, 0, 0, 0, 0, 0), (51, .iload_n 2, 52, 2, 0, 0, 0, 0, 0), (52, .aload_n 0, 53, 0, 0, 0, 0, 0, 0), (53, .getfield 44, 56, 2, 0, 0, 0, 0, 91), (56, .if_icmp .ge 25, 59, 81, 0, 0, 0, 0, 0), (59, .aload_n 0, 60, 0, 0, 0, 0, 0, 0), (60, .getfield 41, 63, 2, 12, 0, 0, 0, 121), (63, .aload_n 0, 64, 0, 0, 0, 0, 0, 0), (64, .iload_n 1, 65, 1, 0, 0, 0, 0, 0), (65, .iload_n 2, 66, 2, 0, 0, 0, 0, 0), (66, .invokevirtual 78, 69, 26, 3, 2, 0, 0, 297), (69, .baload, 70, 0, 0, 0, 0, 0, 0), (70, .ifCond .ne 5, 73, 75, 0, 0, 0, 0, 0), (73, .iload_n 1, 74, 1, 0, 0, 0, 0, 0), (74, .ireturn, 75, 0, 0, 0, 0, 0, 0), (75, .iinc 2 1, 78, 2, 0, 0, 1, 0, 0), (78, .goto (-27), 81, 51, 0, 0, 0, 0, 0), (81, .iinc 1 1, 84, 1, 0, 0, 1, 0, 0), (84, .goto (-43), 87, 41, 0, 0, 0, 0, 0), (87, .iconst (-1), 88, 0, 0, 0, (-1), 0, 0), (88, .ireturn, 89, 0, 0, 0, 0, 0, 0)]
theorem ok_Ln_firstStuck : cd_Ln_firstStuck.all (jm_okE "ShareSolve$Line" prog_4_method_16_code 3 4 92 false false (some (.int))) = true := by decide +kernel
def cd_Ln_spreadGetsAway : List jm_e := [(0, .iconst 0, 1, 0, 0, 0, 0, 0, 0), (1, .istore_n 1, 2, 1, 0, 0, 0, 0, 0), (2, .iload_n 1, 3, 1, 0, 0, 0, 0, 0), (3, .aload_n 0, 4, 0, 0, 0, 0, 0, 0), (4, .getfield 54, 7, 2, 1, 0, 0, 0, 96), (7, .if_icmp .ge 90, 10, 97, 0, 0, 0, 0, 0), (10, .iconst 0, 11, 0, 0, 0, 0, 0, 0), (11, .istore_n 2, 12, 2, 0, 0, 0, 0, 0), (12, .iload_n 2, 13, 2, 0, 0, 0, 0, 0), (13, .aload_n 0, 14, 0, 0, 0, 0, 0, 0), (14, .getfield 44, 17, 2, 0, 0, 0, 0, 91), (17, .if_icmp .ge 74, 20, 91, 0, 0, 0, 0, 0), (20, .aload_n 0, 21, 0, 0, 0, 0, 0, 0), (21, .iload_n 1, 22, 1, 0, 0, 0, 0, 0), (22, .iload_n 2, 23, 2, 0, 0, 0, 0, 0), (23, .invokevirtual 78, 26, 26, 3, 2, 0, 0, 297), (26, .istore_n 3, 27, 3, 0, 0, 0, 0, 0), (27, .aload_n 0, 28, 0, 0, 0, 0, 0, 0), (28, .getfield 21, 31, 2, 6, 0, 0, 0, 106), (31, .iload_n 3, 32, 3, 0, 0, 0, 0, 0), (32, .iaload, 33, 0, 0, 0, 0, 0, 0), (33, .sipush 27720, 36, 0, 0, 0, 27720, 0, 0), (36, .if_icmp .ge 19, 39, 55, 0, 0, 0, 0, 0), (39, .aload_n 0, 40, 0, 0, 0, 0, 0, 0), (40, .iload_n 1, 41, 1, 0, 0, 0, 0, 0), (41, .iload_n 2, 42, 2, 0, 0, 0, 0, 0), (42, .invokevirtual 85, 45, 39, 3, 2, 0, 0, 393), (45, .ifCond .eq 10, 48, 55, 0, 0, 0, 0, 0), (48, .aload_n 0, 49, 0, 0, 0, 0, 0, 0), (49, .getfield 41, 52, 2, 12, 0, 0, 0, 121), (52, .iload_n 3, 53, 3, 0, 0, 0, 0, 0), (53, .iconst 1, 54, 0, 0, 0, 1, 0, 0), (54, .bastore, 55, 0, 0, 0, 0, 0, 0), (55, .aload_n 0, 56, 0, 0, 0, 0, 0, 0), (56, .getfield 21, 59, 2, 6, 0, 0, 0, 106), (59, .iload_n 3, 60, 3, 0, 0, 0, 0, 0), (60, .iaload, 61, 0, 0, 0, 0, 0, 0), (61, .ifCond .le 24, 64, 85, 0, 0, 0, 0, 0), (64, .aload_n 0, 65, 0, 0, 0, 0, 0, 0), (65, .iload_n 1, 66, 1, 0, 0, 0, 0, 0), (66, .aload_n 0, 67, 0, 0, 0, 0, 0, 0), (67, .getfield 24, 70, 2, 7, 0, 0, 0, 109), (70, .iload_n 3, 71, 3, 0, 0, 0, 0, 0), (71, .iaload, 72, 0, 0, 0, 0, 0, 0), (72, .invokevirtual 85, 75, 39, 3, 2, 0, 0, 393), (75, .ifCond .eq 10, 78, 85, 0, 0, 0, 0, 0), (78, .aload_n 0, 79, 0, 0, 0, 0, 0, 0), (79, .getfield 41, 82, 2, 12, 0, 0, 0, 121), (82, .iload_n 3, 83, 3, 0, 0, 0, 0, 0), (83, .iconst 1, 84, 0, 0, 0, 1, 0, 0), (84, .bastore, 85, 0, 0, 0, 0, 0, 0), (85, .iinc 2 1, 88, 2, 0, 0, 1, 0, 0), (88, .goto (-76), 91, 12, 0, 0, 0, 0, 0), (91, .iinc 1 1, 94, 1, 0, 0, 1, 0, 0), (94, .goto (-92), 97, 2, 0, 0, 0, 0, 0), (97, .return_, 98, 0, 0, 0, 0, 0, 0)]
theorem ok_Ln_spreadGetsAway : cd_Ln_spreadGetsAway.all (jm_okE "ShareSolve$Line" prog_4_method_17_code 4 3 69 false false none) = true := by decide +kernel
def cd_Ln_leavesAs : List jm_e := [(0, .iconst 0, 1, 0, 0, 0, 0, 0, 0), (1, .istore_n 3, 2, 3, 0, 0, 0, 0, 0), (2, .iload_n 3, 3, 3, 0, 0, 0, 0, 0), (3, .aload_n 0, 4, 0, 0, 0, 0, 0, 0), (4, .getfield 9, 7, 2, 3, 0, 0, 0, 101), (7, .iload_n 1, 8, 1, 0, 0, 0, 0, 0), (8, .iaload, 9, 0, 0, 0, 0, 0, 0), (9, .if_icmp .ge 49, 12, 58, 0, 0, 0, 0, 0), (12, .aload_n 0, 13, 0, 0, 0, 0, 0, 0), (13, .iload_n 1, 14, 1, 0, 0, 0, 0, 0), (14, .iload_n 3, 15, 3, 0, 0, 0, 0, 0), (15, .invokevirtual 88, 18, 40, 3, 2, 0, 0, 397), (18, .istore 4, 20, 4, 0, 0, 0, 0, 0), (20, .aload_n 0, 21, 0, 0, 0, 0, 0, 0), (21, .iload_n 1, 22, 1, 0, 0, 0, 0, 0), (22, .iload_n 2, 23, 2, 0, 0, 0, 0, 0), (23, .iload_n 3, 24, 3, 0, 0, 0, 0, 0), (24, .invokevirtual 91, 27, 41, 4, 2, 0, 0, 401), (27, .ifCond .le 25, 30, 52, 0, 0, 0, 0, 0), (30, .iload 4, 32, 4, 0, 0, 0, 0, 0), (32, .ifCond .lt 18, 35, 50, 0, 0, 0, 0, 0), (35, .aload_n 0, 36, 0, 0, 0, 0, 0, 0), (36, .getfield 41, 39, 2, 12, 0, 0, 0, 121), (39, .aload_n 0, 40, 0, 0, 0, 0, 0, 0), (40, .iload 4, 42, 4, 0, 0, 0, 0, 0), (42, .iload_n 2, 43, 2, 0, 0, 0, 0, 0), (43, .invokevirtual 78, 46, 26, 3, 2, 0, 0, 297), (46, .baload, 47, 0, 0, 0, 0, 0, 0), (47, .ifCond .eq 5, 50, 52, 0, 0, 0, 0, 0), (50, .iconst 1, 51, 0, 0, 0, 1, 0, 0), (51, .ireturn, 52, 0, 0, 0, 0, 0, 0), (52, .iinc 3 1, 55, 3, 0, 0, 1, 0, 0), (55, .goto (-53), 58, 2, 0, 0, 0, 0, 0), (58, .iconst 0, 59, 0, 0, 0, 0, 0, 0), (59, .ireturn, 60, 0, 0, 0, 0, 0, 0)]
theorem ok_Ln_leavesAs : cd_Ln_leavesAs.all (jm_okE "ShareSolve$Line" prog_4_method_18_code 5 2 45 false false (some (.boolean))) = true := by decide +kernel
def cd_Ln_target : List jm_e := [(0, .aload_n 0, 1, 0, 0, 0, 0, 0, 0), (1, .getfield 15, 4, 2, 4, 0, 0, 0, 103), (4, .iload_n 1, 5, 1, 0, 0, 0, 0, 0), (5, .iconst 3, 6, 0, 0, 0, 3, 0, 0), (6, .imul, 7, 0, 0, 0, 0, 0, 0), (7, .iload_n 2, 8, 2, 0, 0, 0, 0, 0), (8, .iadd, 9, 0, 0, 0, 0, 0, 0), (9, .iaload, 10, 0, 0, 0, 0, 0, 0), (10, .ireturn, 11, 0, 0, 0, 0, 0, 0)]
theorem ok_Ln_target : cd_Ln_target.all (jm_okE "ShareSolve$Line" prog_4_method_12_code 3 0 0 false false (some (.int))) = true := by decide +kernel
def cd_Ln_shareOf : List jm_e := [(0, .aload_n 0, 1, 0, 0, 0, 0, 0, 0), (1, .getfield 18, 4, 2, 5, 0, 0, 0, 105), (4, .aload_n 0, 5, 0, 0, 0, 0, 0, 0), (5, .iload_n 1, 6, 1, 0, 0, 0, 0, 0), (6, .iload_n 2, 7, 2, 0, 0, 0, 0, 0), (7, .invokevirtual 78, 10, 26, 3, 2, 0, 0, 297), (10, .iconst 3, 11, 0, 0, 0, 3, 0, 0), (11, .imul, 12, 0, 0, 0, 0, 0, 0), (12, .iload_n 3, 13, 3, 0, 0, 0, 0, 0), (13, .iadd, 14, 0, 0, 0, 0, 0, 0), (14, .iaload, 15, 0, 0, 0, 0, 0, 0), (15, .ireturn, 16, 0, 0, 0, 0, 0, 0)]
theorem ok_Ln_shareOf : cd_Ln_shareOf.all (jm_okE "ShareSolve$Line" prog_4_method_11_code 4 1 22 false false (some (.int))) = true := by decide +kernel
def cd_So_init : List jm_e := [(0, .aload_n 0, 1, 0, 0, 0, 0, 0, 0), (1, .invokespecial 3, 4, 999, 1, 0, 0, 0, 247), (4, .aload_n 0, 5, 0, 0, 0, 0, 0, 0), (5, .new 9, 8, 4, 0, 0, 0, 0, 248), (8, .dup, 9, 0, 0, 0, 0, 0, 0), (9, .invokespecial 11, 12, 48, 1, 4, 0, 0, 249), (12, .putfield 12, 15, 3, 3, 0, 0, 0, 254), (15, .aload_n 0, 16, 0, 0, 0, 0, 0, 0), (16, .bipush 9, 18, 0, 0, 0, 9, 0, 0), (18, .anewarray 9, 21, 53, 0, 0, 0, 0, 248), (21, .putfield 18, 24, 3, 4, 0, 0, 0, 256), (24, .aload_n 0, 25, 0, 0, 0, 0, 0, 0), (25, .iconst 3, 26, 0, 0, 0, 3, 0, 0), (26, .anewarray 9, 29, 53, 0, 0, 0, 0, 248), (29, .putfield 22, 32, 3, 5, 0, 0, 0, 258), (32, .aload_n 0, 33, 0, 0, 0, 0, 0, 0), (33, .new 9, 36, 4, 0, 0, 0, 0, 248), (36, .dup, 37, 0, 0, 0, 0, 0, 0), (37, .invokespecial 11, 40, 48, 1, 4, 0, 0, 249), (40, .putfield 25, 43, 3, 6, 0, 0, 0, 260), (43, .iconst 0, 44, 0, 0, 0, 0, 0, 0), (44, .istore_n 1, 45, 1, 0, 0, 0, 0, 0), (45, .iload_n 1, 46, 1, 0, 0, 0, 0, 0), (46, .bipush 9, 48, 0, 0, 0, 9, 0, 0), (48, .if_icmp .ge 22, 51, 70, 0, 0, 0, 0, 0), (51, .aload_n 0, 52, 0, 0, 0, 0, 0, 0), (52, .getfield 18, 55, 3, 4, 0, 0, 0, 256), (55, .iload_n 1, 56, 1, 0, 0, 0, 0, 0), (56, .new 9, 59, 4, 0, 0, 0, 0, 248), (59, .dup, 60, 0, 0, 0, 0, 0, 0), (60, .invokespecial 11, 63, 48, 1, 4, 0, 0, 249), (63, .aastore, 64, 53, 4, 0, 0, 0, 0), (64, .iinc 1 1, 67, 1, 0, 0, 1, 0, 0), (67, .goto (-22), 70, 45, 0, 0, 0, 0, 0), (70, .iconst 0, 71, 0, 0, 0, 0, 0, 0), (71, .istore_n 1, 72, 1, 0, 0, 0, 0, 0), (72, .iload_n 1, 73, 1, 0, 0, 0, 0, 0), (73, .iconst 3, 74, 0, 0, 0, 3, 0, 0), (74, .if_icmp .ge 22, 77, 96, 0, 0, 0, 0, 0), (77, .aload_n 0, 78, 0, 0, 0, 0, 0, 0), (78, .getfield 22, 81, 3, 5, 0, 0, 0, 258), (81, .iload_n 1, 82, 1, 0, 0, 0, 0, 0), (82, .new 9, 85, 4, 0, 0, 0, 0, 248), (85, .dup, 86, 0, 0, 0, 0, 0, 0), (86, .invokespecial 11, 89, 48, 1, 4, 0, 0, 249), (89, .aastore, 90, 53, 4, 0, 0, 0, 0), (90, .iinc 1 1, 93, 1, 0, 0, 1, 0, 0), (93, .goto (-21), 96, 72, 0, 0, 0, 0, 0), (96, .return_, 97, 0, 0, 0, 0, 0, 0)]
theorem ok_So_init : cd_So_init.all (jm_okE "ShareSolve$Solved" prog_5_method_1_code 2 2 40 false true none) = true := by decide +kernel
def cd_So_take : List jm_e := [(0, .aload_n 0, 1, 0, 0, 0, 0, 0, 0), (1, .iconst 1, 2, 0, 0, 0, 1, 0, 0), (2, .putfield 28, 5, 3, 0, 0, 0, 0, 250), (5, .aload_n 0, 6, 0, 0, 0, 0, 0, 0), (6, .aload_n 2, 7, 2, 0, 0, 0, 0, 0), (7, .getfield 39, 10, 2, 1, 0, 0, 0, 97), (10, .putfield 32, 13, 3, 1, 0, 0, 0, 252), (13, .aload_n 0, 14, 0, 0, 0, 0, 0, 0), (14, .aload_n 2, 15, 2, 0, 0, 0, 0, 0), (15, .getfield 42, 18, 2, 2, 0, 0, 0, 100), (18, .putfield 36, 21, 3, 2, 0, 0, 0, 253), (21, .aload_n 0, 22, 0, 0, 0, 0, 0, 0), (22, .getfield 12, 25, 3, 3, 0, 0, 0, 254), (25, .aload_n 1, 26, 1, 0, 0, 0, 0, 0), (26, .getfield 43, 29, 1, 1, 0, 0, 0, 200), (29, .invokevirtual 46, 32, 56, 2, 4, 0, 0, 542), (32, .iconst 0, 33, 0, 0, 0, 0, 0, 0), (33, .istore_n 3, 34, 3, 0, 0, 0, 0, 0), (34, .iload_n 3, 35, 3, 0, 0, 0, 0, 0), (35, .aload_n 0, 36, 0, 0, 0, 0, 0, 0), (36, .getfield 36, 39, 3, 2, 0, 0, 0, 253), (39, .if_icmp .ge 46, 42, 85, 0, 0, 0, 0, 0), (42, .iconst 0, 43, 0, 0, 0, 0, 0, 0), (43, .istore 4, 45, 4, 0, 0, 0, 0, 0), (45, .iload 4, 47, 4, 0, 0, 0, 0, 0), (47, .aload_n 2, 48, 2, 0, 0, 0, 0, 0), (48, .getfield 50, 51, 2, 0, 0, 0, 0, 93), (51, .if_icmp .ge 28, 54, 79, 0, 0, 0, 0, 0), (54, .aload_n 1, 55, 1, 0, 0, 0, 0, 0), (55, .iload_n 3, 56, 3, 0, 0, 0, 0, 0), (56, .iload 4, 58, 4, 0, 0, 0, 0, 0), (58, .aload_n 0, 59, 0, 0, 0, 0, 0, 0), (59, .getfield 18, 62, 3, 4, 0, 0, 0, 256), (62, .aload_n 2, 63, 2, 0, 0, 0, 0, 0), (63, .iload_n 3, 64, 3, 0, 0, 0, 0, 0), (64, .iload 4, 66, 4, 0, 0, 0, 0, 0), (66, .invokevirtual 53, 69, 26, 3, 2, 0, 0, 543), (69, .aaload, 70, 53, 0, 0, 0, 0, 0), (70, .invokevirtual 57, 73, 16, 4, 1, 0, 0, 544), (73, .iinc 4 1, 76, 4, 0, 0, 1, 0, 0), (76, .goto (-31), 79, 45, 0, 0, 0, 0, 0), (79, .iinc 3 1, 82, 3, 0, 0, 1, 0, 0), (82, .goto (-48), 85, 34, 0, 0, 0, 0, 0), (85, .iconst 0, 86, 0, 0, 0, 0, 0, 0), (86, .istore_n 3, 87, 3, 0, 0, 0, 0, 0), (87, .iload_n 3, 88, 3, 0, 0, 0, 0, 0), (88, .aload_n 0, 89, 0, 0, 0, 0, 0, 0), (89, .getfield 32, 92, 3, 1, 0, 0, 0, 252), (92, .if_icmp .ge 20, 95, 112, 0, 0, 0, 0, 0), (95, .aload_n 1, 96, 1, 0, 0, 0, 0, 0), (96, .iload_n 3, 97, 3, 0, 0, 0, 0, 0), (97, .aload_n 0, 98, 0, 0, 0, 0, 0, 0), (98, .getfield 22, 101, 3, 5, 0, 0, 0, 258), (101, .iload_n 3, 102, 3, 0, 0, 0, 0, 0), (102, .aaload, 103, 53, 0, 0, 0, 0, 0), (103, .invokevirtual 61, 106, 18, 3, 1, 0, 0, 552), (106, .iinc 3 1, 109, 3, 0, 0, 1, 0, 0), (109, .goto (-22), 112, 87, 0, 0, 0, 0, 0), (112, .return_, 113, 0, 0, 0, 0, 0, 0)]
theorem ok_So_take : cd_So_take.all (jm_okE "ShareSolve$Solved" prog_5_method_4_code 5 4 116 false false none) = true := by decide +kernel
def cd_So_hasPort : List jm_e := [(0, .aload_n 0, 1, 0, 0, 0, 0, 0, 0), (1, .getfield 28, 4, 3, 0, 0, 0, 0, 250), (4, .ifCond .eq 19, 7, 23, 0, 0, 0, 0, 0), (7, .iload_n 1, 8, 1, 0, 0, 0, 0, 0), (8, .ifCond .lt 15, 11, 23, 0, 0, 0, 0, 0), (11, .iload_n 1, 12, 1, 0, 0, 0, 0, 0), (12, .aload_n 0, 13, 0, 0, 0, 0, 0, 0), (13, .getfield 36, 16, 3, 2, 0, 0, 0, 253), (16, .if_icmp .ge 7, 19, 23, 0, 0, 0, 0, 0), (19, .iconst 1, 20, 0, 0, 0, 1, 0, 0), (20, .goto 4, 23, 24, 0, 0, 0, 0, 0), (23, .iconst 0, 24, 0, 0, 0, 0, 0, 0), (24, .ireturn, 25, 0, 0, 0, 0, 0, 0)]
theorem ok_So_hasPort : cd_So_hasPort.all (jm_okE "ShareSolve$Solved" prog_5_method_3_code 2 0 0 false false (some (.boolean))) = true := by decide +kernel
def cd_So_hasMachine : List jm_e := [(0, .aload_n 0, 1, 0, 0, 0, 0, 0, 0), (1, .getfield 28, 4, 3, 0, 0, 0, 0, 250), (4, .ifCond .eq 19, 7, 23, 0, 0, 0, 0, 0), (7, .iload_n 1, 8, 1, 0, 0, 0, 0, 0), (8, .ifCond .lt 15, 11, 23, 0, 0, 0, 0, 0), (11, .iload_n 1, 12, 1, 0, 0, 0, 0, 0), (12, .aload_n 0, 13, 0, 0, 0, 0, 0, 0), (13, .getfield 32, 16, 3, 1, 0, 0, 0, 252), (16, .if_icmp .ge 7, 19, 23, 0, 0, 0, 0, 0), (19, .iconst 1, 20, 0, 0, 0, 1, 0, 0), (20, .goto 4, 23, 24, 0, 0, 0, 0, 0), (23, .iconst 0, 24, 0, 0, 0, 0, 0, 0), (24, .ireturn, 25, 0, 0, 0, 0, 0, 0)]
theorem ok_So_hasMachine : cd_So_hasMachine.all (jm_okE "ShareSolve$Solved" prog_5_method_2_code 2 0 0 false false (some (.boolean))) = true := by decide +kernel
def cd_So_compareLoad : List jm_e := [(0, .aload_n 0, 1, 0, 0, 0, 0, 0, 0), (1, .getfield 25, 4, 3, 6, 0, 0, 0, 260), (4, .lconst 0, 5, 0, 0, 0, 0, 0, 0), (5, .invokevirtual 65, 8, 49, 2, 4, 0, 0, 605), (8, .aload_n 0, 9, 0, 0, 0, 0, 0, 0), (9, .getfield 25, 12, 3, 6, 0, 0, 0, 260), (12, .aload_n 0, 13, 0, 0, 0, 0, 0, 0), (13, .getfield 12, 16, 3, 3, 0, 0, 0, 254), (16, .lload_n 2, 17, 2, 0, 0, 0, 0, 0), (17, .invokevirtual 68, 20, 55, 3, 4, 0, 0, 606), (20, .aload_n 0, 21, 0, 0, 0, 0, 0, 0), (21, .getfield 22, 24, 3, 5, 0, 0, 0, 258), (24, .iload_n 1, 25, 1, 0, 0, 0, 0, 0), (25, .aaload, 26, 53, 0, 0, 0, 0, 0), (26, .aload_n 0, 27, 0, 0, 0, 0, 0, 0), (27, .getfield 25, 30, 3, 6, 0, 0, 0, 260), (30, .invokevirtual 72, 33, 64, 2, 4, 0, 0, 607), (33, .ireturn, 34, 0, 0, 0, 0, 0, 0)]
theorem ok_So_compareLoad : cd_So_compareLoad.all (jm_okE "ShareSolve$Solved" prog_5_method_6_code 4 2 67 false false (some (.int))) = true := by decide +kernel
def cd_So_allAtPort : List jm_e := [(0, .aload_n 0, 1, 0, 0, 0, 0, 0, 0), (1, .getfield 25, 4, 3, 6, 0, 0, 0, 260), (4, .lconst 0, 5, 0, 0, 0, 0, 0, 0), (5, .invokevirtual 65, 8, 49, 2, 4, 0, 0, 605), (8, .iconst 0, 9, 0, 0, 0, 0, 0, 0), (9, .istore_n 3, 10, 3, 0, 0, 0, 0, 0), (10, .iload_n 3, 11, 3, 0, 0, 0, 0, 0), (11, .aload_n 2, 12, 2, 0, 0, 0, 0, 0), (12, .getfield 50, 15, 2, 0, 0, 0, 0, 93), (15, .if_icmp .ge 28, 18, 43, 0, 0, 0, 0, 0), (18, .aload_n 0, 19, 0, 0, 0, 0, 0, 0), (19, .getfield 25, 22, 3, 6, 0, 0, 0, 260), (22, .aload_n 0, 23, 0, 0, 0, 0, 0, 0), (23, .getfield 18, 26, 3, 4, 0, 0, 0, 256), (26, .aload_n 2, 27, 2, 0, 0, 0, 0, 0), (27, .iload_n 1, 28, 1, 0, 0, 0, 0, 0), (28, .iload_n 3, 29, 3, 0, 0, 0, 0, 0), (29, .invokevirtual 53, 32, 26, 3, 2, 0, 0, 543), (32, .aaload, 33, 53, 0, 0, 0, 0, 0), (33, .lconst 1, 34, 0, 0, 0, 0, 1, 0), (34, .invokevirtual 68, 37, 55, 3, 4, 0, 0, 606), (37, .iinc 3 1, 40, 3, 0, 0, 1, 0, 0), (40, .goto (-30), 43, 10, 0, 0, 0, 0, 0), (43, .aload_n 0, 44, 0, 0, 0, 0, 0, 0), (44, .getfield 25, 47, 3, 6, 0, 0, 0, 260), (47, .areturn, 48, 0, 0, 0, 0, 0, 0)]
theorem ok_So_allAtPort : cd_So_allAtPort.all (jm_okE "ShareSolve$Solved" prog_5_method_5_code 4 2 67 false false (some (.object "ShareSolve$Whole"))) = true := by decide +kernel
end
section
/-! the code of ShareSolve$Flow -/
def cd_Fl_readLine : List jm_e := [(0, .aload_n 0, 1, 0, 0, 0, 0, 0, 0), (1, .aload_n 0, 2, 0, 0, 0, 0, 0, 0), (2, .getfield 59, 5, 1, 2, 0, 0, 0, 201), (5, .getfield 63, 8, 2, 1, 0, 0, 0, 95), (8, .aload_n 0, 9, 0, 0, 0, 0, 0, 0), (9, .getfield 59, 12, 1, 2, 0, 0, 0, 201), (12, .getfield 69, 15, 2, 0, 0, 0, 0, 92), (15, .imul, 16, 0, 0, 0, 0, 0, 0), (16, .putfield 72, 19, 1, 3, 0, 0, 0, 202), (19, .iconst 0, 20, 0, 0, 0, 0, 0, 0), (20, .istore_n 1, 21, 1, 0, 0, 0, 0, 0), (21, .iload_n 1, 22, 1, 0, 0, 0, 0, 0), (22, .aload_n 0, 23, 0, 0, 0, 0, 0, 0), (23, .getfield 59, 26, 1, 2, 0, 0, 0, 201), (26, .getfield 63, 29, 2, 1, 0, 0, 0, 95), (29, .if_icmp .ge 34, 32, 63, 0, 0, 0, 0, 0), (32, .iconst 0, 33, 0, 0, 0, 0, 0, 0), (33, .istore_n 2, 34, 2, 0, 0, 0, 0, 0), (34, .iload_n 2, 35, 2, 0, 0, 0, 0, 0), (35, .aload_n 0, 36, 0, 0, 0, 0, 0, 0), (36, .getfield 59, 39, 1, 2, 0, 0, 0, 201), (39, .getfield 69, 42, 2, 0, 0, 0, 0, 92), (42, .if_icmp .ge 15, 45, 57, 0, 0, 0, 0, 0), (45, .aload_n 0, 46, 0, 0, 0, 0, 0, 0), (46, .iload_n 1, 47, 1, 0, 0, 0, 0, 0), (47, .iload_n 2, 48, 2, 0, 0, 0, 0, 0), (48, .invokevirtual 75, 51, 8, 3, 1, 0, 0, 409), (51, .iinc 2 1, 54, 2, 0, 0, 1, 0, 0), (54, .goto (-20), 57, 34, 0, 0, 0, 0, 0), (57, .iinc 1 1, 60, 1, 0, 0, 1, 0, 0), (60, .goto (-39), 63, 21, 0, 0, 0, 0, 0), (63, .iconst 0, 64, 0, 0, 0, 0, 0, 0), (64, .istore_n 1, 65, 1, 0, 0, 0, 0, 0), (65, .iload_n 1, 66, 1, 0, 0, 0, 0, 0), (66, .aload_n 0, 67, 0, 0, 0, 0, 0, 0), (67, .getfield 72, 70, 1, 3, 0, 0, 0, 202), (70, .if_icmp .ge 89, 73, 159, 0, 0, 0, 0, 0), (73, .iconst 0, 74, 0, 0, 0, 0, 0, 0), (74, .istore_n 2, 75, 2, 0, 0, 0, 0, 0), (75, .iload_n 2, 76, 2, 0, 0, 0, 0, 0), (76, .aload_n 0, 77, 0, 0, 0, 0, 0, 0), (77, .getfield 72, 80, 1, 3, 0, 0, 0, 202), (80, .if_icmp .ge 27, 83, 107, 0, 0, 0, 0, 0), (83, .aload_n 0, 84, 0, 0, 0, 0, 0, 0), (84, .iload_n 1, 85, 1, 0, 0, 0, 0, 0), (85, .iload_n 2, 86, 2, 0, 0, 0, 0, 0), (86, .invokevirtual 79, 89, 13, 3, 1, 0, 0, 432), (89, .aload_n 0, 90, 0, 0, 0, 0, 0, 0), (90, .getfield 31, 93, 1, 5, 0, 0, 0, 204), (93, .iload_n 1, 94, 1, 0, 0, 0, 0, 0), (94, .aaload, 95, 54, 0, 0, 0, 0, 0), (95, .iload_n 2, 96, 2, 0, 0, 0, 0, 0), (96, .iaload, 97, 0, 0, 0, 0, 0, 0), (97, .i2l, 98, 0, 0, 0, 0, 0, 0), (98, .invokevirtual 83, 101, 49, 2, 4, 0, 0, 436), (101, .iinc 2 1, 104, 2, 0, 0, 1, 0, 0), (104, .goto (-29), 107, 75, 0, 0, 0, 0, 0), (107, .aload_n 0, 108, 0, 0, 0, 0, 0, 0), (108, .iload_n 1, 109, 1, 0, 0, 0, 0, 0), (109, .iload_n 1, 110, 1, 0, 0, 0, 0, 0), (110, .invokevirtual 79, 113, 13, 3, 1, 0, 0, 432), (113, .aload_n 0, 114, 0, 0, 0, 0, 0, 0), (114, .getfield 25, 117, 1, 4, 0, 0, 0, 203), (117, .iload_n 1, 118, 1, 0, 0, 0, 0, 0), (118, .iaload, 119, 0, 0, 0, 0, 0, 0), (119, .aload_n 0, 120, 0, 0, 0, 0, 0, 0), (120, .getfield 31, 123, 1, 5, 0, 0, 0, 204), (123, .iload_n 1, 124, 1, 0, 0, 0, 0, 0), (124, .aaload, 125, 54, 0, 0, 0, 0, 0), (125, .iload_n 1, 126, 1, 0, 0, 0, 0, 0), (126, .iaload, 127, 0, 0, 0, 0, 0, 0), (127, .isub, 128, 0, 0, 0, 0, 0, 0), (128, .i2l, 129, 0, 0, 0, 0, 0, 0), (129, .invokevirtual 83, 132, 49, 2, 4, 0, 0, 436), (132, .aload_n 0, 133, 0, 0, 0, 0, 0, 0), (133, .iload_n 1, 134, 1, 0, 0, 0, 0, 0), (134, .aload_n 0, 135, 0, 0, 0, 0, 0, 0), (135, .getfield 72, 138, 1, 3, 0, 0, 0, 202), (138, .invokevirtual 79, 141, 13, 3, 1, 0, 0, 432), (141, .aload_n 0, 142, 0, 0, 0, 0, 0, 0), (142, .getfield 59, 145, 1, 2, 0, 0, 0, 201), (145, .getfield 87, 148, 2, 8, 0, 0, 0, 113), (148, .iload_n 1, 149, 1, 0, 0, 0, 0, 0), (149, .laload, 150, 0, 0, 0, 0, 0, 0), (150, .invokevirtual 83, 153, 49, 2, 4, 0, 0, 436), (153, .iinc 1 1, 156, 1, 0, 0, 1, 0, 0), (156, .goto (-91), 159, 65, 0, 0, 0, 0, 0), (159, .return_, 160, 0, 0, 0, 0, 0, 0)]
theorem ok_Fl_readLine : cd_Fl_readLine.all (jm_okE "ShareSolve$Flow" prog_3_method_2_code 3 4 96 false false none) = true := by decide +kernel
def cd_Fl_readColumn : List jm_e := [(0, .aload_n 0, 1, 0, 0, 0, 0, 0, 0), (1, .getfield 59, 4, 1, 2, 0, 0, 0, 201), (4, .iload_n 1, 5, 1, 0, 0, 0, 0, 0), (5, .iload_n 2, 6, 2, 0, 0, 0, 0, 0), (6, .invokevirtual 102, 9, 26, 3, 2, 0, 0, 413), (9, .istore_n 3, 10, 3, 0, 0, 0, 0, 0), (10, .iconst 0, 11, 0, 0, 0, 0, 0, 0), (11, .istore 4, 13, 4, 0, 0, 0, 0, 0), (13, .iload 4, 15, 4, 0, 0, 0, 0, 0), (15, .bipush 9, 17, 0, 0, 0, 9, 0, 0), (17, .if_icmp .ge 29, 20, 46, 0, 0, 0, 0, 0), (20, .aload_n 0, 21, 0, 0, 0, 0, 0, 0), (21, .getfield 31, 24, 1, 5, 0, 0, 0, 204), (24, .iload 4, 26, 4, 0, 0, 0, 0, 0), (26, .aaload, 27, 54, 0, 0, 0, 0, 0), (27, .iload_n 3, 28, 3, 0, 0, 0, 0, 0), (28, .iconst 0, 29, 0, 0, 0, 0, 0, 0), (29, .iastore, 30, 0, 0, 0, 0, 0, 0), (30, .aload_n 0, 31, 0, 0, 0, 0, 0, 0), (31, .getfield 34, 34, 1, 6, 0, 0, 0, 205), (34, .iload 4, 36, 4, 0, 0, 0, 0, 0), (36, .aaload, 37, 54, 0, 0, 0, 0, 0), (37, .iload_n 3, 38, 3, 0, 0, 0, 0, 0), (38, .iconst 0, 39, 0, 0, 0, 0, 0, 0), (39, .iastore, 40, 0, 0, 0, 0, 0, 0), (40, .iinc 4 1, 43, 4, 0, 0, 1, 0, 0), (43, .goto (-30), 46, 13, 0, 0, 0, 0, 0), (46, .iconst 0, 47, 0, 0, 0, 0, 0, 0), (47, .istore 4, 49, 4, 0, 0, 0, 0, 0), (49, .iload 4, 51, 4, 0, 0, 0, 0, 0), (51, .iconst 3, 52, 0, 0, 0, 3, 0, 0), (52, .if_icmp .ge 19, 55, 71, 0, 0, 0, 0, 0), (55, .aload_n 0, 56, 0, 0, 0, 0, 0, 0), (56, .getfield 37, 59, 1, 7, 0, 0, 0, 206), (59, .iload 4, 61, 4, 0, 0, 0, 0, 0), (61, .aaload, 62, 54, 0, 0, 0, 0, 0), (62, .iload_n 3, 63, 3, 0, 0, 0, 0, 0), (63, .iconst 0, 64, 0, 0, 0, 0, 0, 0), (64, .iastore, 65, 0, 0, 0, 0, 0, 0), (65, .iinc 4 1, 68, 4, 0, 0, 1, 0, 0), (68, .goto (-19), 71, 49, 0, 0, 0, 0, 0), (71, .aload_n 0, 72, 0, 0, 0, 0, 0, 0), (72, .getfield 25, 75, 1, 4, 0, 0, 0, 203), (75, .iload_n 3, 76, 3, 0, 0, 0, 0, 0), (76, .ldc 155, 78, 0, 0, 0, 768398400, 0, 414), (78, .iastore, 79, 0, 0, 0, 0, 0, 0), (79, .aload_n 0, 80, 0, 0, 0, 0, 0, 0), (80, .iload_n 1, 81, 1, 0, 0, 0, 0, 0), (81, .iload_n 2, 82, 2, 0, 0, 0, 0, 0), (82, .iload_n 3, 83, 3, 0, 0, 0, 0, 0), (83, .sipush 27720, 86, 0, 0, 0, 27720, 0, 0), (86, .aload_n 0, 87, 0, 0, 0, 0, 0, 0), (87, .getfield 59, 90, 1, 2, 0, 0, 0, 201), (90, .getfield 156, 93, 2, 6, 0, 0, 0, 108), (93, .iload_n 3, 94, 3, 0, 0, 0, 0, 0), (94, .iaload, 95, 0, 0, 0, 0, 0, 0), (95, .isub, 96, 0, 0, 0, 0, 0, 0), (96, .invokevirtual 159, 99, 9, 5, 1, 0, 0, 415), (99, .aload_n 0, 100, 0, 0, 0, 0, 0, 0), (100, .iload_n 1, 101, 1, 0, 0, 0, 0, 0), (101, .aload_n 0, 102, 0, 0, 0, 0, 0, 0), (102, .getfield 59, 105, 1, 2, 0, 0, 0, 201), (105, .getfield 163, 108, 2, 7, 0, 0, 0, 111), (108, .iload_n 3, 109, 3, 0, 0, 0, 0, 0), (109, .iaload, 110, 0, 0, 0, 0, 0, 0), (110, .iload_n 3, 111, 3, 0, 0, 0, 0, 0), (111, .aload_n 0, 112, 0, 0, 0, 0, 0, 0), (112, .getfield 59, 115, 1, 2, 0, 0, 0, 201), (115, .getfield 156, 118, 2, 6, 0, 0, 0, 108), (118, .iload_n 3, 119, 3, 0, 0, 0, 0, 0), (119, .iaload, 120, 0, 0, 0, 0, 0, 0), (120, .invokevirtual 159, 123, 9, 5, 1, 0, 0, 415), (123, .aload_n 0, 124, 0, 0, 0, 0, 0, 0), (124, .iload_n 3, 125, 3, 0, 0, 0, 0, 0), (125, .invokevirtual 166, 128, 10, 2, 1, 0, 0, 421), (128, .return_, 129, 0, 0, 0, 0, 0, 0)]
theorem ok_Fl_readColumn : cd_Fl_readColumn.all (jm_okE "ShareSolve$Flow" prog_3_method_9_code 5 3 72 false false none) = true := by decide +kernel
def cd_Fl_sendAs : List jm_e := [(0, .aload_n 0, 1, 0, 0, 0, 0, 0, 0), (1, .getfield 37, 4, 1, 7, 0, 0, 0, 206), (4, .iload_n 2, 5, 2, 0, 0, 0, 0, 0), (5, .aaload, 6, 54, 0, 0, 0, 0, 0), (6, .iload_n 3, 7, 3, 0, 0, 0, 0, 0), (7, .dup2, 8, 0, 0, 0, 0, 0, 0), (8, .iaload, 9, 0, 0, 0, 0, 0, 0), (9, .iload 4, 11, 4, 0, 0, 0, 0, 0), (11, .sipush 27720, 14, 0, 0, 0, 27720, 0, 0), (14, .imul, 15, 0, 0, 0, 0, 0, 0), (15, .iadd, 16, 0, 0, 0, 0, 0, 0), (16, .iastore, 17, 0, 0, 0, 0, 0, 0), (17, .iconst 0, 18, 0, 0, 0, 0, 0, 0), (18, .istore 5, 20, 5, 0, 0, 0, 0, 0), (20, .iload 5, 22, 5, 0, 0, 0, 0, 0), (22, .aload_n 0, 23, 0, 0, 0, 0, 0, 0), (23, .getfield 59, 26, 1, 2, 0, 0, 0, 201), (26, .getfield 169, 29, 2, 3, 0, 0, 0, 102), (29, .iload_n 1, 30, 1, 0, 0, 0, 0, 0), (30, .iaload, 31, 0, 0, 0, 0, 0, 0), (31, .if_icmp .ge 99, 34, 130, 0, 0, 0, 0, 0), (34, .iload 4, 36, 4, 0, 0, 0, 0, 0), (36, .aload_n 0, 37, 0, 0, 0, 0, 0, 0), (37, .getfield 59, 40, 1, 2, 0, 0, 0, 201), (40, .iload_n 1, 41, 1, 0, 0, 0, 0, 0), (41, .iload_n 2, 42, 2, 0, 0, 0, 0, 0), (42, .iload 5, 44, 5, 0, 0, 0, 0, 0), (44, .invokevirtual 172, 47, 41, 4, 2, 0, 0, 419), (47, .imul, 48, 0, 0, 0, 0, 0, 0), (48, .istore 6, 50, 6, 0, 0, 0, 0, 0), (50, .aload_n 0, 51, 0, 0, 0, 0, 0, 0), (51, .getfield 59, 54, 1, 2, 0, 0, 0, 201), (54, .iload_n 1, 55, 1, 0, 0, 0, 0, 0), (55, .iload 5, 57, 5, 0, 0, 0, 0, 0), (57, .invokevirtual 118, 60, 40, 3, 2, 0, 0, 420), (60, .istore 7, 62, 7, 0, 0, 0, 0, 0), (62, .iload 7, 64, 7, 0, 0, 0, 0, 0), (64, .ifCond .lt 28, 67, 92, 0, 0, 0, 0, 0), (67, .aload_n 0, 68, 0, 0, 0, 0, 0, 0), (68, .getfield 31, 71, 1, 5, 0, 0, 0, 204), (71, .aload_n 0, 72, 0, 0, 0, 0, 0, 0), (72, .getfield 59, 75, 1, 2, 0, 0, 0, 201), (75, .iload 7, 77, 7, 0, 0, 0, 0, 0), (77, .iload_n 2, 78, 2, 0, 0, 0, 0, 0), (78, .invokevirtual 102, 81, 26, 3, 2, 0, 0, 413), (81, .aaload, 82, 54, 0, 0, 0, 0, 0), (82, .iload_n 3, 83, 3, 0, 0, 0, 0, 0), (83, .dup2, 84, 0, 0, 0, 0, 0, 0), (84, .iaload, 85, 0, 0, 0, 0, 0, 0), (85, .iload 6, 87, 6, 0, 0, 0, 0, 0), (87, .iadd, 88, 0, 0, 0, 0, 0, 0), (88, .iastore, 89, 0, 0, 0, 0, 0, 0), (89, .goto 35, 92, 124, 0, 0, 0, 0, 0), (92, .iload 7, 94, 7, 0, 0, 0, 0, 0), (94, .bipush (-2), 96, 0, 0, 0, (-2), 0, 0), (96, .if_icmp .gt 28, 99, 124, 0, 0, 0, 0, 0), (99, .aload_n 0, 100, 0, 0, 0, 0, 0, 0), (100, .getfield 34, 103, 1, 6, 0, 0, 0, 205), (103, .aload_n 0, 104, 0, 0, 0, 0, 0, 0), (104, .getfield 59, 107, 1, 2, 0, 0, 0, 201), (107, .bipush (-2), 109, 0, 0, 0, (-2), 0, 0), (109, .iload 7, 111, 7, 0, 0, 0, 0, 0), (111, .isub, 112, 0, 0, 0, 0, 0, 0), (112, .iload_n 2, 113, 2, 0, 0, 0, 0, 0), (113, .invokevirtual 102, 116, 26, 3, 2, 0, 0, 413), (116, .aaload, 117, 54, 0, 0, 0, 0, 0), (117, .iload_n 3, 118, 3, 0, 0, 0, 0, 0), (118, .dup2, 119, 0, 0, 0, 0, 0, 0), (119, .iaload, 120, 0, 0, 0, 0, 0, 0), (120, .iload 6, 122, 6, 0, 0, 0, 0, 0), (122, .iadd, 123, 0, 0, 0, 0, 0, 0), (123, .iastore, 124, 0, 0, 0, 0, 0, 0), (124, .iinc 5 1, 127, 5, 0, 0, 1, 0, 0), (127, .goto (-107), 130, 20, 0, 0, 0, 0, 0), (130, .return_, 131, 0, 0, 0, 0, 0, 0)]
theorem ok_Fl_sendAs : cd_Fl_sendAs.all (jm_okE "ShareSolve$Flow" prog_3_method_10_code 8 2 45 false false none) = true := by decide +kernel
def cd_Fl_shrinkColumn : List jm_e := [(0, .aload_n 0, 1, 0, 0, 0, 0, 0, 0), (1, .getfield 25, 4, 1, 4, 0, 0, 0, 203), (4, .iload_n 1, 5, 1, 0, 0, 0, 0, 0), (5, .iaload, 6, 0, 0, 0, 0, 0, 0), (6, .istore_n 2, 7, 2, 0, 0, 0, 0, 0), (7, .iconst 0, 8, 0, 0, 0, 0, 0, 0), (8, .istore_n 3, 9, 3, 0, 0, 0, 0, 0), (9, .iload_n 3, 10, 3, 0, 0, 0, 0, 0), (10, .bipush 9, 12, 0, 0, 0, 9, 0, 0), (12, .if_icmp .ge 35, 15, 47, 0, 0, 0, 0, 0), (15, .iload_n 2, 16, 2, 0, 0, 0, 0, 0), (16, .aload_n 0, 17, 0, 0, 0, 0, 0, 0), (17, .getfield 31, 20, 1, 5, 0, 0, 0, 204), (20, .iload_n 3, 21, 3, 0, 0, 0, 0, 0), (21, .aaload, 22, 54, 0, 0, 0, 0, 0), (22, .iload_n 1, 23, 1, 0, 0, 0, 0, 0), (23, .iaload, 24, 0, 0, 0, 0, 0, 0), (24, .invokestatic 176, 27, 11, 2, 0, 0, 0, 425), (27, .istore_n 2, 28, 2, 0, 0, 0, 0, 0), (28, .iload_n 2, 29, 2, 0, 0, 0, 0, 0), (29, .aload_n 0, 30, 0, 0, 0, 0, 0, 0), (30, .getfield 34, 33, 1, 6, 0, 0, 0, 205), (33, .iload_n 3, 34, 3, 0, 0, 0, 0, 0), (34, .aaload, 35, 54, 0, 0, 0, 0, 0), (35, .iload_n 1, 36, 1, 0, 0, 0, 0, 0), (36, .iaload, 37, 0, 0, 0, 0, 0, 0), (37, .invokestatic 176, 40, 11, 2, 0, 0, 0, 425), (40, .istore_n 2, 41, 2, 0, 0, 0, 0, 0), (41, .iinc 3 1, 44, 3, 0, 0, 1, 0, 0), (44, .goto (-35), 47, 9, 0, 0, 0, 0, 0), (47, .iconst 0, 48, 0, 0, 0, 0, 0, 0), (48, .istore_n 3, 49, 3, 0, 0, 0, 0, 0), (49, .iload_n 3, 50, 3, 0, 0, 0, 0, 0), (50, .iconst 3, 51, 0, 0, 0, 3, 0, 0), (51, .if_icmp .ge 22, 54, 73, 0, 0, 0, 0, 0), (54, .iload_n 2, 55, 2, 0, 0, 0, 0, 0), (55, .aload_n 0, 56, 0, 0, 0, 0, 0, 0), (56, .getfield 37, 59, 1, 7, 0, 0, 0, 206), (59, .iload_n 3, 60, 3, 0, 0, 0, 0, 0), (60, .aaload, 61, 54, 0, 0, 0, 0, 0), (61, .iload_n 1, 62, 1, 0, 0, 0, 0, 0), (62, .iaload, 63, 0, 0, 0, 0, 0, 0), (63, .invokestatic 176, 66, 11, 2, 0, 0, 0, 425), (66, .istore_n 2, 67, 2, 0, 0, 0, 0, 0), (67, .iinc 3 1, 70, 3, 0, 0, 1, 0, 0), (70, .goto (-21), 73, 49, 0, 0, 0, 0, 0), (73, .aload_n 0, 74, 0, 0, 0, 0, 0, 0), (74, .iload_n 1, 75, 1, 0, 0, 0, 0, 0), (75, .iload_n 2, 76, 2, 0, 0, 0, 0, 0), (76, .invokevirtual 179, 79, 12, 3, 1, 0, 0, 428), (79, .return_, 80, 0, 0, 0, 0, 0, 0)]
theorem ok_Fl_shrinkColumn : cd_Fl_shrinkColumn.all (jm_okE "ShareSolve$Flow" prog_3_method_11_code 4 1 25 false false none) = true := by decide +kernel
def cd_Fl_commonDivisor : List jm_e := [(0, .iload_n 0, 1, 0, 0, 0, 0, 0, 0), (1, .istore_n 2, 2, 2, 0, 0, 0, 0, 0), (2, .iload_n 1, 3, 1, 0, 0, 0, 0, 0), (3, .istore_n 3, 4, 3, 0, 0, 0, 0, 0), (4, .iconst 0, 5, 0, 0, 0, 0, 0, 0), (5, .istore 4, 7, 4, 0, 0, 0, 0, 0), (7, .iload 4, 9, 4, 0, 0, 0, 0, 0), (9, .bipush 64, 11, 0, 0, 0, 64, 0, 0), (11, .if_icmp .ge 23, 14, 34, 0, 0, 0, 0, 0), (14, .iload_n 3, 15, 3, 0, 0, 0, 0, 0), (15, .ifCond .eq 19, 18, 34, 0, 0, 0, 0, 0), (18, .iload_n 2, 19, 2, 0, 0, 0, 0, 0), (19, .iload_n 3, 20, 3, 0, 0, 0, 0, 0), (20, .irem, 21, 0, 0, 0, 0, 0, 0), (21, .istore 5, 23, 5, 0, 0, 0, 0, 0), (23, .iload_n 3, 24, 3, 0, 0, 0, 0, 0), (24, .istore_n 2, 25, 2, 0, 0, 0, 0, 0), (25, .iload 5, 27, 5, 0, 0, 0, 0, 0), (27, .istore_n 3, 28, 3, 0, 0, 0, 0, 0), (28, .iinc 4 1, 31, 4, 0, 0, 1, 0, 0), (31, .goto (-24), 34, 7, 0, 0, 0, 0, 0), (34, .iload_n 2, 35, 2, 0, 0, 0, 0, 0), (35, .ireturn, 36, 0, 0, 0, 0, 0, 0)]
theorem ok_Fl_commonDivisor : cd_Fl_commonDivisor.all (jm_okE "ShareSolve$Flow" prog_3_method_13_code 6 0 0 false false (some (.int))) = true := by decide +kernel
def cd_Fl_divideColumn : List jm_e := [(0, .iload_n 2, 1, 2, 0, 0, 0, 0, 0), (1, .iconst 1, 2, 0, 0, 0, 1, 0, 0), (2, .if_icmp .gt 4, 5, 6, 0, 0, 0, 0, 0), (5, .return_, 6, 0, 0, 0, 0, 0, 0), (6, .aload_n 0, 7, 0, 0, 0, 0, 0, 0), (7, .getfield 25, 10, 1, 4, 0, 0, 0, 203), (10, .iload_n 1, 11, 1, 0, 0, 0, 0, 0), (11, .dup2, 12, 0, 0, 0, 0, 0, 0), (12, .iaload, 13, 0, 0, 0, 0, 0, 0), (13, .iload_n 2, 14, 2, 0, 0, 0, 0, 0), (14, .idiv, 15, 0, 0, 0, 0, 0, 0), (15, .iastore, 16, 0, 0, 0, 0, 0, 0), (16, .iconst 0, 17, 0, 0, 0, 0, 0, 0), (17, .istore_n 3, 18, 3, 0, 0, 0, 0, 0), (18, .iload_n 3, 19, 3, 0, 0, 0, 0, 0), (19, .bipush 9, 21, 0, 0, 0, 9, 0, 0), (21, .if_icmp .ge 33, 24, 54, 0, 0, 0, 0, 0), (24, .aload_n 0, 25, 0, 0, 0, 0, 0, 0), (25, .getfield 31, 28, 1, 5, 0, 0, 0, 204), (28, .iload_n 3, 29, 3, 0, 0, 0, 0, 0), (29, .aaload, 30, 54, 0, 0, 0, 0, 0), (30, .iload_n 1, 31, 1, 0, 0, 0, 0, 0), (31, .dup2, 32, 0, 0, 0, 0, 0, 0), (32, .iaload, 33, 0, 0, 0, 0, 0, 0), (33, .iload_n 2, 34, 2, 0, 0, 0, 0, 0), (34, .idiv, 35, 0, 0, 0, 0, 0, 0), (35, .iastore, 36, 0, 0, 0, 0, 0, 0), (36, .aload_n 0, 37, 0, 0, 0, 0, 0, 0), (37, .getfield 34, 40, 1, 6, 0, 0, 0, 205), (40, .iload_n 3, 41, 3, 0, 0, 0, 0, 0), (41, .aaload, 42, 54, 0, 0, 0, 0, 0), (42, .iload_n 1, 43, 1, 0, 0, 0, 0, 0), (43, .dup2, 44, 0, 0, 0, 0, 0, 0), (44, .iaload, 45, 0, 0, 0, 0, 0, 0), (45, .iload_n 2, 46, 2, 0, 0, 0, 0, 0), (46, .idiv, 47, 0, 0, 0, 0, 0, 0), (47, .iastore, 48, 0, 0, 0, 0, 0, 0), (48, .iinc 3 1, 51, 3, 0, 0, 1, 0, 0), (51, .goto (-33), 54, 18, 0, 0, 0, 0, 0), (54, .iconst 0, 55, 0, 0, 0, 0, 0, 0), (55, .istore_n 3, 56, 3, 0, 0, 0, 0, 0), (56, .iload_n 3, 57, 3, 0, 0, 0, 0, 0), (57, .iconst 3, 58, 0, 0, 0, 3, 0, 0), (58, .if_icmp .ge 21, 61, 79, 0, 0, 0, 0, 0), (61, .aload_n 0, 62, 0, 0, 0, 0, 0, 0), (62, .getfield 37, 65, 1, 7, 0, 0, 0, 206), (65, .iload_n 3, 66, 3, 0, 0, 0, 0, 0), (66, .aaload, 67, 54, 0, 0, 0, 0, 0), (67, .iload_n 1, 68, 1, 0, 0, 0, 0, 0), (68, .dup2, 69, 0, 0, 0, 0, 0, 0), (69, .iaload, 70, 0, 0, 0, 0, 0, 0), (70, .iload_n 2, 71, 2, 0, 0, 0, 0, 0), (71, .idiv, 72, 0, 0, 0, 0, 0, 0), (72, .iastore, 73, 0, 0, 0, 0, 0, 0), (73, .iinc 3 1, 76, 3, 0, 0, 1, 0, 0), (76, .goto (-20), 79, 56, 0, 0, 0, 0, 0), (79, .return_, 80, 0, 0, 0, 0, 0, 0)]
theorem ok_Fl_divideColumn : cd_Fl_divideColumn.all (jm_okE "ShareSolve$Flow" prog_3_method_12_code 4 0 0 false false none) = true := by decide +kernel
def cd_Fl_cell : List jm_e := [(0, .aload_n 0, 1, 0, 0, 0, 0, 0, 0), (1, .getfield 40, 4, 1, 8, 0, 0, 0, 207), (4, .iload_n 1, 5, 1, 0, 0, 0, 0, 0), (5, .bipush 12, 7, 0, 0, 0, 12, 0, 0), (7, .imul, 8, 0, 0, 0, 0, 0, 0), (8, .iload_n 2, 9, 2, 0, 0, 0, 0, 0), (9, .iadd, 10, 0, 0, 0, 0, 0, 0), (10, .aaload, 11, 53, 0, 0, 0, 0, 0), (11, .areturn, 12, 0, 0, 0, 0, 0, 0)]
theorem ok_Fl_cell : cd_Fl_cell.all (jm_okE "ShareSolve$Flow" prog_3_method_8_code 3 0 0 false false (some (.object "ShareSolve$Whole"))) = true := by decide +kernel
def cd_Fl_eliminate : List jm_e := [(0, .aload_n 0, 1, 0, 0, 0, 0, 0, 0), (1, .getfield 21, 4, 1, 1, 0, 0, 0, 199), (4, .lconst 1, 5, 0, 0, 0, 0, 1, 0), (5, .invokevirtual 83, 8, 49, 2, 4, 0, 0, 436), (8, .iconst 0, 9, 0, 0, 0, 0, 0, 0), (9, .istore_n 2, 10, 2, 0, 0, 0, 0, 0), (10, .iload_n 2, 11, 2, 0, 0, 0, 0, 0), (11, .aload_n 0, 12, 0, 0, 0, 0, 0, 0), (12, .getfield 72, 15, 1, 3, 0, 0, 0, 202), (15, .if_icmp .ge 76, 18, 91, 0, 0, 0, 0, 0), (18, .iconst 0, 19, 0, 0, 0, 0, 0, 0), (19, .istore_n 3, 20, 3, 0, 0, 0, 0, 0), (20, .iload_n 3, 21, 3, 0, 0, 0, 0, 0), (21, .aload_n 0, 22, 0, 0, 0, 0, 0, 0), (22, .getfield 72, 25, 1, 3, 0, 0, 0, 202), (25, .if_icmp .ge 47, 28, 72, 0, 0, 0, 0, 0), (28, .iload_n 3, 29, 3, 0, 0, 0, 0, 0), (29, .iload_n 2, 30, 2, 0, 0, 0, 0, 0), (30, .if_icmp .ne 6, 33, 36, 0, 0, 0, 0, 0), (33, .goto 33, 36, 66, 0, 0, 0, 0, 0), (36, .iload_n 2, 37, 2, 0, 0, 0, 0, 0), (37, .iconst 1, 38, 0, 0, 0, 1, 0, 0), (38, .iadd, 39, 0, 0, 0, 0, 0, 0), (39, .istore 4, 41, 4, 0, 0, 0, 0, 0), (41, .iload 4, 43, 4, 0, 0, 0, 0, 0), (43, .aload_n 0, 44, 0, 0, 0, 0, 0, 0), (44, .getfield 72, 47, 1, 3, 0, 0, 0, 202), (47, .iload_n 1, 48, 1, 0, 0, 0, 0, 0), (48, .iadd, 49, 0, 0, 0, 0, 0, 0), (49, .if_icmp .ge 17, 52, 66, 0, 0, 0, 0, 0), (52, .aload_n 0, 53, 0, 0, 0, 0, 0, 0), (53, .iload_n 3, 54, 3, 0, 0, 0, 0, 0), (54, .iload 4, 56, 4, 0, 0, 0, 0, 0), (56, .iload_n 2, 57, 2, 0, 0, 0, 0, 0), (57, .invokevirtual 91, 60, 15, 4, 1, 0, 0, 450), (60, .iinc 4 1, 63, 4, 0, 0, 1, 0, 0), (63, .goto (-22), 66, 41, 0, 0, 0, 0, 0), (66, .iinc 3 1, 69, 3, 0, 0, 1, 0, 0), (69, .goto (-49), 72, 20, 0, 0, 0, 0, 0), (72, .aload_n 0, 73, 0, 0, 0, 0, 0, 0), (73, .getfield 21, 76, 1, 1, 0, 0, 0, 199), (76, .aload_n 0, 77, 0, 0, 0, 0, 0, 0), (77, .iload_n 2, 78, 2, 0, 0, 0, 0, 0), (78, .iload_n 2, 79, 2, 0, 0, 0, 0, 0), (79, .invokevirtual 79, 82, 13, 3, 1, 0, 0, 432), (82, .invokevirtual 95, 85, 56, 2, 4, 0, 0, 533), (85, .iinc 2 1, 88, 2, 0, 0, 1, 0, 0), (88, .goto (-78), 91, 10, 0, 0, 0, 0, 0), (91, .return_, 92, 0, 0, 0, 0, 0, 0)]
theorem ok_Fl_eliminate : cd_Fl_eliminate.all (jm_okE "ShareSolve$Flow" prog_3_method_3_code 5 5 138 false false none) = true := by decide +kernel
def cd_Fl_eliminateCell : List jm_e := [(0, .aload_n 0, 1, 0, 0, 0, 0, 0, 0), (1, .iload_n 1, 2, 1, 0, 0, 0, 0, 0), (2, .iload_n 2, 3, 2, 0, 0, 0, 0, 0), (3, .invokevirtual 79, 6, 13, 3, 1, 0, 0, 432), (6, .astore 4, 8, 4, 0, 0, 0, 0, 0), (8, .aload_n 0, 9, 0, 0, 0, 0, 0, 0), (9, .iload_n 1, 10, 1, 0, 0, 0, 0, 0), (10, .iload_n 3, 11, 3, 0, 0, 0, 0, 0), (11, .invokevirtual 79, 14, 13, 3, 1, 0, 0, 432), (14, .astore 5, 16, 5, 0, 0, 0, 0, 0), (16, .aload_n 0, 17, 0, 0, 0, 0, 0, 0), (17, .iload_n 3, 18, 3, 0, 0, 0, 0, 0), (18, .iload_n 2, 19, 2, 0, 0, 0, 0, 0), (19, .invokevirtual 79, 22, 13, 3, 1, 0, 0, 432), (22, .astore 6, 24, 6, 0, 0, 0, 0, 0), (24, .aload 4, 26, 4, 0, 0, 0, 0, 0), (26, .invokevirtual 182, 29, 51, 1, 4, 0, 0, 454), (29, .ifCond .eq 20, 32, 49, 0, 0, 0, 0, 0), (32, .aload 5, 34, 5, 0, 0, 0, 0, 0), (34, .invokevirtual 182, 37, 51, 1, 4, 0, 0, 454), (37, .ifCond .ne 11, 40, 48, 0, 0, 0, 0, 0), (40, .aload 6, 42, 6, 0, 0, 0, 0, 0), (42, .invokevirtual 182, 45, 51, 1, 4, 0, 0, 454), (45, .ifCond .eq 4, 48, 49, 0, 0, 0, 0, 0), (48, .return_, 49, 0, 0, 0, 0, 0, 0), (49, .aload_n 0, 50, 0, 0, 0, 0, 0, 0), (50, .getfield 44, 53, 1, 9, 0, 0, 0, 208), (53, .aload_n 0, 54, 0, 0, 0, 0, 0, 0), (54, .iload_n 3, 55, 3, 0, 0, 0, 0, 0), (55, .iload_n 3, 56, 3, 0, 0, 0, 0, 0), (56, .invokevirtual 79, 59, 13, 3, 1, 0, 0, 432), (59, .aload 4, 61, 4, 0, 0, 0, 0, 0), (61, .invokevirtual 144, 64, 52, 3, 4, 0, 0, 458), (64, .aload_n 0, 65, 0, 0, 0, 0, 0, 0), (65, .getfield 47, 68, 1, 10, 0, 0, 0, 209), (68, .aload 5, 70, 5, 0, 0, 0, 0, 0), (70, .aload 6, 72, 6, 0, 0, 0, 0, 0), (72, .invokevirtual 144, 75, 52, 3, 4, 0, 0, 458), (75, .iload_n 1, 76, 1, 0, 0, 0, 0, 0), (76, .iload_n 2, 77, 2, 0, 0, 0, 0, 0), (77, .if_icmp .ne 17, 80, 94, 0, 0, 0, 0, 0), (80, .aload_n 0, 81, 0, 0, 0, 0, 0, 0), (81, .getfield 44, 84, 1, 9, 0, 0, 0, 208), (84, .aload_n 0, 85, 0, 0, 0, 0, 0, 0), (85, .getfield 47, 88, 1, 10, 0, 0, 0, 209), (88, .invokevirtual 138, 91, 54, 2, 4, 0, 0, 466), (91, .goto 15, 94, 106, 0, 0, 0, 0, 0), (94, .aload_n 0, 95, 0, 0, 0, 0, 0, 0), (95, .getfield 44, 98, 1, 9, 0, 0, 0, 208), (98, .aload_n 0, 99, 0, 0, 0, 0, 0, 0), (99, .getfield 47, 102, 1, 10, 0, 0, 0, 209), (102, .lconst 1, 103, 0, 0, 0, 0, 1, 0), (103, .invokevirtual 106, 106, 55, 3, 4, 0, 0, 470), (106, .aload_n 0, 107, 0, 0, 0, 0, 0, 0), (107, .getfield 12, 110, 1, 0, 0, 0, 0, 197), (110, .aload_n 0, 111, 0, 0, 0, 0, 0, 0), (111, .getfield 44, 114, 1, 9, 0, 0, 0, 208), (114, .aload_n 0, 115, 0, 0, 0, 0, 0, 0), (115, .getfield 21, 118, 1, 1, 0, 0, 0, 199), (118, .invokevirtual 186, 121, 1, 3, 0, 0, 0, 480), (121, .aload 4, 123, 4, 0, 0, 0, 0, 0), (123, .aload_n 0, 124, 0, 0, 0, 0, 0, 0), (124, .getfield 12, 127, 1, 0, 0, 0, 0, 197), (127, .getfield 189, 130, 0, 0, 0, 0, 0, 179), (130, .invokevirtual 95, 133, 56, 2, 4, 0, 0, 533), (133, .return_, 134, 0, 0, 0, 0, 0, 0)]
theorem ok_Fl_eliminateCell : cd_Fl_eliminateCell.all (jm_okE "ShareSolve$Flow" prog_3_method_14_code 7 4 112 false false none) = true := by decide +kernel
def cd_Fl_putAtPort : List jm_e := [(0, .aload_n 3, 1, 3, 0, 0, 0, 0, 0), (1, .lconst 0, 2, 0, 0, 0, 0, 0, 0), (2, .invokevirtual 83, 5, 49, 2, 4, 0, 0, 436), (5, .aload_n 0, 6, 0, 0, 0, 0, 0, 0), (6, .iload_n 1, 7, 1, 0, 0, 0, 0, 0), (7, .iload_n 2, 8, 2, 0, 0, 0, 0, 0), (8, .aload_n 0, 9, 0, 0, 0, 0, 0, 0), (9, .getfield 72, 12, 1, 3, 0, 0, 0, 202), (12, .aload_n 3, 13, 3, 0, 0, 0, 0, 0), (13, .invokevirtual 98, 16, 17, 5, 1, 0, 0, 548), (16, .return_, 17, 0, 0, 0, 0, 0, 0)]
theorem ok_Fl_putAtPort : cd_Fl_putAtPort.all (jm_okE "ShareSolve$Flow" prog_3_method_4_code 4 3 93 false false none) = true := by decide +kernel
def cd_Fl_addAtPort : List jm_e := [(0, .aload_n 0, 1, 0, 0, 0, 0, 0, 0), (1, .getfield 59, 4, 1, 2, 0, 0, 0, 201), (4, .iload_n 1, 5, 1, 0, 0, 0, 0, 0), (5, .iload_n 2, 6, 2, 0, 0, 0, 0, 0), (6, .invokevirtual 102, 9, 26, 3, 2, 0, 0, 413), (9, .istore 5, 11, 5, 0, 0, 0, 0, 0), (11, .iconst 0, 12, 0, 0, 0, 0, 0, 0), (12, .istore 6, 14, 6, 0, 0, 0, 0, 0), (14, .iload 6, 16, 6, 0, 0, 0, 0, 0), (16, .aload_n 0, 17, 0, 0, 0, 0, 0, 0), (17, .getfield 72, 20, 1, 3, 0, 0, 0, 202), (20, .if_icmp .ge 32, 23, 52, 0, 0, 0, 0, 0), (23, .aload 4, 25, 4, 0, 0, 0, 0, 0), (25, .aload_n 0, 26, 0, 0, 0, 0, 0, 0), (26, .iload 6, 28, 6, 0, 0, 0, 0, 0), (28, .iload_n 3, 29, 3, 0, 0, 0, 0, 0), (29, .invokevirtual 79, 32, 13, 3, 1, 0, 0, 432), (32, .aload_n 0, 33, 0, 0, 0, 0, 0, 0), (33, .getfield 34, 36, 1, 6, 0, 0, 0, 205), (36, .iload 5, 38, 5, 0, 0, 0, 0, 0), (38, .aaload, 39, 54, 0, 0, 0, 0, 0), (39, .iload 6, 41, 6, 0, 0, 0, 0, 0), (41, .iaload, 42, 0, 0, 0, 0, 0, 0), (42, .i2l, 43, 0, 0, 0, 0, 0, 0), (43, .invokevirtual 106, 46, 55, 3, 4, 0, 0, 470), (46, .iinc 6 1, 49, 6, 0, 0, 1, 0, 0), (49, .goto (-35), 52, 14, 0, 0, 0, 0, 0), (52, .return_, 53, 0, 0, 0, 0, 0, 0)]
theorem ok_Fl_addAtPort : cd_Fl_addAtPort.all (jm_okE "ShareSolve$Flow" prog_3_method_16_code 7 2 67 false false none) = true := by decide +kernel
def cd_Fl_putLoad : List jm_e := [(0, .aload_n 2, 1, 2, 0, 0, 0, 0, 0), (1, .lconst 0, 2, 0, 0, 0, 0, 0, 0), (2, .invokevirtual 83, 5, 49, 2, 4, 0, 0, 436), (5, .iconst 0, 6, 0, 0, 0, 0, 0, 0), (6, .istore_n 3, 7, 3, 0, 0, 0, 0, 0), (7, .iload_n 3, 8, 3, 0, 0, 0, 0, 0), (8, .aload_n 0, 9, 0, 0, 0, 0, 0, 0), (9, .getfield 59, 12, 1, 2, 0, 0, 0, 201), (12, .getfield 69, 15, 2, 0, 0, 0, 0, 92), (15, .if_icmp .ge 42, 18, 57, 0, 0, 0, 0, 0), (18, .aload_n 0, 19, 0, 0, 0, 0, 0, 0), (19, .getfield 59, 22, 1, 2, 0, 0, 0, 201), (22, .iload_n 1, 23, 1, 0, 0, 0, 0, 0), (23, .iload_n 3, 24, 3, 0, 0, 0, 0, 0), (24, .invokevirtual 102, 27, 26, 3, 2, 0, 0, 413), (27, .istore 4, 29, 4, 0, 0, 0, 0, 0), (29, .aload_n 2, 30, 2, 0, 0, 0, 0, 0), (30, .aload_n 0, 31, 0, 0, 0, 0, 0, 0), (31, .iload 4, 33, 4, 0, 0, 0, 0, 0), (33, .aload_n 0, 34, 0, 0, 0, 0, 0, 0), (34, .getfield 72, 37, 1, 3, 0, 0, 0, 202), (37, .invokevirtual 79, 40, 13, 3, 1, 0, 0, 432), (40, .aload_n 0, 41, 0, 0, 0, 0, 0, 0), (41, .getfield 25, 44, 1, 4, 0, 0, 0, 203), (44, .iload 4, 46, 4, 0, 0, 0, 0, 0), (46, .iaload, 47, 0, 0, 0, 0, 0, 0), (47, .i2l, 48, 0, 0, 0, 0, 0, 0), (48, .invokevirtual 106, 51, 55, 3, 4, 0, 0, 470), (51, .iinc 3 1, 54, 3, 0, 0, 1, 0, 0), (54, .goto (-47), 57, 7, 0, 0, 0, 0, 0), (57, .return_, 58, 0, 0, 0, 0, 0, 0)]
theorem ok_Fl_putLoad : cd_Fl_putLoad.all (jm_okE "ShareSolve$Flow" prog_3_method_5_code 5 2 67 false false none) = true := by decide +kernel
def cd_Fl_slopePart : List jm_e := [(0, .aload_n 0, 1, 0, 0, 0, 0, 0, 0), (1, .getfield 59, 4, 1, 2, 0, 0, 0, 201), (4, .iload_n 1, 5, 1, 0, 0, 0, 0, 0), (5, .iload_n 3, 6, 3, 0, 0, 0, 0, 0), (6, .invokevirtual 118, 9, 40, 3, 2, 0, 0, 420), (9, .istore 6, 11, 6, 0, 0, 0, 0, 0), (11, .aload_n 0, 12, 0, 0, 0, 0, 0, 0), (12, .getfield 59, 15, 1, 2, 0, 0, 0, 201), (15, .iload_n 1, 16, 1, 0, 0, 0, 0, 0), (16, .aload_n 0, 17, 0, 0, 0, 0, 0, 0), (17, .getfield 59, 20, 1, 2, 0, 0, 0, 201), (20, .iload_n 1, 21, 1, 0, 0, 0, 0, 0), (21, .invokevirtual 121, 24, 34, 2, 2, 0, 0, 620), (24, .invokevirtual 118, 27, 40, 3, 2, 0, 0, 420), (27, .istore 7, 29, 7, 0, 0, 0, 0, 0), (29, .aload_n 0, 30, 0, 0, 0, 0, 0, 0), (30, .invokevirtual 125, 33, 7, 1, 1, 0, 0, 621), (33, .aload_n 0, 34, 0, 0, 0, 0, 0, 0), (34, .iload 6, 36, 6, 0, 0, 0, 0, 0), (36, .iload_n 2, 37, 2, 0, 0, 0, 0, 0), (37, .aload_n 0, 38, 0, 0, 0, 0, 0, 0), (38, .getfield 72, 41, 1, 3, 0, 0, 0, 202), (41, .iconst 1, 42, 0, 0, 0, 1, 0, 0), (42, .iadd, 43, 0, 0, 0, 0, 0, 0), (43, .invokevirtual 128, 46, 20, 4, 1, 0, 0, 622), (46, .aload_n 0, 47, 0, 0, 0, 0, 0, 0), (47, .iload 7, 49, 7, 0, 0, 0, 0, 0), (49, .iload_n 2, 50, 2, 0, 0, 0, 0, 0), (50, .aload_n 0, 51, 0, 0, 0, 0, 0, 0), (51, .getfield 72, 54, 1, 3, 0, 0, 0, 202), (54, .iconst 2, 55, 0, 0, 0, 2, 0, 0), (55, .iadd, 56, 0, 0, 0, 0, 0, 0), (56, .invokevirtual 128, 59, 20, 4, 1, 0, 0, 622), (59, .aload_n 0, 60, 0, 0, 0, 0, 0, 0), (60, .iconst 3, 61, 0, 0, 0, 3, 0, 0), (61, .invokevirtual 131, 64, 14, 2, 1, 0, 0, 626), (64, .aload_n 0, 65, 0, 0, 0, 0, 0, 0), (65, .iload 6, 67, 6, 0, 0, 0, 0, 0), (67, .iload 4, 69, 4, 0, 0, 0, 0, 0), (69, .aload_n 0, 70, 0, 0, 0, 0, 0, 0), (70, .getfield 72, 73, 1, 3, 0, 0, 0, 202), (73, .iconst 1, 74, 0, 0, 0, 1, 0, 0), (74, .iadd, 75, 0, 0, 0, 0, 0, 0), (75, .aload_n 0, 76, 0, 0, 0, 0, 0, 0), (76, .getfield 44, 79, 1, 9, 0, 0, 0, 208), (79, .invokevirtual 135, 82, 21, 5, 1, 0, 0, 627), (82, .aload_n 0, 83, 0, 0, 0, 0, 0, 0), (83, .iload 7, 85, 7, 0, 0, 0, 0, 0), (85, .iload 4, 87, 4, 0, 0, 0, 0, 0), (87, .aload_n 0, 88, 0, 0, 0, 0, 0, 0), (88, .getfield 72, 91, 1, 3, 0, 0, 0, 202), (91, .iconst 2, 92, 0, 0, 0, 2, 0, 0), (92, .iadd, 93, 0, 0, 0, 0, 0, 0), (93, .aload_n 0, 94, 0, 0, 0, 0, 0, 0), (94, .getfield 47, 97, 1, 10, 0, 0, 0, 209), (97, .invokevirtual 135, 100, 21, 5, 1, 0, 0, 627), (100, .aload_n 0, 101, 0, 0, 0, 0, 0, 0), (101, .getfield 44, 104, 1, 9, 0, 0, 0, 208), (104, .aload_n 0, 105, 0, 0, 0, 0, 0, 0), (105, .getfield 47, 108, 1, 10, 0, 0, 0, 209), (108, .invokevirtual 114, 111, 64, 2, 4, 0, 0, 631), (111, .ifCond .ge 7, 114, 118, 0, 0, 0, 0, 0), (114, .iconst 1, 115, 0, 0, 0, 1, 0, 0), (115, .goto 4, 118, 119, 0, 0, 0, 0, 0), (118, .iconst 0, 119, 0, 0, 0, 0, 0, 0), (119, .istore 8, 121, 8, 0, 0, 0, 0, 0), (121, .iload 8, 123, 8, 0, 0, 0, 0, 0), (123, .ifCond .eq 10, 126, 133, 0, 0, 0, 0, 0), (126, .aload_n 0, 127, 0, 0, 0, 0, 0, 0), (127, .getfield 47, 130, 1, 10, 0, 0, 0, 209), (130, .goto 7, 133, 137, 0, 0, 0, 0, 0), (133, .aload_n 0, 134, 0, 0, 0, 0, 0, 0), (134, .getfield 44, 137, 1, 9, 0, 0, 0, 208), (137, .astore 9, 139, 9, 0, 0, 0, 0, 0), (139, .iload 8, 141, 8, 0, 0, 0, 0, 0), (141, .ifCond .eq 10, 144, 151, 0, 0, 0, 0, 0), (144, .aload_n 0, 145, 0, 0, 0, 0, 0, 0), (145, .getfield 44, 148, 1, 9, 0, 0, 0, 208), (148, .goto 7, 151, 155, 0, 0, 0, 0, 0), (151, .aload_n 0, 152, 0, 0, 0, 0, 0, 0), (152, .getfield 47, 155, 1, 10, 0, 0, 0, 209), (155, .astore 10, 157, 10, 0, 0, 0, 0, 0), (157, .aload 9, 159, 9, 0, 0, 0, 0, 0), (159, .aload 10, 161, 10, 0, 0, 0, 0, 0), (161, .invokevirtual 138, 164, 54, 2, 4, 0, 0, 466), (164, .aload_n 0, 165, 0, 0, 0, 0, 0, 0), (165, .iload_n 1, 166, 1, 0, 0, 0, 0, 0), (166, .iload_n 2, 167, 2, 0, 0, 0, 0, 0), (167, .aload_n 0, 168, 0, 0, 0, 0, 0, 0), (168, .getfield 50, 171, 1, 11, 0, 0, 0, 210), (171, .invokevirtual 141, 174, 22, 4, 1, 0, 0, 632), (174, .aload_n 0, 175, 0, 0, 0, 0, 0, 0), (175, .getfield 53, 178, 1, 12, 0, 0, 0, 211), (178, .aload 9, 180, 9, 0, 0, 0, 0, 0), (180, .aload_n 0, 181, 0, 0, 0, 0, 0, 0), (181, .getfield 50, 184, 1, 11, 0, 0, 0, 210), (184, .invokevirtual 144, 187, 52, 3, 4, 0, 0, 458), (187, .aload_n 0, 188, 0, 0, 0, 0, 0, 0), (188, .getfield 56, 191, 1, 13, 0, 0, 0, 212), (191, .aload_n 0, 192, 0, 0, 0, 0, 0, 0), (192, .getfield 21, 195, 1, 1, 0, 0, 0, 199), (195, .aload_n 0, 196, 0, 0, 0, 0, 0, 0), (196, .getfield 21, 199, 1, 1, 0, 0, 0, 199), (199, .invokevirtual 144, 202, 52, 3, 4, 0, 0, 458), (202, .iload 8, 204, 8, 0, 0, 0, 0, 0), (204, .ifCond .eq 23, 207, 227, 0, 0, 0, 0, 0), (207, .aload_n 0, 208, 0, 0, 0, 0, 0, 0), (208, .getfield 12, 211, 1, 0, 0, 0, 0, 197), (211, .aload_n 0, 212, 0, 0, 0, 0, 0, 0), (212, .getfield 53, 215, 1, 12, 0, 0, 0, 211), (215, .aload_n 0, 216, 0, 0, 0, 0, 0, 0), (216, .getfield 56, 219, 1, 13, 0, 0, 0, 212), (219, .iload 5, 221, 5, 0, 0, 0, 0, 0), (221, .invokevirtual 148, 224, 5, 4, 0, 0, 0, 636), (224, .goto 20, 227, 244, 0, 0, 0, 0, 0), (227, .aload_n 0, 228, 0, 0, 0, 0, 0, 0), (228, .getfield 12, 231, 1, 0, 0, 0, 0, 197), (231, .aload_n 0, 232, 0, 0, 0, 0, 0, 0), (232, .getfield 53, 235, 1, 12, 0, 0, 0, 211), (235, .aload_n 0, 236, 0, 0, 0, 0, 0, 0), (236, .getfield 56, 239, 1, 13, 0, 0, 0, 212), (239, .iload 5, 241, 5, 0, 0, 0, 0, 0), (241, .invokevirtual 152, 244, 4, 4, 0, 0, 0, 643), (244, .lreturn, 245, 0, 0, 0, 0, 0, 0)]
theorem ok_Fl_slopePart : cd_Fl_slopePart.all (jm_okE "ShareSolve$Flow" prog_3_method_7_code 11 6 162 false false (some (.long))) = true := by decide +kernel
def cd_Fl_putGram : List jm_e := [(0, .iconst 0, 1, 0, 0, 0, 0, 0, 0), (1, .istore 4, 3, 4, 0, 0, 0, 0, 0), (3, .iload 4, 5, 4, 0, 0, 0, 0, 0), (5, .aload_n 0, 6, 0, 0, 0, 0, 0, 0), (6, .getfield 72, 9, 1, 3, 0, 0, 0, 202), (9, .if_icmp .ge 20, 12, 29, 0, 0, 0, 0, 0), (12, .aload_n 0, 13, 0, 0, 0, 0, 0, 0), (13, .iload 4, 15, 4, 0, 0, 0, 0, 0), (15, .iload_n 3, 16, 3, 0, 0, 0, 0, 0), (16, .invokevirtual 79, 19, 13, 3, 1, 0, 0, 432), (19, .lconst 0, 20, 0, 0, 0, 0, 0, 0), (20, .invokevirtual 83, 23, 49, 2, 4, 0, 0, 436), (23, .iinc 4 1, 26, 4, 0, 0, 1, 0, 0), (26, .goto (-23), 29, 3, 0, 0, 0, 0, 0), (29, .iload_n 1, 30, 1, 0, 0, 0, 0, 0), (30, .ifCond .lt 21, 33, 51, 0, 0, 0, 0, 0), (33, .aload_n 0, 34, 0, 0, 0, 0, 0, 0), (34, .aload_n 0, 35, 0, 0, 0, 0, 0, 0), (35, .getfield 59, 38, 1, 2, 0, 0, 0, 201), (38, .iload_n 1, 39, 1, 0, 0, 0, 0, 0), (39, .iload_n 2, 40, 2, 0, 0, 0, 0, 0), (40, .invokevirtual 102, 43, 26, 3, 2, 0, 0, 413), (43, .iload_n 3, 44, 3, 0, 0, 0, 0, 0), (44, .invokevirtual 79, 47, 13, 3, 1, 0, 0, 432), (47, .lconst 1, 48, 0, 0, 0, 0, 1, 0), (48, .invokevirtual 83, 51, 49, 2, 4, 0, 0, 436), (51, .return_, 52, 0, 0, 0, 0, 0, 0)]
theorem ok_Fl_putGram : cd_Fl_putGram.all (jm_okE "ShareSolve$Flow" prog_3_method_15_code 5 2 45 false false none) = true := by decide +kernel
def cd_Fl_putReached : List jm_e := [(0, .aload 4, 2, 4, 0, 0, 0, 0, 0), (2, .lconst 0, 3, 0, 0, 0, 0, 0, 0), (3, .invokevirtual 83, 6, 49, 2, 4, 0, 0, 436), (6, .iload_n 1, 7, 1, 0, 0, 0, 0, 0), (7, .bipush (-2), 9, 0, 0, 0, (-2), 0, 0), (9, .iload_n 2, 10, 2, 0, 0, 0, 0, 0), (10, .isub, 11, 0, 0, 0, 0, 0, 0), (11, .if_icmp .ne 15, 14, 26, 0, 0, 0, 0, 0), (14, .aload 4, 16, 4, 0, 0, 0, 0, 0), (16, .aload_n 0, 17, 0, 0, 0, 0, 0, 0), (17, .getfield 21, 20, 1, 1, 0, 0, 0, 199), (20, .invokevirtual 95, 23, 56, 2, 4, 0, 0, 533), (23, .goto 38, 26, 61, 0, 0, 0, 0, 0), (26, .iload_n 1, 27, 1, 0, 0, 0, 0, 0), (27, .ifCond .lt 34, 30, 61, 0, 0, 0, 0, 0), (30, .iconst 0, 31, 0, 0, 0, 0, 0, 0), (31, .istore 5, 33, 5, 0, 0, 0, 0, 0), (33, .iload 5, 35, 5, 0, 0, 0, 0, 0), (35, .aload_n 0, 36, 0, 0, 0, 0, 0, 0), (36, .getfield 59, 39, 1, 2, 0, 0, 0, 201), (39, .getfield 69, 42, 2, 0, 0, 0, 0, 92), (42, .if_icmp .ge 19, 45, 61, 0, 0, 0, 0, 0), (45, .aload_n 0, 46, 0, 0, 0, 0, 0, 0), (46, .iload_n 2, 47, 2, 0, 0, 0, 0, 0), (47, .iload 5, 49, 5, 0, 0, 0, 0, 0), (49, .iload_n 3, 50, 3, 0, 0, 0, 0, 0), (50, .aload 4, 52, 4, 0, 0, 0, 0, 0), (52, .invokevirtual 98, 55, 17, 5, 1, 0, 0, 548), (55, .iinc 5 1, 58, 5, 0, 0, 1, 0, 0), (58, .goto (-25), 61, 33, 0, 0, 0, 0, 0), (61, .return_, 62, 0, 0, 0, 0, 0, 0)]
theorem ok_Fl_putReached : cd_Fl_putReached.all (jm_okE "ShareSolve$Flow" prog_3_method_17_code 6 3 93 false false none) = true := by decide +kernel
def cd_Fl_putPassing : List jm_e := [(0, .aload_n 3, 1, 3, 0, 0, 0, 0, 0), (1, .lconst 0, 2, 0, 0, 0, 0, 0, 0), (2, .invokevirtual 83, 5, 49, 2, 4, 0, 0, 436), (5, .iconst 0, 6, 0, 0, 0, 0, 0, 0), (6, .istore 4, 8, 4, 0, 0, 0, 0, 0), (8, .iload 4, 10, 4, 0, 0, 0, 0, 0), (10, .aload_n 0, 11, 0, 0, 0, 0, 0, 0), (11, .getfield 59, 14, 1, 2, 0, 0, 0, 201), (14, .getfield 69, 17, 2, 0, 0, 0, 0, 92), (17, .if_icmp .ge 45, 20, 62, 0, 0, 0, 0, 0), (20, .aload_n 0, 21, 0, 0, 0, 0, 0, 0), (21, .getfield 59, 24, 1, 2, 0, 0, 0, 201), (24, .iload_n 1, 25, 1, 0, 0, 0, 0, 0), (25, .iload 4, 27, 4, 0, 0, 0, 0, 0), (27, .invokevirtual 102, 30, 26, 3, 2, 0, 0, 413), (30, .istore 5, 32, 5, 0, 0, 0, 0, 0), (32, .aload_n 3, 33, 3, 0, 0, 0, 0, 0), (33, .aload_n 0, 34, 0, 0, 0, 0, 0, 0), (34, .iload 5, 36, 5, 0, 0, 0, 0, 0), (36, .aload_n 0, 37, 0, 0, 0, 0, 0, 0), (37, .getfield 72, 40, 1, 3, 0, 0, 0, 202), (40, .invokevirtual 79, 43, 13, 3, 1, 0, 0, 432), (43, .aload_n 0, 44, 0, 0, 0, 0, 0, 0), (44, .getfield 37, 47, 1, 7, 0, 0, 0, 206), (47, .iload_n 2, 48, 2, 0, 0, 0, 0, 0), (48, .aaload, 49, 54, 0, 0, 0, 0, 0), (49, .iload 5, 51, 5, 0, 0, 0, 0, 0), (51, .iaload, 52, 0, 0, 0, 0, 0, 0), (52, .i2l, 53, 0, 0, 0, 0, 0, 0), (53, .invokevirtual 106, 56, 55, 3, 4, 0, 0, 470), (56, .iinc 4 1, 59, 4, 0, 0, 1, 0, 0), (59, .goto (-51), 62, 8, 0, 0, 0, 0, 0), (62, .return_, 63, 0, 0, 0, 0, 0, 0)]
theorem ok_Fl_putPassing : cd_Fl_putPassing.all (jm_okE "ShareSolve$Flow" prog_3_method_18_code 6 2 67 false false none) = true := by decide +kernel
def cd_Fl_bringsAtLeast : List jm_e := [(0, .aload_n 0, 1, 0, 0, 0, 0, 0, 0), (1, .iload_n 1, 2, 1, 0, 0, 0, 0, 0), (2, .iload_n 2, 3, 2, 0, 0, 0, 0, 0), (3, .aload_n 0, 4, 0, 0, 0, 0, 0, 0), (4, .getfield 44, 7, 1, 9, 0, 0, 0, 208), (7, .invokevirtual 110, 10, 16, 4, 1, 0, 0, 670), (10, .aload_n 0, 11, 0, 0, 0, 0, 0, 0), (11, .getfield 47, 14, 1, 10, 0, 0, 0, 209), (14, .lconst 0, 15, 0, 0, 0, 0, 0, 0), (15, .invokevirtual 83, 18, 49, 2, 4, 0, 0, 436), (18, .aload_n 0, 19, 0, 0, 0, 0, 0, 0), (19, .getfield 47, 22, 1, 10, 0, 0, 0, 209), (22, .aload_n 0, 23, 0, 0, 0, 0, 0, 0), (23, .getfield 21, 26, 1, 1, 0, 0, 0, 199), (26, .lload_n 3, 27, 3, 0, 0, 0, 0, 0), (27, .invokevirtual 106, 30, 55, 3, 4, 0, 0, 470), (30, .aload_n 0, 31, 0, 0, 0, 0, 0, 0), (31, .getfield 44, 34, 1, 9, 0, 0, 0, 208), (34, .aload_n 0, 35, 0, 0, 0, 0, 0, 0), (35, .getfield 47, 38, 1, 10, 0, 0, 0, 209), (38, .invokevirtual 114, 41, 64, 2, 4, 0, 0, 631), (41, .ifCond .lt 7, 44, 48, 0, 0, 0, 0, 0), (44, .iconst 1, 45, 0, 0, 0, 1, 0, 0), (45, .goto 4, 48, 49, 0, 0, 0, 0, 0), (48, .iconst 0, 49, 0, 0, 0, 0, 0, 0), (49, .ireturn, 50, 0, 0, 0, 0, 0, 0)]
theorem ok_Fl_bringsAtLeast : cd_Fl_bringsAtLeast.all (jm_okE "ShareSolve$Flow" prog_3_method_6_code 5 4 116 false false (some (.boolean))) = true := by decide +kernel
end
section
/-! the code of ShareSolve -/
def cd_Sh_init : List jm_e := [(0, .aload_n 0, 1, 0, 0, 0, 0, 0, 0), (1, .invokespecial 3, 4, 999, 1, 0, 0, 0, 79), (4, .aload_n 0, 5, 0, 0, 0, 0, 0, 0), (5, .new 9, 8, 2, 0, 0, 0, 0, 82), (8, .dup, 9, 0, 0, 0, 0, 0, 0), (9, .iload_n 1, 10, 1, 0, 0, 0, 0, 0), (10, .iconst 1, 11, 0, 0, 0, 1, 0, 0), (11, .if_icmp .lt 12, 14, 23, 0, 0, 0, 0, 0), (14, .iload_n 1, 15, 1, 0, 0, 0, 0, 0), (15, .iconst 3, 16, 0, 0, 0, 3, 0, 0), (16, .if_icmp .gt 7, 19, 23, 0, 0, 0, 0, 0), (19, .iload_n 1, 20, 1, 0, 0, 0, 0, 0), (20, .goto 4, 23, 24, 0, 0, 0, 0, 0), (23, .iconst 1, 24, 0, 0, 0, 1, 0, 0), (24, .invokespecial 11, 27, 24, 2, 2, 0, 0, 84), (27, .putfield 14, 30, 5, 0, 0, 0, 0, 276), (30, .aload_n 0, 31, 0, 0, 0, 0, 0, 0), (31, .new 18, 34, 1, 0, 0, 0, 0, 152), (34, .dup, 35, 0, 0, 0, 0, 0, 0), (35, .aload_n 0, 36, 0, 0, 0, 0, 0, 0), (36, .getfield 14, 39, 5, 0, 0, 0, 0, 276), (39, .invokespecial 20, 42, 6, 2, 1, 0, 0, 154), (42, .putfield 23, 45, 5, 1, 0, 0, 0, 277), (45, .aload_n 0, 46, 0, 0, 0, 0, 0, 0), (46, .new 27, 49, 3, 0, 0, 0, 0, 242), (49, .dup, 50, 0, 0, 0, 0, 0, 0), (50, .invokespecial 29, 53, 42, 1, 3, 0, 0, 244), (53, .putfield 30, 56, 5, 2, 0, 0, 0, 278), (56, .return_, 57, 0, 0, 0, 0, 0, 0)]
theorem ok_Sh_init : cd_Sh_init.all (jm_okE "ShareSolve" prog_1_method_1_code 2 4 82 false true none) = true := by decide +kernel
def cd_Sh_machine : List jm_e := [(0, .aload_n 0, 1, 0, 0, 0, 0, 0, 0), (1, .getfield 14, 4, 5, 0, 0, 0, 0, 276), (4, .getfield 34, 7, 2, 1, 0, 0, 0, 94), (7, .iconst 3, 8, 0, 0, 0, 3, 0, 0), (8, .if_icmp .ge 13, 11, 21, 0, 0, 0, 0, 0), (11, .iload_n 1, 12, 1, 0, 0, 0, 0, 0), (12, .iconst 1, 13, 0, 0, 0, 1, 0, 0), (13, .if_icmp .lt 8, 16, 21, 0, 0, 0, 0, 0), (16, .iload_n 1, 17, 1, 0, 0, 0, 0, 0), (17, .iconst 3, 18, 0, 0, 0, 3, 0, 0), (18, .if_icmp .le 5, 21, 23, 0, 0, 0, 0, 0), (21, .iconst (-1), 22, 0, 0, 0, (-1), 0, 0), (22, .ireturn, 23, 0, 0, 0, 0, 0, 0), (23, .aload_n 0, 24, 0, 0, 0, 0, 0, 0), (24, .iconst 0, 25, 0, 0, 0, 0, 0, 0), (25, .putfield 38, 28, 5, 3, 0, 0, 0, 279), (28, .aload_n 0, 29, 0, 0, 0, 0, 0, 0), (29, .getfield 14, 32, 5, 0, 0, 0, 0, 276), (32, .iload_n 1, 33, 1, 0, 0, 0, 0, 0), (33, .invokevirtual 42, 36, 25, 2, 2, 0, 0, 293), (36, .ireturn, 37, 0, 0, 0, 0, 0, 0)]
theorem ok_Sh_machine : cd_Sh_machine.all (jm_okE "ShareSolve" prog_1_method_2_code 2 2 45 false false (some (.int))) = true := by decide +kernel
def cd_Sh_port : List jm_e := [(0, .aload_n 0, 1, 0, 0, 0, 0, 0, 0), (1, .getfield 14, 4, 5, 0, 0, 0, 0, 276), (4, .getfield 46, 7, 2, 2, 0, 0, 0, 98), (7, .iconst 3, 8, 0, 0, 0, 3, 0, 0), (8, .if_icmp .lt 5, 11, 13, 0, 0, 0, 0, 0), (11, .iconst (-1), 12, 0, 0, 0, (-1), 0, 0), (12, .ireturn, 13, 0, 0, 0, 0, 0, 0), (13, .aload_n 0, 14, 0, 0, 0, 0, 0, 0), (14, .iconst 0, 15, 0, 0, 0, 0, 0, 0), (15, .putfield 38, 18, 5, 3, 0, 0, 0, 279), (18, .aload_n 0, 19, 0, 0, 0, 0, 0, 0), (19, .getfield 14, 22, 5, 0, 0, 0, 0, 276), (22, .invokevirtual 49, 25, 27, 1, 2, 0, 0, 305), (25, .ireturn, 26, 0, 0, 0, 0, 0, 0)]
theorem ok_Sh_port : cd_Sh_port.all (jm_okE "ShareSolve" prog_1_method_3_code 1 1 20 false false (some (.int))) = true := by decide +kernel
def cd_Sh_joinOut : List jm_e := [(0, .aload_n 0, 1, 0, 0, 0, 0, 0, 0), (1, .getfield 14, 4, 5, 0, 0, 0, 0, 276), (4, .iload_n 1, 5, 1, 0, 0, 0, 0, 0), (5, .iload_n 2, 6, 2, 0, 0, 0, 0, 0), (6, .invokevirtual 53, 9, 28, 3, 2, 0, 0, 313), (9, .ifCond .eq 14, 12, 23, 0, 0, 0, 0, 0), (12, .aload_n 0, 13, 0, 0, 0, 0, 0, 0), (13, .getfield 14, 16, 5, 0, 0, 0, 0, 276), (16, .iload_n 3, 17, 3, 0, 0, 0, 0, 0), (17, .invokevirtual 57, 20, 30, 2, 2, 0, 0, 321), (20, .ifCond .ne 5, 23, 25, 0, 0, 0, 0, 0), (23, .iconst 0, 24, 0, 0, 0, 0, 0, 0), (24, .ireturn, 25, 0, 0, 0, 0, 0, 0), (25, .aload_n 0, 26, 0, 0, 0, 0, 0, 0), (26, .getfield 14, 29, 5, 0, 0, 0, 0, 276), (29, .getfield 61, 32, 2, 4, 0, 0, 0, 104), (32, .iload_n 1, 33, 1, 0, 0, 0, 0, 0), (33, .iconst 3, 34, 0, 0, 0, 3, 0, 0), (34, .imul, 35, 0, 0, 0, 0, 0, 0), (35, .iload_n 2, 36, 2, 0, 0, 0, 0, 0), (36, .iadd, 37, 0, 0, 0, 0, 0, 0), (37, .iload_n 3, 38, 3, 0, 0, 0, 0, 0), (38, .iastore, 39, 0, 0, 0, 0, 0, 0), (39, .aload_n 0, 40, 0, 0, 0, 0, 0, 0), (40, .iconst 0, 41, 0, 0, 0, 0, 0, 0), (41, .putfield 38, 44, 5, 3, 0, 0, 0, 279), (44, .iconst 1, 45, 0, 0, 0, 1, 0, 0), (45, .ireturn, 46, 0, 0, 0, 0, 0, 0)]
theorem ok_Sh_joinOut : cd_Sh_joinOut.all (jm_okE "ShareSolve" prog_1_method_4_code 4 2 43 false false (some (.boolean))) = true := by decide +kernel
def cd_Sh_share : List jm_e := [(0, .aload_n 0, 1, 0, 0, 0, 0, 0, 0), (1, .iload_n 1, 2, 1, 0, 0, 0, 0, 0), (2, .iload_n 2, 3, 2, 0, 0, 0, 0, 0), (3, .iload_n 3, 4, 3, 0, 0, 0, 0, 0), (4, .lload 4, 6, 4, 0, 0, 0, 0, 0), (6, .lload 6, 8, 6, 0, 0, 0, 0, 0), (8, .invokevirtual 65, 11, 70, 6, 5, 0, 0, 333), (11, .ireturn, 12, 0, 0, 0, 0, 0, 0)]
theorem ok_Sh_share : cd_Sh_share.all (jm_okE "ShareSolve" prog_1_method_5_code 8 4 93 false false (some (.boolean))) = true := by decide +kernel
def cd_Sh_tellShare : List jm_e := [(0, .aload_n 0, 1, 0, 0, 0, 0, 0, 0), (1, .getfield 14, 4, 5, 0, 0, 0, 0, 276), (4, .iload_n 1, 5, 1, 0, 0, 0, 0, 0), (5, .iload_n 2, 6, 2, 0, 0, 0, 0, 0), (6, .iload_n 3, 7, 3, 0, 0, 0, 0, 0), (7, .invokevirtual 150, 10, 32, 4, 2, 0, 0, 337), (10, .ifCond .eq 13, 13, 23, 0, 0, 0, 0, 0), (13, .lload 4, 15, 4, 0, 0, 0, 0, 0), (15, .lload 6, 17, 6, 0, 0, 0, 0, 0), (17, .invokestatic 75, 20, 71, 2, 0, 0, 0, 350), (20, .ifCond .ne 5, 23, 25, 0, 0, 0, 0, 0), (23, .iconst 0, 24, 0, 0, 0, 0, 0, 0), (24, .ireturn, 25, 0, 0, 0, 0, 0, 0), (25, .aload_n 0, 26, 0, 0, 0, 0, 0, 0), (26, .getfield 14, 29, 5, 0, 0, 0, 0, 276), (29, .iload_n 1, 30, 1, 0, 0, 0, 0, 0), (30, .iload_n 2, 31, 2, 0, 0, 0, 0, 0), (31, .iload_n 3, 32, 3, 0, 0, 0, 0, 0), (32, .lload 4, 34, 4, 0, 0, 0, 0, 0), (34, .lload 6, 36, 6, 0, 0, 0, 0, 0), (36, .invokestatic 86, 39, 72, 2, 0, 0, 0, 354), (39, .invokevirtual 176, 42, 35, 5, 2, 0, 0, 358), (42, .ifCond .ne 5, 45, 47, 0, 0, 0, 0, 0), (45, .iconst 0, 46, 0, 0, 0, 0, 0, 0), (46, .ireturn, 47, 0, 0, 0, 0, 0, 0), (47, .aload_n 0, 48, 0, 0, 0, 0, 0, 0), (48, .iconst 0, 49, 0, 0, 0, 0, 0, 0), (49, .putfield 38, 52, 5, 3, 0, 0, 0, 279), (52, .iconst 1, 53, 0, 0, 0, 1, 0, 0), (53, .ireturn, 54, 0, 0, 0, 0, 0, 0)]
theorem ok_Sh_tellShare : cd_Sh_tellShare.all (jm_okE "ShareSolve" prog_1_method_21_code 8 3 66 false false (some (.boolean))) = true := by decide +kernel
def cd_Sh_isShare : List jm_e := [(0, .lload_n 2, 1, 2, 0, 0, 0, 0, 0), (1, .lconst 1, 2, 0, 0, 0, 0, 1, 0), (2, .lcmp, 3, 0, 0, 0, 0, 0, 0), (3, .ifCond .lt 27, 6, 30, 0, 0, 0, 0, 0), (6, .lload_n 2, 7, 2, 0, 0, 0, 0, 0), (7, .ldc2_w 187, 10, 0, 0, 0, 0, 12, 353), (10, .lcmp, 11, 0, 0, 0, 0, 0, 0), (11, .ifCond .gt 19, 14, 30, 0, 0, 0, 0, 0), (14, .lload_n 0, 15, 0, 0, 0, 0, 0, 0), (15, .lconst 0, 16, 0, 0, 0, 0, 0, 0), (16, .lcmp, 17, 0, 0, 0, 0, 0, 0), (17, .ifCond .lt 13, 20, 30, 0, 0, 0, 0, 0), (20, .lload_n 0, 21, 0, 0, 0, 0, 0, 0), (21, .lload_n 2, 22, 2, 0, 0, 0, 0, 0), (22, .lcmp, 23, 0, 0, 0, 0, 0, 0), (23, .ifCond .gt 7, 26, 30, 0, 0, 0, 0, 0), (26, .iconst 1, 27, 0, 0, 0, 1, 0, 0), (27, .goto 4, 30, 31, 0, 0, 0, 0, 0), (30, .iconst 0, 31, 0, 0, 0, 0, 0, 0), (31, .ireturn, 32, 0, 0, 0, 0, 0, 0)]
theorem ok_Sh_isShare : cd_Sh_isShare.all (jm_okE "ShareSolve" prog_1_method_19_code 4 0 0 false false (some (.boolean))) = true := by decide +kernel
def cd_Sh_inUnits : List jm_e := [(0, .lload_n 2, 1, 2, 0, 0, 0, 0, 0), (1, .lconst 1, 2, 0, 0, 0, 0, 1, 0), (2, .lcmp, 3, 0, 0, 0, 0, 0, 0), (3, .ifCond .ge 7, 6, 10, 0, 0, 0, 0, 0), (6, .iconst 0, 7, 0, 0, 0, 0, 0, 0), (7, .goto 11, 10, 18, 0, 0, 0, 0, 0), (10, .lload_n 0, 11, 0, 0, 0, 0, 0, 0), (11, .ldc2_w 189, 14, 0, 0, 0, 0, 27720, 357), (14, .lload_n 2, 15, 2, 0, 0, 0, 0, 0), (15, .ldiv, 16, 0, 0, 0, 0, 0, 0), (16, .lmul, 17, 0, 0, 0, 0, 0, 0), (17, .l2i, 18, 0, 0, 0, 0, 0, 0), (18, .ireturn, 19, 0, 0, 0, 0, 0, 0)]
theorem ok_Sh_inUnits : cd_Sh_inUnits.all (jm_okE "ShareSolve" prog_1_method_20_code 4 0 0 false false (some (.int))) = true := by decide +kernel
def cd_Sh_crush : List jm_e := [(0, .aload_n 0, 1, 0, 0, 0, 0, 0, 0), (1, .getfield 14, 4, 5, 0, 0, 0, 0, 276), (4, .iload_n 1, 5, 1, 0, 0, 0, 0, 0), (5, .iload_n 2, 6, 2, 0, 0, 0, 0, 0), (6, .invokevirtual 69, 9, 36, 3, 2, 0, 0, 366), (9, .ifCond .eq 19, 12, 28, 0, 0, 0, 0, 0), (12, .aload_n 0, 13, 0, 0, 0, 0, 0, 0), (13, .getfield 14, 16, 5, 0, 0, 0, 0, 276), (16, .iload_n 3, 17, 3, 0, 0, 0, 0, 0), (17, .invokevirtual 72, 20, 33, 2, 2, 0, 0, 370), (20, .ifCond .eq 8, 23, 28, 0, 0, 0, 0, 0), (23, .iload_n 2, 24, 2, 0, 0, 0, 0, 0), (24, .iload_n 3, 25, 3, 0, 0, 0, 0, 0), (25, .if_icmp .ne 5, 28, 30, 0, 0, 0, 0, 0), (28, .iconst 0, 29, 0, 0, 0, 0, 0, 0), (29, .ireturn, 30, 0, 0, 0, 0, 0, 0), (30, .lload 4, 32, 4, 0, 0, 0, 0, 0), (32, .lload 6, 34, 6, 0, 0, 0, 0, 0), (34, .invokestatic 75, 37, 71, 2, 0, 0, 0, 350), (37, .ifCond .ne 5, 40, 42, 0, 0, 0, 0, 0), (40, .iconst 0, 41, 0, 0, 0, 0, 0, 0), (41, .ireturn, 42, 0, 0, 0, 0, 0, 0), (42, .aload_n 0, 43, 0, 0, 0, 0, 0, 0), (43, .getfield 14, 46, 5, 0, 0, 0, 0, 276), (46, .iload_n 1, 47, 1, 0, 0, 0, 0, 0), (47, .iload_n 2, 48, 2, 0, 0, 0, 0, 0), (48, .invokevirtual 79, 51, 26, 3, 2, 0, 0, 371), (51, .istore 8, 53, 8, 0, 0, 0, 0, 0), (53, .aload_n 0, 54, 0, 0, 0, 0, 0, 0), (54, .getfield 14, 57, 5, 0, 0, 0, 0, 276), (57, .getfield 83, 60, 2, 6, 0, 0, 0, 107), (60, .iload 8, 62, 8, 0, 0, 0, 0, 0), (62, .lload 4, 64, 4, 0, 0, 0, 0, 0), (64, .lload 6, 66, 6, 0, 0, 0, 0, 0), (66, .invokestatic 86, 69, 72, 2, 0, 0, 0, 354), (69, .iastore, 70, 0, 0, 0, 0, 0, 0), (70, .aload_n 0, 71, 0, 0, 0, 0, 0, 0), (71, .getfield 14, 74, 5, 0, 0, 0, 0, 276), (74, .getfield 90, 77, 2, 7, 0, 0, 0, 110), (77, .iload 8, 79, 8, 0, 0, 0, 0, 0), (79, .iload_n 3, 80, 3, 0, 0, 0, 0, 0), (80, .iastore, 81, 0, 0, 0, 0, 0, 0), (81, .aload_n 0, 82, 0, 0, 0, 0, 0, 0), (82, .iconst 0, 83, 0, 0, 0, 0, 0, 0), (83, .putfield 38, 86, 5, 3, 0, 0, 0, 279), (86, .iconst 1, 87, 0, 0, 0, 1, 0, 0), (87, .ireturn, 88, 0, 0, 0, 0, 0, 0)]
theorem ok_Sh_crush : cd_Sh_crush.all (jm_okE "ShareSolve" prog_1_method_6_code 9 2 43 false false (some (.boolean))) = true := by decide +kernel
def cd_Sh_feed : List jm_e := [(0, .aload_n 0, 1, 0, 0, 0, 0, 0, 0), (1, .getfield 14, 4, 5, 0, 0, 0, 0, 276), (4, .iload_n 1, 5, 1, 0, 0, 0, 0, 0), (5, .iload_n 2, 6, 2, 0, 0, 0, 0, 0), (6, .invokevirtual 69, 9, 36, 3, 2, 0, 0, 366), (9, .ifCond .eq 17, 12, 26, 0, 0, 0, 0, 0), (12, .lload_n 3, 13, 3, 0, 0, 0, 0, 0), (13, .lconst 0, 14, 0, 0, 0, 0, 0, 0), (14, .lcmp, 15, 0, 0, 0, 0, 0, 0), (15, .ifCond .lt 11, 18, 26, 0, 0, 0, 0, 0), (18, .lload_n 3, 19, 3, 0, 0, 0, 0, 0), (19, .ldc2_w 93, 22, 0, 0, 0, 0, 1000000, 376), (22, .lcmp, 23, 0, 0, 0, 0, 0, 0), (23, .ifCond .le 5, 26, 28, 0, 0, 0, 0, 0), (26, .iconst 0, 27, 0, 0, 0, 0, 0, 0), (27, .ireturn, 28, 0, 0, 0, 0, 0, 0), (28, .aload_n 0, 29, 0, 0, 0, 0, 0, 0), (29, .getfield 14, 32, 5, 0, 0, 0, 0, 276), (32, .getfield 95, 35, 2, 8, 0, 0, 0, 114), (35, .aload_n 0, 36, 0, 0, 0, 0, 0, 0), (36, .getfield 14, 39, 5, 0, 0, 0, 0, 276), (39, .iload_n 1, 40, 1, 0, 0, 0, 0, 0), (40, .iload_n 2, 41, 2, 0, 0, 0, 0, 0), (41, .invokevirtual 79, 44, 26, 3, 2, 0, 0, 371), (44, .lload_n 3, 45, 3, 0, 0, 0, 0, 0), (45, .lastore, 46, 0, 0, 0, 0, 0, 0), (46, .aload_n 0, 47, 0, 0, 0, 0, 0, 0), (47, .iconst 0, 48, 0, 0, 0, 0, 0, 0), (48, .putfield 38, 51, 5, 3, 0, 0, 0, 279), (51, .iconst 1, 52, 0, 0, 0, 1, 0, 0), (52, .ireturn, 53, 0, 0, 0, 0, 0, 0)]
theorem ok_Sh_feed : cd_Sh_feed.all (jm_okE "ShareSolve" prog_1_method_7_code 5 2 43 false false (some (.boolean))) = true := by decide +kernel
def cd_Sh_solve : List jm_e := [(0, .aload_n 0, 1, 0, 0, 0, 0, 0, 0), (1, .invokevirtual 99, 4, 76, 1, 5, 0, 0, 381), (4, .ireturn, 5, 0, 0, 0, 0, 0, 0)]
theorem ok_Sh_solve : cd_Sh_solve.all (jm_okE "ShareSolve" prog_1_method_8_code 1 7 183 false false (some (.int))) = true := by decide +kernel
def cd_Sh_solveAll : List jm_e := [(0, .aload_n 0, 1, 0, 0, 0, 0, 0, 0), (1, .getfield 14, 4, 5, 0, 0, 0, 0, 276), (4, .invokevirtual 155, 7, 37, 1, 2, 0, 0, 385), (7, .istore_n 1, 8, 1, 0, 0, 0, 0, 0), (8, .iload_n 1, 9, 1, 0, 0, 0, 0, 0), (9, .iconst (-1), 10, 0, 0, 0, (-1), 0, 0), (10, .if_icmp .eq 20, 13, 30, 0, 0, 0, 0, 0), (13, .aload_n 0, 14, 0, 0, 0, 0, 0, 0), (14, .getfield 30, 17, 5, 2, 0, 0, 0, 278), (17, .iconst 0, 18, 0, 0, 0, 0, 0, 0), (18, .putfield 191, 21, 3, 0, 0, 0, 0, 251), (21, .aload_n 0, 22, 0, 0, 0, 0, 0, 0), (22, .iconst 0, 23, 0, 0, 0, 0, 0, 0), (23, .putfield 38, 26, 5, 3, 0, 0, 0, 279), (26, .iconst 1, 27, 0, 0, 0, 1, 0, 0), (27, .iload_n 1, 28, 1, 0, 0, 0, 0, 0), (28, .iadd, 29, 0, 0, 0, 0, 0, 0), (29, .ireturn, 30, 0, 0, 0, 0, 0, 0), (30, .aload_n 0, 31, 0, 0, 0, 0, 0, 0), (31, .getfield 23, 34, 5, 1, 0, 0, 0, 277), (34, .invokevirtual 194, 37, 7, 1, 1, 0, 0, 405), (37, .aload_n 0, 38, 0, 0, 0, 0, 0, 0), (38, .getfield 23, 41, 5, 1, 0, 0, 0, 277), (41, .iconst 1, 42, 0, 0, 0, 1, 0, 0), (42, .invokevirtual 197, 45, 14, 2, 1, 0, 0, 446), (45, .aload_n 0, 46, 0, 0, 0, 0, 0, 0), (46, .invokevirtual 184, 49, 77, 1, 5, 0, 0, 534), (49, .iconst 0, 50, 0, 0, 0, 0, 0, 0), (50, .ireturn, 51, 0, 0, 0, 0, 0, 0)]
theorem ok_Sh_solveAll : cd_Sh_solveAll.all (jm_okE "ShareSolve" prog_1_method_22_code 2 6 162 false false (some (.int))) = true := by decide +kernel
def cd_Sh_takeSolution : List jm_e := [(0, .aload_n 0, 1, 0, 0, 0, 0, 0, 0), (1, .getfield 30, 4, 5, 2, 0, 0, 0, 278), (4, .aload_n 0, 5, 0, 0, 0, 0, 0, 0), (5, .getfield 23, 8, 5, 1, 0, 0, 0, 277), (8, .aload_n 0, 9, 0, 0, 0, 0, 0, 0), (9, .getfield 14, 12, 5, 0, 0, 0, 0, 276), (12, .invokevirtual 200, 15, 43, 3, 3, 0, 0, 538), (15, .aload_n 0, 16, 0, 0, 0, 0, 0, 0), (16, .iconst 1, 17, 0, 0, 0, 1, 0, 0), (17, .putfield 38, 20, 5, 3, 0, 0, 0, 279), (20, .return_, 21, 0, 0, 0, 0, 0, 0)]
theorem ok_Sh_takeSolution : cd_Sh_takeSolution.all (jm_okE "ShareSolve" prog_1_method_23_code 1 5 140 false false none) = true := by decide +kernel
def cd_Sh_out : List jm_e := [(0, .aload_n 0, 1, 0, 0, 0, 0, 0, 0), (1, .getfield 30, 4, 5, 2, 0, 0, 0, 278), (4, .iload_n 1, 5, 1, 0, 0, 0, 0, 0), (5, .invokevirtual 102, 8, 44, 2, 3, 0, 0, 560), (8, .ifCond .eq 21, 11, 29, 0, 0, 0, 0, 0), (11, .aload_n 0, 12, 0, 0, 0, 0, 0, 0), (12, .getfield 14, 15, 5, 0, 0, 0, 0, 276), (15, .iload_n 2, 16, 2, 0, 0, 0, 0, 0), (16, .invokevirtual 72, 19, 33, 2, 2, 0, 0, 370), (19, .ifCond .eq 10, 22, 29, 0, 0, 0, 0, 0), (22, .iload_n 3, 23, 3, 0, 0, 0, 0, 0), (23, .invokestatic 105, 26, 79, 1, 0, 0, 0, 564), (26, .ifCond .ne 7, 29, 33, 0, 0, 0, 0, 0), (29, .ldc2_w 108, 32, 0, 0, 0, 0, (-1), 567), (32, .lreturn, 33, 0, 0, 0, 0, 0, 0), (33, .aload_n 0, 34, 0, 0, 0, 0, 0, 0), (34, .getfield 30, 37, 5, 2, 0, 0, 0, 278), (37, .getfield 110, 40, 3, 4, 0, 0, 0, 257), (40, .aload_n 0, 41, 0, 0, 0, 0, 0, 0), (41, .getfield 14, 44, 5, 0, 0, 0, 0, 276), (44, .iload_n 1, 45, 1, 0, 0, 0, 0, 0), (45, .iload_n 2, 46, 2, 0, 0, 0, 0, 0), (46, .invokevirtual 79, 49, 26, 3, 2, 0, 0, 371), (49, .aaload, 50, 53, 0, 0, 0, 0, 0), (50, .astore 4, 52, 4, 0, 0, 0, 0, 0), (52, .aload_n 0, 53, 0, 0, 0, 0, 0, 0), (53, .getfield 23, 56, 5, 1, 0, 0, 0, 277), (56, .getfield 114, 59, 1, 0, 0, 0, 0, 198), (59, .aload 4, 61, 4, 0, 0, 0, 0, 0), (61, .aload_n 0, 62, 0, 0, 0, 0, 0, 0), (62, .getfield 30, 65, 5, 2, 0, 0, 0, 278), (65, .getfield 118, 68, 3, 3, 0, 0, 0, 255), (68, .iload_n 3, 69, 3, 0, 0, 0, 0, 0), (69, .invokevirtual 122, 72, 4, 4, 0, 0, 0, 568), (72, .lreturn, 73, 0, 0, 0, 0, 0, 0)]
theorem ok_Sh_out : cd_Sh_out.all (jm_okE "ShareSolve" prog_1_method_9_code 5 5 136 false false (some (.long))) = true := by decide +kernel
def cd_Sh_isPart : List jm_e := [(0, .iload_n 0, 1, 0, 0, 0, 0, 0, 0), (1, .ifCond .lt 13, 4, 14, 0, 0, 0, 0, 0), (4, .iload_n 0, 5, 0, 0, 0, 0, 0, 0), (5, .bipush 6, 7, 0, 0, 0, 6, 0, 0), (7, .if_icmp .gt 7, 10, 14, 0, 0, 0, 0, 0), (10, .iconst 1, 11, 0, 0, 0, 1, 0, 0), (11, .goto 4, 14, 15, 0, 0, 0, 0, 0), (14, .iconst 0, 15, 0, 0, 0, 0, 0, 0), (15, .ireturn, 16, 0, 0, 0, 0, 0, 0)]
theorem ok_Sh_isPart : cd_Sh_isPart.all (jm_okE "ShareSolve" prog_1_method_18_code 1 0 0 false false (some (.boolean))) = true := by decide +kernel
def cd_Sh_load : List jm_e := [(0, .aload_n 0, 1, 0, 0, 0, 0, 0, 0), (1, .getfield 30, 4, 5, 2, 0, 0, 0, 278), (4, .iload_n 1, 5, 1, 0, 0, 0, 0, 0), (5, .invokevirtual 128, 8, 45, 2, 3, 0, 0, 583), (8, .ifCond .eq 10, 11, 18, 0, 0, 0, 0, 0), (11, .iload_n 2, 12, 2, 0, 0, 0, 0, 0), (12, .invokestatic 105, 15, 79, 1, 0, 0, 0, 564), (15, .ifCond .ne 7, 18, 22, 0, 0, 0, 0, 0), (18, .ldc2_w 108, 21, 0, 0, 0, 0, (-1), 567), (21, .lreturn, 22, 0, 0, 0, 0, 0, 0), (22, .aload_n 0, 23, 0, 0, 0, 0, 0, 0), (23, .getfield 23, 26, 5, 1, 0, 0, 0, 277), (26, .getfield 114, 29, 1, 0, 0, 0, 0, 198), (29, .aload_n 0, 30, 0, 0, 0, 0, 0, 0), (30, .getfield 30, 33, 5, 2, 0, 0, 0, 278), (33, .getfield 131, 36, 3, 5, 0, 0, 0, 259), (36, .iload_n 1, 37, 1, 0, 0, 0, 0, 0), (37, .aaload, 38, 53, 0, 0, 0, 0, 0), (38, .aload_n 0, 39, 0, 0, 0, 0, 0, 0), (39, .getfield 30, 42, 5, 2, 0, 0, 0, 278), (42, .getfield 118, 45, 3, 3, 0, 0, 0, 255), (45, .iload_n 2, 46, 2, 0, 0, 0, 0, 0), (46, .invokevirtual 122, 49, 4, 4, 0, 0, 0, 568), (49, .lreturn, 50, 0, 0, 0, 0, 0, 0)]
theorem ok_Sh_load : cd_Sh_load.all (jm_okE "ShareSolve" prog_1_method_10_code 3 5 136 false false (some (.long))) = true := by decide +kernel
def cd_Sh_span : List jm_e := [(0, .aload_n 0, 1, 0, 0, 0, 0, 0, 0), (1, .getfield 14, 4, 5, 0, 0, 0, 0, 276), (4, .iload_n 1, 5, 1, 0, 0, 0, 0, 0), (5, .invokevirtual 134, 8, 29, 2, 2, 0, 0, 591), (8, .ifCond .eq 25, 11, 33, 0, 0, 0, 0, 0), (11, .lload_n 2, 12, 2, 0, 0, 0, 0, 0), (12, .lconst 0, 13, 0, 0, 0, 0, 0, 0), (13, .lcmp, 14, 0, 0, 0, 0, 0, 0), (14, .ifCond .lt 19, 17, 33, 0, 0, 0, 0, 0), (17, .lload_n 2, 18, 2, 0, 0, 0, 0, 0), (18, .lload 4, 20, 4, 0, 0, 0, 0, 0), (20, .lcmp, 21, 0, 0, 0, 0, 0, 0), (21, .ifCond .gt 12, 24, 33, 0, 0, 0, 0, 0), (24, .lload 4, 26, 4, 0, 0, 0, 0, 0), (26, .ldc2_w 135, 29, 0, 0, 0, 0, 1000000000, 592), (29, .lcmp, 30, 0, 0, 0, 0, 0, 0), (30, .ifCond .le 5, 33, 35, 0, 0, 0, 0, 0), (33, .iconst 0, 34, 0, 0, 0, 0, 0, 0), (34, .ireturn, 35, 0, 0, 0, 0, 0, 0), (35, .aload_n 0, 36, 0, 0, 0, 0, 0, 0), (36, .getfield 14, 39, 5, 0, 0, 0, 0, 276), (39, .getfield 137, 42, 2, 9, 0, 0, 0, 116), (42, .iload_n 1, 43, 1, 0, 0, 0, 0, 0), (43, .iconst 1, 44, 0, 0, 0, 1, 0, 0), (44, .bastore, 45, 0, 0, 0, 0, 0, 0), (45, .aload_n 0, 46, 0, 0, 0, 0, 0, 0), (46, .getfield 14, 49, 5, 0, 0, 0, 0, 276), (49, .getfield 141, 52, 2, 10, 0, 0, 0, 118), (52, .iload_n 1, 53, 1, 0, 0, 0, 0, 0), (53, .lload_n 2, 54, 2, 0, 0, 0, 0, 0), (54, .lastore, 55, 0, 0, 0, 0, 0, 0), (55, .aload_n 0, 56, 0, 0, 0, 0, 0, 0), (56, .getfield 14, 59, 5, 0, 0, 0, 0, 276), (59, .getfield 144, 62, 2, 11, 0, 0, 0, 120), (62, .iload_n 1, 63, 1, 0, 0, 0, 0, 0), (63, .lload 4, 65, 4, 0, 0, 0, 0, 0), (65, .lastore, 66, 0, 0, 0, 0, 0, 0), (66, .iconst 1, 67, 0, 0, 0, 1, 0, 0), (67, .ireturn, 68, 0, 0, 0, 0, 0, 0)]
theorem ok_Sh_span : cd_Sh_span.all (jm_okE "ShareSolve" prog_1_method_11_code 6 1 21 false false (some (.boolean))) = true := by decide +kernel
def cd_Sh_over : List jm_e := [(0, .iconst 0, 1, 0, 0, 0, 0, 0, 0), (1, .istore_n 2, 2, 2, 0, 0, 0, 0, 0), (2, .iconst 0, 3, 0, 0, 0, 0, 0, 0), (3, .istore_n 3, 4, 3, 0, 0, 0, 0, 0), (4, .iload_n 3, 5, 3, 0, 0, 0, 0, 0), (5, .iconst 3, 6, 0, 0, 0, 3, 0, 0), (6, .if_icmp .ge 27, 9, 33, 0, 0, 0, 0, 0), (9, .aload_n 0, 10, 0, 0, 0, 0, 0, 0), (10, .iload_n 3, 11, 3, 0, 0, 0, 0, 0), (11, .invokevirtual 147, 14, 83, 2, 5, 0, 0, 597), (14, .ifCond .eq 13, 17, 27, 0, 0, 0, 0, 0), (17, .iload_n 2, 18, 2, 0, 0, 0, 0, 0), (18, .iload_n 1, 19, 1, 0, 0, 0, 0, 0), (19, .if_icmp .ne 5, 22, 24, 0, 0, 0, 0, 0), (22, .iload_n 3, 23, 3, 0, 0, 0, 0, 0), (23, .ireturn, 24, 0, 0, 0, 0, 0, 0), (24, .iinc 2 1, 27, 2, 0, 0, 1, 0, 0), (27, .iinc 3 1, 30, 3, 0, 0, 1, 0, 0), (30, .goto (-26), 33, 4, 0, 0, 0, 0, 0), (33, .iconst (-1), 34, 0, 0, 0, (-1), 0, 0), (34, .ireturn, 35, 0, 0, 0, 0, 0, 0)]
theorem ok_Sh_over : cd_Sh_over.all (jm_okE "ShareSolve" prog_1_method_12_code 4 4 111 false false (some (.int))) = true := by decide +kernel
def cd_Sh_isOutsideSpan : List jm_e := [(0, .aload_n 0, 1, 0, 0, 0, 0, 0, 0), (1, .getfield 30, 4, 5, 2, 0, 0, 0, 278), (4, .iload_n 1, 5, 1, 0, 0, 0, 0, 0), (5, .invokevirtual 128, 8, 45, 2, 3, 0, 0, 583), (8, .ifCond .eq 15, 11, 23, 0, 0, 0, 0, 0), (11, .aload_n 0, 12, 0, 0, 0, 0, 0, 0), (12, .getfield 14, 15, 5, 0, 0, 0, 0, 276), (15, .getfield 137, 18, 2, 9, 0, 0, 0, 116), (18, .iload_n 1, 19, 1, 0, 0, 0, 0, 0), (19, .baload, 20, 0, 0, 0, 0, 0, 0), (20, .ifCond .ne 5, 23, 25, 0, 0, 0, 0, 0), (23, .iconst 0, 24, 0, 0, 0, 0, 0, 0), (24, .ireturn, 25, 0, 0, 0, 0, 0, 0), (25, .aload_n 0, 26, 0, 0, 0, 0, 0, 0), (26, .getfield 30, 29, 5, 2, 0, 0, 0, 278), (29, .iload_n 1, 30, 1, 0, 0, 0, 0, 0), (30, .aload_n 0, 31, 0, 0, 0, 0, 0, 0), (31, .getfield 14, 34, 5, 0, 0, 0, 0, 276), (34, .getfield 141, 37, 2, 10, 0, 0, 0, 118), (37, .iload_n 1, 38, 1, 0, 0, 0, 0, 0), (38, .laload, 39, 0, 0, 0, 0, 0, 0), (39, .invokevirtual 208, 42, 46, 3, 3, 0, 0, 601), (42, .ifCond .lt 23, 45, 65, 0, 0, 0, 0, 0), (45, .aload_n 0, 46, 0, 0, 0, 0, 0, 0), (46, .getfield 30, 49, 5, 2, 0, 0, 0, 278), (49, .iload_n 1, 50, 1, 0, 0, 0, 0, 0), (50, .aload_n 0, 51, 0, 0, 0, 0, 0, 0), (51, .getfield 14, 54, 5, 0, 0, 0, 0, 276), (54, .getfield 144, 57, 2, 11, 0, 0, 0, 120), (57, .iload_n 1, 58, 1, 0, 0, 0, 0, 0), (58, .laload, 59, 0, 0, 0, 0, 0, 0), (59, .invokevirtual 208, 62, 46, 3, 3, 0, 0, 601), (62, .ifCond .le 7, 65, 69, 0, 0, 0, 0, 0), (65, .iconst 1, 66, 0, 0, 0, 1, 0, 0), (66, .goto 4, 69, 70, 0, 0, 0, 0, 0), (69, .iconst 0, 70, 0, 0, 0, 0, 0, 0), (70, .ireturn, 71, 0, 0, 0, 0, 0, 0)]
theorem ok_Sh_isOutsideSpan : cd_Sh_isOutsideSpan.all (jm_okE "ShareSolve" prog_1_method_25_code 2 3 90 false false (some (.boolean))) = true := by decide +kernel
def cd_Sh_slope : List jm_e := [(0, .aload_n 0, 1, 0, 0, 0, 0, 0, 0), (1, .getfield 14, 4, 5, 0, 0, 0, 0, 276), (4, .iload_n 1, 5, 1, 0, 0, 0, 0, 0), (5, .iload_n 2, 6, 2, 0, 0, 0, 0, 0), (6, .iload_n 3, 7, 3, 0, 0, 0, 0, 0), (7, .invokevirtual 150, 10, 32, 4, 2, 0, 0, 337), (10, .ifCond .eq 23, 13, 33, 0, 0, 0, 0, 0), (13, .aload_n 0, 14, 0, 0, 0, 0, 0, 0), (14, .getfield 14, 17, 5, 0, 0, 0, 0, 276), (17, .iload 4, 19, 4, 0, 0, 0, 0, 0), (19, .invokevirtual 154, 22, 31, 2, 2, 0, 0, 615), (22, .ifCond .eq 11, 25, 33, 0, 0, 0, 0, 0), (25, .iload 5, 27, 5, 0, 0, 0, 0, 0), (27, .invokestatic 105, 30, 79, 1, 0, 0, 0, 564), (30, .ifCond .ne 7, 33, 37, 0, 0, 0, 0, 0), (33, .ldc2_w 108, 36, 0, 0, 0, 0, (-1), 567), (36, .lreturn, 37, 0, 0, 0, 0, 0, 0), (37, .aload_n 0, 38, 0, 0, 0, 0, 0, 0), (38, .getfield 14, 41, 5, 0, 0, 0, 0, 276), (41, .invokevirtual 155, 44, 37, 1, 2, 0, 0, 385), (44, .iconst (-1), 45, 0, 0, 0, (-1), 0, 0), (45, .if_icmp .eq 7, 48, 52, 0, 0, 0, 0, 0), (48, .ldc2_w 108, 51, 0, 0, 0, 0, (-1), 567), (51, .lreturn, 52, 0, 0, 0, 0, 0, 0), (52, .aload_n 0, 53, 0, 0, 0, 0, 0, 0), (53, .getfield 23, 56, 5, 1, 0, 0, 0, 277), (56, .iload_n 1, 57, 1, 0, 0, 0, 0, 0), (57, .iload_n 2, 58, 2, 0, 0, 0, 0, 0), (58, .iload_n 3, 59, 3, 0, 0, 0, 0, 0), (59, .iload 4, 61, 4, 0, 0, 0, 0, 0), (61, .iload 5, 63, 5, 0, 0, 0, 0, 0), (63, .invokevirtual 158, 66, 19, 6, 1, 0, 0, 616), (66, .lreturn, 67, 0, 0, 0, 0, 0, 0)]
theorem ok_Sh_slope : cd_Sh_slope.all (jm_okE "ShareSolve" prog_1_method_13_code 6 7 192 false false (some (.long))) = true := by decide +kernel
def cd_Sh_purity : List jm_e := [(0, .aload_n 0, 1, 0, 0, 0, 0, 0, 0), (1, .getfield 30, 4, 5, 2, 0, 0, 0, 278), (4, .iload_n 1, 5, 1, 0, 0, 0, 0, 0), (5, .invokevirtual 102, 8, 44, 2, 3, 0, 0, 560), (8, .ifCond .eq 21, 11, 29, 0, 0, 0, 0, 0), (11, .aload_n 0, 12, 0, 0, 0, 0, 0, 0), (12, .getfield 14, 15, 5, 0, 0, 0, 0, 276), (15, .iload_n 2, 16, 2, 0, 0, 0, 0, 0), (16, .invokevirtual 72, 19, 33, 2, 2, 0, 0, 370), (19, .ifCond .eq 10, 22, 29, 0, 0, 0, 0, 0), (22, .iload_n 3, 23, 3, 0, 0, 0, 0, 0), (23, .invokestatic 105, 26, 79, 1, 0, 0, 0, 564), (26, .ifCond .ne 7, 29, 33, 0, 0, 0, 0, 0), (29, .ldc2_w 108, 32, 0, 0, 0, 0, (-1), 567), (32, .lreturn, 33, 0, 0, 0, 0, 0, 0), (33, .aload_n 0, 34, 0, 0, 0, 0, 0, 0), (34, .getfield 30, 37, 5, 2, 0, 0, 0, 278), (37, .iload_n 1, 38, 1, 0, 0, 0, 0, 0), (38, .aload_n 0, 39, 0, 0, 0, 0, 0, 0), (39, .getfield 14, 42, 5, 0, 0, 0, 0, 276), (42, .invokevirtual 162, 45, 47, 3, 3, 0, 0, 648), (45, .astore 4, 47, 4, 0, 0, 0, 0, 0), (47, .aload 4, 49, 4, 0, 0, 0, 0, 0), (49, .invokevirtual 166, 52, 51, 1, 4, 0, 0, 652), (52, .ifCond .eq 7, 55, 59, 0, 0, 0, 0, 0), (55, .ldc2_w 108, 58, 0, 0, 0, 0, (-1), 567), (58, .lreturn, 59, 0, 0, 0, 0, 0, 0), (59, .aload_n 0, 60, 0, 0, 0, 0, 0, 0), (60, .getfield 23, 63, 5, 1, 0, 0, 0, 277), (63, .getfield 114, 66, 1, 0, 0, 0, 0, 198), (66, .aload_n 0, 67, 0, 0, 0, 0, 0, 0), (67, .getfield 30, 70, 5, 2, 0, 0, 0, 278), (70, .getfield 110, 73, 3, 4, 0, 0, 0, 257), (73, .aload_n 0, 74, 0, 0, 0, 0, 0, 0), (74, .getfield 14, 77, 5, 0, 0, 0, 0, 276), (77, .iload_n 1, 78, 1, 0, 0, 0, 0, 0), (78, .iload_n 2, 79, 2, 0, 0, 0, 0, 0), (79, .invokevirtual 79, 82, 26, 3, 2, 0, 0, 371), (82, .aaload, 83, 53, 0, 0, 0, 0, 0), (83, .aload 4, 85, 4, 0, 0, 0, 0, 0), (85, .iload_n 3, 86, 3, 0, 0, 0, 0, 0), (86, .invokevirtual 122, 89, 4, 4, 0, 0, 0, 568), (89, .lreturn, 90, 0, 0, 0, 0, 0, 0)]
theorem ok_Sh_purity : cd_Sh_purity.all (jm_okE "ShareSolve" prog_1_method_14_code 5 5 136 false false (some (.long))) = true := by decide +kernel
def cd_Sh_change : List jm_e := [(0, .aload_n 0, 1, 0, 0, 0, 0, 0, 0), (1, .iload_n 1, 2, 1, 0, 0, 0, 0, 0), (2, .iload_n 2, 3, 2, 0, 0, 0, 0, 0), (3, .iload_n 3, 4, 3, 0, 0, 0, 0, 0), (4, .lload 4, 6, 4, 0, 0, 0, 0, 0), (6, .lload 6, 8, 6, 0, 0, 0, 0, 0), (8, .invokevirtual 65, 11, 70, 6, 5, 0, 0, 333), (11, .ifCond .ne 5, 14, 16, 0, 0, 0, 0, 0), (14, .iconst 0, 15, 0, 0, 0, 0, 0, 0), (15, .ireturn, 16, 0, 0, 0, 0, 0, 0), (16, .aload_n 0, 17, 0, 0, 0, 0, 0, 0), (17, .invokevirtual 99, 20, 76, 1, 5, 0, 0, 381), (20, .pop, 21, 0, 0, 0, 0, 0, 0), (21, .iconst 1, 22, 0, 0, 0, 1, 0, 0), (22, .ireturn, 23, 0, 0, 0, 0, 0, 0)]
theorem ok_Sh_change : cd_Sh_change.all (jm_okE "ShareSolve" prog_1_method_15_code 8 7 183 false false (some (.boolean))) = true := by decide +kernel
def cd_Sh_find : List jm_e := [(0, .aload_n 0, 1, 0, 0, 0, 0, 0, 0), (1, .getfield 14, 4, 5, 0, 0, 0, 0, 276), (4, .iload_n 1, 5, 1, 0, 0, 0, 0, 0), (5, .iload_n 2, 6, 2, 0, 0, 0, 0, 0), (6, .iconst 0, 7, 0, 0, 0, 0, 0, 0), (7, .invokevirtual 150, 10, 32, 4, 2, 0, 0, 337), (10, .ifCond .eq 14, 13, 24, 0, 0, 0, 0, 0), (13, .aload_n 0, 14, 0, 0, 0, 0, 0, 0), (14, .getfield 14, 17, 5, 0, 0, 0, 0, 276), (17, .getfield 46, 20, 2, 2, 0, 0, 0, 98), (20, .iconst 1, 21, 0, 0, 0, 1, 0, 0), (21, .if_icmp .ge 5, 24, 26, 0, 0, 0, 0, 0), (24, .iconst (-1), 25, 0, 0, 0, (-1), 0, 0), (25, .ireturn, 26, 0, 0, 0, 0, 0, 0), (26, .lload_n 3, 27, 3, 0, 0, 0, 0, 0), (27, .lconst 0, 28, 0, 0, 0, 0, 0, 0), (28, .lcmp, 29, 0, 0, 0, 0, 0, 0), (29, .ifCond .lt 11, 32, 40, 0, 0, 0, 0, 0), (32, .lload_n 3, 33, 3, 0, 0, 0, 0, 0), (33, .ldc2_w 135, 36, 0, 0, 0, 0, 1000000000, 592), (36, .lcmp, 37, 0, 0, 0, 0, 0, 0), (37, .ifCond .le 5, 40, 42, 0, 0, 0, 0, 0), (40, .iconst (-1), 41, 0, 0, 0, (-1), 0, 0), (41, .ireturn, 42, 0, 0, 0, 0, 0, 0), (42, .aload_n 0, 43, 0, 0, 0, 0, 0, 0), (43, .getfield 14, 46, 5, 0, 0, 0, 0, 276), (46, .iload_n 1, 47, 1, 0, 0, 0, 0, 0), (47, .iload_n 2, 48, 2, 0, 0, 0, 0, 0), (48, .iconst 0, 49, 0, 0, 0, 0, 0, 0), (49, .invokevirtual 172, 52, 41, 4, 2, 0, 0, 661), (52, .istore 5, 54, 5, 0, 0, 0, 0, 0), (54, .iconst 0, 55, 0, 0, 0, 0, 0, 0), (55, .istore 6, 57, 6, 0, 0, 0, 0, 0), (57, .iload 6, 59, 6, 0, 0, 0, 0, 0), (59, .bipush 12, 61, 0, 0, 0, 12, 0, 0), (61, .if_icmp .gt 48, 64, 109, 0, 0, 0, 0, 0), (64, .iload 6, 66, 6, 0, 0, 0, 0, 0), (66, .sipush 2310, 69, 0, 0, 0, 2310, 0, 0), (69, .imul, 70, 0, 0, 0, 0, 0, 0), (70, .istore 7, 72, 7, 0, 0, 0, 0, 0), (72, .aload_n 0, 73, 0, 0, 0, 0, 0, 0), (73, .getfield 14, 76, 5, 0, 0, 0, 0, 276), (76, .iload_n 1, 77, 1, 0, 0, 0, 0, 0), (77, .iload_n 2, 78, 2, 0, 0, 0, 0, 0), (78, .iconst 0, 79, 0, 0, 0, 0, 0, 0), (79, .iload 7, 81, 7, 0, 0, 0, 0, 0), (81, .invokevirtual 176, 84, 35, 5, 2, 0, 0, 358), (84, .ifCond .eq 19, 87, 103, 0, 0, 0, 0, 0), (87, .aload_n 0, 88, 0, 0, 0, 0, 0, 0), (88, .iload_n 2, 89, 2, 0, 0, 0, 0, 0), (89, .lload_n 3, 90, 3, 0, 0, 0, 0, 0), (90, .invokevirtual 180, 93, 88, 3, 5, 0, 0, 662), (93, .ifCond .eq 10, 96, 103, 0, 0, 0, 0, 0), (96, .aload_n 0, 97, 0, 0, 0, 0, 0, 0), (97, .invokevirtual 184, 100, 77, 1, 5, 0, 0, 534), (100, .iload 6, 102, 6, 0, 0, 0, 0, 0), (102, .ireturn, 103, 0, 0, 0, 0, 0, 0), (103, .iinc 6 1, 106, 6, 0, 0, 1, 0, 0), (106, .goto (-49), 109, 57, 0, 0, 0, 0, 0), (109, .aload_n 0, 110, 0, 0, 0, 0, 0, 0), (110, .getfield 14, 113, 5, 0, 0, 0, 0, 276), (113, .iload_n 1, 114, 1, 0, 0, 0, 0, 0), (114, .iload_n 2, 115, 2, 0, 0, 0, 0, 0), (115, .iconst 0, 116, 0, 0, 0, 0, 0, 0), (116, .iload 5, 118, 5, 0, 0, 0, 0, 0), (118, .invokevirtual 176, 121, 35, 5, 2, 0, 0, 358), (121, .pop, 122, 0, 0, 0, 0, 0, 0), (122, .iconst (-1), 123, 0, 0, 0, (-1), 0, 0), (123, .ireturn, 124, 0, 0, 0, 0, 0, 0)]
theorem ok_Sh_find : cd_Sh_find.all (jm_okE "ShareSolve" prog_1_method_16_code 8 7 185 false false (some (.int))) = true := by decide +kernel
def cd_Sh_bringsToPortZero : List jm_e := [(0, .aload_n 0, 1, 0, 0, 0, 0, 0, 0), (1, .getfield 14, 4, 5, 0, 0, 0, 0, 276), (4, .invokevirtual 155, 7, 37, 1, 2, 0, 0, 385), (7, .iconst (-1), 8, 0, 0, 0, (-1), 0, 0), (8, .if_icmp .eq 5, 11, 13, 0, 0, 0, 0, 0), (11, .iconst 0, 12, 0, 0, 0, 0, 0, 0), (12, .ireturn, 13, 0, 0, 0, 0, 0, 0), (13, .aload_n 0, 14, 0, 0, 0, 0, 0, 0), (14, .getfield 23, 17, 5, 1, 0, 0, 0, 277), (17, .invokevirtual 194, 20, 7, 1, 1, 0, 0, 405), (20, .aload_n 0, 21, 0, 0, 0, 0, 0, 0), (21, .getfield 23, 24, 5, 1, 0, 0, 0, 277), (24, .iconst 1, 25, 0, 0, 0, 1, 0, 0), (25, .invokevirtual 197, 28, 14, 2, 1, 0, 0, 446), (28, .aload_n 0, 29, 0, 0, 0, 0, 0, 0), (29, .getfield 23, 32, 5, 1, 0, 0, 0, 277), (32, .iconst 0, 33, 0, 0, 0, 0, 0, 0), (33, .iload_n 1, 34, 1, 0, 0, 0, 0, 0), (34, .lload_n 2, 35, 2, 0, 0, 0, 0, 0), (35, .invokevirtual 204, 38, 23, 4, 1, 0, 0, 666), (38, .ireturn, 39, 0, 0, 0, 0, 0, 0)]
theorem ok_Sh_bringsToPortZero : cd_Sh_bringsToPortZero.all (jm_okE "ShareSolve" prog_1_method_24_code 4 6 162 false false (some (.boolean))) = true := by decide +kernel
def cd_Sh_kept : List jm_e := [(0, .aload_n 0, 1, 0, 0, 0, 0, 0, 0), (1, .getfield 38, 4, 5, 3, 0, 0, 0, 279), (4, .ireturn, 5, 0, 0, 0, 0, 0, 0)]
theorem ok_Sh_kept : cd_Sh_kept.all (jm_okE "ShareSolve" prog_1_method_17_code 1 0 0 false false (some (.boolean))) = true := by decide +kernel
end
section
/-! the code of the reference, 0 -/
def cd_Mo_init : List jm_e := [(0, .aload_n 0, 1, 0, 0, 0, 0, 0, 0), (1, .invokespecial 1, 4, 999, 1, 0, 0, 0, 683), (4, .aload_n 0, 5, 0, 0, 0, 0, 0, 0), (5, .iconst 2, 6, 0, 0, 0, 2, 0, 0), (6, .newarray .int, 8, 50, 0, 0, 0, 0, 0), (8, .putfield 7, 11, 6, 1, 0, 0, 0, 693), (11, .aload_n 0, 12, 0, 0, 0, 0, 0, 0), (12, .iconst 2, 13, 0, 0, 0, 2, 0, 0), (13, .newarray .int, 15, 50, 0, 0, 0, 0, 0), (15, .putfield 13, 18, 6, 2, 0, 0, 0, 694), (18, .aload_n 0, 19, 0, 0, 0, 0, 0, 0), (19, .bipush 6, 21, 0, 0, 0, 6, 0, 0), (21, .newarray .int, 23, 50, 0, 0, 0, 0, 0), (23, .putfield 16, 26, 6, 3, 0, 0, 0, 695), (26, .aload_n 0, 27, 0, 0, 0, 0, 0, 0), (27, .bipush 18, 29, 0, 0, 0, 18, 0, 0), (29, .newarray .int, 31, 50, 0, 0, 0, 0, 0), (31, .putfield 19, 34, 6, 4, 0, 0, 0, 696), (34, .aload_n 0, 35, 0, 0, 0, 0, 0, 0), (35, .bipush 36, 37, 0, 0, 0, 36, 0, 0), (37, .newarray .int, 39, 50, 0, 0, 0, 0, 0), (39, .putfield 22, 42, 6, 5, 0, 0, 0, 697), (42, .aload_n 0, 43, 0, 0, 0, 0, 0, 0), (43, .bipush 36, 45, 0, 0, 0, 36, 0, 0), (45, .newarray .int, 47, 50, 0, 0, 0, 0, 0), (47, .putfield 25, 50, 6, 6, 0, 0, 0, 698), (50, .aload_n 0, 51, 0, 0, 0, 0, 0, 0), (51, .bipush 18, 53, 0, 0, 0, 18, 0, 0), (53, .newarray .int, 55, 50, 0, 0, 0, 0, 0), (55, .putfield 28, 58, 6, 7, 0, 0, 0, 699), (58, .aload_n 0, 59, 0, 0, 0, 0, 0, 0), (59, .bipush 18, 61, 0, 0, 0, 18, 0, 0), (61, .newarray .int, 63, 50, 0, 0, 0, 0, 0), (63, .putfield 31, 66, 6, 8, 0, 0, 0, 700), (66, .aload_n 0, 67, 0, 0, 0, 0, 0, 0), (67, .bipush 18, 69, 0, 0, 0, 18, 0, 0), (69, .newarray .int, 71, 50, 0, 0, 0, 0, 0), (71, .putfield 34, 74, 6, 9, 0, 0, 0, 701), (74, .aload_n 0, 75, 0, 0, 0, 0, 0, 0), (75, .bipush 18, 77, 0, 0, 0, 18, 0, 0), (77, .newarray .int, 79, 50, 0, 0, 0, 0, 0), (79, .putfield 37, 82, 6, 10, 0, 0, 0, 702), (82, .aload_n 0, 83, 0, 0, 0, 0, 0, 0), (83, .iconst 3, 84, 0, 0, 0, 3, 0, 0), (84, .newarray .boolean, 86, 52, 0, 0, 0, 0, 0), (86, .putfield 40, 89, 6, 11, 0, 0, 0, 703), (89, .aload_n 0, 90, 0, 0, 0, 0, 0, 0), (90, .iconst 3, 91, 0, 0, 0, 3, 0, 0), (91, .newarray .long, 93, 51, 0, 0, 0, 0, 0), (93, .putfield 44, 96, 6, 12, 0, 0, 0, 704), (96, .aload_n 0, 97, 0, 0, 0, 0, 0, 0), (97, .iconst 3, 98, 0, 0, 0, 3, 0, 0), (98, .newarray .long, 100, 51, 0, 0, 0, 0, 0), (100, .putfield 48, 103, 6, 13, 0, 0, 0, 705), (103, .aload_n 0, 104, 0, 0, 0, 0, 0, 0), (104, .bipush 8, 106, 0, 0, 0, 8, 0, 0), (106, .newarray .long, 108, 51, 0, 0, 0, 0, 0), (108, .putfield 51, 111, 6, 16, 0, 0, 0, 708), (111, .aload_n 0, 112, 0, 0, 0, 0, 0, 0), (112, .bipush 9, 114, 0, 0, 0, 9, 0, 0), (114, .newarray .long, 116, 51, 0, 0, 0, 0, 0), (116, .putfield 54, 119, 6, 17, 0, 0, 0, 709), (119, .aload_n 0, 120, 0, 0, 0, 0, 0, 0), (120, .bipush 81, 122, 0, 0, 0, 81, 0, 0), (122, .newarray .long, 124, 51, 0, 0, 0, 0, 0), (124, .putfield 57, 127, 6, 18, 0, 0, 0, 710), (127, .aload_n 0, 128, 0, 0, 0, 0, 0, 0), (128, .bipush 81, 130, 0, 0, 0, 81, 0, 0), (130, .newarray .long, 132, 51, 0, 0, 0, 0, 0), (132, .putfield 60, 135, 6, 19, 0, 0, 0, 711), (135, .aload_n 0, 136, 0, 0, 0, 0, 0, 0), (136, .bipush 81, 138, 0, 0, 0, 81, 0, 0), (138, .newarray .long, 140, 51, 0, 0, 0, 0, 0), (140, .putfield 63, 143, 6, 20, 0, 0, 0, 712), (143, .aload_n 0, 144, 0, 0, 0, 0, 0, 0), (144, .bipush 81, 146, 0, 0, 0, 81, 0, 0), (146, .newarray .long, 148, 51, 0, 0, 0, 0, 0), (148, .putfield 66, 151, 6, 21, 0, 0, 0, 713), (151, .aload_n 0, 152, 0, 0, 0, 0, 0, 0), (152, .bipush 81, 154, 0, 0, 0, 81, 0, 0), (154, .newarray .long, 156, 51, 0, 0, 0, 0, 0), (156, .putfield 69, 159, 6, 22, 0, 0, 0, 714), (159, .aload_n 0, 160, 0, 0, 0, 0, 0, 0), (160, .sipush 648, 163, 0, 0, 0, 648, 0, 0), (163, .newarray .long, 165, 51, 0, 0, 0, 0, 0), (165, .putfield 72, 168, 6, 23, 0, 0, 0, 715), (168, .aload_n 0, 169, 0, 0, 0, 0, 0, 0), (169, .bipush 8, 171, 0, 0, 0, 8, 0, 0), (171, .newarray .long, 173, 51, 0, 0, 0, 0, 0), (173, .putfield 75, 176, 6, 24, 0, 0, 0, 716), (176, .aload_n 0, 177, 0, 0, 0, 0, 0, 0), (177, .sipush 144, 180, 0, 0, 0, 144, 0, 0), (180, .newarray .long, 182, 51, 0, 0, 0, 0, 0), (182, .putfield 78, 185, 6, 25, 0, 0, 0, 717), (185, .aload_n 0, 186, 0, 0, 0, 0, 0, 0), (186, .bipush 8, 188, 0, 0, 0, 8, 0, 0), (188, .newarray .long, 190, 51, 0, 0, 0, 0, 0), (190, .putfield 81, 193, 6, 26, 0, 0, 0, 718), (193, .aload_n 0, 194, 0, 0, 0, 0, 0, 0), (194, .bipush 8, 196, 0, 0, 0, 8, 0, 0), (196, .newarray .long, 198, 51, 0, 0, 0, 0, 0), (198, .putfield 84, 201, 6, 27, 0, 0, 0, 719), (201, .aload_n 0, 202, 0, 0, 0, 0, 0, 0), (202, .bipush 9, 204, 0, 0, 0, 9, 0, 0), (204, .newarray .long, 206, 51, 0, 0, 0, 0, 0), (206, .putfield 87, 209, 6, 30, 0, 0, 0, 722), (209, .aload_n 0, 210, 0, 0, 0, 0, 0, 0), (210, .iconst (-1), 211, 0, 0, 0, (-1), 0, 0), (211, .putfield 90, 214, 6, 31, 0, 0, 0, 723), (214, .aload_n 0, 215, 0, 0, 0, 0, 0, 0), (215, .iconst 2, 216, 0, 0, 0, 2, 0, 0), (216, .newarray .int, 218, 50, 0, 0, 0, 0, 0), (218, .putfield 94, 221, 6, 33, 0, 0, 0, 725), (221, .aload_n 0, 222, 0, 0, 0, 0, 0, 0), (222, .iload_n 1, 223, 1, 0, 0, 0, 0, 0), (223, .iconst 1, 224, 0, 0, 0, 1, 0, 0), (224, .if_icmp .lt 12, 227, 236, 0, 0, 0, 0, 0), (227, .iload_n 1, 228, 1, 0, 0, 0, 0, 0), (228, .iconst 3, 229, 0, 0, 0, 3, 0, 0), (229, .if_icmp .gt 7, 232, 236, 0, 0, 0, 0, 0), (232, .iload_n 1, 233, 1, 0, 0, 0, 0, 0), (233, .goto 4, 236, 237, 0, 0, 0, 0, 0), (236, .iconst 1, 237, 0, 0, 0, 1, 0, 0), (237, .putfield 97, 240, 6, 0, 0, 0, 0, 692), (240, .iconst 0, 241, 0, 0, 0, 0, 0, 0), (241, .istore_n 2, 242, 2, 0, 0, 0, 0, 0), (242, .iload_n 2, 243, 2, 0, 0, 0, 0, 0), (243, .bipush 36, 245, 0, 0, 0, 36, 0, 0), (245, .if_icmp .ge 16, 248, 261, 0, 0, 0, 0, 0), (248, .aload_n 0, 249, 0, 0, 0, 0, 0, 0), (249, .getfield 25, 252, 6, 6, 0, 0, 0, 698), (252, .iload_n 2, 253, 2, 0, 0, 0, 0, 0), (253, .iconst 1, 254, 0, 0, 0, 1, 0, 0), (254, .iastore, 255, 0, 0, 0, 0, 0, 0), (255, .iinc 2 1, 258, 2, 0, 0, 1, 0, 0), (258, .goto (-16), 261, 242, 0, 0, 0, 0, 0), (261, .iconst 0, 262, 0, 0, 0, 0, 0, 0), (262, .istore_n 2, 263, 2, 0, 0, 0, 0, 0), (263, .iload_n 2, 264, 2, 0, 0, 0, 0, 0), (264, .bipush 18, 266, 0, 0, 0, 18, 0, 0), (266, .if_icmp .ge 23, 269, 289, 0, 0, 0, 0, 0), (269, .aload_n 0, 270, 0, 0, 0, 0, 0, 0), (270, .getfield 34, 273, 6, 9, 0, 0, 0, 701), (273, .iload_n 2, 274, 2, 0, 0, 0, 0, 0), (274, .iconst 1, 275, 0, 0, 0, 1, 0, 0), (275, .iastore, 276, 0, 0, 0, 0, 0, 0), (276, .aload_n 0, 277, 0, 0, 0, 0, 0, 0), (277, .getfield 19, 280, 6, 4, 0, 0, 0, 696), (280, .iload_n 2, 281, 2, 0, 0, 0, 0, 0), (281, .iconst (-1), 282, 0, 0, 0, (-1), 0, 0), (282, .iastore, 283, 0, 0, 0, 0, 0, 0), (283, .iinc 2 1, 286, 2, 0, 0, 1, 0, 0), (286, .goto (-23), 289, 263, 0, 0, 0, 0, 0), (289, .aload_n 0, 290, 0, 0, 0, 0, 0, 0), (290, .getfield 51, 293, 6, 16, 0, 0, 0, 708), (293, .iconst 0, 294, 0, 0, 0, 0, 0, 0), (294, .ldc2_w 100, 297, 0, 0, 0, 0, 2147483647, 684), (297, .lastore, 298, 0, 0, 0, 0, 0, 0), (298, .aload_n 0, 299, 0, 0, 0, 0, 0, 0), (299, .getfield 51, 302, 6, 16, 0, 0, 0, 708), (302, .iconst 1, 303, 0, 0, 0, 1, 0, 0), (303, .ldc2_w 102, 306, 0, 0, 0, 0, 2147483629, 685), (306, .lastore, 307, 0, 0, 0, 0, 0, 0), (307, .aload_n 0, 308, 0, 0, 0, 0, 0, 0), (308, .getfield 51, 311, 6, 16, 0, 0, 0, 708), (311, .iconst 2, 312, 0, 0, 0, 2, 0, 0), (312, .ldc2_w 104, 315, 0, 0, 0, 0, 2147483587, 686), (315, .lastore, 316, 0, 0, 0, 0, 0, 0), (316, .aload_n 0, 317, 0, 0, 0, 0, 0, 0), (317, .getfield 51, 320, 6, 16, 0, 0, 0, 708), (320, .iconst 3, 321, 0, 0, 0, 3, 0, 0), (321, .ldc2_w 106, 324, 0, 0, 0, 0, 2147483579, 687), (324, .lastore, 325, 0, 0, 0, 0, 0, 0), (325, .aload_n 0, 326, 0, 0, 0, 0, 0, 0), (326, .getfield 51, 329, 6, 16, 0, 0, 0, 708), (329, .iconst 4, 330, 0, 0, 0, 4, 0, 0), (330, .ldc2_w 108, 333, 0, 0, 0, 0, 2147483563, 688), (333, .lastore, 334, 0, 0, 0, 0, 0, 0), (334, .aload_n 0, 335, 0, 0, 0, 0, 0, 0), (335, .getfield 51, 338, 6, 16, 0, 0, 0, 708), (338, .iconst 5, 339, 0, 0, 0, 5, 0, 0), (339, .ldc2_w 110, 342, 0, 0, 0, 0, 2147483549, 689), (342, .lastore, 343, 0, 0, 0, 0, 0, 0), (343, .aload_n 0, 344, 0, 0, 0, 0, 0, 0), (344, .getfield 51, 347, 6, 16, 0, 0, 0, 708), (347, .bipush 6, 349, 0, 0, 0, 6, 0, 0), (349, .ldc2_w 112, 352, 0, 0, 0, 0, 2147483543, 690), (352, .lastore, 353, 0, 0, 0, 0, 0, 0), (353, .aload_n 0, 354, 0, 0, 0, 0, 0, 0), (354, .getfield 51, 357, 6, 16, 0, 0, 0, 708), (357, .bipush 7, 359, 0, 0, 0, 7, 0, 0), (359, .ldc2_w 114, 362, 0, 0, 0, 0, 2147483497, 691), (362, .lastore, 363, 0, 0, 0, 0, 0, 0), (363, .return_, 364, 0, 0, 0, 0, 0, 0)]
theorem ok_Mo_init : cd_Mo_init.all (jm_okE "ShareSolveModel" prog_8_method_1_code 3 1 20 false true none) = true := by decide +kernel
def cd_Mo_machine : List jm_e := [(0, .aload_n 0, 1, 0, 0, 0, 0, 0, 0), (1, .getfield 7, 4, 6, 1, 0, 0, 0, 693), (4, .iconst 0, 5, 0, 0, 0, 0, 0, 0), (5, .iaload, 6, 0, 0, 0, 0, 0, 0), (6, .iconst 3, 7, 0, 0, 0, 3, 0, 0), (7, .if_icmp .eq 13, 10, 20, 0, 0, 0, 0, 0), (10, .iload_n 1, 11, 1, 0, 0, 0, 0, 0), (11, .iconst 1, 12, 0, 0, 0, 1, 0, 0), (12, .if_icmp .lt 8, 15, 20, 0, 0, 0, 0, 0), (15, .iload_n 1, 16, 1, 0, 0, 0, 0, 0), (16, .iconst 3, 17, 0, 0, 0, 3, 0, 0), (17, .if_icmp .le 5, 20, 22, 0, 0, 0, 0, 0), (20, .iconst (-1), 21, 0, 0, 0, (-1), 0, 0), (21, .ireturn, 22, 0, 0, 0, 0, 0, 0), (22, .aload_n 0, 23, 0, 0, 0, 0, 0, 0), (23, .getfield 16, 26, 6, 3, 0, 0, 0, 695), (26, .aload_n 0, 27, 0, 0, 0, 0, 0, 0), (27, .getfield 7, 30, 6, 1, 0, 0, 0, 693), (30, .iconst 0, 31, 0, 0, 0, 0, 0, 0), (31, .iaload, 32, 0, 0, 0, 0, 0, 0), (32, .iload_n 1, 33, 1, 0, 0, 0, 0, 0), (33, .iastore, 34, 0, 0, 0, 0, 0, 0), (34, .aload_n 0, 35, 0, 0, 0, 0, 0, 0), (35, .getfield 7, 38, 6, 1, 0, 0, 0, 693), (38, .iconst 0, 39, 0, 0, 0, 0, 0, 0), (39, .dup2, 40, 0, 0, 0, 0, 0, 0), (40, .iaload, 41, 0, 0, 0, 0, 0, 0), (41, .iconst 1, 42, 0, 0, 0, 1, 0, 0), (42, .iadd, 43, 0, 0, 0, 0, 0, 0), (43, .iastore, 44, 0, 0, 0, 0, 0, 0), (44, .aload_n 0, 45, 0, 0, 0, 0, 0, 0), (45, .invokevirtual 122, 48, 92, 1, 6, 0, 0, 799), (48, .aload_n 0, 49, 0, 0, 0, 0, 0, 0), (49, .getfield 7, 52, 6, 1, 0, 0, 0, 693), (52, .iconst 0, 53, 0, 0, 0, 0, 0, 0), (53, .iaload, 54, 0, 0, 0, 0, 0, 0), (54, .iconst 1, 55, 0, 0, 0, 1, 0, 0), (55, .isub, 56, 0, 0, 0, 0, 0, 0), (56, .ireturn, 57, 0, 0, 0, 0, 0, 0)]
theorem ok_Mo_machine : cd_Mo_machine.all (jm_okE "ShareSolveModel" prog_8_method_7_code 2 1 20 false false (some (.int))) = true := by decide +kernel
def cd_Mo_touch : List jm_e := [(0, .aload_n 0, 1, 0, 0, 0, 0, 0, 0), (1, .iconst 0, 2, 0, 0, 0, 0, 0, 0), (2, .putfield 118, 5, 6, 15, 0, 0, 0, 707), (5, .aload_n 0, 6, 0, 0, 0, 0, 0, 0), (6, .getfield 94, 9, 6, 33, 0, 0, 0, 725), (9, .iconst 0, 10, 0, 0, 0, 0, 0, 0), (10, .dup2, 11, 0, 0, 0, 0, 0, 0), (11, .iaload, 12, 0, 0, 0, 0, 0, 0), (12, .iconst 1, 13, 0, 0, 0, 1, 0, 0), (13, .iadd, 14, 0, 0, 0, 0, 0, 0), (14, .iastore, 15, 0, 0, 0, 0, 0, 0), (15, .return_, 16, 0, 0, 0, 0, 0, 0)]
theorem ok_Mo_touch : cd_Mo_touch.all (jm_okE "ShareSolveModel" prog_8_method_6_code 1 0 0 false false none) = true := by decide +kernel
def cd_Mo_port : List jm_e := [(0, .aload_n 0, 1, 0, 0, 0, 0, 0, 0), (1, .getfield 13, 4, 6, 2, 0, 0, 0, 694), (4, .iconst 0, 5, 0, 0, 0, 0, 0, 0), (5, .iaload, 6, 0, 0, 0, 0, 0, 0), (6, .iconst 3, 7, 0, 0, 0, 3, 0, 0), (7, .if_icmp .ne 5, 10, 12, 0, 0, 0, 0, 0), (10, .iconst (-1), 11, 0, 0, 0, (-1), 0, 0), (11, .ireturn, 12, 0, 0, 0, 0, 0, 0), (12, .aload_n 0, 13, 0, 0, 0, 0, 0, 0), (13, .getfield 13, 16, 6, 2, 0, 0, 0, 694), (16, .iconst 0, 17, 0, 0, 0, 0, 0, 0), (17, .dup2, 18, 0, 0, 0, 0, 0, 0), (18, .iaload, 19, 0, 0, 0, 0, 0, 0), (19, .iconst 1, 20, 0, 0, 0, 1, 0, 0), (20, .iadd, 21, 0, 0, 0, 0, 0, 0), (21, .iastore, 22, 0, 0, 0, 0, 0, 0), (22, .aload_n 0, 23, 0, 0, 0, 0, 0, 0), (23, .invokevirtual 122, 26, 92, 1, 6, 0, 0, 799), (26, .aload_n 0, 27, 0, 0, 0, 0, 0, 0), (27, .getfield 13, 30, 6, 2, 0, 0, 0, 694), (30, .iconst 0, 31, 0, 0, 0, 0, 0, 0), (31, .iaload, 32, 0, 0, 0, 0, 0, 0), (32, .iconst 1, 33, 0, 0, 0, 1, 0, 0), (33, .isub, 34, 0, 0, 0, 0, 0, 0), (34, .ireturn, 35, 0, 0, 0, 0, 0, 0)]
theorem ok_Mo_port : cd_Mo_port.all (jm_okE "ShareSolveModel" prog_8_method_8_code 1 1 20 false false (some (.int))) = true := by decide +kernel
def cd_Mo_joinOut : List jm_e := [(0, .iload_n 3, 1, 3, 0, 0, 0, 0, 0), (1, .iconst (-1), 2, 0, 0, 0, (-1), 0, 0), (2, .if_icmp .eq 36, 5, 38, 0, 0, 0, 0, 0), (5, .iload_n 3, 6, 3, 0, 0, 0, 0, 0), (6, .ifCond .lt 13, 9, 19, 0, 0, 0, 0, 0), (9, .iload_n 3, 10, 3, 0, 0, 0, 0, 0), (10, .aload_n 0, 11, 0, 0, 0, 0, 0, 0), (11, .getfield 7, 14, 6, 1, 0, 0, 0, 693), (14, .iconst 0, 15, 0, 0, 0, 0, 0, 0), (15, .iaload, 16, 0, 0, 0, 0, 0, 0), (16, .if_icmp .lt 22, 19, 38, 0, 0, 0, 0, 0), (19, .iload_n 3, 20, 3, 0, 0, 0, 0, 0), (20, .bipush (-2), 22, 0, 0, 0, (-2), 0, 0), (22, .if_icmp .gt 20, 25, 42, 0, 0, 0, 0, 0), (25, .iload_n 3, 26, 3, 0, 0, 0, 0, 0), (26, .bipush (-2), 28, 0, 0, 0, (-2), 0, 0), (28, .aload_n 0, 29, 0, 0, 0, 0, 0, 0), (29, .getfield 13, 32, 6, 2, 0, 0, 0, 694), (32, .iconst 0, 33, 0, 0, 0, 0, 0, 0), (33, .iaload, 34, 0, 0, 0, 0, 0, 0), (34, .isub, 35, 0, 0, 0, 0, 0, 0), (35, .if_icmp .le 7, 38, 42, 0, 0, 0, 0, 0), (38, .iconst 1, 39, 0, 0, 0, 1, 0, 0), (39, .goto 4, 42, 43, 0, 0, 0, 0, 0), (42, .iconst 0, 43, 0, 0, 0, 0, 0, 0), (43, .istore 4, 45, 4, 0, 0, 0, 0, 0), (45, .aload_n 0, 46, 0, 0, 0, 0, 0, 0), (46, .iload_n 1, 47, 1, 0, 0, 0, 0, 0), (47, .iload_n 2, 48, 2, 0, 0, 0, 0, 0), (48, .invokevirtual 129, 51, 95, 3, 6, 0, 0, 811), (51, .ifCond .eq 8, 54, 59, 0, 0, 0, 0, 0), (54, .iload 4, 56, 4, 0, 0, 0, 0, 0), (56, .ifCond .ne 5, 59, 61, 0, 0, 0, 0, 0), (59, .iconst 0, 60, 0, 0, 0, 0, 0, 0), (60, .ireturn, 61, 0, 0, 0, 0, 0, 0), (61, .aload_n 0, 62, 0, 0, 0, 0, 0, 0), (62, .getfield 19, 65, 6, 4, 0, 0, 0, 696), (65, .iconst 3, 66, 0, 0, 0, 3, 0, 0), (66, .iload_n 1, 67, 1, 0, 0, 0, 0, 0), (67, .imul, 68, 0, 0, 0, 0, 0, 0), (68, .iload_n 2, 69, 2, 0, 0, 0, 0, 0), (69, .iadd, 70, 0, 0, 0, 0, 0, 0), (70, .iload_n 3, 71, 3, 0, 0, 0, 0, 0), (71, .iastore, 72, 0, 0, 0, 0, 0, 0), (72, .aload_n 0, 73, 0, 0, 0, 0, 0, 0), (73, .invokevirtual 122, 76, 92, 1, 6, 0, 0, 799), (76, .iconst 1, 77, 0, 0, 0, 1, 0, 0), (77, .ireturn, 78, 0, 0, 0, 0, 0, 0)]
theorem ok_Mo_joinOut : cd_Mo_joinOut.all (jm_okE "ShareSolveModel" prog_8_method_10_code 5 2 43 false false (some (.boolean))) = true := by decide +kernel
def cd_Mo_isOut : List jm_e := [(0, .aload_n 0, 1, 0, 0, 0, 0, 0, 0), (1, .iload_n 1, 2, 1, 0, 0, 0, 0, 0), (2, .invokevirtual 125, 5, 96, 2, 6, 0, 0, 815), (5, .ifCond .eq 21, 8, 26, 0, 0, 0, 0, 0), (8, .iload_n 2, 9, 2, 0, 0, 0, 0, 0), (9, .ifCond .lt 17, 12, 26, 0, 0, 0, 0, 0), (12, .iload_n 2, 13, 2, 0, 0, 0, 0, 0), (13, .aload_n 0, 14, 0, 0, 0, 0, 0, 0), (14, .getfield 16, 17, 6, 3, 0, 0, 0, 695), (17, .iload_n 1, 18, 1, 0, 0, 0, 0, 0), (18, .iaload, 19, 0, 0, 0, 0, 0, 0), (19, .if_icmp .ge 7, 22, 26, 0, 0, 0, 0, 0), (22, .iconst 1, 23, 0, 0, 0, 1, 0, 0), (23, .goto 4, 26, 27, 0, 0, 0, 0, 0), (26, .iconst 0, 27, 0, 0, 0, 0, 0, 0), (27, .ireturn, 28, 0, 0, 0, 0, 0, 0)]
theorem ok_Mo_isOut : cd_Mo_isOut.all (jm_okE "ShareSolveModel" prog_8_method_9_code 3 1 21 false false (some (.boolean))) = true := by decide +kernel
def cd_Mo_isMachine : List jm_e := [(0, .iload_n 1, 1, 1, 0, 0, 0, 0, 0), (1, .ifCond .lt 17, 4, 18, 0, 0, 0, 0, 0), (4, .iload_n 1, 5, 1, 0, 0, 0, 0, 0), (5, .aload_n 0, 6, 0, 0, 0, 0, 0, 0), (6, .getfield 7, 9, 6, 1, 0, 0, 0, 693), (9, .iconst 0, 10, 0, 0, 0, 0, 0, 0), (10, .iaload, 11, 0, 0, 0, 0, 0, 0), (11, .if_icmp .ge 7, 14, 18, 0, 0, 0, 0, 0), (14, .iconst 1, 15, 0, 0, 0, 1, 0, 0), (15, .goto 4, 18, 19, 0, 0, 0, 0, 0), (18, .iconst 0, 19, 0, 0, 0, 0, 0, 0), (19, .ireturn, 20, 0, 0, 0, 0, 0, 0)]
theorem ok_Mo_isMachine : cd_Mo_isMachine.all (jm_okE "ShareSolveModel" prog_8_method_4_code 2 0 0 false false (some (.boolean))) = true := by decide +kernel
def cd_Mo_share : List jm_e := [(0, .aload_n 0, 1, 0, 0, 0, 0, 0, 0), (1, .iload_n 1, 2, 1, 0, 0, 0, 0, 0), (2, .iload_n 2, 3, 2, 0, 0, 0, 0, 0), (3, .iload_n 3, 4, 3, 0, 0, 0, 0, 0), (4, .invokevirtual 136, 7, 98, 4, 6, 0, 0, 823), (7, .ifCond .eq 27, 10, 34, 0, 0, 0, 0, 0), (10, .lload 4, 12, 4, 0, 0, 0, 0, 0), (12, .lload 6, 14, 6, 0, 0, 0, 0, 0), (14, .invokestatic 140, 17, 100, 2, 0, 0, 0, 831), (17, .ifCond .eq 17, 20, 34, 0, 0, 0, 0, 0), (20, .aload_n 0, 21, 0, 0, 0, 0, 0, 0), (21, .iload_n 1, 22, 1, 0, 0, 0, 0, 0), (22, .iload_n 2, 23, 2, 0, 0, 0, 0, 0), (23, .iload_n 3, 24, 3, 0, 0, 0, 0, 0), (24, .lload 4, 26, 4, 0, 0, 0, 0, 0), (26, .lload 6, 28, 6, 0, 0, 0, 0, 0), (28, .invokevirtual 144, 31, 101, 6, 6, 0, 0, 835), (31, .ifCond .ne 5, 34, 36, 0, 0, 0, 0, 0), (34, .iconst 0, 35, 0, 0, 0, 0, 0, 0), (35, .ireturn, 36, 0, 0, 0, 0, 0, 0), (36, .aload_n 0, 37, 0, 0, 0, 0, 0, 0), (37, .getfield 22, 40, 6, 5, 0, 0, 0, 697), (40, .iconst 2, 41, 0, 0, 0, 2, 0, 0), (41, .iconst 3, 42, 0, 0, 0, 3, 0, 0), (42, .iload_n 1, 43, 1, 0, 0, 0, 0, 0), (43, .imul, 44, 0, 0, 0, 0, 0, 0), (44, .iload_n 2, 45, 2, 0, 0, 0, 0, 0), (45, .iadd, 46, 0, 0, 0, 0, 0, 0), (46, .imul, 47, 0, 0, 0, 0, 0, 0), (47, .iload_n 3, 48, 3, 0, 0, 0, 0, 0), (48, .iadd, 49, 0, 0, 0, 0, 0, 0), (49, .lload 4, 51, 4, 0, 0, 0, 0, 0), (51, .l2i, 52, 0, 0, 0, 0, 0, 0), (52, .iastore, 53, 0, 0, 0, 0, 0, 0), (53, .aload_n 0, 54, 0, 0, 0, 0, 0, 0), (54, .getfield 25, 57, 6, 6, 0, 0, 0, 698), (57, .iconst 2, 58, 0, 0, 0, 2, 0, 0), (58, .iconst 3, 59, 0, 0, 0, 3, 0, 0), (59, .iload_n 1, 60, 1, 0, 0, 0, 0, 0), (60, .imul, 61, 0, 0, 0, 0, 0, 0), (61, .iload_n 2, 62, 2, 0, 0, 0, 0, 0), (62, .iadd, 63, 0, 0, 0, 0, 0, 0), (63, .imul, 64, 0, 0, 0, 0, 0, 0), (64, .iload_n 3, 65, 3, 0, 0, 0, 0, 0), (65, .iadd, 66, 0, 0, 0, 0, 0, 0), (66, .lload 6, 68, 6, 0, 0, 0, 0, 0), (68, .l2i, 69, 0, 0, 0, 0, 0, 0), (69, .iastore, 70, 0, 0, 0, 0, 0, 0), (70, .aload_n 0, 71, 0, 0, 0, 0, 0, 0), (71, .invokevirtual 122, 74, 92, 1, 6, 0, 0, 799), (74, .iconst 1, 75, 0, 0, 0, 1, 0, 0), (75, .ireturn, 76, 0, 0, 0, 0, 0, 0)]
theorem ok_Mo_share : cd_Mo_share.all (jm_okE "ShareSolveModel" prog_8_method_13_code 8 3 66 false false (some (.boolean))) = true := by decide +kernel
def cd_Mo_isFree : List jm_e := [(0, .aload_n 0, 1, 0, 0, 0, 0, 0, 0), (1, .iload_n 1, 2, 1, 0, 0, 0, 0, 0), (2, .iload_n 3, 3, 3, 0, 0, 0, 0, 0), (3, .invokevirtual 129, 6, 95, 3, 6, 0, 0, 811), (6, .ifCond .eq 27, 9, 33, 0, 0, 0, 0, 0), (9, .aload_n 0, 10, 0, 0, 0, 0, 0, 0), (10, .iload_n 2, 11, 2, 0, 0, 0, 0, 0), (11, .invokevirtual 133, 14, 99, 2, 6, 0, 0, 827), (14, .ifCond .eq 19, 17, 33, 0, 0, 0, 0, 0), (17, .iload_n 3, 18, 3, 0, 0, 0, 0, 0), (18, .aload_n 0, 19, 0, 0, 0, 0, 0, 0), (19, .getfield 16, 22, 6, 3, 0, 0, 0, 695), (22, .iload_n 1, 23, 1, 0, 0, 0, 0, 0), (23, .iaload, 24, 0, 0, 0, 0, 0, 0), (24, .iconst 1, 25, 0, 0, 0, 1, 0, 0), (25, .isub, 26, 0, 0, 0, 0, 0, 0), (26, .if_icmp .ge 7, 29, 33, 0, 0, 0, 0, 0), (29, .iconst 1, 30, 0, 0, 0, 1, 0, 0), (30, .goto 4, 33, 34, 0, 0, 0, 0, 0), (33, .iconst 0, 34, 0, 0, 0, 0, 0, 0), (34, .ireturn, 35, 0, 0, 0, 0, 0, 0)]
theorem ok_Mo_isFree : cd_Mo_isFree.all (jm_okE "ShareSolveModel" prog_8_method_12_code 4 2 43 false false (some (.boolean))) = true := by decide +kernel
def cd_Mo_isKind : List jm_e := [(0, .iload_n 1, 1, 1, 0, 0, 0, 0, 0), (1, .ifCond .lt 15, 4, 16, 0, 0, 0, 0, 0), (4, .iload_n 1, 5, 1, 0, 0, 0, 0, 0), (5, .aload_n 0, 6, 0, 0, 0, 0, 0, 0), (6, .getfield 97, 9, 6, 0, 0, 0, 0, 692), (9, .if_icmp .ge 7, 12, 16, 0, 0, 0, 0, 0), (12, .iconst 1, 13, 0, 0, 0, 1, 0, 0), (13, .goto 4, 16, 17, 0, 0, 0, 0, 0), (16, .iconst 0, 17, 0, 0, 0, 0, 0, 0), (17, .ireturn, 18, 0, 0, 0, 0, 0, 0)]
theorem ok_Mo_isKind : cd_Mo_isKind.all (jm_okE "ShareSolveModel" prog_8_method_5_code 2 0 0 false false (some (.boolean))) = true := by decide +kernel
def cd_Mo_isShare : List jm_e := [(0, .lload_n 2, 1, 2, 0, 0, 0, 0, 0), (1, .lconst 1, 2, 0, 0, 0, 0, 1, 0), (2, .lcmp, 3, 0, 0, 0, 0, 0, 0), (3, .ifCond .lt 27, 6, 30, 0, 0, 0, 0, 0), (6, .lload_n 2, 7, 2, 0, 0, 0, 0, 0), (7, .ldc2_w 116, 10, 0, 0, 0, 0, 12, 834), (10, .lcmp, 11, 0, 0, 0, 0, 0, 0), (11, .ifCond .gt 19, 14, 30, 0, 0, 0, 0, 0), (14, .lload_n 0, 15, 0, 0, 0, 0, 0, 0), (15, .lconst 0, 16, 0, 0, 0, 0, 0, 0), (16, .lcmp, 17, 0, 0, 0, 0, 0, 0), (17, .ifCond .lt 13, 20, 30, 0, 0, 0, 0, 0), (20, .lload_n 0, 21, 0, 0, 0, 0, 0, 0), (21, .lload_n 2, 22, 2, 0, 0, 0, 0, 0), (22, .lcmp, 23, 0, 0, 0, 0, 0, 0), (23, .ifCond .gt 7, 26, 30, 0, 0, 0, 0, 0), (26, .iconst 1, 27, 0, 0, 0, 1, 0, 0), (27, .goto 4, 30, 31, 0, 0, 0, 0, 0), (30, .iconst 0, 31, 0, 0, 0, 0, 0, 0), (31, .ireturn, 32, 0, 0, 0, 0, 0, 0)]
theorem ok_Mo_isShare : cd_Mo_isShare.all (jm_okE "ShareSolveModel" prog_8_method_3_code 4 0 0 false false (some (.boolean))) = true := by decide +kernel
def cd_Mo_fits : List jm_e := [(0, .iconst 2, 1, 0, 0, 0, 2, 0, 0), (1, .iconst 3, 2, 0, 0, 0, 3, 0, 0), (2, .iload_n 1, 3, 1, 0, 0, 0, 0, 0), (3, .imul, 4, 0, 0, 0, 0, 0, 0), (4, .iload_n 2, 5, 2, 0, 0, 0, 0, 0), (5, .iadd, 6, 0, 0, 0, 0, 0, 0), (6, .imul, 7, 0, 0, 0, 0, 0, 0), (7, .iconst 1, 8, 0, 0, 0, 1, 0, 0), (8, .iadd, 9, 0, 0, 0, 0, 0, 0), (9, .iload_n 3, 10, 3, 0, 0, 0, 0, 0), (10, .isub, 11, 0, 0, 0, 0, 0, 0), (11, .istore 8, 13, 8, 0, 0, 0, 0, 0), (13, .aload_n 0, 14, 0, 0, 0, 0, 0, 0), (14, .getfield 25, 17, 6, 6, 0, 0, 0, 698), (17, .iload 8, 19, 8, 0, 0, 0, 0, 0), (19, .iaload, 20, 0, 0, 0, 0, 0, 0), (20, .i2l, 21, 0, 0, 0, 0, 0, 0), (21, .lstore 9, 23, 9, 0, 0, 0, 0, 0), (23, .lload 4, 25, 4, 0, 0, 0, 0, 0), (25, .lload 9, 27, 9, 0, 0, 0, 0, 0), (27, .lmul, 28, 0, 0, 0, 0, 0, 0), (28, .aload_n 0, 29, 0, 0, 0, 0, 0, 0), (29, .getfield 22, 32, 6, 5, 0, 0, 0, 697), (32, .iload 8, 34, 8, 0, 0, 0, 0, 0), (34, .iaload, 35, 0, 0, 0, 0, 0, 0), (35, .i2l, 36, 0, 0, 0, 0, 0, 0), (36, .lload 6, 38, 6, 0, 0, 0, 0, 0), (38, .lmul, 39, 0, 0, 0, 0, 0, 0), (39, .ladd, 40, 0, 0, 0, 0, 0, 0), (40, .lload 6, 42, 6, 0, 0, 0, 0, 0), (42, .lload 9, 44, 9, 0, 0, 0, 0, 0), (44, .lmul, 45, 0, 0, 0, 0, 0, 0), (45, .lcmp, 46, 0, 0, 0, 0, 0, 0), (46, .ifCond .gt 7, 49, 53, 0, 0, 0, 0, 0), (49, .iconst 1, 50, 0, 0, 0, 1, 0, 0), (50, .goto 4, 53, 54, 0, 0, 0, 0, 0), (53, .iconst 0, 54, 0, 0, 0, 0, 0, 0), (54, .ireturn, 55, 0, 0, 0, 0, 0, 0)]
theorem ok_Mo_fits : cd_Mo_fits.all (jm_okE "ShareSolveModel" prog_8_method_11_code 11 0 0 false false (some (.boolean))) = true := by decide +kernel
def cd_Mo_crush : List jm_e := [(0, .aload_n 0, 1, 0, 0, 0, 0, 0, 0), (1, .iload_n 1, 2, 1, 0, 0, 0, 0, 0), (2, .invokevirtual 125, 5, 96, 2, 6, 0, 0, 815), (5, .ifCond .eq 34, 8, 39, 0, 0, 0, 0, 0), (8, .aload_n 0, 9, 0, 0, 0, 0, 0, 0), (9, .iload_n 2, 10, 2, 0, 0, 0, 0, 0), (10, .invokevirtual 133, 13, 99, 2, 6, 0, 0, 827), (13, .ifCond .eq 26, 16, 39, 0, 0, 0, 0, 0), (16, .aload_n 0, 17, 0, 0, 0, 0, 0, 0), (17, .iload_n 3, 18, 3, 0, 0, 0, 0, 0), (18, .invokevirtual 133, 21, 99, 2, 6, 0, 0, 827), (21, .ifCond .eq 18, 24, 39, 0, 0, 0, 0, 0), (24, .iload_n 2, 25, 2, 0, 0, 0, 0, 0), (25, .iload_n 3, 26, 3, 0, 0, 0, 0, 0), (26, .if_icmp .eq 13, 29, 39, 0, 0, 0, 0, 0), (29, .lload 4, 31, 4, 0, 0, 0, 0, 0), (31, .lload 6, 33, 6, 0, 0, 0, 0, 0), (33, .invokestatic 140, 36, 100, 2, 0, 0, 0, 831), (36, .ifCond .ne 5, 39, 41, 0, 0, 0, 0, 0), (39, .iconst 0, 40, 0, 0, 0, 0, 0, 0), (40, .ireturn, 41, 0, 0, 0, 0, 0, 0), (41, .aload_n 0, 42, 0, 0, 0, 0, 0, 0), (42, .getfield 28, 45, 6, 7, 0, 0, 0, 699), (45, .iconst 3, 46, 0, 0, 0, 3, 0, 0), (46, .iload_n 1, 47, 1, 0, 0, 0, 0, 0), (47, .imul, 48, 0, 0, 0, 0, 0, 0), (48, .iload_n 2, 49, 2, 0, 0, 0, 0, 0), (49, .iadd, 50, 0, 0, 0, 0, 0, 0), (50, .iload_n 3, 51, 3, 0, 0, 0, 0, 0), (51, .iastore, 52, 0, 0, 0, 0, 0, 0), (52, .aload_n 0, 53, 0, 0, 0, 0, 0, 0), (53, .getfield 31, 56, 6, 8, 0, 0, 0, 700), (56, .iconst 3, 57, 0, 0, 0, 3, 0, 0), (57, .iload_n 1, 58, 1, 0, 0, 0, 0, 0), (58, .imul, 59, 0, 0, 0, 0, 0, 0), (59, .iload_n 2, 60, 2, 0, 0, 0, 0, 0), (60, .iadd, 61, 0, 0, 0, 0, 0, 0), (61, .lload 4, 63, 4, 0, 0, 0, 0, 0), (63, .l2i, 64, 0, 0, 0, 0, 0, 0), (64, .iastore, 65, 0, 0, 0, 0, 0, 0), (65, .aload_n 0, 66, 0, 0, 0, 0, 0, 0), (66, .getfield 34, 69, 6, 9, 0, 0, 0, 701), (69, .iconst 3, 70, 0, 0, 0, 3, 0, 0), (70, .iload_n 1, 71, 1, 0, 0, 0, 0, 0), (71, .imul, 72, 0, 0, 0, 0, 0, 0), (72, .iload_n 2, 73, 2, 0, 0, 0, 0, 0), (73, .iadd, 74, 0, 0, 0, 0, 0, 0), (74, .lload 6, 76, 6, 0, 0, 0, 0, 0), (76, .l2i, 77, 0, 0, 0, 0, 0, 0), (77, .iastore, 78, 0, 0, 0, 0, 0, 0), (78, .aload_n 0, 79, 0, 0, 0, 0, 0, 0), (79, .invokevirtual 122, 82, 92, 1, 6, 0, 0, 799), (82, .iconst 1, 83, 0, 0, 0, 1, 0, 0), (83, .ireturn, 84, 0, 0, 0, 0, 0, 0)]
theorem ok_Mo_crush : cd_Mo_crush.all (jm_okE "ShareSolveModel" prog_8_method_14_code 8 1 23 false false (some (.boolean))) = true := by decide +kernel
def cd_Mo_feed : List jm_e := [(0, .aload_n 0, 1, 0, 0, 0, 0, 0, 0), (1, .iload_n 1, 2, 1, 0, 0, 0, 0, 0), (2, .invokevirtual 125, 5, 96, 2, 6, 0, 0, 815), (5, .ifCond .eq 25, 8, 30, 0, 0, 0, 0, 0), (8, .aload_n 0, 9, 0, 0, 0, 0, 0, 0), (9, .iload_n 2, 10, 2, 0, 0, 0, 0, 0), (10, .invokevirtual 133, 13, 99, 2, 6, 0, 0, 827), (13, .ifCond .eq 17, 16, 30, 0, 0, 0, 0, 0), (16, .lload_n 3, 17, 3, 0, 0, 0, 0, 0), (17, .lconst 0, 18, 0, 0, 0, 0, 0, 0), (18, .lcmp, 19, 0, 0, 0, 0, 0, 0), (19, .ifCond .lt 11, 22, 30, 0, 0, 0, 0, 0), (22, .lload_n 3, 23, 3, 0, 0, 0, 0, 0), (23, .ldc2_w 148, 26, 0, 0, 0, 0, 1000000, 847), (26, .lcmp, 27, 0, 0, 0, 0, 0, 0), (27, .ifCond .le 5, 30, 32, 0, 0, 0, 0, 0), (30, .iconst 0, 31, 0, 0, 0, 0, 0, 0), (31, .ireturn, 32, 0, 0, 0, 0, 0, 0), (32, .aload_n 0, 33, 0, 0, 0, 0, 0, 0), (33, .getfield 37, 36, 6, 10, 0, 0, 0, 702), (36, .iconst 3, 37, 0, 0, 0, 3, 0, 0), (37, .iload_n 1, 38, 1, 0, 0, 0, 0, 0), (38, .imul, 39, 0, 0, 0, 0, 0, 0), (39, .iload_n 2, 40, 2, 0, 0, 0, 0, 0), (40, .iadd, 41, 0, 0, 0, 0, 0, 0), (41, .lload_n 3, 42, 3, 0, 0, 0, 0, 0), (42, .l2i, 43, 0, 0, 0, 0, 0, 0), (43, .iastore, 44, 0, 0, 0, 0, 0, 0), (44, .aload_n 0, 45, 0, 0, 0, 0, 0, 0), (45, .invokevirtual 122, 48, 92, 1, 6, 0, 0, 799), (48, .iconst 1, 49, 0, 0, 0, 1, 0, 0), (49, .ireturn, 50, 0, 0, 0, 0, 0, 0)]
theorem ok_Mo_feed : cd_Mo_feed.all (jm_okE "ShareSolveModel" prog_8_method_15_code 5 1 21 false false (some (.boolean))) = true := by decide +kernel
def cd_Mo_span : List jm_e := [(0, .aload_n 0, 1, 0, 0, 0, 0, 0, 0), (1, .iload_n 1, 2, 1, 0, 0, 0, 0, 0), (2, .invokevirtual 125, 5, 96, 2, 6, 0, 0, 815), (5, .ifCond .eq 25, 8, 30, 0, 0, 0, 0, 0), (8, .lload_n 2, 9, 2, 0, 0, 0, 0, 0), (9, .lconst 0, 10, 0, 0, 0, 0, 0, 0), (10, .lcmp, 11, 0, 0, 0, 0, 0, 0), (11, .ifCond .lt 19, 14, 30, 0, 0, 0, 0, 0), (14, .lload_n 2, 15, 2, 0, 0, 0, 0, 0), (15, .lload 4, 17, 4, 0, 0, 0, 0, 0), (17, .lcmp, 18, 0, 0, 0, 0, 0, 0), (18, .ifCond .gt 12, 21, 30, 0, 0, 0, 0, 0), (21, .lload 4, 23, 4, 0, 0, 0, 0, 0), (23, .ldc2_w 150, 26, 0, 0, 0, 0, 1000000000, 852), (26, .lcmp, 27, 0, 0, 0, 0, 0, 0), (27, .ifCond .le 5, 30, 32, 0, 0, 0, 0, 0), (30, .iconst 0, 31, 0, 0, 0, 0, 0, 0), (31, .ireturn, 32, 0, 0, 0, 0, 0, 0), (32, .aload_n 0, 33, 0, 0, 0, 0, 0, 0), (33, .getfield 40, 36, 6, 11, 0, 0, 0, 703), (36, .iload_n 1, 37, 1, 0, 0, 0, 0, 0), (37, .iconst 1, 38, 0, 0, 0, 1, 0, 0), (38, .bastore, 39, 0, 0, 0, 0, 0, 0), (39, .aload_n 0, 40, 0, 0, 0, 0, 0, 0), (40, .getfield 44, 43, 6, 12, 0, 0, 0, 704), (43, .iload_n 1, 44, 1, 0, 0, 0, 0, 0), (44, .lload_n 2, 45, 2, 0, 0, 0, 0, 0), (45, .lastore, 46, 0, 0, 0, 0, 0, 0), (46, .aload_n 0, 47, 0, 0, 0, 0, 0, 0), (47, .getfield 48, 50, 6, 13, 0, 0, 0, 705), (50, .iload_n 1, 51, 1, 0, 0, 0, 0, 0), (51, .lload 4, 53, 4, 0, 0, 0, 0, 0), (53, .lastore, 54, 0, 0, 0, 0, 0, 0), (54, .iconst 1, 55, 0, 0, 0, 1, 0, 0), (55, .ireturn, 56, 0, 0, 0, 0, 0, 0)]
theorem ok_Mo_span : cd_Mo_span.all (jm_okE "ShareSolveModel" prog_8_method_16_code 6 1 21 false false (some (.boolean))) = true := by decide +kernel
def cd_Mo_solve : List jm_e := [(0, .aload_n 0, 1, 0, 0, 0, 0, 0, 0), (1, .iconst 0, 2, 0, 0, 0, 0, 0, 0), (2, .invokevirtual 242, 5, 106, 2, 6, 0, 0, 857), (5, .aload_n 0, 6, 0, 0, 0, 0, 0, 0), (6, .iconst 0, 7, 0, 0, 0, 0, 0, 0), (7, .invokevirtual 257, 10, 111, 2, 6, 0, 0, 877), (10, .istore_n 1, 11, 1, 0, 0, 0, 0, 0), (11, .aload_n 0, 12, 0, 0, 0, 0, 0, 0), (12, .iload_n 1, 13, 1, 0, 0, 0, 0, 0), (13, .ifCond .ge 7, 16, 20, 0, 0, 0, 0, 0), (16, .iconst 1, 17, 0, 0, 0, 1, 0, 0), (17, .goto 4, 20, 21, 0, 0, 0, 0, 0), (20, .iconst 0, 21, 0, 0, 0, 0, 0, 0), (21, .putfield 260, 24, 6, 14, 0, 0, 0, 706), (24, .aload_n 0, 25, 0, 0, 0, 0, 0, 0), (25, .aload_n 0, 26, 0, 0, 0, 0, 0, 0), (26, .getfield 260, 29, 6, 14, 0, 0, 0, 706), (29, .putfield 118, 32, 6, 15, 0, 0, 0, 707), (32, .aload_n 0, 33, 0, 0, 0, 0, 0, 0), (33, .getfield 260, 36, 6, 14, 0, 0, 0, 706), (36, .ifCond .eq 7, 39, 43, 0, 0, 0, 0, 0), (39, .aload_n 0, 40, 0, 0, 0, 0, 0, 0), (40, .invokevirtual 263, 43, 113, 1, 6, 0, 0, 885), (43, .iload_n 1, 44, 1, 0, 0, 0, 0, 0), (44, .ifCond .ge 7, 47, 51, 0, 0, 0, 0, 0), (47, .iconst 0, 48, 0, 0, 0, 0, 0, 0), (48, .goto 6, 51, 54, 0, 0, 0, 0, 0), (51, .iconst 1, 52, 0, 0, 0, 1, 0, 0), (52, .iload_n 1, 53, 1, 0, 0, 0, 0, 0), (53, .iadd, 54, 0, 0, 0, 0, 0, 0), (54, .ireturn, 55, 0, 0, 0, 0, 0, 0)]
theorem ok_Mo_solve : cd_Mo_solve.all (jm_okE "ShareSolveModel" prog_8_method_51_code 2 5 138 false false (some (.int))) = true := by decide +kernel
def cd_Mo_layOut : List jm_e := [(0, .iconst 0, 1, 0, 0, 0, 0, 0, 0), (1, .istore_n 2, 2, 2, 0, 0, 0, 0, 0), (2, .iload_n 2, 3, 2, 0, 0, 0, 0, 0), (3, .bipush 81, 5, 0, 0, 0, 81, 0, 0), (5, .if_icmp .ge 23, 8, 28, 0, 0, 0, 0, 0), (8, .aload_n 0, 9, 0, 0, 0, 0, 0, 0), (9, .getfield 57, 12, 6, 18, 0, 0, 0, 710), (12, .iload_n 2, 13, 2, 0, 0, 0, 0, 0), (13, .lconst 0, 14, 0, 0, 0, 0, 0, 0), (14, .lastore, 15, 0, 0, 0, 0, 0, 0), (15, .aload_n 0, 16, 0, 0, 0, 0, 0, 0), (16, .getfield 60, 19, 6, 19, 0, 0, 0, 711), (19, .iload_n 2, 20, 2, 0, 0, 0, 0, 0), (20, .lconst 0, 21, 0, 0, 0, 0, 0, 0), (21, .lastore, 22, 0, 0, 0, 0, 0, 0), (22, .iinc 2 1, 25, 2, 0, 0, 1, 0, 0), (25, .goto (-23), 28, 2, 0, 0, 0, 0, 0), (28, .iconst 0, 29, 0, 0, 0, 0, 0, 0), (29, .istore_n 2, 30, 2, 0, 0, 0, 0, 0), (30, .iload_n 2, 31, 2, 0, 0, 0, 0, 0), (31, .bipush 9, 33, 0, 0, 0, 9, 0, 0), (33, .if_icmp .ge 52, 36, 85, 0, 0, 0, 0, 0), (36, .aload_n 0, 37, 0, 0, 0, 0, 0, 0), (37, .getfield 54, 40, 6, 17, 0, 0, 0, 709), (40, .iload_n 2, 41, 2, 0, 0, 0, 0, 0), (41, .lconst 1, 42, 0, 0, 0, 0, 1, 0), (42, .lastore, 43, 0, 0, 0, 0, 0, 0), (43, .iload_n 2, 44, 2, 0, 0, 0, 0, 0), (44, .iconst 3, 45, 0, 0, 0, 3, 0, 0), (45, .idiv, 46, 0, 0, 0, 0, 0, 0), (46, .istore_n 3, 47, 3, 0, 0, 0, 0, 0), (47, .iload_n 2, 48, 2, 0, 0, 0, 0, 0), (48, .iconst 3, 49, 0, 0, 0, 3, 0, 0), (49, .irem, 50, 0, 0, 0, 0, 0, 0), (50, .istore 4, 52, 4, 0, 0, 0, 0, 0), (52, .iload_n 3, 53, 3, 0, 0, 0, 0, 0), (53, .aload_n 0, 54, 0, 0, 0, 0, 0, 0), (54, .getfield 7, 57, 6, 1, 0, 0, 0, 693), (57, .iload_n 1, 58, 1, 0, 0, 0, 0, 0), (58, .iaload, 59, 0, 0, 0, 0, 0, 0), (59, .if_icmp .ge 20, 62, 79, 0, 0, 0, 0, 0), (62, .iload 4, 64, 4, 0, 0, 0, 0, 0), (64, .aload_n 0, 65, 0, 0, 0, 0, 0, 0), (65, .getfield 97, 68, 6, 0, 0, 0, 0, 692), (68, .if_icmp .ge 11, 71, 79, 0, 0, 0, 0, 0), (71, .aload_n 0, 72, 0, 0, 0, 0, 0, 0), (72, .iload_n 1, 73, 1, 0, 0, 0, 0, 0), (73, .iload_n 3, 74, 3, 0, 0, 0, 0, 0), (74, .iload 4, 76, 4, 0, 0, 0, 0, 0), (76, .invokevirtual 160, 79, 107, 4, 6, 0, 0, 861), (79, .iinc 2 1, 82, 2, 0, 0, 1, 0, 0), (82, .goto (-52), 85, 30, 0, 0, 0, 0, 0), (85, .return_, 86, 0, 0, 0, 0, 0, 0)]
theorem ok_Mo_layOut : cd_Mo_layOut.all (jm_okE "ShareSolveModel" prog_8_method_21_code 5 4 114 false false none) = true := by decide +kernel
def cd_Mo_layNode : List jm_e := [(0, .iconst 3, 1, 0, 0, 0, 3, 0, 0), (1, .iload_n 2, 2, 2, 0, 0, 0, 0, 0), (2, .imul, 3, 0, 0, 0, 0, 0, 0), (3, .iload_n 3, 4, 3, 0, 0, 0, 0, 0), (4, .iadd, 5, 0, 0, 0, 0, 0, 0), (5, .istore 4, 7, 4, 0, 0, 0, 0, 0), (7, .aload_n 0, 8, 0, 0, 0, 0, 0, 0), (8, .getfield 31, 11, 6, 8, 0, 0, 0, 700), (11, .bipush 9, 13, 0, 0, 0, 9, 0, 0), (13, .iload_n 1, 14, 1, 0, 0, 0, 0, 0), (14, .imul, 15, 0, 0, 0, 0, 0, 0), (15, .iload 4, 17, 4, 0, 0, 0, 0, 0), (17, .iadd, 18, 0, 0, 0, 0, 0, 0), (18, .iaload, 19, 0, 0, 0, 0, 0, 0), (19, .i2l, 20, 0, 0, 0, 0, 0, 0), (20, .lstore 5, 22, 5, 0, 0, 0, 0, 0), (22, .aload_n 0, 23, 0, 0, 0, 0, 0, 0), (23, .getfield 34, 26, 6, 9, 0, 0, 0, 701), (26, .bipush 9, 28, 0, 0, 0, 9, 0, 0), (28, .iload_n 1, 29, 1, 0, 0, 0, 0, 0), (29, .imul, 30, 0, 0, 0, 0, 0, 0), (30, .iload 4, 32, 4, 0, 0, 0, 0, 0), (32, .iadd, 33, 0, 0, 0, 0, 0, 0), (33, .iaload, 34, 0, 0, 0, 0, 0, 0), (34, .i2l, 35, 0, 0, 0, 0, 0, 0), (35, .lstore 7, 37, 7, 0, 0, 0, 0, 0), (37, .aload_n 0, 38, 0, 0, 0, 0, 0, 0), (38, .getfield 28, 41, 6, 7, 0, 0, 0, 699), (41, .bipush 9, 43, 0, 0, 0, 9, 0, 0), (43, .iload_n 1, 44, 1, 0, 0, 0, 0, 0), (44, .imul, 45, 0, 0, 0, 0, 0, 0), (45, .iload 4, 47, 4, 0, 0, 0, 0, 0), (47, .iadd, 48, 0, 0, 0, 0, 0, 0), (48, .iaload, 49, 0, 0, 0, 0, 0, 0), (49, .istore 9, 51, 9, 0, 0, 0, 0, 0), (51, .aload_n 0, 52, 0, 0, 0, 0, 0, 0), (52, .iload_n 1, 53, 1, 0, 0, 0, 0, 0), (53, .iload_n 2, 54, 2, 0, 0, 0, 0, 0), (54, .iload_n 3, 55, 3, 0, 0, 0, 0, 0), (55, .invokevirtual 156, 58, 108, 4, 6, 0, 0, 865), (58, .lstore 10, 60, 10, 0, 0, 0, 0, 0), (60, .lload 5, 62, 5, 0, 0, 0, 0, 0), (62, .lconst 0, 63, 0, 0, 0, 0, 0, 0), (63, .lcmp, 64, 0, 0, 0, 0, 0, 0), (64, .ifCond .le 14, 67, 78, 0, 0, 0, 0, 0), (67, .aload_n 0, 68, 0, 0, 0, 0, 0, 0), (68, .iload_n 1, 69, 1, 0, 0, 0, 0, 0), (69, .iload_n 2, 70, 2, 0, 0, 0, 0, 0), (70, .iload 9, 72, 9, 0, 0, 0, 0, 0), (72, .invokevirtual 156, 75, 108, 4, 6, 0, 0, 865), (75, .goto 4, 78, 79, 0, 0, 0, 0, 0), (78, .lconst 1, 79, 0, 0, 0, 0, 1, 0), (79, .lstore 12, 81, 12, 0, 0, 0, 0, 0), (81, .aload_n 0, 82, 0, 0, 0, 0, 0, 0), (82, .getfield 54, 85, 6, 17, 0, 0, 0, 709), (85, .iload 4, 87, 4, 0, 0, 0, 0, 0), (87, .lload 7, 89, 7, 0, 0, 0, 0, 0), (89, .lload 10, 91, 10, 0, 0, 0, 0, 0), (91, .lmul, 92, 0, 0, 0, 0, 0, 0), (92, .lload 12, 94, 12, 0, 0, 0, 0, 0), (94, .lmul, 95, 0, 0, 0, 0, 0, 0), (95, .lastore, 96, 0, 0, 0, 0, 0, 0), (96, .iconst 0, 97, 0, 0, 0, 0, 0, 0), (97, .istore 14, 99, 14, 0, 0, 0, 0, 0), (99, .iload 14, 101, 14, 0, 0, 0, 0, 0), (101, .aload_n 0, 102, 0, 0, 0, 0, 0, 0), (102, .getfield 16, 105, 6, 3, 0, 0, 0, 695), (105, .iconst 3, 106, 0, 0, 0, 3, 0, 0), (106, .iload_n 1, 107, 1, 0, 0, 0, 0, 0), (107, .imul, 108, 0, 0, 0, 0, 0, 0), (108, .iload_n 2, 109, 2, 0, 0, 0, 0, 0), (109, .iadd, 110, 0, 0, 0, 0, 0, 0), (110, .iaload, 111, 0, 0, 0, 0, 0, 0), (111, .if_icmp .ge 168, 114, 279, 0, 0, 0, 0, 0), (114, .aload_n 0, 115, 0, 0, 0, 0, 0, 0), (115, .getfield 60, 118, 6, 19, 0, 0, 0, 711), (118, .bipush 9, 120, 0, 0, 0, 9, 0, 0), (120, .iconst 3, 121, 0, 0, 0, 3, 0, 0), (121, .iload 14, 123, 14, 0, 0, 0, 0, 0), (123, .imul, 124, 0, 0, 0, 0, 0, 0), (124, .iload_n 3, 125, 3, 0, 0, 0, 0, 0), (125, .iadd, 126, 0, 0, 0, 0, 0, 0), (126, .imul, 127, 0, 0, 0, 0, 0, 0), (127, .iload 4, 129, 4, 0, 0, 0, 0, 0), (129, .iadd, 130, 0, 0, 0, 0, 0, 0), (130, .dup2, 131, 0, 0, 0, 0, 0, 0), (131, .laload, 132, 0, 0, 0, 0, 0, 0), (132, .lload 7, 134, 7, 0, 0, 0, 0, 0), (134, .lload 5, 136, 5, 0, 0, 0, 0, 0), (136, .lsub, 137, 0, 0, 0, 0, 0, 0), (137, .lload 12, 139, 12, 0, 0, 0, 0, 0), (139, .lmul, 140, 0, 0, 0, 0, 0, 0), (140, .aload_n 0, 141, 0, 0, 0, 0, 0, 0), (141, .iload_n 1, 142, 1, 0, 0, 0, 0, 0), (142, .iload_n 2, 143, 2, 0, 0, 0, 0, 0), (143, .iload_n 3, 144, 3, 0, 0, 0, 0, 0), (144, .iload 14, 146, 14, 0, 0, 0, 0, 0), (146, .invokevirtual 164, 149, 110, 5, 6, 0, 0, 873), (149, .lmul, 150, 0, 0, 0, 0, 0, 0), (150, .ladd, 151, 0, 0, 0, 0, 0, 0), (151, .lastore, 152, 0, 0, 0, 0, 0, 0), (152, .lload 5, 154, 5, 0, 0, 0, 0, 0), (154, .lconst 0, 155, 0, 0, 0, 0, 0, 0), (155, .lcmp, 156, 0, 0, 0, 0, 0, 0), (156, .ifCond .le 40, 159, 196, 0, 0, 0, 0, 0), (159, .aload_n 0, 160, 0, 0, 0, 0, 0, 0), (160, .getfield 60, 163, 6, 19, 0, 0, 0, 711), (163, .bipush 9, 165, 0, 0, 0, 9, 0, 0), (165, .iconst 3, 166, 0, 0, 0, 3, 0, 0), (166, .iload 14, 168, 14, 0, 0, 0, 0, 0), (168, .imul, 169, 0, 0, 0, 0, 0, 0), (169, .iload 9, 171, 9, 0, 0, 0, 0, 0), (171, .iadd, 172, 0, 0, 0, 0, 0, 0), (172, .imul, 173, 0, 0, 0, 0, 0, 0), (173, .iload 4, 175, 4, 0, 0, 0, 0, 0), (175, .iadd, 176, 0, 0, 0, 0, 0, 0), (176, .dup2, 177, 0, 0, 0, 0, 0, 0), (177, .laload, 178, 0, 0, 0, 0, 0, 0), (178, .lload 5, 180, 5, 0, 0, 0, 0, 0), (180, .lload 10, 182, 10, 0, 0, 0, 0, 0), (182, .lmul, 183, 0, 0, 0, 0, 0, 0), (183, .aload_n 0, 184, 0, 0, 0, 0, 0, 0), (184, .iload_n 1, 185, 1, 0, 0, 0, 0, 0), (185, .iload_n 2, 186, 2, 0, 0, 0, 0, 0), (186, .iload 9, 188, 9, 0, 0, 0, 0, 0), (188, .iload 14, 190, 14, 0, 0, 0, 0, 0), (190, .invokevirtual 164, 193, 110, 5, 6, 0, 0, 873), (193, .lmul, 194, 0, 0, 0, 0, 0, 0), (194, .ladd, 195, 0, 0, 0, 0, 0, 0), (195, .lastore, 196, 0, 0, 0, 0, 0, 0), (196, .aload_n 0, 197, 0, 0, 0, 0, 0, 0), (197, .getfield 19, 200, 6, 4, 0, 0, 0, 696), (200, .bipush 9, 202, 0, 0, 0, 9, 0, 0), (202, .iload_n 1, 203, 1, 0, 0, 0, 0, 0), (203, .imul, 204, 0, 0, 0, 0, 0, 0), (204, .iconst 3, 205, 0, 0, 0, 3, 0, 0), (205, .iload_n 2, 206, 2, 0, 0, 0, 0, 0), (206, .imul, 207, 0, 0, 0, 0, 0, 0), (207, .iadd, 208, 0, 0, 0, 0, 0, 0), (208, .iload 14, 210, 14, 0, 0, 0, 0, 0), (210, .iadd, 211, 0, 0, 0, 0, 0, 0), (211, .iaload, 212, 0, 0, 0, 0, 0, 0), (212, .istore 15, 214, 15, 0, 0, 0, 0, 0), (214, .iconst 0, 215, 0, 0, 0, 0, 0, 0), (215, .istore 16, 217, 16, 0, 0, 0, 0, 0), (217, .iload 16, 219, 16, 0, 0, 0, 0, 0), (219, .iconst 3, 220, 0, 0, 0, 3, 0, 0), (220, .if_icmp .ge 53, 223, 273, 0, 0, 0, 0, 0), (223, .iload 15, 225, 15, 0, 0, 0, 0, 0), (225, .ifCond .lt 48, 228, 273, 0, 0, 0, 0, 0), (228, .aload_n 0, 229, 0, 0, 0, 0, 0, 0), (229, .getfield 57, 232, 6, 18, 0, 0, 0, 710), (232, .bipush 9, 234, 0, 0, 0, 9, 0, 0), (234, .iconst 3, 235, 0, 0, 0, 3, 0, 0), (235, .iload 15, 237, 15, 0, 0, 0, 0, 0), (237, .imul, 238, 0, 0, 0, 0, 0, 0), (238, .iload 16, 240, 16, 0, 0, 0, 0, 0), (240, .iadd, 241, 0, 0, 0, 0, 0, 0), (241, .imul, 242, 0, 0, 0, 0, 0, 0), (242, .iload 4, 244, 4, 0, 0, 0, 0, 0), (244, .iadd, 245, 0, 0, 0, 0, 0, 0), (245, .dup2, 246, 0, 0, 0, 0, 0, 0), (246, .laload, 247, 0, 0, 0, 0, 0, 0), (247, .aload_n 0, 248, 0, 0, 0, 0, 0, 0), (248, .getfield 60, 251, 6, 19, 0, 0, 0, 711), (251, .bipush 9, 253, 0, 0, 0, 9, 0, 0), (253, .iconst 3, 254, 0, 0, 0, 3, 0, 0), (254, .iload 14, 256, 14, 0, 0, 0, 0, 0), (256, .imul, 257, 0, 0, 0, 0, 0, 0), (257, .iload 16, 259, 16, 0, 0, 0, 0, 0), (259, .iadd, 260, 0, 0, 0, 0, 0, 0), (260, .imul, 261, 0, 0, 0, 0, 0, 0), (261, .iload 4, 263, 4, 0, 0, 0, 0, 0), (263, .iadd, 264, 0, 0, 0, 0, 0, 0), (264, .laload, 265, 0, 0, 0, 0, 0, 0), (265, .ladd, 266, 0, 0, 0, 0, 0, 0), (266, .lastore, 267, 0, 0, 0, 0, 0, 0), (267, .iinc 16 1, 270, 16, 0, 0, 1, 0, 0), (270, .goto (-53), 273, 217, 0, 0, 0, 0, 0), (273, .iinc 14 1, 276, 14, 0, 0, 1, 0, 0), (276, .goto (-177), 279, 99, 0, 0, 0, 0, 0), (279, .return_, 280, 0, 0, 0, 0, 0, 0)]
theorem ok_Mo_layNode : cd_Mo_layNode.all (jm_okE "ShareSolveModel" prog_8_method_22_code 17 3 78 false false none) = true := by decide +kernel
def cd_Mo_common : List jm_e := [(0, .aload_n 0, 1, 0, 0, 0, 0, 0, 0), (1, .getfield 25, 4, 6, 6, 0, 0, 0, 698), (4, .aload_n 0, 5, 0, 0, 0, 0, 0, 0), (5, .iload_n 1, 6, 1, 0, 0, 0, 0, 0), (6, .iload_n 2, 7, 2, 0, 0, 0, 0, 0), (7, .iload_n 3, 8, 3, 0, 0, 0, 0, 0), (8, .iconst 0, 9, 0, 0, 0, 0, 0, 0), (9, .invokevirtual 152, 12, 109, 5, 6, 0, 0, 869), (12, .iaload, 13, 0, 0, 0, 0, 0, 0), (13, .i2l, 14, 0, 0, 0, 0, 0, 0), (14, .aload_n 0, 15, 0, 0, 0, 0, 0, 0), (15, .getfield 25, 18, 6, 6, 0, 0, 0, 698), (18, .aload_n 0, 19, 0, 0, 0, 0, 0, 0), (19, .iload_n 1, 20, 1, 0, 0, 0, 0, 0), (20, .iload_n 2, 21, 2, 0, 0, 0, 0, 0), (21, .iload_n 3, 22, 3, 0, 0, 0, 0, 0), (22, .iconst 1, 23, 0, 0, 0, 1, 0, 0), (23, .invokevirtual 152, 26, 109, 5, 6, 0, 0, 869), (26, .iaload, 27, 0, 0, 0, 0, 0, 0), (27, .i2l, 28, 0, 0, 0, 0, 0, 0), (28, .lmul, 29, 0, 0, 0, 0, 0, 0), (29, .lreturn, 30, 0, 0, 0, 0, 0, 0)]
theorem ok_Mo_common : cd_Mo_common.all (jm_okE "ShareSolveModel" prog_8_method_19_code 4 1 24 false false (some (.long))) = true := by decide +kernel
def cd_Mo_shareAt : List jm_e := [(0, .bipush 18, 2, 0, 0, 0, 18, 0, 0), (2, .iload_n 1, 3, 1, 0, 0, 0, 0, 0), (3, .imul, 4, 0, 0, 0, 0, 0, 0), (4, .iconst 2, 5, 0, 0, 0, 2, 0, 0), (5, .iconst 3, 6, 0, 0, 0, 3, 0, 0), (6, .iload_n 2, 7, 2, 0, 0, 0, 0, 0), (7, .imul, 8, 0, 0, 0, 0, 0, 0), (8, .iload_n 3, 9, 3, 0, 0, 0, 0, 0), (9, .iadd, 10, 0, 0, 0, 0, 0, 0), (10, .imul, 11, 0, 0, 0, 0, 0, 0), (11, .iadd, 12, 0, 0, 0, 0, 0, 0), (12, .iload 4, 14, 4, 0, 0, 0, 0, 0), (14, .iadd, 15, 0, 0, 0, 0, 0, 0), (15, .ireturn, 16, 0, 0, 0, 0, 0, 0)]
theorem ok_Mo_shareAt : cd_Mo_shareAt.all (jm_okE "ShareSolveModel" prog_8_method_18_code 5 0 0 false false (some (.int))) = true := by decide +kernel
def cd_Mo_part : List jm_e := [(0, .aload_n 0, 1, 0, 0, 0, 0, 0, 0), (1, .getfield 22, 4, 6, 5, 0, 0, 0, 697), (4, .aload_n 0, 5, 0, 0, 0, 0, 0, 0), (5, .iload_n 1, 6, 1, 0, 0, 0, 0, 0), (6, .iload_n 2, 7, 2, 0, 0, 0, 0, 0), (7, .iload_n 3, 8, 3, 0, 0, 0, 0, 0), (8, .iconst 0, 9, 0, 0, 0, 0, 0, 0), (9, .invokevirtual 152, 12, 109, 5, 6, 0, 0, 869), (12, .iaload, 13, 0, 0, 0, 0, 0, 0), (13, .i2l, 14, 0, 0, 0, 0, 0, 0), (14, .aload_n 0, 15, 0, 0, 0, 0, 0, 0), (15, .getfield 25, 18, 6, 6, 0, 0, 0, 698), (18, .aload_n 0, 19, 0, 0, 0, 0, 0, 0), (19, .iload_n 1, 20, 1, 0, 0, 0, 0, 0), (20, .iload_n 2, 21, 2, 0, 0, 0, 0, 0), (21, .iload_n 3, 22, 3, 0, 0, 0, 0, 0), (22, .iconst 1, 23, 0, 0, 0, 1, 0, 0), (23, .invokevirtual 152, 26, 109, 5, 6, 0, 0, 869), (26, .iaload, 27, 0, 0, 0, 0, 0, 0), (27, .i2l, 28, 0, 0, 0, 0, 0, 0), (28, .lmul, 29, 0, 0, 0, 0, 0, 0), (29, .lstore 5, 31, 5, 0, 0, 0, 0, 0), (31, .aload_n 0, 32, 0, 0, 0, 0, 0, 0), (32, .getfield 22, 35, 6, 5, 0, 0, 0, 697), (35, .aload_n 0, 36, 0, 0, 0, 0, 0, 0), (36, .iload_n 1, 37, 1, 0, 0, 0, 0, 0), (37, .iload_n 2, 38, 2, 0, 0, 0, 0, 0), (38, .iload_n 3, 39, 3, 0, 0, 0, 0, 0), (39, .iconst 1, 40, 0, 0, 0, 1, 0, 0), (40, .invokevirtual 152, 43, 109, 5, 6, 0, 0, 869), (43, .iaload, 44, 0, 0, 0, 0, 0, 0), (44, .i2l, 45, 0, 0, 0, 0, 0, 0), (45, .aload_n 0, 46, 0, 0, 0, 0, 0, 0), (46, .getfield 25, 49, 6, 6, 0, 0, 0, 698), (49, .aload_n 0, 50, 0, 0, 0, 0, 0, 0), (50, .iload_n 1, 51, 1, 0, 0, 0, 0, 0), (51, .iload_n 2, 52, 2, 0, 0, 0, 0, 0), (52, .iload_n 3, 53, 3, 0, 0, 0, 0, 0), (53, .iconst 0, 54, 0, 0, 0, 0, 0, 0), (54, .invokevirtual 152, 57, 109, 5, 6, 0, 0, 869), (57, .iaload, 58, 0, 0, 0, 0, 0, 0), (58, .i2l, 59, 0, 0, 0, 0, 0, 0), (59, .lmul, 60, 0, 0, 0, 0, 0, 0), (60, .lstore 7, 62, 7, 0, 0, 0, 0, 0), (62, .aload_n 0, 63, 0, 0, 0, 0, 0, 0), (63, .getfield 16, 66, 6, 3, 0, 0, 0, 695), (66, .iconst 3, 67, 0, 0, 0, 3, 0, 0), (67, .iload_n 1, 68, 1, 0, 0, 0, 0, 0), (68, .imul, 69, 0, 0, 0, 0, 0, 0), (69, .iload_n 2, 70, 2, 0, 0, 0, 0, 0), (70, .iadd, 71, 0, 0, 0, 0, 0, 0), (71, .iaload, 72, 0, 0, 0, 0, 0, 0), (72, .iconst 1, 73, 0, 0, 0, 1, 0, 0), (73, .isub, 74, 0, 0, 0, 0, 0, 0), (74, .istore 9, 76, 9, 0, 0, 0, 0, 0), (76, .aload_n 0, 77, 0, 0, 0, 0, 0, 0), (77, .iload_n 1, 78, 1, 0, 0, 0, 0, 0), (78, .iload_n 2, 79, 2, 0, 0, 0, 0, 0), (79, .iload_n 3, 80, 3, 0, 0, 0, 0, 0), (80, .invokevirtual 156, 83, 108, 4, 6, 0, 0, 865), (83, .iload 9, 85, 9, 0, 0, 0, 0, 0), (85, .ifCond .le 8, 88, 93, 0, 0, 0, 0, 0), (88, .lload 5, 90, 5, 0, 0, 0, 0, 0), (90, .goto 4, 93, 94, 0, 0, 0, 0, 0), (93, .lconst 0, 94, 0, 0, 0, 0, 0, 0), (94, .lsub, 95, 0, 0, 0, 0, 0, 0), (95, .iload 9, 97, 9, 0, 0, 0, 0, 0), (97, .iconst 1, 98, 0, 0, 0, 1, 0, 0), (98, .if_icmp .le 8, 101, 106, 0, 0, 0, 0, 0), (101, .lload 7, 103, 7, 0, 0, 0, 0, 0), (103, .goto 4, 106, 107, 0, 0, 0, 0, 0), (106, .lconst 0, 107, 0, 0, 0, 0, 0, 0), (107, .lsub, 108, 0, 0, 0, 0, 0, 0), (108, .lstore 10, 110, 10, 0, 0, 0, 0, 0), (110, .iload 4, 112, 4, 0, 0, 0, 0, 0), (112, .iload 9, 114, 9, 0, 0, 0, 0, 0), (114, .if_icmp .ne 8, 117, 122, 0, 0, 0, 0, 0), (117, .lload 10, 119, 10, 0, 0, 0, 0, 0), (119, .goto 15, 122, 134, 0, 0, 0, 0, 0), (122, .iload 4, 124, 4, 0, 0, 0, 0, 0), (124, .ifCond .ne 8, 127, 132, 0, 0, 0, 0, 0), (127, .lload 5, 129, 5, 0, 0, 0, 0, 0), (129, .goto 5, 132, 134, 0, 0, 0, 0, 0), (132, .lload 7, 134, 7, 0, 0, 0, 0, 0), (134, .lreturn, 135, 0, 0, 0, 0, 0, 0)]
theorem ok_Mo_part : cd_Mo_part.all (jm_okE "ShareSolveModel" prog_8_method_20_code 12 2 47 false false (some (.long))) = true := by decide +kernel
end
section
/-! the code of the reference, 1 -/
def cd_Mo_stuck : List jm_e := [(0, .iconst 0, 1, 0, 0, 0, 0, 0, 0), (1, .istore_n 2, 2, 2, 0, 0, 0, 0, 0), (2, .iconst 0, 3, 0, 0, 0, 0, 0, 0), (3, .istore_n 3, 4, 3, 0, 0, 0, 0, 0), (4, .iload_n 3, 5, 3, 0, 0, 0, 0, 0), (5, .bipush 9, 7, 0, 0, 0, 9, 0, 0), (7, .if_icmp .ge 76, 10, 83, 0, 0, 0, 0, 0), (10, .iconst 0, 11, 0, 0, 0, 0, 0, 0), (11, .istore 4, 13, 4, 0, 0, 0, 0, 0), (13, .iload 4, 15, 4, 0, 0, 0, 0, 0), (15, .aload_n 0, 16, 0, 0, 0, 0, 0, 0), (16, .getfield 7, 19, 6, 1, 0, 0, 0, 693), (19, .iload_n 1, 20, 1, 0, 0, 0, 0, 0), (20, .iaload, 21, 0, 0, 0, 0, 0, 0), (21, .if_icmp .ge 56, 24, 77, 0, 0, 0, 0, 0), (24, .iconst 0, 25, 0, 0, 0, 0, 0, 0), (25, .istore 5, 27, 5, 0, 0, 0, 0, 0), (27, .iload 5, 29, 5, 0, 0, 0, 0, 0), (29, .aload_n 0, 30, 0, 0, 0, 0, 0, 0), (30, .getfield 97, 33, 6, 0, 0, 0, 0, 692), (33, .if_icmp .ge 38, 36, 71, 0, 0, 0, 0, 0), (36, .iload_n 2, 37, 2, 0, 0, 0, 0, 0), (37, .aload_n 0, 38, 0, 0, 0, 0, 0, 0), (38, .iload_n 1, 39, 1, 0, 0, 0, 0, 0), (39, .iload 4, 41, 4, 0, 0, 0, 0, 0), (41, .iload 5, 43, 5, 0, 0, 0, 0, 0), (43, .iload_n 2, 44, 2, 0, 0, 0, 0, 0), (44, .invokevirtual 168, 47, 112, 5, 6, 0, 0, 881), (47, .ifCond .eq 15, 50, 62, 0, 0, 0, 0, 0), (50, .iconst 1, 51, 0, 0, 0, 1, 0, 0), (51, .iconst 3, 52, 0, 0, 0, 3, 0, 0), (52, .iload 4, 54, 4, 0, 0, 0, 0, 0), (54, .imul, 55, 0, 0, 0, 0, 0, 0), (55, .iload 5, 57, 5, 0, 0, 0, 0, 0), (57, .iadd, 58, 0, 0, 0, 0, 0, 0), (58, .ishl, 59, 0, 0, 0, 0, 0, 0), (59, .goto 4, 62, 63, 0, 0, 0, 0, 0), (62, .iconst 0, 63, 0, 0, 0, 0, 0, 0), (63, .ior, 64, 0, 0, 0, 0, 0, 0), (64, .istore_n 2, 65, 2, 0, 0, 0, 0, 0), (65, .iinc 5 1, 68, 5, 0, 0, 1, 0, 0), (68, .goto (-41), 71, 27, 0, 0, 0, 0, 0), (71, .iinc 4 1, 74, 4, 0, 0, 1, 0, 0), (74, .goto (-61), 77, 13, 0, 0, 0, 0, 0), (77, .iinc 3 1, 80, 3, 0, 0, 1, 0, 0), (80, .goto (-76), 83, 4, 0, 0, 0, 0, 0), (83, .iconst 0, 84, 0, 0, 0, 0, 0, 0), (84, .istore_n 3, 85, 3, 0, 0, 0, 0, 0), (85, .iload_n 3, 86, 3, 0, 0, 0, 0, 0), (86, .aload_n 0, 87, 0, 0, 0, 0, 0, 0), (87, .getfield 7, 90, 6, 1, 0, 0, 0, 693), (90, .iload_n 1, 91, 1, 0, 0, 0, 0, 0), (91, .iaload, 92, 0, 0, 0, 0, 0, 0), (92, .if_icmp .ge 42, 95, 134, 0, 0, 0, 0, 0), (95, .iconst 0, 96, 0, 0, 0, 0, 0, 0), (96, .istore 4, 98, 4, 0, 0, 0, 0, 0), (98, .iload 4, 100, 4, 0, 0, 0, 0, 0), (100, .aload_n 0, 101, 0, 0, 0, 0, 0, 0), (101, .getfield 97, 104, 6, 0, 0, 0, 0, 692), (104, .if_icmp .ge 24, 107, 128, 0, 0, 0, 0, 0), (107, .iload_n 2, 108, 2, 0, 0, 0, 0, 0), (108, .iconst 3, 109, 0, 0, 0, 3, 0, 0), (109, .iload_n 3, 110, 3, 0, 0, 0, 0, 0), (110, .imul, 111, 0, 0, 0, 0, 0, 0), (111, .iload 4, 113, 4, 0, 0, 0, 0, 0), (113, .iadd, 114, 0, 0, 0, 0, 0, 0), (114, .ishr, 115, 0, 0, 0, 0, 0, 0), (115, .iconst 1, 116, 0, 0, 0, 1, 0, 0), (116, .iand, 117, 0, 0, 0, 0, 0, 0), (117, .ifCond .ne 5, 120, 122, 0, 0, 0, 0, 0), (120, .iload_n 3, 121, 3, 0, 0, 0, 0, 0), (121, .ireturn, 122, 0, 0, 0, 0, 0, 0), (122, .iinc 4 1, 125, 4, 0, 0, 1, 0, 0), (125, .goto (-27), 128, 98, 0, 0, 0, 0, 0), (128, .iinc 3 1, 131, 3, 0, 0, 1, 0, 0), (131, .goto (-46), 134, 85, 0, 0, 0, 0, 0), (134, .iconst (-1), 135, 0, 0, 0, (-1), 0, 0), (135, .ireturn, 136, 0, 0, 0, 0, 0, 0)]
theorem ok_Mo_stuck : cd_Mo_stuck.all (jm_okE "ShareSolveModel" prog_8_method_23_code 6 1 30 false false (some (.int))) = true := by decide +kernel
def cd_Mo_goes : List jm_e := [(0, .iconst 3, 1, 0, 0, 0, 3, 0, 0), (1, .iload_n 2, 2, 2, 0, 0, 0, 0, 0), (2, .imul, 3, 0, 0, 0, 0, 0, 0), (3, .iload_n 3, 4, 3, 0, 0, 0, 0, 0), (4, .iadd, 5, 0, 0, 0, 0, 0, 0), (5, .istore 5, 7, 5, 0, 0, 0, 0, 0), (7, .iconst 0, 8, 0, 0, 0, 0, 0, 0), (8, .istore 6, 10, 6, 0, 0, 0, 0, 0), (10, .iconst 0, 11, 0, 0, 0, 0, 0, 0), (11, .istore 7, 13, 7, 0, 0, 0, 0, 0), (13, .iload 7, 15, 7, 0, 0, 0, 0, 0), (15, .aload_n 0, 16, 0, 0, 0, 0, 0, 0), (16, .getfield 16, 19, 6, 3, 0, 0, 0, 695), (19, .iconst 3, 20, 0, 0, 0, 3, 0, 0), (20, .iload_n 1, 21, 1, 0, 0, 0, 0, 0), (21, .imul, 22, 0, 0, 0, 0, 0, 0), (22, .iload_n 2, 23, 2, 0, 0, 0, 0, 0), (23, .iadd, 24, 0, 0, 0, 0, 0, 0), (24, .iaload, 25, 0, 0, 0, 0, 0, 0), (25, .if_icmp .ge 113, 28, 138, 0, 0, 0, 0, 0), (28, .aload_n 0, 29, 0, 0, 0, 0, 0, 0), (29, .getfield 19, 32, 6, 4, 0, 0, 0, 696), (32, .bipush 9, 34, 0, 0, 0, 9, 0, 0), (34, .iload_n 1, 35, 1, 0, 0, 0, 0, 0), (35, .imul, 36, 0, 0, 0, 0, 0, 0), (36, .iconst 3, 37, 0, 0, 0, 3, 0, 0), (37, .iload_n 2, 38, 2, 0, 0, 0, 0, 0), (38, .imul, 39, 0, 0, 0, 0, 0, 0), (39, .iadd, 40, 0, 0, 0, 0, 0, 0), (40, .iload 7, 42, 7, 0, 0, 0, 0, 0), (42, .iadd, 43, 0, 0, 0, 0, 0, 0), (43, .iaload, 44, 0, 0, 0, 0, 0, 0), (44, .istore 8, 46, 8, 0, 0, 0, 0, 0), (46, .iconst 0, 47, 0, 0, 0, 0, 0, 0), (47, .istore 9, 49, 9, 0, 0, 0, 0, 0), (49, .iload 9, 51, 9, 0, 0, 0, 0, 0), (51, .aload_n 0, 52, 0, 0, 0, 0, 0, 0), (52, .getfield 97, 55, 6, 0, 0, 0, 0, 692), (55, .if_icmp .ge 77, 58, 132, 0, 0, 0, 0, 0), (58, .aload_n 0, 59, 0, 0, 0, 0, 0, 0), (59, .getfield 60, 62, 6, 19, 0, 0, 0, 711), (62, .bipush 9, 64, 0, 0, 0, 9, 0, 0), (64, .iconst 3, 65, 0, 0, 0, 3, 0, 0), (65, .iload 7, 67, 7, 0, 0, 0, 0, 0), (67, .imul, 68, 0, 0, 0, 0, 0, 0), (68, .iload 9, 70, 9, 0, 0, 0, 0, 0), (70, .iadd, 71, 0, 0, 0, 0, 0, 0), (71, .imul, 72, 0, 0, 0, 0, 0, 0), (72, .iload 5, 74, 5, 0, 0, 0, 0, 0), (74, .iadd, 75, 0, 0, 0, 0, 0, 0), (75, .laload, 76, 0, 0, 0, 0, 0, 0), (76, .lconst 0, 77, 0, 0, 0, 0, 0, 0), (77, .lcmp, 78, 0, 0, 0, 0, 0, 0), (78, .ifCond .le 7, 81, 85, 0, 0, 0, 0, 0), (81, .iconst 1, 82, 0, 0, 0, 1, 0, 0), (82, .goto 4, 85, 86, 0, 0, 0, 0, 0), (85, .iconst 0, 86, 0, 0, 0, 0, 0, 0), (86, .istore 10, 88, 10, 0, 0, 0, 0, 0), (88, .iload 6, 90, 6, 0, 0, 0, 0, 0), (90, .ifCond .ne 29, 93, 119, 0, 0, 0, 0, 0), (93, .iload 10, 95, 10, 0, 0, 0, 0, 0), (95, .ifCond .eq 28, 98, 123, 0, 0, 0, 0, 0), (98, .iload 8, 100, 8, 0, 0, 0, 0, 0), (100, .ifCond .lt 19, 103, 119, 0, 0, 0, 0, 0), (103, .iload 4, 105, 4, 0, 0, 0, 0, 0), (105, .iconst 3, 106, 0, 0, 0, 3, 0, 0), (106, .iload 8, 108, 8, 0, 0, 0, 0, 0), (108, .imul, 109, 0, 0, 0, 0, 0, 0), (109, .iload 9, 111, 9, 0, 0, 0, 0, 0), (111, .iadd, 112, 0, 0, 0, 0, 0, 0), (112, .ishr, 113, 0, 0, 0, 0, 0, 0), (113, .iconst 1, 114, 0, 0, 0, 1, 0, 0), (114, .iand, 115, 0, 0, 0, 0, 0, 0), (115, .iconst 1, 116, 0, 0, 0, 1, 0, 0), (116, .if_icmp .ne 7, 119, 123, 0, 0, 0, 0, 0), (119, .iconst 1, 120, 0, 0, 0, 1, 0, 0), (120, .goto 4, 123, 124, 0, 0, 0, 0, 0), (123, .iconst 0, 124, 0, 0, 0, 0, 0, 0), (124, .istore 6, 126, 6, 0, 0, 0, 0, 0), (126, .iinc 9 1, 129, 9, 0, 0, 1, 0, 0), (129, .goto (-80), 132, 49, 0, 0, 0, 0, 0), (132, .iinc 7 1, 135, 7, 0, 0, 1, 0, 0), (135, .goto (-122), 138, 13, 0, 0, 0, 0, 0), (138, .iload 6, 140, 6, 0, 0, 0, 0, 0), (140, .ireturn, 141, 0, 0, 0, 0, 0, 0)]
theorem ok_Mo_goes : cd_Mo_goes.all (jm_okE "ShareSolveModel" prog_8_method_24_code 11 0 0 false false (some (.boolean))) = true := by decide +kernel
def cd_Mo_freeze : List jm_e := [(0, .aload_n 0, 1, 0, 0, 0, 0, 0, 0), (1, .getfield 94, 4, 6, 33, 0, 0, 0, 725), (4, .iconst 1, 5, 0, 0, 0, 1, 0, 0), (5, .dup2, 6, 0, 0, 0, 0, 0, 0), (6, .iaload, 7, 0, 0, 0, 0, 0, 0), (7, .iconst 1, 8, 0, 0, 0, 1, 0, 0), (8, .iadd, 9, 0, 0, 0, 0, 0, 0), (9, .iastore, 10, 0, 0, 0, 0, 0, 0), (10, .aload_n 0, 11, 0, 0, 0, 0, 0, 0), (11, .getfield 7, 14, 6, 1, 0, 0, 0, 693), (14, .iconst 1, 15, 0, 0, 0, 1, 0, 0), (15, .aload_n 0, 16, 0, 0, 0, 0, 0, 0), (16, .getfield 7, 19, 6, 1, 0, 0, 0, 693), (19, .iconst 0, 20, 0, 0, 0, 0, 0, 0), (20, .iaload, 21, 0, 0, 0, 0, 0, 0), (21, .iastore, 22, 0, 0, 0, 0, 0, 0), (22, .aload_n 0, 23, 0, 0, 0, 0, 0, 0), (23, .getfield 13, 26, 6, 2, 0, 0, 0, 694), (26, .iconst 1, 27, 0, 0, 0, 1, 0, 0), (27, .aload_n 0, 28, 0, 0, 0, 0, 0, 0), (28, .getfield 13, 31, 6, 2, 0, 0, 0, 694), (31, .iconst 0, 32, 0, 0, 0, 0, 0, 0), (32, .iaload, 33, 0, 0, 0, 0, 0, 0), (33, .iastore, 34, 0, 0, 0, 0, 0, 0), (34, .iconst 0, 35, 0, 0, 0, 0, 0, 0), (35, .istore_n 1, 36, 1, 0, 0, 0, 0, 0), (36, .iload_n 1, 37, 1, 0, 0, 0, 0, 0), (37, .bipush 18, 39, 0, 0, 0, 18, 0, 0), (39, .if_icmp .ge 39, 42, 78, 0, 0, 0, 0, 0), (42, .aload_n 0, 43, 0, 0, 0, 0, 0, 0), (43, .getfield 22, 46, 6, 5, 0, 0, 0, 697), (46, .bipush 18, 48, 0, 0, 0, 18, 0, 0), (48, .iload_n 1, 49, 1, 0, 0, 0, 0, 0), (49, .iadd, 50, 0, 0, 0, 0, 0, 0), (50, .aload_n 0, 51, 0, 0, 0, 0, 0, 0), (51, .getfield 22, 54, 6, 5, 0, 0, 0, 697), (54, .iload_n 1, 55, 1, 0, 0, 0, 0, 0), (55, .iaload, 56, 0, 0, 0, 0, 0, 0), (56, .iastore, 57, 0, 0, 0, 0, 0, 0), (57, .aload_n 0, 58, 0, 0, 0, 0, 0, 0), (58, .getfield 25, 61, 6, 6, 0, 0, 0, 698), (61, .bipush 18, 63, 0, 0, 0, 18, 0, 0), (63, .iload_n 1, 64, 1, 0, 0, 0, 0, 0), (64, .iadd, 65, 0, 0, 0, 0, 0, 0), (65, .aload_n 0, 66, 0, 0, 0, 0, 0, 0), (66, .getfield 25, 69, 6, 6, 0, 0, 0, 698), (69, .iload_n 1, 70, 1, 0, 0, 0, 0, 0), (70, .iaload, 71, 0, 0, 0, 0, 0, 0), (71, .iastore, 72, 0, 0, 0, 0, 0, 0), (72, .iinc 1 1, 75, 1, 0, 0, 1, 0, 0), (75, .goto (-39), 78, 36, 0, 0, 0, 0, 0), (78, .iconst 0, 79, 0, 0, 0, 0, 0, 0), (79, .istore_n 1, 80, 1, 0, 0, 0, 0, 0), (80, .iload_n 1, 81, 1, 0, 0, 0, 0, 0), (81, .bipush 9, 83, 0, 0, 0, 9, 0, 0), (83, .if_icmp .ge 84, 86, 167, 0, 0, 0, 0, 0), (86, .aload_n 0, 87, 0, 0, 0, 0, 0, 0), (87, .getfield 19, 90, 6, 4, 0, 0, 0, 696), (90, .bipush 9, 92, 0, 0, 0, 9, 0, 0), (92, .iload_n 1, 93, 1, 0, 0, 0, 0, 0), (93, .iadd, 94, 0, 0, 0, 0, 0, 0), (94, .aload_n 0, 95, 0, 0, 0, 0, 0, 0), (95, .getfield 19, 98, 6, 4, 0, 0, 0, 696), (98, .iload_n 1, 99, 1, 0, 0, 0, 0, 0), (99, .iaload, 100, 0, 0, 0, 0, 0, 0), (100, .iastore, 101, 0, 0, 0, 0, 0, 0), (101, .aload_n 0, 102, 0, 0, 0, 0, 0, 0), (102, .getfield 28, 105, 6, 7, 0, 0, 0, 699), (105, .bipush 9, 107, 0, 0, 0, 9, 0, 0), (107, .iload_n 1, 108, 1, 0, 0, 0, 0, 0), (108, .iadd, 109, 0, 0, 0, 0, 0, 0), (109, .aload_n 0, 110, 0, 0, 0, 0, 0, 0), (110, .getfield 28, 113, 6, 7, 0, 0, 0, 699), (113, .iload_n 1, 114, 1, 0, 0, 0, 0, 0), (114, .iaload, 115, 0, 0, 0, 0, 0, 0), (115, .iastore, 116, 0, 0, 0, 0, 0, 0), (116, .aload_n 0, 117, 0, 0, 0, 0, 0, 0), (117, .getfield 31, 120, 6, 8, 0, 0, 0, 700), (120, .bipush 9, 122, 0, 0, 0, 9, 0, 0), (122, .iload_n 1, 123, 1, 0, 0, 0, 0, 0), (123, .iadd, 124, 0, 0, 0, 0, 0, 0), (124, .aload_n 0, 125, 0, 0, 0, 0, 0, 0), (125, .getfield 31, 128, 6, 8, 0, 0, 0, 700), (128, .iload_n 1, 129, 1, 0, 0, 0, 0, 0), (129, .iaload, 130, 0, 0, 0, 0, 0, 0), (130, .iastore, 131, 0, 0, 0, 0, 0, 0), (131, .aload_n 0, 132, 0, 0, 0, 0, 0, 0), (132, .getfield 34, 135, 6, 9, 0, 0, 0, 701), (135, .bipush 9, 137, 0, 0, 0, 9, 0, 0), (137, .iload_n 1, 138, 1, 0, 0, 0, 0, 0), (138, .iadd, 139, 0, 0, 0, 0, 0, 0), (139, .aload_n 0, 140, 0, 0, 0, 0, 0, 0), (140, .getfield 34, 143, 6, 9, 0, 0, 0, 701), (143, .iload_n 1, 144, 1, 0, 0, 0, 0, 0), (144, .iaload, 145, 0, 0, 0, 0, 0, 0), (145, .iastore, 146, 0, 0, 0, 0, 0, 0), (146, .aload_n 0, 147, 0, 0, 0, 0, 0, 0), (147, .getfield 37, 150, 6, 10, 0, 0, 0, 702), (150, .bipush 9, 152, 0, 0, 0, 9, 0, 0), (152, .iload_n 1, 153, 1, 0, 0, 0, 0, 0), (153, .iadd, 154, 0, 0, 0, 0, 0, 0), (154, .aload_n 0, 155, 0, 0, 0, 0, 0, 0), (155, .getfield 37, 158, 6, 10, 0, 0, 0, 702), (158, .iload_n 1, 159, 1, 0, 0, 0, 0, 0), (159, .iaload, 160, 0, 0, 0, 0, 0, 0), (160, .iastore, 161, 0, 0, 0, 0, 0, 0), (161, .iinc 1 1, 164, 1, 0, 0, 1, 0, 0), (164, .goto (-84), 167, 80, 0, 0, 0, 0, 0), (167, .iconst 0, 168, 0, 0, 0, 0, 0, 0), (168, .istore_n 1, 169, 1, 0, 0, 0, 0, 0), (169, .iload_n 1, 170, 1, 0, 0, 0, 0, 0), (170, .iconst 3, 171, 0, 0, 0, 3, 0, 0), (171, .if_icmp .ge 23, 174, 194, 0, 0, 0, 0, 0), (174, .aload_n 0, 175, 0, 0, 0, 0, 0, 0), (175, .getfield 16, 178, 6, 3, 0, 0, 0, 695), (178, .iconst 3, 179, 0, 0, 0, 3, 0, 0), (179, .iload_n 1, 180, 1, 0, 0, 0, 0, 0), (180, .iadd, 181, 0, 0, 0, 0, 0, 0), (181, .aload_n 0, 182, 0, 0, 0, 0, 0, 0), (182, .getfield 16, 185, 6, 3, 0, 0, 0, 695), (185, .iload_n 1, 186, 1, 0, 0, 0, 0, 0), (186, .iaload, 187, 0, 0, 0, 0, 0, 0), (187, .iastore, 188, 0, 0, 0, 0, 0, 0), (188, .iinc 1 1, 191, 1, 0, 0, 1, 0, 0), (191, .goto (-22), 194, 169, 0, 0, 0, 0, 0), (194, .return_, 195, 0, 0, 0, 0, 0, 0)]
theorem ok_Mo_freeze : cd_Mo_freeze.all (jm_okE "ShareSolveModel" prog_8_method_17_code 2 0 0 false false none) = true := by decide +kernel
def cd_Mo_out : List jm_e := [(0, .aload_n 0, 1, 0, 0, 0, 0, 0, 0), (1, .getfield 260, 4, 6, 14, 0, 0, 0, 706), (4, .ifCond .eq 35, 7, 39, 0, 0, 0, 0, 0), (7, .iload_n 1, 8, 1, 0, 0, 0, 0, 0), (8, .ifCond .lt 31, 11, 39, 0, 0, 0, 0, 0), (11, .iload_n 1, 12, 1, 0, 0, 0, 0, 0), (12, .aload_n 0, 13, 0, 0, 0, 0, 0, 0), (13, .getfield 13, 16, 6, 2, 0, 0, 0, 694), (16, .iconst 1, 17, 0, 0, 0, 1, 0, 0), (17, .iaload, 18, 0, 0, 0, 0, 0, 0), (18, .if_icmp .ge 21, 21, 39, 0, 0, 0, 0, 0), (21, .aload_n 0, 22, 0, 0, 0, 0, 0, 0), (22, .iload_n 2, 23, 2, 0, 0, 0, 0, 0), (23, .invokevirtual 133, 26, 99, 2, 6, 0, 0, 827), (26, .ifCond .eq 13, 29, 39, 0, 0, 0, 0, 0), (29, .iload_n 3, 30, 3, 0, 0, 0, 0, 0), (30, .ifCond .lt 9, 33, 39, 0, 0, 0, 0, 0), (33, .iload_n 3, 34, 3, 0, 0, 0, 0, 0), (34, .bipush 6, 36, 0, 0, 0, 6, 0, 0), (36, .if_icmp .le 7, 39, 43, 0, 0, 0, 0, 0), (39, .ldc2_w 223, 42, 0, 0, 0, 0, (-1), 893), (42, .lreturn, 43, 0, 0, 0, 0, 0, 0), (43, .aload_n 0, 44, 0, 0, 0, 0, 0, 0), (44, .iconst 1, 45, 0, 0, 0, 1, 0, 0), (45, .invokevirtual 266, 48, 115, 2, 6, 0, 0, 894), (48, .aload_n 0, 49, 0, 0, 0, 0, 0, 0), (49, .iconst 1, 50, 0, 0, 0, 1, 0, 0), (50, .iload_n 1, 51, 1, 0, 0, 0, 0, 0), (51, .iload_n 2, 52, 2, 0, 0, 0, 0, 0), (52, .invokevirtual 269, 55, 127, 4, 6, 0, 0, 942), (55, .aload_n 0, 56, 0, 0, 0, 0, 0, 0), (56, .iconst 1, 57, 0, 0, 0, 1, 0, 0), (57, .iconst 0, 58, 0, 0, 0, 0, 0, 0), (58, .invokevirtual 272, 61, 128, 3, 6, 0, 0, 946), (61, .aload_n 0, 62, 0, 0, 0, 0, 0, 0), (62, .iload_n 3, 63, 3, 0, 0, 0, 0, 0), (63, .iconst 0, 64, 0, 0, 0, 0, 0, 0), (64, .invokevirtual 275, 67, 129, 3, 6, 0, 0, 950), (67, .lreturn, 68, 0, 0, 0, 0, 0, 0)]
theorem ok_Mo_out : cd_Mo_out.all (jm_okE "ShareSolveModel" prog_8_method_52_code 4 6 159 false false (some (.long))) = true := by decide +kernel
def cd_Mo_prepare : List jm_e := [(0, .aload_n 0, 1, 0, 0, 0, 0, 0, 0), (1, .iload_n 1, 2, 1, 0, 0, 0, 0, 0), (2, .invokevirtual 242, 5, 106, 2, 6, 0, 0, 857), (5, .aload_n 0, 6, 0, 0, 0, 0, 0, 0), (6, .getfield 90, 9, 6, 31, 0, 0, 0, 723), (9, .iload_n 1, 10, 1, 0, 0, 0, 0, 0), (10, .if_icmp .ne 16, 13, 26, 0, 0, 0, 0, 0), (13, .aload_n 0, 14, 0, 0, 0, 0, 0, 0), (14, .getfield 245, 17, 6, 32, 0, 0, 0, 724), (17, .aload_n 0, 18, 0, 0, 0, 0, 0, 0), (18, .getfield 94, 21, 6, 33, 0, 0, 0, 725), (21, .iload_n 1, 22, 1, 0, 0, 0, 0, 0), (22, .iaload, 23, 0, 0, 0, 0, 0, 0), (23, .if_icmp .eq 22, 26, 45, 0, 0, 0, 0, 0), (26, .aload_n 0, 27, 0, 0, 0, 0, 0, 0), (27, .invokevirtual 248, 30, 116, 1, 6, 0, 0, 898), (30, .aload_n 0, 31, 0, 0, 0, 0, 0, 0), (31, .iload_n 1, 32, 1, 0, 0, 0, 0, 0), (32, .putfield 90, 35, 6, 31, 0, 0, 0, 723), (35, .aload_n 0, 36, 0, 0, 0, 0, 0, 0), (36, .aload_n 0, 37, 0, 0, 0, 0, 0, 0), (37, .getfield 94, 40, 6, 33, 0, 0, 0, 725), (40, .iload_n 1, 41, 1, 0, 0, 0, 0, 0), (41, .iaload, 42, 0, 0, 0, 0, 0, 0), (42, .putfield 245, 45, 6, 32, 0, 0, 0, 724), (45, .aload_n 0, 46, 0, 0, 0, 0, 0, 0), (46, .iconst 1, 47, 0, 0, 0, 1, 0, 0), (47, .invokevirtual 251, 50, 121, 2, 6, 0, 0, 917), (50, .aload_n 0, 51, 0, 0, 0, 0, 0, 0), (51, .invokevirtual 254, 54, 126, 1, 6, 0, 0, 938), (54, .return_, 55, 0, 0, 0, 0, 0, 0)]
theorem ok_Mo_prepare : cd_Mo_prepare.all (jm_okE "ShareSolveModel" prog_8_method_50_code 2 5 138 false false none) = true := by decide +kernel
def cd_Mo_turn : List jm_e := [(0, .iconst 0, 1, 0, 0, 0, 0, 0, 0), (1, .istore_n 1, 2, 1, 0, 0, 0, 0, 0), (2, .iload_n 1, 3, 1, 0, 0, 0, 0, 0), (3, .bipush 8, 5, 0, 0, 0, 8, 0, 0), (5, .if_icmp .ge 20, 8, 25, 0, 0, 0, 0, 0), (8, .aload_n 0, 9, 0, 0, 0, 0, 0, 0), (9, .iload_n 1, 10, 1, 0, 0, 0, 0, 0), (10, .aload_n 0, 11, 0, 0, 0, 0, 0, 0), (11, .getfield 51, 14, 6, 16, 0, 0, 0, 708), (14, .iload_n 1, 15, 1, 0, 0, 0, 0, 0), (15, .laload, 16, 0, 0, 0, 0, 0, 0), (16, .invokevirtual 178, 19, 117, 3, 6, 0, 0, 902), (19, .iinc 1 1, 22, 1, 0, 0, 1, 0, 0), (22, .goto (-20), 25, 2, 0, 0, 0, 0, 0), (25, .return_, 26, 0, 0, 0, 0, 0, 0)]
theorem ok_Mo_turn : cd_Mo_turn.all (jm_okE "ShareSolveModel" prog_8_method_27_code 2 3 83 false false none) = true := by decide +kernel
def cd_Mo_turnBy : List jm_e := [(0, .iconst 0, 1, 0, 0, 0, 0, 0, 0), (1, .istore 4, 3, 4, 0, 0, 0, 0, 0), (3, .iload 4, 5, 4, 0, 0, 0, 0, 0), (5, .bipush 9, 7, 0, 0, 0, 9, 0, 0), (7, .if_icmp .ge 94, 10, 101, 0, 0, 0, 0, 0), (10, .iconst 0, 11, 0, 0, 0, 0, 0, 0), (11, .istore 5, 13, 5, 0, 0, 0, 0, 0), (13, .iload 5, 15, 5, 0, 0, 0, 0, 0), (15, .bipush 9, 17, 0, 0, 0, 9, 0, 0), (17, .if_icmp .ge 78, 20, 95, 0, 0, 0, 0, 0), (20, .iload 4, 22, 4, 0, 0, 0, 0, 0), (22, .iload 5, 24, 5, 0, 0, 0, 0, 0), (24, .if_icmp .ne 13, 27, 37, 0, 0, 0, 0, 0), (27, .aload_n 0, 28, 0, 0, 0, 0, 0, 0), (28, .getfield 54, 31, 6, 17, 0, 0, 0, 709), (31, .iload 5, 33, 5, 0, 0, 0, 0, 0), (33, .laload, 34, 0, 0, 0, 0, 0, 0), (34, .goto 4, 37, 38, 0, 0, 0, 0, 0), (37, .lconst 0, 38, 0, 0, 0, 0, 0, 0), (38, .aload_n 0, 39, 0, 0, 0, 0, 0, 0), (39, .getfield 57, 42, 6, 18, 0, 0, 0, 710), (42, .bipush 9, 44, 0, 0, 0, 9, 0, 0), (44, .iload 4, 46, 4, 0, 0, 0, 0, 0), (46, .imul, 47, 0, 0, 0, 0, 0, 0), (47, .iload 5, 49, 5, 0, 0, 0, 0, 0), (49, .iadd, 50, 0, 0, 0, 0, 0, 0), (50, .laload, 51, 0, 0, 0, 0, 0, 0), (51, .lsub, 52, 0, 0, 0, 0, 0, 0), (52, .lstore 6, 54, 6, 0, 0, 0, 0, 0), (54, .aload_n 0, 55, 0, 0, 0, 0, 0, 0), (55, .getfield 63, 58, 6, 20, 0, 0, 0, 712), (58, .bipush 9, 60, 0, 0, 0, 9, 0, 0), (60, .iload 4, 62, 4, 0, 0, 0, 0, 0), (62, .imul, 63, 0, 0, 0, 0, 0, 0), (63, .iload 5, 65, 5, 0, 0, 0, 0, 0), (65, .iadd, 66, 0, 0, 0, 0, 0, 0), (66, .lload 6, 68, 6, 0, 0, 0, 0, 0), (68, .lload_n 2, 69, 2, 0, 0, 0, 0, 0), (69, .lrem, 70, 0, 0, 0, 0, 0, 0), (70, .lload_n 2, 71, 2, 0, 0, 0, 0, 0), (71, .ladd, 72, 0, 0, 0, 0, 0, 0), (72, .lload_n 2, 73, 2, 0, 0, 0, 0, 0), (73, .lrem, 74, 0, 0, 0, 0, 0, 0), (74, .lastore, 75, 0, 0, 0, 0, 0, 0), (75, .aload_n 0, 76, 0, 0, 0, 0, 0, 0), (76, .getfield 66, 79, 6, 21, 0, 0, 0, 713), (79, .bipush 9, 81, 0, 0, 0, 9, 0, 0), (81, .iload 4, 83, 4, 0, 0, 0, 0, 0), (83, .imul, 84, 0, 0, 0, 0, 0, 0), (84, .iload 5, 86, 5, 0, 0, 0, 0, 0), (86, .iadd, 87, 0, 0, 0, 0, 0, 0), (87, .lconst 0, 88, 0, 0, 0, 0, 0, 0), (88, .lastore, 89, 0, 0, 0, 0, 0, 0), (89, .iinc 5 1, 92, 5, 0, 0, 1, 0, 0), (92, .goto (-79), 95, 13, 0, 0, 0, 0, 0), (95, .iinc 4 1, 98, 4, 0, 0, 1, 0, 0), (98, .goto (-95), 101, 3, 0, 0, 0, 0, 0), (101, .lconst 1, 102, 0, 0, 0, 0, 1, 0), (102, .lstore 4, 104, 4, 0, 0, 0, 0, 0), (104, .iconst 1, 105, 0, 0, 0, 1, 0, 0), (105, .istore 6, 107, 6, 0, 0, 0, 0, 0), (107, .iload 6, 109, 6, 0, 0, 0, 0, 0), (109, .bipush 9, 111, 0, 0, 0, 9, 0, 0), (111, .if_icmp .gt 144, 114, 255, 0, 0, 0, 0, 0), (114, .aload_n 0, 115, 0, 0, 0, 0, 0, 0), (115, .lload_n 2, 116, 2, 0, 0, 0, 0, 0), (116, .invokevirtual 182, 119, 118, 2, 6, 0, 0, 906), (119, .iconst 0, 120, 0, 0, 0, 0, 0, 0), (120, .istore 7, 122, 7, 0, 0, 0, 0, 0), (122, .iload 7, 124, 7, 0, 0, 0, 0, 0), (124, .bipush 9, 126, 0, 0, 0, 9, 0, 0), (126, .if_icmp .ge 34, 129, 160, 0, 0, 0, 0, 0), (129, .aload_n 0, 130, 0, 0, 0, 0, 0, 0), (130, .getfield 69, 133, 6, 22, 0, 0, 0, 714), (133, .bipush 10, 135, 0, 0, 0, 10, 0, 0), (135, .iload 7, 137, 7, 0, 0, 0, 0, 0), (137, .imul, 138, 0, 0, 0, 0, 0, 0), (138, .aload_n 0, 139, 0, 0, 0, 0, 0, 0), (139, .getfield 69, 142, 6, 22, 0, 0, 0, 714), (142, .bipush 10, 144, 0, 0, 0, 10, 0, 0), (144, .iload 7, 146, 7, 0, 0, 0, 0, 0), (146, .imul, 147, 0, 0, 0, 0, 0, 0), (147, .laload, 148, 0, 0, 0, 0, 0, 0), (148, .lload 4, 150, 4, 0, 0, 0, 0, 0), (150, .ladd, 151, 0, 0, 0, 0, 0, 0), (151, .lload_n 2, 152, 2, 0, 0, 0, 0, 0), (152, .lrem, 153, 0, 0, 0, 0, 0, 0), (153, .lastore, 154, 0, 0, 0, 0, 0, 0), (154, .iinc 7 1, 157, 7, 0, 0, 1, 0, 0), (157, .goto (-35), 160, 122, 0, 0, 0, 0, 0), (160, .iconst 0, 161, 0, 0, 0, 0, 0, 0), (161, .istore 7, 163, 7, 0, 0, 0, 0, 0), (163, .iload 7, 165, 7, 0, 0, 0, 0, 0), (165, .bipush 81, 167, 0, 0, 0, 81, 0, 0), (167, .if_icmp .ge 23, 170, 190, 0, 0, 0, 0, 0), (170, .aload_n 0, 171, 0, 0, 0, 0, 0, 0), (171, .getfield 66, 174, 6, 21, 0, 0, 0, 713), (174, .iload 7, 176, 7, 0, 0, 0, 0, 0), (176, .aload_n 0, 177, 0, 0, 0, 0, 0, 0), (177, .getfield 69, 180, 6, 22, 0, 0, 0, 714), (180, .iload 7, 182, 7, 0, 0, 0, 0, 0), (182, .laload, 183, 0, 0, 0, 0, 0, 0), (183, .lastore, 184, 0, 0, 0, 0, 0, 0), (184, .iinc 7 1, 187, 7, 0, 0, 1, 0, 0), (187, .goto (-24), 190, 163, 0, 0, 0, 0, 0), (190, .aload_n 0, 191, 0, 0, 0, 0, 0, 0), (191, .lload_n 2, 192, 2, 0, 0, 0, 0, 0), (192, .invokevirtual 182, 195, 118, 2, 6, 0, 0, 906), (195, .lconst 0, 196, 0, 0, 0, 0, 0, 0), (196, .lstore 7, 198, 7, 0, 0, 0, 0, 0), (198, .iconst 0, 199, 0, 0, 0, 0, 0, 0), (199, .istore 9, 201, 9, 0, 0, 0, 0, 0), (201, .iload 9, 203, 9, 0, 0, 0, 0, 0), (203, .bipush 9, 205, 0, 0, 0, 9, 0, 0), (205, .if_icmp .ge 24, 208, 229, 0, 0, 0, 0, 0), (208, .lload 7, 210, 7, 0, 0, 0, 0, 0), (210, .aload_n 0, 211, 0, 0, 0, 0, 0, 0), (211, .getfield 69, 214, 6, 22, 0, 0, 0, 714), (214, .bipush 10, 216, 0, 0, 0, 10, 0, 0), (216, .iload 9, 218, 9, 0, 0, 0, 0, 0), (218, .imul, 219, 0, 0, 0, 0, 0, 0), (219, .laload, 220, 0, 0, 0, 0, 0, 0), (220, .ladd, 221, 0, 0, 0, 0, 0, 0), (221, .lstore 7, 223, 7, 0, 0, 0, 0, 0), (223, .iinc 9 1, 226, 9, 0, 0, 1, 0, 0), (226, .goto (-25), 229, 201, 0, 0, 0, 0, 0), (229, .lload_n 2, 230, 2, 0, 0, 0, 0, 0), (230, .lload 7, 232, 7, 0, 0, 0, 0, 0), (232, .lload_n 2, 233, 2, 0, 0, 0, 0, 0), (233, .lrem, 234, 0, 0, 0, 0, 0, 0), (234, .lsub, 235, 0, 0, 0, 0, 0, 0), (235, .lload_n 2, 236, 2, 0, 0, 0, 0, 0), (236, .lrem, 237, 0, 0, 0, 0, 0, 0), (237, .iload 6, 239, 6, 0, 0, 0, 0, 0), (239, .i2l, 240, 0, 0, 0, 0, 0, 0), (240, .lload_n 2, 241, 2, 0, 0, 0, 0, 0), (241, .invokestatic 186, 244, 119, 2, 0, 0, 0, 910), (244, .lmul, 245, 0, 0, 0, 0, 0, 0), (245, .lload_n 2, 246, 2, 0, 0, 0, 0, 0), (246, .lrem, 247, 0, 0, 0, 0, 0, 0), (247, .lstore 4, 249, 4, 0, 0, 0, 0, 0), (249, .iinc 6 1, 252, 6, 0, 0, 1, 0, 0), (252, .goto (-145), 255, 107, 0, 0, 0, 0, 0), (255, .aload_n 0, 256, 0, 0, 0, 0, 0, 0), (256, .getfield 75, 259, 6, 24, 0, 0, 0, 716), (259, .iload_n 1, 260, 1, 0, 0, 0, 0, 0), (260, .lload_n 2, 261, 2, 0, 0, 0, 0, 0), (261, .lload 4, 263, 4, 0, 0, 0, 0, 0), (263, .lsub, 264, 0, 0, 0, 0, 0, 0), (264, .lload_n 2, 265, 2, 0, 0, 0, 0, 0), (265, .lrem, 266, 0, 0, 0, 0, 0, 0), (266, .lastore, 267, 0, 0, 0, 0, 0, 0), (267, .iconst 0, 268, 0, 0, 0, 0, 0, 0), (268, .istore 6, 270, 6, 0, 0, 0, 0, 0), (270, .iload 6, 272, 6, 0, 0, 0, 0, 0), (272, .bipush 81, 274, 0, 0, 0, 81, 0, 0), (274, .if_icmp .ge 28, 277, 302, 0, 0, 0, 0, 0), (277, .aload_n 0, 278, 0, 0, 0, 0, 0, 0), (278, .getfield 72, 281, 6, 23, 0, 0, 0, 715), (281, .bipush 81, 283, 0, 0, 0, 81, 0, 0), (283, .iload_n 1, 284, 1, 0, 0, 0, 0, 0), (284, .imul, 285, 0, 0, 0, 0, 0, 0), (285, .iload 6, 287, 6, 0, 0, 0, 0, 0), (287, .iadd, 288, 0, 0, 0, 0, 0, 0), (288, .aload_n 0, 289, 0, 0, 0, 0, 0, 0), (289, .getfield 66, 292, 6, 21, 0, 0, 0, 713), (292, .iload 6, 294, 6, 0, 0, 0, 0, 0), (294, .laload, 295, 0, 0, 0, 0, 0, 0), (295, .lastore, 296, 0, 0, 0, 0, 0, 0), (296, .iinc 6 1, 299, 6, 0, 0, 1, 0, 0), (299, .goto (-29), 302, 270, 0, 0, 0, 0, 0), (302, .return_, 303, 0, 0, 0, 0, 0, 0)]
theorem ok_Mo_turnBy : cd_Mo_turnBy.all (jm_okE "ShareSolveModel" prog_8_method_28_code 10 2 54 false false none) = true := by decide +kernel
def cd_Mo_multiply_1 : List jm_e := [(0, .iconst 0, 1, 0, 0, 0, 0, 0, 0), (1, .istore_n 3, 2, 3, 0, 0, 0, 0, 0), (2, .iload_n 3, 3, 3, 0, 0, 0, 0, 0), (3, .bipush 9, 5, 0, 0, 0, 9, 0, 0), (5, .if_icmp .ge 91, 8, 96, 0, 0, 0, 0, 0), (8, .iconst 0, 9, 0, 0, 0, 0, 0, 0), (9, .istore 4, 11, 4, 0, 0, 0, 0, 0), (11, .iload 4, 13, 4, 0, 0, 0, 0, 0), (13, .bipush 9, 15, 0, 0, 0, 9, 0, 0), (15, .if_icmp .ge 75, 18, 90, 0, 0, 0, 0, 0), (18, .lconst 0, 19, 0, 0, 0, 0, 0, 0), (19, .lstore 5, 21, 5, 0, 0, 0, 0, 0), (21, .iconst 0, 22, 0, 0, 0, 0, 0, 0), (22, .istore 7, 24, 7, 0, 0, 0, 0, 0), (24, .iload 7, 26, 7, 0, 0, 0, 0, 0), (26, .bipush 9, 28, 0, 0, 0, 9, 0, 0), (28, .if_icmp .ge 42, 31, 70, 0, 0, 0, 0, 0), (31, .lload 5, 33, 5, 0, 0, 0, 0, 0), (33, .aload_n 0, 34, 0, 0, 0, 0, 0, 0), (34, .getfield 63, 37, 6, 20, 0, 0, 0, 712), (37, .bipush 9, 39, 0, 0, 0, 9, 0, 0), (39, .iload_n 3, 40, 3, 0, 0, 0, 0, 0), (40, .imul, 41, 0, 0, 0, 0, 0, 0), (41, .iload 7, 43, 7, 0, 0, 0, 0, 0), (43, .iadd, 44, 0, 0, 0, 0, 0, 0), (44, .laload, 45, 0, 0, 0, 0, 0, 0), (45, .aload_n 0, 46, 0, 0, 0, 0, 0, 0), (46, .getfield 66, 49, 6, 21, 0, 0, 0, 713), (49, .bipush 9, 51, 0, 0, 0, 9, 0, 0), (51, .iload 7, 53, 7, 0, 0, 0, 0, 0), (53, .imul, 54, 0, 0, 0, 0, 0, 0), (54, .iload 4, 56, 4, 0, 0, 0, 0, 0), (56, .iadd, 57, 0, 0, 0, 0, 0, 0), (57, .laload, 58, 0, 0, 0, 0, 0, 0), (58, .lmul, 59, 0, 0, 0, 0, 0, 0), (59, .ladd, 60, 0, 0, 0, 0, 0, 0), (60, .lload_n 1, 61, 1, 0, 0, 0, 0, 0), (61, .lrem, 62, 0, 0, 0, 0, 0, 0), (62, .lstore 5, 64, 5, 0, 0, 0, 0, 0), (64, .iinc 7 1, 67, 7, 0, 0, 1, 0, 0), (67, .goto (-43), 70, 24, 0, 0, 0, 0, 0), (70, .aload_n 0, 71, 0, 0, 0, 0, 0, 0), (71, .getfield 69, 74, 6, 22, 0, 0, 0, 714), (74, .bipush 9, 76, 0, 0, 0, 9, 0, 0), (76, .iload_n 3, 77, 3, 0, 0, 0, 0, 0), (77, .imul, 78, 0, 0, 0, 0, 0, 0), (78, .iload 4, 80, 4, 0, 0, 0, 0, 0), (80, .iadd, 81, 0, 0, 0, 0, 0, 0), (81, .lload 5, 83, 5, 0, 0, 0, 0, 0), (83, .lastore, 84, 0, 0, 0, 0, 0, 0), (84, .iinc 4 1, 87, 4, 0, 0, 1, 0, 0), (87, .goto (-76), 90, 11, 0, 0, 0, 0, 0), (90, .iinc 3 1, 93, 3, 0, 0, 1, 0, 0), (93, .goto (-91), 96, 2, 0, 0, 0, 0, 0), (96, .return_, 97, 0, 0, 0, 0, 0, 0)]
theorem ok_Mo_multiply_1 : cd_Mo_multiply_1.all (jm_okE "ShareSolveModel" prog_8_method_29_code 8 0 0 false false none) = true := by decide +kernel
def cd_Mo_inverse : List jm_e := [(0, .lload_n 0, 1, 0, 0, 0, 0, 0, 0), (1, .lload_n 2, 2, 2, 0, 0, 0, 0, 0), (2, .ldc2_w 172, 5, 0, 0, 0, 0, 2, 913), (5, .lsub, 6, 0, 0, 0, 0, 0, 0), (6, .lload_n 2, 7, 2, 0, 0, 0, 0, 0), (7, .invokestatic 174, 10, 120, 3, 0, 0, 0, 914), (10, .lreturn, 11, 0, 0, 0, 0, 0, 0)]
theorem ok_Mo_inverse : cd_Mo_inverse.all (jm_okE "ShareSolveModel" prog_8_method_26_code 4 1 31 false false (some (.long))) = true := by decide +kernel
def cd_Mo_raise : List jm_e := [(0, .lconst 1, 1, 0, 0, 0, 0, 1, 0), (1, .lstore 6, 3, 6, 0, 0, 0, 0, 0), (3, .lload_n 0, 4, 0, 0, 0, 0, 0, 0), (4, .lstore 8, 6, 8, 0, 0, 0, 0, 0), (6, .lload_n 2, 7, 2, 0, 0, 0, 0, 0), (7, .lstore 10, 9, 10, 0, 0, 0, 0, 0), (9, .lload 10, 11, 10, 0, 0, 0, 0, 0), (11, .lconst 0, 12, 0, 0, 0, 0, 0, 0), (12, .lcmp, 13, 0, 0, 0, 0, 0, 0), (13, .ifCond .le 50, 16, 63, 0, 0, 0, 0, 0), (16, .lload 10, 18, 10, 0, 0, 0, 0, 0), (18, .ldc2_w 172, 21, 0, 0, 0, 0, 2, 913), (21, .lrem, 22, 0, 0, 0, 0, 0, 0), (22, .lconst 1, 23, 0, 0, 0, 0, 1, 0), (23, .lcmp, 24, 0, 0, 0, 0, 0, 0), (24, .ifCond .ne 14, 27, 38, 0, 0, 0, 0, 0), (27, .lload 6, 29, 6, 0, 0, 0, 0, 0), (29, .lload 8, 31, 8, 0, 0, 0, 0, 0), (31, .lmul, 32, 0, 0, 0, 0, 0, 0), (32, .lload 4, 34, 4, 0, 0, 0, 0, 0), (34, .lrem, 35, 0, 0, 0, 0, 0, 0), (35, .goto 5, 38, 40, 0, 0, 0, 0, 0), (38, .lload 6, 40, 6, 0, 0, 0, 0, 0), (40, .lstore 6, 42, 6, 0, 0, 0, 0, 0), (42, .lload 8, 44, 8, 0, 0, 0, 0, 0), (44, .lload 8, 46, 8, 0, 0, 0, 0, 0), (46, .lmul, 47, 0, 0, 0, 0, 0, 0), (47, .lload 4, 49, 4, 0, 0, 0, 0, 0), (49, .lrem, 50, 0, 0, 0, 0, 0, 0), (50, .lstore 8, 52, 8, 0, 0, 0, 0, 0), (52, .lload 10, 54, 10, 0, 0, 0, 0, 0), (54, .ldc2_w 172, 57, 0, 0, 0, 0, 2, 913), (57, .ldiv, 58, 0, 0, 0, 0, 0, 0), (58, .lstore 10, 60, 10, 0, 0, 0, 0, 0), (60, .goto (-51), 63, 9, 0, 0, 0, 0, 0), (63, .lload 6, 65, 6, 0, 0, 0, 0, 0), (65, .lreturn, 66, 0, 0, 0, 0, 0, 0)]
theorem ok_Mo_raise : cd_Mo_raise.all (jm_okE "ShareSolveModel" prog_8_method_25_code 12 0 0 false false (some (.long))) = true := by decide +kernel
def cd_Mo_gatherOver : List jm_e := [(0, .iconst 0, 1, 0, 0, 0, 0, 0, 0), (1, .istore_n 2, 2, 2, 0, 0, 0, 0, 0), (2, .iload_n 2, 3, 2, 0, 0, 0, 0, 0), (3, .bipush 8, 5, 0, 0, 0, 8, 0, 0), (5, .if_icmp .ge 21, 8, 26, 0, 0, 0, 0, 0), (8, .aload_n 0, 9, 0, 0, 0, 0, 0, 0), (9, .getfield 81, 12, 6, 26, 0, 0, 0, 718), (12, .iload_n 2, 13, 2, 0, 0, 0, 0, 0), (13, .aload_n 0, 14, 0, 0, 0, 0, 0, 0), (14, .getfield 75, 17, 6, 24, 0, 0, 0, 716), (17, .iload_n 2, 18, 2, 0, 0, 0, 0, 0), (18, .laload, 19, 0, 0, 0, 0, 0, 0), (19, .lastore, 20, 0, 0, 0, 0, 0, 0), (20, .iinc 2 1, 23, 2, 0, 0, 1, 0, 0), (23, .goto (-21), 26, 2, 0, 0, 0, 0, 0), (26, .aload_n 0, 27, 0, 0, 0, 0, 0, 0), (27, .iload_n 1, 28, 1, 0, 0, 0, 0, 0), (28, .invokevirtual 239, 31, 122, 2, 6, 0, 0, 921), (31, .return_, 32, 0, 0, 0, 0, 0, 0)]
theorem ok_Mo_gatherOver : cd_Mo_gatherOver.all (jm_okE "ShareSolveModel" prog_8_method_46_code 3 3 81 false false none) = true := by decide +kernel
def cd_Mo_gather : List jm_e := [(0, .iconst 0, 1, 0, 0, 0, 0, 0, 0), (1, .istore_n 2, 2, 2, 0, 0, 0, 0, 0), (2, .iload_n 2, 3, 2, 0, 0, 0, 0, 0), (3, .bipush 8, 5, 0, 0, 0, 8, 0, 0), (5, .if_icmp .ge 84, 8, 89, 0, 0, 0, 0, 0), (8, .aload_n 0, 9, 0, 0, 0, 0, 0, 0), (9, .getfield 81, 12, 6, 26, 0, 0, 0, 718), (12, .iload_n 2, 13, 2, 0, 0, 0, 0, 0), (13, .laload, 14, 0, 0, 0, 0, 0, 0), (14, .lstore_n 3, 15, 3, 0, 0, 0, 0, 0), (15, .iconst 0, 16, 0, 0, 0, 0, 0, 0), (16, .istore 5, 18, 5, 0, 0, 0, 0, 0), (18, .iload 5, 20, 5, 0, 0, 0, 0, 0), (20, .iload_n 2, 21, 2, 0, 0, 0, 0, 0), (21, .if_icmp .ge 55, 24, 76, 0, 0, 0, 0, 0), (24, .aload_n 0, 25, 0, 0, 0, 0, 0, 0), (25, .getfield 51, 28, 6, 16, 0, 0, 0, 708), (28, .iload_n 2, 29, 2, 0, 0, 0, 0, 0), (29, .laload, 30, 0, 0, 0, 0, 0, 0), (30, .lstore 6, 32, 6, 0, 0, 0, 0, 0), (32, .lload_n 3, 33, 3, 0, 0, 0, 0, 0), (33, .aload_n 0, 34, 0, 0, 0, 0, 0, 0), (34, .getfield 84, 37, 6, 27, 0, 0, 0, 719), (37, .iload 5, 39, 5, 0, 0, 0, 0, 0), (39, .laload, 40, 0, 0, 0, 0, 0, 0), (40, .lsub, 41, 0, 0, 0, 0, 0, 0), (41, .lload 6, 43, 6, 0, 0, 0, 0, 0), (43, .lrem, 44, 0, 0, 0, 0, 0, 0), (44, .lload 6, 46, 6, 0, 0, 0, 0, 0), (46, .ladd, 47, 0, 0, 0, 0, 0, 0), (47, .lload 6, 49, 6, 0, 0, 0, 0, 0), (49, .lrem, 50, 0, 0, 0, 0, 0, 0), (50, .aload_n 0, 51, 0, 0, 0, 0, 0, 0), (51, .getfield 51, 54, 6, 16, 0, 0, 0, 708), (54, .iload 5, 56, 5, 0, 0, 0, 0, 0), (56, .laload, 57, 0, 0, 0, 0, 0, 0), (57, .lload 6, 59, 6, 0, 0, 0, 0, 0), (59, .lrem, 60, 0, 0, 0, 0, 0, 0), (60, .lload 6, 62, 6, 0, 0, 0, 0, 0), (62, .invokestatic 186, 65, 119, 2, 0, 0, 0, 910), (65, .lmul, 66, 0, 0, 0, 0, 0, 0), (66, .lload 6, 68, 6, 0, 0, 0, 0, 0), (68, .lrem, 69, 0, 0, 0, 0, 0, 0), (69, .lstore_n 3, 70, 3, 0, 0, 0, 0, 0), (70, .iinc 5 1, 73, 5, 0, 0, 1, 0, 0), (73, .goto (-55), 76, 18, 0, 0, 0, 0, 0), (76, .aload_n 0, 77, 0, 0, 0, 0, 0, 0), (77, .getfield 84, 80, 6, 27, 0, 0, 0, 719), (80, .iload_n 2, 81, 2, 0, 0, 0, 0, 0), (81, .lload_n 3, 82, 3, 0, 0, 0, 0, 0), (82, .lastore, 83, 0, 0, 0, 0, 0, 0), (83, .iinc 2 1, 86, 2, 0, 0, 1, 0, 0), (86, .goto (-84), 89, 2, 0, 0, 0, 0, 0), (89, .aload_n 0, 90, 0, 0, 0, 0, 0, 0), (90, .iload_n 1, 91, 1, 0, 0, 0, 0, 0), (91, .invokevirtual 192, 94, 123, 2, 6, 0, 0, 925), (94, .bipush 7, 96, 0, 0, 0, 7, 0, 0), (96, .istore_n 2, 97, 2, 0, 0, 0, 0, 0), (97, .iload_n 2, 98, 2, 0, 0, 0, 0, 0), (98, .ifCond .lt 42, 101, 140, 0, 0, 0, 0, 0), (101, .aload_n 0, 102, 0, 0, 0, 0, 0, 0), (102, .iload_n 1, 103, 1, 0, 0, 0, 0, 0), (103, .iload_n 2, 104, 2, 0, 0, 0, 0, 0), (104, .bipush 7, 106, 0, 0, 0, 7, 0, 0), (106, .if_icmp .ne 7, 109, 113, 0, 0, 0, 0, 0), (109, .lconst 1, 110, 0, 0, 0, 0, 1, 0), (110, .goto 9, 113, 119, 0, 0, 0, 0, 0), (113, .aload_n 0, 114, 0, 0, 0, 0, 0, 0), (114, .getfield 51, 117, 6, 16, 0, 0, 0, 708), (117, .iload_n 2, 118, 2, 0, 0, 0, 0, 0), (118, .laload, 119, 0, 0, 0, 0, 0, 0), (119, .lconst 0, 120, 0, 0, 0, 0, 0, 0), (120, .invokevirtual 196, 123, 124, 4, 6, 0, 0, 929), (123, .aload_n 0, 124, 0, 0, 0, 0, 0, 0), (124, .iload_n 1, 125, 1, 0, 0, 0, 0, 0), (125, .aload_n 0, 126, 0, 0, 0, 0, 0, 0), (126, .getfield 84, 129, 6, 27, 0, 0, 0, 719), (129, .iload_n 2, 130, 2, 0, 0, 0, 0, 0), (130, .laload, 131, 0, 0, 0, 0, 0, 0), (131, .invokevirtual 200, 134, 125, 3, 6, 0, 0, 934), (134, .iinc 2 (-1), 137, 2, 0, 0, (-1), 0, 0), (137, .goto (-40), 140, 97, 0, 0, 0, 0, 0), (140, .return_, 141, 0, 0, 0, 0, 0, 0)]
theorem ok_Mo_gather : cd_Mo_gather.all (jm_okE "ShareSolveModel" prog_8_method_37_code 8 2 54 false false none) = true := by decide +kernel
def cd_Mo_clear : List jm_e := [(0, .iconst 0, 1, 0, 0, 0, 0, 0, 0), (1, .istore_n 2, 2, 2, 0, 0, 0, 0, 0), (2, .iload_n 2, 3, 2, 0, 0, 0, 0, 0), (3, .bipush 24, 5, 0, 0, 0, 24, 0, 0), (5, .if_icmp .ge 21, 8, 26, 0, 0, 0, 0, 0), (8, .aload_n 0, 9, 0, 0, 0, 0, 0, 0), (9, .getfield 78, 12, 6, 25, 0, 0, 0, 717), (12, .bipush 24, 14, 0, 0, 0, 24, 0, 0), (14, .iload_n 1, 15, 1, 0, 0, 0, 0, 0), (15, .imul, 16, 0, 0, 0, 0, 0, 0), (16, .iload_n 2, 17, 2, 0, 0, 0, 0, 0), (17, .iadd, 18, 0, 0, 0, 0, 0, 0), (18, .lconst 0, 19, 0, 0, 0, 0, 0, 0), (19, .lastore, 20, 0, 0, 0, 0, 0, 0), (20, .iinc 2 1, 23, 2, 0, 0, 1, 0, 0), (23, .goto (-21), 26, 2, 0, 0, 0, 0, 0), (26, .return_, 27, 0, 0, 0, 0, 0, 0)]
theorem ok_Mo_clear : cd_Mo_clear.all (jm_okE "ShareSolveModel" prog_8_method_30_code 3 0 0 false false none) = true := by decide +kernel
def cd_Mo_grow : List jm_e := [(0, .lload 4, 2, 4, 0, 0, 0, 0, 0), (2, .lstore 6, 4, 6, 0, 0, 0, 0, 0), (4, .iconst 0, 5, 0, 0, 0, 0, 0, 0), (5, .istore 8, 7, 8, 0, 0, 0, 0, 0), (7, .iload 8, 9, 8, 0, 0, 0, 0, 0), (9, .bipush 24, 11, 0, 0, 0, 24, 0, 0), (11, .if_icmp .ge 53, 14, 64, 0, 0, 0, 0, 0), (14, .aload_n 0, 15, 0, 0, 0, 0, 0, 0), (15, .getfield 78, 18, 6, 25, 0, 0, 0, 717), (18, .bipush 24, 20, 0, 0, 0, 24, 0, 0), (20, .iload_n 1, 21, 1, 0, 0, 0, 0, 0), (21, .imul, 22, 0, 0, 0, 0, 0, 0), (22, .iload 8, 24, 8, 0, 0, 0, 0, 0), (24, .iadd, 25, 0, 0, 0, 0, 0, 0), (25, .laload, 26, 0, 0, 0, 0, 0, 0), (26, .lload_n 2, 27, 2, 0, 0, 0, 0, 0), (27, .lmul, 28, 0, 0, 0, 0, 0, 0), (28, .lload 6, 30, 6, 0, 0, 0, 0, 0), (30, .ladd, 31, 0, 0, 0, 0, 0, 0), (31, .lstore 9, 33, 9, 0, 0, 0, 0, 0), (33, .aload_n 0, 34, 0, 0, 0, 0, 0, 0), (34, .getfield 78, 37, 6, 25, 0, 0, 0, 717), (37, .bipush 24, 39, 0, 0, 0, 24, 0, 0), (39, .iload_n 1, 40, 1, 0, 0, 0, 0, 0), (40, .imul, 41, 0, 0, 0, 0, 0, 0), (41, .iload 8, 43, 8, 0, 0, 0, 0, 0), (43, .iadd, 44, 0, 0, 0, 0, 0, 0), (44, .lload 9, 46, 9, 0, 0, 0, 0, 0), (46, .ldc2_w 190, 49, 0, 0, 0, 0, 268435455, 933), (49, .land, 50, 0, 0, 0, 0, 0, 0), (50, .lastore, 51, 0, 0, 0, 0, 0, 0), (51, .lload 9, 53, 9, 0, 0, 0, 0, 0), (53, .bipush 28, 55, 0, 0, 0, 28, 0, 0), (55, .lshr, 56, 0, 0, 0, 0, 0, 0), (56, .lstore 6, 58, 6, 0, 0, 0, 0, 0), (58, .iinc 8 1, 61, 8, 0, 0, 1, 0, 0), (61, .goto (-54), 64, 7, 0, 0, 0, 0, 0), (64, .return_, 65, 0, 0, 0, 0, 0, 0)]
theorem ok_Mo_grow : cd_Mo_grow.all (jm_okE "ShareSolveModel" prog_8_method_32_code 11 0 0 false false none) = true := by decide +kernel
def cd_Mo_add : List jm_e := [(0, .lload_n 2, 1, 2, 0, 0, 0, 0, 0), (1, .lstore 4, 3, 4, 0, 0, 0, 0, 0), (3, .iconst 0, 4, 0, 0, 0, 0, 0, 0), (4, .istore 6, 6, 6, 0, 0, 0, 0, 0), (6, .iload 6, 8, 6, 0, 0, 0, 0, 0), (8, .bipush 24, 10, 0, 0, 0, 24, 0, 0), (10, .if_icmp .ge 51, 13, 61, 0, 0, 0, 0, 0), (13, .aload_n 0, 14, 0, 0, 0, 0, 0, 0), (14, .getfield 78, 17, 6, 25, 0, 0, 0, 717), (17, .bipush 24, 19, 0, 0, 0, 24, 0, 0), (19, .iload_n 1, 20, 1, 0, 0, 0, 0, 0), (20, .imul, 21, 0, 0, 0, 0, 0, 0), (21, .iload 6, 23, 6, 0, 0, 0, 0, 0), (23, .iadd, 24, 0, 0, 0, 0, 0, 0), (24, .laload, 25, 0, 0, 0, 0, 0, 0), (25, .lload 4, 27, 4, 0, 0, 0, 0, 0), (27, .ladd, 28, 0, 0, 0, 0, 0, 0), (28, .lstore 7, 30, 7, 0, 0, 0, 0, 0), (30, .aload_n 0, 31, 0, 0, 0, 0, 0, 0), (31, .getfield 78, 34, 6, 25, 0, 0, 0, 717), (34, .bipush 24, 36, 0, 0, 0, 24, 0, 0), (36, .iload_n 1, 37, 1, 0, 0, 0, 0, 0), (37, .imul, 38, 0, 0, 0, 0, 0, 0), (38, .iload 6, 40, 6, 0, 0, 0, 0, 0), (40, .iadd, 41, 0, 0, 0, 0, 0, 0), (41, .lload 7, 43, 7, 0, 0, 0, 0, 0), (43, .ldc2_w 190, 46, 0, 0, 0, 0, 268435455, 933), (46, .land, 47, 0, 0, 0, 0, 0, 0), (47, .lastore, 48, 0, 0, 0, 0, 0, 0), (48, .lload 7, 50, 7, 0, 0, 0, 0, 0), (50, .bipush 28, 52, 0, 0, 0, 28, 0, 0), (52, .lshr, 53, 0, 0, 0, 0, 0, 0), (53, .lstore 4, 55, 4, 0, 0, 0, 0, 0), (55, .iinc 6 1, 58, 6, 0, 0, 1, 0, 0), (58, .goto (-52), 61, 6, 0, 0, 0, 0, 0), (61, .return_, 62, 0, 0, 0, 0, 0, 0)]
theorem ok_Mo_add : cd_Mo_add.all (jm_okE "ShareSolveModel" prog_8_method_38_code 9 0 0 false false none) = true := by decide +kernel
def cd_Mo_clearWeights : List jm_e := [(0, .iconst 0, 1, 0, 0, 0, 0, 0, 0), (1, .istore_n 1, 2, 1, 0, 0, 0, 0, 0), (2, .iload_n 1, 3, 1, 0, 0, 0, 0, 0), (3, .bipush 9, 5, 0, 0, 0, 9, 0, 0), (5, .if_icmp .ge 16, 8, 21, 0, 0, 0, 0, 0), (8, .aload_n 0, 9, 0, 0, 0, 0, 0, 0), (9, .getfield 87, 12, 6, 30, 0, 0, 0, 722), (12, .iload_n 1, 13, 1, 0, 0, 0, 0, 0), (13, .lconst 0, 14, 0, 0, 0, 0, 0, 0), (14, .lastore, 15, 0, 0, 0, 0, 0, 0), (15, .iinc 1 1, 18, 1, 0, 0, 1, 0, 0), (18, .goto (-16), 21, 2, 0, 0, 0, 0, 0), (21, .return_, 22, 0, 0, 0, 0, 0, 0)]
theorem ok_Mo_clearWeights : cd_Mo_clearWeights.all (jm_okE "ShareSolveModel" prog_8_method_45_code 2 0 0 false false none) = true := by decide +kernel
def cd_Mo_weighPort : List jm_e := [(0, .iconst 0, 1, 0, 0, 0, 0, 0, 0), (1, .istore 4, 3, 4, 0, 0, 0, 0, 0), (3, .iload 4, 5, 4, 0, 0, 0, 0, 0), (5, .bipush 9, 7, 0, 0, 0, 9, 0, 0), (7, .if_icmp .ge 151, 10, 158, 0, 0, 0, 0, 0), (10, .iload 4, 12, 4, 0, 0, 0, 0, 0), (12, .iconst 3, 13, 0, 0, 0, 3, 0, 0), (13, .idiv, 14, 0, 0, 0, 0, 0, 0), (14, .istore 5, 16, 5, 0, 0, 0, 0, 0), (16, .iconst 0, 17, 0, 0, 0, 0, 0, 0), (17, .istore 6, 19, 6, 0, 0, 0, 0, 0), (19, .iload 6, 21, 6, 0, 0, 0, 0, 0), (21, .iconst 3, 22, 0, 0, 0, 3, 0, 0), (22, .if_icmp .ge 130, 25, 152, 0, 0, 0, 0, 0), (25, .iload 5, 27, 5, 0, 0, 0, 0, 0), (27, .aload_n 0, 28, 0, 0, 0, 0, 0, 0), (28, .getfield 7, 31, 6, 1, 0, 0, 0, 693), (31, .iload_n 1, 32, 1, 0, 0, 0, 0, 0), (32, .iaload, 33, 0, 0, 0, 0, 0, 0), (33, .if_icmp .ge 119, 36, 152, 0, 0, 0, 0, 0), (36, .iconst 0, 37, 0, 0, 0, 0, 0, 0), (37, .istore 7, 39, 7, 0, 0, 0, 0, 0), (39, .iload 7, 41, 7, 0, 0, 0, 0, 0), (41, .iconst 3, 42, 0, 0, 0, 3, 0, 0), (42, .if_icmp .ge 104, 45, 146, 0, 0, 0, 0, 0), (45, .iload 6, 47, 6, 0, 0, 0, 0, 0), (47, .aload_n 0, 48, 0, 0, 0, 0, 0, 0), (48, .getfield 16, 51, 6, 3, 0, 0, 0, 695), (51, .iconst 3, 52, 0, 0, 0, 3, 0, 0), (52, .iload_n 1, 53, 1, 0, 0, 0, 0, 0), (53, .imul, 54, 0, 0, 0, 0, 0, 0), (54, .iload 5, 56, 5, 0, 0, 0, 0, 0), (56, .iadd, 57, 0, 0, 0, 0, 0, 0), (57, .iaload, 58, 0, 0, 0, 0, 0, 0), (58, .if_icmp .ge 42, 61, 100, 0, 0, 0, 0, 0), (61, .aload_n 0, 62, 0, 0, 0, 0, 0, 0), (62, .getfield 19, 65, 6, 4, 0, 0, 0, 696), (65, .bipush 9, 67, 0, 0, 0, 9, 0, 0), (67, .iload_n 1, 68, 1, 0, 0, 0, 0, 0), (68, .imul, 69, 0, 0, 0, 0, 0, 0), (69, .iconst 3, 70, 0, 0, 0, 3, 0, 0), (70, .iload 5, 72, 5, 0, 0, 0, 0, 0), (72, .imul, 73, 0, 0, 0, 0, 0, 0), (73, .iadd, 74, 0, 0, 0, 0, 0, 0), (74, .iload 6, 76, 6, 0, 0, 0, 0, 0), (76, .iadd, 77, 0, 0, 0, 0, 0, 0), (77, .iaload, 78, 0, 0, 0, 0, 0, 0), (78, .bipush (-2), 80, 0, 0, 0, (-2), 0, 0), (80, .iload_n 2, 81, 2, 0, 0, 0, 0, 0), (81, .isub, 82, 0, 0, 0, 0, 0, 0), (82, .if_icmp .ne 18, 85, 100, 0, 0, 0, 0, 0), (85, .iload_n 3, 86, 3, 0, 0, 0, 0, 0), (86, .iconst (-1), 87, 0, 0, 0, (-1), 0, 0), (87, .if_icmp .eq 9, 90, 96, 0, 0, 0, 0, 0), (90, .iload_n 3, 91, 3, 0, 0, 0, 0, 0), (91, .iload 7, 93, 7, 0, 0, 0, 0, 0), (93, .if_icmp .ne 7, 96, 100, 0, 0, 0, 0, 0), (96, .iconst 1, 97, 0, 0, 0, 1, 0, 0), (97, .goto 4, 100, 101, 0, 0, 0, 0, 0), (100, .iconst 0, 101, 0, 0, 0, 0, 0, 0), (101, .istore 8, 103, 8, 0, 0, 0, 0, 0), (103, .aload_n 0, 104, 0, 0, 0, 0, 0, 0), (104, .getfield 87, 107, 6, 30, 0, 0, 0, 722), (107, .iload 4, 109, 4, 0, 0, 0, 0, 0), (109, .dup2, 110, 0, 0, 0, 0, 0, 0), (110, .laload, 111, 0, 0, 0, 0, 0, 0), (111, .iload 8, 113, 8, 0, 0, 0, 0, 0), (113, .ifCond .eq 24, 116, 137, 0, 0, 0, 0, 0), (116, .aload_n 0, 117, 0, 0, 0, 0, 0, 0), (117, .getfield 60, 120, 6, 19, 0, 0, 0, 711), (120, .bipush 9, 122, 0, 0, 0, 9, 0, 0), (122, .iconst 3, 123, 0, 0, 0, 3, 0, 0), (123, .iload 6, 125, 6, 0, 0, 0, 0, 0), (125, .imul, 126, 0, 0, 0, 0, 0, 0), (126, .iload 7, 128, 7, 0, 0, 0, 0, 0), (128, .iadd, 129, 0, 0, 0, 0, 0, 0), (129, .imul, 130, 0, 0, 0, 0, 0, 0), (130, .iload 4, 132, 4, 0, 0, 0, 0, 0), (132, .iadd, 133, 0, 0, 0, 0, 0, 0), (133, .laload, 134, 0, 0, 0, 0, 0, 0), (134, .goto 4, 137, 138, 0, 0, 0, 0, 0), (137, .lconst 0, 138, 0, 0, 0, 0, 0, 0), (138, .ladd, 139, 0, 0, 0, 0, 0, 0), (139, .lastore, 140, 0, 0, 0, 0, 0, 0), (140, .iinc 7 1, 143, 7, 0, 0, 1, 0, 0), (143, .goto (-104), 146, 39, 0, 0, 0, 0, 0), (146, .iinc 6 1, 149, 6, 0, 0, 1, 0, 0), (149, .goto (-130), 152, 19, 0, 0, 0, 0, 0), (152, .iinc 4 1, 155, 4, 0, 0, 1, 0, 0), (155, .goto (-152), 158, 3, 0, 0, 0, 0, 0), (158, .return_, 159, 0, 0, 0, 0, 0, 0)]
theorem ok_Mo_weighPort : cd_Mo_weighPort.all (jm_okE "ShareSolveModel" prog_8_method_49_code 9 0 0 false false none) = true := by decide +kernel
def cd_Mo_gatherAmount : List jm_e := [(0, .iconst 0, 1, 0, 0, 0, 0, 0, 0), (1, .istore_n 3, 2, 3, 0, 0, 0, 0, 0), (2, .iload_n 3, 3, 3, 0, 0, 0, 0, 0), (3, .bipush 8, 5, 0, 0, 0, 8, 0, 0), (5, .if_icmp .ge 124, 8, 129, 0, 0, 0, 0, 0), (8, .aload_n 0, 9, 0, 0, 0, 0, 0, 0), (9, .getfield 51, 12, 6, 16, 0, 0, 0, 708), (12, .iload_n 3, 13, 3, 0, 0, 0, 0, 0), (13, .laload, 14, 0, 0, 0, 0, 0, 0), (14, .lstore 4, 16, 4, 0, 0, 0, 0, 0), (16, .lconst 0, 17, 0, 0, 0, 0, 0, 0), (17, .lstore 6, 19, 6, 0, 0, 0, 0, 0), (19, .iconst 0, 20, 0, 0, 0, 0, 0, 0), (20, .istore 8, 22, 8, 0, 0, 0, 0, 0), (22, .iload 8, 24, 8, 0, 0, 0, 0, 0), (24, .bipush 9, 26, 0, 0, 0, 9, 0, 0), (26, .if_icmp .ge 89, 29, 115, 0, 0, 0, 0, 0), (29, .lconst 0, 30, 0, 0, 0, 0, 0, 0), (30, .lstore 9, 32, 9, 0, 0, 0, 0, 0), (32, .iconst 0, 33, 0, 0, 0, 0, 0, 0), (33, .istore 11, 35, 11, 0, 0, 0, 0, 0), (35, .iload 11, 37, 11, 0, 0, 0, 0, 0), (37, .bipush 9, 39, 0, 0, 0, 9, 0, 0), (39, .if_icmp .ge 49, 42, 88, 0, 0, 0, 0, 0), (42, .lload 9, 44, 9, 0, 0, 0, 0, 0), (44, .aload_n 0, 45, 0, 0, 0, 0, 0, 0), (45, .getfield 72, 48, 6, 23, 0, 0, 0, 715), (48, .bipush 81, 50, 0, 0, 0, 81, 0, 0), (50, .iload_n 3, 51, 3, 0, 0, 0, 0, 0), (51, .imul, 52, 0, 0, 0, 0, 0, 0), (52, .bipush 9, 54, 0, 0, 0, 9, 0, 0), (54, .iload 8, 56, 8, 0, 0, 0, 0, 0), (56, .imul, 57, 0, 0, 0, 0, 0, 0), (57, .iadd, 58, 0, 0, 0, 0, 0, 0), (58, .iload 11, 60, 11, 0, 0, 0, 0, 0), (60, .iadd, 61, 0, 0, 0, 0, 0, 0), (61, .laload, 62, 0, 0, 0, 0, 0, 0), (62, .aload_n 0, 63, 0, 0, 0, 0, 0, 0), (63, .getfield 37, 66, 6, 10, 0, 0, 0, 702), (66, .bipush 9, 68, 0, 0, 0, 9, 0, 0), (68, .iload_n 1, 69, 1, 0, 0, 0, 0, 0), (69, .imul, 70, 0, 0, 0, 0, 0, 0), (70, .iload 11, 72, 11, 0, 0, 0, 0, 0), (72, .iadd, 73, 0, 0, 0, 0, 0, 0), (73, .iaload, 74, 0, 0, 0, 0, 0, 0), (74, .i2l, 75, 0, 0, 0, 0, 0, 0), (75, .lmul, 76, 0, 0, 0, 0, 0, 0), (76, .ladd, 77, 0, 0, 0, 0, 0, 0), (77, .lload 4, 79, 4, 0, 0, 0, 0, 0), (79, .lrem, 80, 0, 0, 0, 0, 0, 0), (80, .lstore 9, 82, 9, 0, 0, 0, 0, 0), (82, .iinc 11 1, 85, 11, 0, 0, 1, 0, 0), (85, .goto (-50), 88, 35, 0, 0, 0, 0, 0), (88, .lload 6, 90, 6, 0, 0, 0, 0, 0), (90, .lload 9, 92, 9, 0, 0, 0, 0, 0), (92, .aload_n 0, 93, 0, 0, 0, 0, 0, 0), (93, .getfield 87, 96, 6, 30, 0, 0, 0, 722), (96, .iload 8, 98, 8, 0, 0, 0, 0, 0), (98, .laload, 99, 0, 0, 0, 0, 0, 0), (99, .lload 4, 101, 4, 0, 0, 0, 0, 0), (101, .lrem, 102, 0, 0, 0, 0, 0, 0), (102, .lmul, 103, 0, 0, 0, 0, 0, 0), (103, .ladd, 104, 0, 0, 0, 0, 0, 0), (104, .lload 4, 106, 4, 0, 0, 0, 0, 0), (106, .lrem, 107, 0, 0, 0, 0, 0, 0), (107, .lstore 6, 109, 6, 0, 0, 0, 0, 0), (109, .iinc 8 1, 112, 8, 0, 0, 1, 0, 0), (112, .goto (-90), 115, 22, 0, 0, 0, 0, 0), (115, .aload_n 0, 116, 0, 0, 0, 0, 0, 0), (116, .getfield 81, 119, 6, 26, 0, 0, 0, 718), (119, .iload_n 3, 120, 3, 0, 0, 0, 0, 0), (120, .lload 6, 122, 6, 0, 0, 0, 0, 0), (122, .lastore, 123, 0, 0, 0, 0, 0, 0), (123, .iinc 3 1, 126, 3, 0, 0, 1, 0, 0), (126, .goto (-124), 129, 2, 0, 0, 0, 0, 0), (129, .aload_n 0, 130, 0, 0, 0, 0, 0, 0), (130, .iload_n 2, 131, 2, 0, 0, 0, 0, 0), (131, .invokevirtual 239, 134, 122, 2, 6, 0, 0, 921), (134, .return_, 135, 0, 0, 0, 0, 0, 0)]
theorem ok_Mo_gatherAmount : cd_Mo_gatherAmount.all (jm_okE "ShareSolveModel" prog_8_method_47_code 12 3 81 false false none) = true := by decide +kernel
def cd_Mo_partOf : List jm_e := [(0, .iload_n 1, 1, 1, 0, 0, 0, 0, 0), (1, .ifCond .lt 9, 4, 10, 0, 0, 0, 0, 0), (4, .iload_n 1, 5, 1, 0, 0, 0, 0, 0), (5, .bipush 6, 7, 0, 0, 0, 6, 0, 0), (7, .if_icmp .le 7, 10, 14, 0, 0, 0, 0, 0), (10, .ldc2_w 223, 13, 0, 0, 0, 0, (-1), 893), (13, .lreturn, 14, 0, 0, 0, 0, 0, 0), (14, .aload_n 0, 15, 0, 0, 0, 0, 0, 0), (15, .iconst 0, 16, 0, 0, 0, 0, 0, 0), (16, .invokevirtual 225, 19, 130, 2, 6, 0, 0, 954), (19, .lstore_n 3, 20, 3, 0, 0, 0, 0, 0), (20, .iload_n 2, 21, 2, 0, 0, 0, 0, 0), (21, .ifCond .eq 48, 24, 69, 0, 0, 0, 0, 0), (24, .aload_n 0, 25, 0, 0, 0, 0, 0, 0), (25, .iconst 2, 26, 0, 0, 0, 2, 0, 0), (26, .invokevirtual 229, 29, 135, 2, 6, 0, 0, 974), (29, .istore 5, 31, 5, 0, 0, 0, 0, 0), (31, .iload 5, 33, 5, 0, 0, 0, 0, 0), (33, .ifCond .eq 8, 36, 41, 0, 0, 0, 0, 0), (36, .lload_n 3, 37, 3, 0, 0, 0, 0, 0), (37, .lneg, 38, 0, 0, 0, 0, 0, 0), (38, .goto 7, 41, 45, 0, 0, 0, 0, 0), (41, .lload_n 3, 42, 3, 0, 0, 0, 0, 0), (42, .lneg, 43, 0, 0, 0, 0, 0, 0), (43, .lconst 1, 44, 0, 0, 0, 0, 1, 0), (44, .lsub, 45, 0, 0, 0, 0, 0, 0), (45, .lstore_n 3, 46, 3, 0, 0, 0, 0, 0), (46, .iload 5, 48, 5, 0, 0, 0, 0, 0), (48, .ifCond .ne 21, 51, 69, 0, 0, 0, 0, 0), (51, .aload_n 0, 52, 0, 0, 0, 0, 0, 0), (52, .iconst 1, 53, 0, 0, 0, 1, 0, 0), (53, .iconst 0, 54, 0, 0, 0, 0, 0, 0), (54, .invokevirtual 232, 57, 136, 3, 6, 0, 0, 978), (57, .aload_n 0, 58, 0, 0, 0, 0, 0, 0), (58, .iconst 0, 59, 0, 0, 0, 0, 0, 0), (59, .iconst 2, 60, 0, 0, 0, 2, 0, 0), (60, .invokevirtual 236, 63, 137, 3, 6, 0, 0, 982), (63, .aload_n 0, 64, 0, 0, 0, 0, 0, 0), (64, .iconst 0, 65, 0, 0, 0, 0, 0, 0), (65, .iconst 2, 66, 0, 0, 0, 2, 0, 0), (66, .invokevirtual 232, 69, 136, 3, 6, 0, 0, 978), (69, .iconst 0, 70, 0, 0, 0, 0, 0, 0), (70, .istore 5, 72, 5, 0, 0, 0, 0, 0), (72, .iload 5, 74, 5, 0, 0, 0, 0, 0), (74, .iload_n 1, 75, 1, 0, 0, 0, 0, 0), (75, .if_icmp .ge 30, 78, 105, 0, 0, 0, 0, 0), (78, .aload_n 0, 79, 0, 0, 0, 0, 0, 0), (79, .iconst 2, 80, 0, 0, 0, 2, 0, 0), (80, .iconst 0, 81, 0, 0, 0, 0, 0, 0), (81, .invokevirtual 232, 84, 136, 3, 6, 0, 0, 978), (84, .aload_n 0, 85, 0, 0, 0, 0, 0, 0), (85, .iconst 0, 86, 0, 0, 0, 0, 0, 0), (86, .ldc2_w 150, 89, 0, 0, 0, 0, 1000000000, 852), (89, .lconst 0, 90, 0, 0, 0, 0, 0, 0), (90, .invokevirtual 196, 93, 124, 4, 6, 0, 0, 929), (93, .aload_n 0, 94, 0, 0, 0, 0, 0, 0), (94, .iconst 0, 95, 0, 0, 0, 0, 0, 0), (95, .invokevirtual 225, 98, 130, 2, 6, 0, 0, 954), (98, .lstore_n 3, 99, 3, 0, 0, 0, 0, 0), (99, .iinc 5 1, 102, 5, 0, 0, 1, 0, 0), (102, .goto (-30), 105, 72, 0, 0, 0, 0, 0), (105, .lload_n 3, 106, 3, 0, 0, 0, 0, 0), (106, .lreturn, 107, 0, 0, 0, 0, 0, 0)]
theorem ok_Mo_partOf : cd_Mo_partOf.all (jm_okE "ShareSolveModel" prog_8_method_44_code 6 2 51 false false (some (.long))) = true := by decide +kernel
def cd_Mo_divide : List jm_e := [(0, .aload_n 0, 1, 0, 0, 0, 0, 0, 0), (1, .iconst 0, 2, 0, 0, 0, 0, 0, 0), (2, .putfield 206, 5, 6, 29, 0, 0, 0, 721), (5, .aload_n 0, 6, 0, 0, 0, 0, 0, 0), (6, .iconst 2, 7, 0, 0, 0, 2, 0, 0), (7, .invokevirtual 192, 10, 123, 2, 6, 0, 0, 925), (10, .aload_n 0, 11, 0, 0, 0, 0, 0, 0), (11, .aload_n 0, 12, 0, 0, 0, 0, 0, 0), (12, .iconst 1, 13, 0, 0, 0, 1, 0, 0), (13, .invokevirtual 209, 16, 131, 2, 6, 0, 0, 958), (16, .iconst 1, 17, 0, 0, 0, 1, 0, 0), (17, .iadd, 18, 0, 0, 0, 0, 0, 0), (18, .putfield 203, 21, 6, 28, 0, 0, 0, 720), (21, .lconst 0, 22, 0, 0, 0, 0, 0, 0), (22, .lstore_n 2, 23, 2, 0, 0, 0, 0, 0), (23, .aload_n 0, 24, 0, 0, 0, 0, 0, 0), (24, .iload_n 1, 25, 1, 0, 0, 0, 0, 0), (25, .invokevirtual 209, 28, 131, 2, 6, 0, 0, 958), (28, .bipush 28, 30, 0, 0, 0, 28, 0, 0), (30, .imul, 31, 0, 0, 0, 0, 0, 0), (31, .iconst 1, 32, 0, 0, 0, 1, 0, 0), (32, .isub, 33, 0, 0, 0, 0, 0, 0), (33, .istore 4, 35, 4, 0, 0, 0, 0, 0), (35, .iload 4, 37, 4, 0, 0, 0, 0, 0), (37, .ifCond .lt 82, 40, 119, 0, 0, 0, 0, 0), (40, .aload_n 0, 41, 0, 0, 0, 0, 0, 0), (41, .aload_n 0, 42, 0, 0, 0, 0, 0, 0), (42, .getfield 78, 45, 6, 25, 0, 0, 0, 717), (45, .bipush 24, 47, 0, 0, 0, 24, 0, 0), (47, .iload_n 1, 48, 1, 0, 0, 0, 0, 0), (48, .imul, 49, 0, 0, 0, 0, 0, 0), (49, .iload 4, 51, 4, 0, 0, 0, 0, 0), (51, .bipush 28, 53, 0, 0, 0, 28, 0, 0), (53, .idiv, 54, 0, 0, 0, 0, 0, 0), (54, .iadd, 55, 0, 0, 0, 0, 0, 0), (55, .laload, 56, 0, 0, 0, 0, 0, 0), (56, .iload 4, 58, 4, 0, 0, 0, 0, 0), (58, .bipush 28, 60, 0, 0, 0, 28, 0, 0), (60, .irem, 61, 0, 0, 0, 0, 0, 0), (61, .lshr, 62, 0, 0, 0, 0, 0, 0), (62, .lconst 1, 63, 0, 0, 0, 0, 1, 0), (63, .land, 64, 0, 0, 0, 0, 0, 0), (64, .invokevirtual 213, 67, 132, 2, 6, 0, 0, 962), (67, .aload_n 0, 68, 0, 0, 0, 0, 0, 0), (68, .aload_n 0, 69, 0, 0, 0, 0, 0, 0), (69, .getfield 206, 72, 6, 29, 0, 0, 0, 721), (72, .ifCond .ne 12, 75, 84, 0, 0, 0, 0, 0), (75, .lload_n 2, 76, 2, 0, 0, 0, 0, 0), (76, .bipush 61, 78, 0, 0, 0, 61, 0, 0), (78, .lshr, 79, 0, 0, 0, 0, 0, 0), (79, .lconst 0, 80, 0, 0, 0, 0, 0, 0), (80, .lcmp, 81, 0, 0, 0, 0, 0, 0), (81, .ifCond .eq 7, 84, 88, 0, 0, 0, 0, 0), (84, .iconst 1, 85, 0, 0, 0, 1, 0, 0), (85, .goto 4, 88, 89, 0, 0, 0, 0, 0), (88, .iconst 0, 89, 0, 0, 0, 0, 0, 0), (89, .putfield 206, 92, 6, 29, 0, 0, 0, 721), (92, .ldc2_w 172, 95, 0, 0, 0, 0, 2, 913), (95, .lload_n 2, 96, 2, 0, 0, 0, 0, 0), (96, .lmul, 97, 0, 0, 0, 0, 0, 0), (97, .lstore_n 2, 98, 2, 0, 0, 0, 0, 0), (98, .aload_n 0, 99, 0, 0, 0, 0, 0, 0), (99, .invokevirtual 216, 102, 133, 1, 6, 0, 0, 966), (102, .ifCond .ne 11, 105, 113, 0, 0, 0, 0, 0), (105, .aload_n 0, 106, 0, 0, 0, 0, 0, 0), (106, .invokevirtual 220, 109, 134, 1, 6, 0, 0, 970), (109, .lload_n 2, 110, 2, 0, 0, 0, 0, 0), (110, .lconst 1, 111, 0, 0, 0, 0, 1, 0), (111, .ladd, 112, 0, 0, 0, 0, 0, 0), (112, .lstore_n 2, 113, 2, 0, 0, 0, 0, 0), (113, .iinc 4 (-1), 116, 4, 0, 0, (-1), 0, 0), (116, .goto (-81), 119, 35, 0, 0, 0, 0, 0), (119, .lload_n 2, 120, 2, 0, 0, 0, 0, 0), (120, .lreturn, 121, 0, 0, 0, 0, 0, 0)]
theorem ok_Mo_divide : cd_Mo_divide.all (jm_okE "ShareSolveModel" prog_8_method_43_code 5 1 27 false false (some (.long))) = true := by decide +kernel
def cd_Mo_wordsOf : List jm_e := [(0, .bipush 24, 2, 0, 0, 0, 24, 0, 0), (2, .istore_n 2, 3, 2, 0, 0, 0, 0, 0), (3, .iload_n 2, 4, 2, 0, 0, 0, 0, 0), (4, .ifCond .le 27, 7, 31, 0, 0, 0, 0, 0), (7, .aload_n 0, 8, 0, 0, 0, 0, 0, 0), (8, .getfield 78, 11, 6, 25, 0, 0, 0, 717), (11, .bipush 24, 13, 0, 0, 0, 24, 0, 0), (13, .iload_n 1, 14, 1, 0, 0, 0, 0, 0), (14, .imul, 15, 0, 0, 0, 0, 0, 0), (15, .iload_n 2, 16, 2, 0, 0, 0, 0, 0), (16, .iadd, 17, 0, 0, 0, 0, 0, 0), (17, .iconst 1, 18, 0, 0, 0, 1, 0, 0), (18, .isub, 19, 0, 0, 0, 0, 0, 0), (19, .laload, 20, 0, 0, 0, 0, 0, 0), (20, .lconst 0, 21, 0, 0, 0, 0, 0, 0), (21, .lcmp, 22, 0, 0, 0, 0, 0, 0), (22, .ifCond .ne 9, 25, 31, 0, 0, 0, 0, 0), (25, .iinc 2 (-1), 28, 2, 0, 0, (-1), 0, 0), (28, .goto (-25), 31, 3, 0, 0, 0, 0, 0), (31, .iload_n 2, 32, 2, 0, 0, 0, 0, 0), (32, .ireturn, 33, 0, 0, 0, 0, 0, 0)]
theorem ok_Mo_wordsOf : cd_Mo_wordsOf.all (jm_okE "ShareSolveModel" prog_8_method_42_code 3 0 0 false false (some (.int))) = true := by decide +kernel
end
section
/-! the code of the reference, 2 -/
def cd_Mo_growUsed : List jm_e := [(0, .lload_n 1, 1, 1, 0, 0, 0, 0, 0), (1, .lstore_n 3, 2, 3, 0, 0, 0, 0, 0), (2, .iconst 0, 3, 0, 0, 0, 0, 0, 0), (3, .istore 5, 5, 5, 0, 0, 0, 0, 0), (5, .iload 5, 7, 5, 0, 0, 0, 0, 0), (7, .aload_n 0, 8, 0, 0, 0, 0, 0, 0), (8, .getfield 203, 11, 6, 28, 0, 0, 0, 720), (11, .if_icmp .ge 49, 14, 60, 0, 0, 0, 0, 0), (14, .aload_n 0, 15, 0, 0, 0, 0, 0, 0), (15, .getfield 78, 18, 6, 25, 0, 0, 0, 717), (18, .bipush 48, 20, 0, 0, 0, 48, 0, 0), (20, .iload 5, 22, 5, 0, 0, 0, 0, 0), (22, .iadd, 23, 0, 0, 0, 0, 0, 0), (23, .laload, 24, 0, 0, 0, 0, 0, 0), (24, .ldc2_w 172, 27, 0, 0, 0, 0, 2, 913), (27, .lmul, 28, 0, 0, 0, 0, 0, 0), (28, .lload_n 3, 29, 3, 0, 0, 0, 0, 0), (29, .ladd, 30, 0, 0, 0, 0, 0, 0), (30, .lstore 6, 32, 6, 0, 0, 0, 0, 0), (32, .aload_n 0, 33, 0, 0, 0, 0, 0, 0), (33, .getfield 78, 36, 6, 25, 0, 0, 0, 717), (36, .bipush 48, 38, 0, 0, 0, 48, 0, 0), (38, .iload 5, 40, 5, 0, 0, 0, 0, 0), (40, .iadd, 41, 0, 0, 0, 0, 0, 0), (41, .lload 6, 43, 6, 0, 0, 0, 0, 0), (43, .ldc2_w 190, 46, 0, 0, 0, 0, 268435455, 933), (46, .land, 47, 0, 0, 0, 0, 0, 0), (47, .lastore, 48, 0, 0, 0, 0, 0, 0), (48, .lload 6, 50, 6, 0, 0, 0, 0, 0), (50, .bipush 28, 52, 0, 0, 0, 28, 0, 0), (52, .lshr, 53, 0, 0, 0, 0, 0, 0), (53, .lstore_n 3, 54, 3, 0, 0, 0, 0, 0), (54, .iinc 5 1, 57, 5, 0, 0, 1, 0, 0), (57, .goto (-52), 60, 5, 0, 0, 0, 0, 0), (60, .return_, 61, 0, 0, 0, 0, 0, 0)]
theorem ok_Mo_growUsed : cd_Mo_growUsed.all (jm_okE "ShareSolveModel" prog_8_method_39_code 8 0 0 false false none) = true := by decide +kernel
def cd_Mo_isLeftLess : List jm_e := [(0, .aload_n 0, 1, 0, 0, 0, 0, 0, 0), (1, .getfield 203, 4, 6, 28, 0, 0, 0, 720), (4, .iconst 1, 5, 0, 0, 0, 1, 0, 0), (5, .isub, 6, 0, 0, 0, 0, 0, 0), (6, .istore_n 1, 7, 1, 0, 0, 0, 0, 0), (7, .iload_n 1, 8, 1, 0, 0, 0, 0, 0), (8, .ifCond .lt 59, 11, 67, 0, 0, 0, 0, 0), (11, .aload_n 0, 12, 0, 0, 0, 0, 0, 0), (12, .getfield 78, 15, 6, 25, 0, 0, 0, 717), (15, .bipush 48, 17, 0, 0, 0, 48, 0, 0), (17, .iload_n 1, 18, 1, 0, 0, 0, 0, 0), (18, .iadd, 19, 0, 0, 0, 0, 0, 0), (19, .laload, 20, 0, 0, 0, 0, 0, 0), (20, .aload_n 0, 21, 0, 0, 0, 0, 0, 0), (21, .getfield 78, 24, 6, 25, 0, 0, 0, 717), (24, .bipush 24, 26, 0, 0, 0, 24, 0, 0), (26, .iload_n 1, 27, 1, 0, 0, 0, 0, 0), (27, .iadd, 28, 0, 0, 0, 0, 0, 0), (28, .laload, 29, 0, 0, 0, 0, 0, 0), (29, .lcmp, 30, 0, 0, 0, 0, 0, 0), (30, .ifCond .eq 31, 33, 61, 0, 0, 0, 0, 0), (33, .aload_n 0, 34, 0, 0, 0, 0, 0, 0), (34, .getfield 78, 37, 6, 25, 0, 0, 0, 717), (37, .bipush 48, 39, 0, 0, 0, 48, 0, 0), (39, .iload_n 1, 40, 1, 0, 0, 0, 0, 0), (40, .iadd, 41, 0, 0, 0, 0, 0, 0), (41, .laload, 42, 0, 0, 0, 0, 0, 0), (42, .aload_n 0, 43, 0, 0, 0, 0, 0, 0), (43, .getfield 78, 46, 6, 25, 0, 0, 0, 717), (46, .bipush 24, 48, 0, 0, 0, 24, 0, 0), (48, .iload_n 1, 49, 1, 0, 0, 0, 0, 0), (49, .iadd, 50, 0, 0, 0, 0, 0, 0), (50, .laload, 51, 0, 0, 0, 0, 0, 0), (51, .lcmp, 52, 0, 0, 0, 0, 0, 0), (52, .ifCond .ge 7, 55, 59, 0, 0, 0, 0, 0), (55, .iconst 1, 56, 0, 0, 0, 1, 0, 0), (56, .goto 4, 59, 60, 0, 0, 0, 0, 0), (59, .iconst 0, 60, 0, 0, 0, 0, 0, 0), (60, .ireturn, 61, 0, 0, 0, 0, 0, 0), (61, .iinc 1 (-1), 64, 1, 0, 0, (-1), 0, 0), (64, .goto (-57), 67, 7, 0, 0, 0, 0, 0), (67, .iconst 0, 68, 0, 0, 0, 0, 0, 0), (68, .ireturn, 69, 0, 0, 0, 0, 0, 0)]
theorem ok_Mo_isLeftLess : cd_Mo_isLeftLess.all (jm_okE "ShareSolveModel" prog_8_method_40_code 2 0 0 false false (some (.boolean))) = true := by decide +kernel
def cd_Mo_lessenLeft : List jm_e := [(0, .lconst 0, 1, 0, 0, 0, 0, 0, 0), (1, .lstore_n 1, 2, 1, 0, 0, 0, 0, 0), (2, .iconst 0, 3, 0, 0, 0, 0, 0, 0), (3, .istore_n 3, 4, 3, 0, 0, 0, 0, 0), (4, .iload_n 3, 5, 3, 0, 0, 0, 0, 0), (5, .aload_n 0, 6, 0, 0, 0, 0, 0, 0), (6, .getfield 203, 9, 6, 28, 0, 0, 0, 720), (9, .if_icmp .ge 60, 12, 69, 0, 0, 0, 0, 0), (12, .aload_n 0, 13, 0, 0, 0, 0, 0, 0), (13, .getfield 78, 16, 6, 25, 0, 0, 0, 717), (16, .bipush 48, 18, 0, 0, 0, 48, 0, 0), (18, .iload_n 3, 19, 3, 0, 0, 0, 0, 0), (19, .iadd, 20, 0, 0, 0, 0, 0, 0), (20, .laload, 21, 0, 0, 0, 0, 0, 0), (21, .aload_n 0, 22, 0, 0, 0, 0, 0, 0), (22, .getfield 78, 25, 6, 25, 0, 0, 0, 717), (25, .bipush 24, 27, 0, 0, 0, 24, 0, 0), (27, .iload_n 3, 28, 3, 0, 0, 0, 0, 0), (28, .iadd, 29, 0, 0, 0, 0, 0, 0), (29, .laload, 30, 0, 0, 0, 0, 0, 0), (30, .lsub, 31, 0, 0, 0, 0, 0, 0), (31, .lload_n 1, 32, 1, 0, 0, 0, 0, 0), (32, .lsub, 33, 0, 0, 0, 0, 0, 0), (33, .lstore 4, 35, 4, 0, 0, 0, 0, 0), (35, .lload 4, 37, 4, 0, 0, 0, 0, 0), (37, .lconst 0, 38, 0, 0, 0, 0, 0, 0), (38, .lcmp, 39, 0, 0, 0, 0, 0, 0), (39, .ifCond .ge 7, 42, 46, 0, 0, 0, 0, 0), (42, .lconst 1, 43, 0, 0, 0, 0, 1, 0), (43, .goto 4, 46, 47, 0, 0, 0, 0, 0), (46, .lconst 0, 47, 0, 0, 0, 0, 0, 0), (47, .lstore_n 1, 48, 1, 0, 0, 0, 0, 0), (48, .aload_n 0, 49, 0, 0, 0, 0, 0, 0), (49, .getfield 78, 52, 6, 25, 0, 0, 0, 717), (52, .bipush 48, 54, 0, 0, 0, 48, 0, 0), (54, .iload_n 3, 55, 3, 0, 0, 0, 0, 0), (55, .iadd, 56, 0, 0, 0, 0, 0, 0), (56, .lload 4, 58, 4, 0, 0, 0, 0, 0), (58, .ldc2_w 190, 61, 0, 0, 0, 0, 268435455, 933), (61, .land, 62, 0, 0, 0, 0, 0, 0), (62, .lastore, 63, 0, 0, 0, 0, 0, 0), (63, .iinc 3 1, 66, 3, 0, 0, 1, 0, 0), (66, .goto (-62), 69, 4, 0, 0, 0, 0, 0), (69, .return_, 70, 0, 0, 0, 0, 0, 0)]
theorem ok_Mo_lessenLeft : cd_Mo_lessenLeft.all (jm_okE "ShareSolveModel" prog_8_method_41_code 6 0 0 false false none) = true := by decide +kernel
def cd_Mo_isZero : List jm_e := [(0, .iconst 1, 1, 0, 0, 0, 1, 0, 0), (1, .istore_n 2, 2, 2, 0, 0, 0, 0, 0), (2, .iconst 0, 3, 0, 0, 0, 0, 0, 0), (3, .istore_n 3, 4, 3, 0, 0, 0, 0, 0), (4, .iload_n 3, 5, 3, 0, 0, 0, 0, 0), (5, .bipush 24, 7, 0, 0, 0, 24, 0, 0), (7, .if_icmp .ge 35, 10, 42, 0, 0, 0, 0, 0), (10, .iload_n 2, 11, 2, 0, 0, 0, 0, 0), (11, .ifCond .eq 23, 14, 34, 0, 0, 0, 0, 0), (14, .aload_n 0, 15, 0, 0, 0, 0, 0, 0), (15, .getfield 78, 18, 6, 25, 0, 0, 0, 717), (18, .bipush 24, 20, 0, 0, 0, 24, 0, 0), (20, .iload_n 1, 21, 1, 0, 0, 0, 0, 0), (21, .imul, 22, 0, 0, 0, 0, 0, 0), (22, .iload_n 3, 23, 3, 0, 0, 0, 0, 0), (23, .iadd, 24, 0, 0, 0, 0, 0, 0), (24, .laload, 25, 0, 0, 0, 0, 0, 0), (25, .lconst 0, 26, 0, 0, 0, 0, 0, 0), (26, .lcmp, 27, 0, 0, 0, 0, 0, 0), (27, .ifCond .ne 7, 30, 34, 0, 0, 0, 0, 0), (30, .iconst 1, 31, 0, 0, 0, 1, 0, 0), (31, .goto 4, 34, 35, 0, 0, 0, 0, 0), (34, .iconst 0, 35, 0, 0, 0, 0, 0, 0), (35, .istore_n 2, 36, 2, 0, 0, 0, 0, 0), (36, .iinc 3 1, 39, 3, 0, 0, 1, 0, 0), (39, .goto (-35), 42, 4, 0, 0, 0, 0, 0), (42, .iload_n 2, 43, 2, 0, 0, 0, 0, 0), (43, .ireturn, 44, 0, 0, 0, 0, 0, 0)]
theorem ok_Mo_isZero : cd_Mo_isZero.all (jm_okE "ShareSolveModel" prog_8_method_34_code 4 0 0 false false (some (.boolean))) = true := by decide +kernel
def cd_Mo_copy : List jm_e := [(0, .iconst 0, 1, 0, 0, 0, 0, 0, 0), (1, .istore_n 3, 2, 3, 0, 0, 0, 0, 0), (2, .iload_n 3, 3, 3, 0, 0, 0, 0, 0), (3, .bipush 24, 5, 0, 0, 0, 24, 0, 0), (5, .if_icmp .ge 31, 8, 36, 0, 0, 0, 0, 0), (8, .aload_n 0, 9, 0, 0, 0, 0, 0, 0), (9, .getfield 78, 12, 6, 25, 0, 0, 0, 717), (12, .bipush 24, 14, 0, 0, 0, 24, 0, 0), (14, .iload_n 2, 15, 2, 0, 0, 0, 0, 0), (15, .imul, 16, 0, 0, 0, 0, 0, 0), (16, .iload_n 3, 17, 3, 0, 0, 0, 0, 0), (17, .iadd, 18, 0, 0, 0, 0, 0, 0), (18, .aload_n 0, 19, 0, 0, 0, 0, 0, 0), (19, .getfield 78, 22, 6, 25, 0, 0, 0, 717), (22, .bipush 24, 24, 0, 0, 0, 24, 0, 0), (24, .iload_n 1, 25, 1, 0, 0, 0, 0, 0), (25, .imul, 26, 0, 0, 0, 0, 0, 0), (26, .iload_n 3, 27, 3, 0, 0, 0, 0, 0), (27, .iadd, 28, 0, 0, 0, 0, 0, 0), (28, .laload, 29, 0, 0, 0, 0, 0, 0), (29, .lastore, 30, 0, 0, 0, 0, 0, 0), (30, .iinc 3 1, 33, 3, 0, 0, 1, 0, 0), (33, .goto (-31), 36, 2, 0, 0, 0, 0, 0), (36, .return_, 37, 0, 0, 0, 0, 0, 0)]
theorem ok_Mo_copy : cd_Mo_copy.all (jm_okE "ShareSolveModel" prog_8_method_31_code 4 0 0 false false none) = true := by decide +kernel
def cd_Mo_lessen : List jm_e := [(0, .lconst 0, 1, 0, 0, 0, 0, 0, 0), (1, .lstore_n 3, 2, 3, 0, 0, 0, 0, 0), (2, .iconst 0, 3, 0, 0, 0, 0, 0, 0), (3, .istore 5, 5, 5, 0, 0, 0, 0, 0), (5, .iload 5, 7, 5, 0, 0, 0, 0, 0), (7, .bipush 24, 9, 0, 0, 0, 24, 0, 0), (9, .if_icmp .ge 69, 12, 78, 0, 0, 0, 0, 0), (12, .aload_n 0, 13, 0, 0, 0, 0, 0, 0), (13, .getfield 78, 16, 6, 25, 0, 0, 0, 717), (16, .bipush 24, 18, 0, 0, 0, 24, 0, 0), (18, .iload_n 1, 19, 1, 0, 0, 0, 0, 0), (19, .imul, 20, 0, 0, 0, 0, 0, 0), (20, .iload 5, 22, 5, 0, 0, 0, 0, 0), (22, .iadd, 23, 0, 0, 0, 0, 0, 0), (23, .laload, 24, 0, 0, 0, 0, 0, 0), (24, .aload_n 0, 25, 0, 0, 0, 0, 0, 0), (25, .getfield 78, 28, 6, 25, 0, 0, 0, 717), (28, .bipush 24, 30, 0, 0, 0, 24, 0, 0), (30, .iload_n 2, 31, 2, 0, 0, 0, 0, 0), (31, .imul, 32, 0, 0, 0, 0, 0, 0), (32, .iload 5, 34, 5, 0, 0, 0, 0, 0), (34, .iadd, 35, 0, 0, 0, 0, 0, 0), (35, .laload, 36, 0, 0, 0, 0, 0, 0), (36, .lsub, 37, 0, 0, 0, 0, 0, 0), (37, .lload_n 3, 38, 3, 0, 0, 0, 0, 0), (38, .lsub, 39, 0, 0, 0, 0, 0, 0), (39, .lstore 6, 41, 6, 0, 0, 0, 0, 0), (41, .lload 6, 43, 6, 0, 0, 0, 0, 0), (43, .lconst 0, 44, 0, 0, 0, 0, 0, 0), (44, .lcmp, 45, 0, 0, 0, 0, 0, 0), (45, .ifCond .ge 7, 48, 52, 0, 0, 0, 0, 0), (48, .lconst 1, 49, 0, 0, 0, 0, 1, 0), (49, .goto 4, 52, 53, 0, 0, 0, 0, 0), (52, .lconst 0, 53, 0, 0, 0, 0, 0, 0), (53, .lstore_n 3, 54, 3, 0, 0, 0, 0, 0), (54, .aload_n 0, 55, 0, 0, 0, 0, 0, 0), (55, .getfield 78, 58, 6, 25, 0, 0, 0, 717), (58, .bipush 24, 60, 0, 0, 0, 24, 0, 0), (60, .iload_n 1, 61, 1, 0, 0, 0, 0, 0), (61, .imul, 62, 0, 0, 0, 0, 0, 0), (62, .iload 5, 64, 5, 0, 0, 0, 0, 0), (64, .iadd, 65, 0, 0, 0, 0, 0, 0), (65, .lload 6, 67, 6, 0, 0, 0, 0, 0), (67, .ldc2_w 190, 70, 0, 0, 0, 0, 268435455, 933), (70, .land, 71, 0, 0, 0, 0, 0, 0), (71, .lastore, 72, 0, 0, 0, 0, 0, 0), (72, .iinc 5 1, 75, 5, 0, 0, 1, 0, 0), (75, .goto (-70), 78, 5, 0, 0, 0, 0, 0), (78, .return_, 79, 0, 0, 0, 0, 0, 0)]
theorem ok_Mo_lessen : cd_Mo_lessen.all (jm_okE "ShareSolveModel" prog_8_method_35_code 8 0 0 false false none) = true := by decide +kernel
def cd_Mo_load : List jm_e := [(0, .aload_n 0, 1, 0, 0, 0, 0, 0, 0), (1, .getfield 260, 4, 6, 14, 0, 0, 0, 706), (4, .ifCond .eq 27, 7, 31, 0, 0, 0, 0, 0), (7, .iload_n 1, 8, 1, 0, 0, 0, 0, 0), (8, .ifCond .lt 23, 11, 31, 0, 0, 0, 0, 0), (11, .iload_n 1, 12, 1, 0, 0, 0, 0, 0), (12, .aload_n 0, 13, 0, 0, 0, 0, 0, 0), (13, .getfield 7, 16, 6, 1, 0, 0, 0, 693), (16, .iconst 1, 17, 0, 0, 0, 1, 0, 0), (17, .iaload, 18, 0, 0, 0, 0, 0, 0), (18, .if_icmp .ge 13, 21, 31, 0, 0, 0, 0, 0), (21, .iload_n 2, 22, 2, 0, 0, 0, 0, 0), (22, .ifCond .lt 9, 25, 31, 0, 0, 0, 0, 0), (25, .iload_n 2, 26, 2, 0, 0, 0, 0, 0), (26, .bipush 6, 28, 0, 0, 0, 6, 0, 0), (28, .if_icmp .le 7, 31, 35, 0, 0, 0, 0, 0), (31, .ldc2_w 223, 34, 0, 0, 0, 0, (-1), 893), (34, .lreturn, 35, 0, 0, 0, 0, 0, 0), (35, .aload_n 0, 36, 0, 0, 0, 0, 0, 0), (36, .iload_n 1, 37, 1, 0, 0, 0, 0, 0), (37, .invokevirtual 279, 40, 139, 2, 6, 0, 0, 990), (40, .aload_n 0, 41, 0, 0, 0, 0, 0, 0), (41, .iload_n 2, 42, 2, 0, 0, 0, 0, 0), (42, .iconst 0, 43, 0, 0, 0, 0, 0, 0), (43, .invokevirtual 275, 46, 129, 3, 6, 0, 0, 950), (46, .lreturn, 47, 0, 0, 0, 0, 0, 0)]
theorem ok_Mo_load : cd_Mo_load.all (jm_okE "ShareSolveModel" prog_8_method_54_code 3 7 181 false false (some (.long))) = true := by decide +kernel
def cd_Mo_reckonLoad : List jm_e := [(0, .aload_n 0, 1, 0, 0, 0, 0, 0, 0), (1, .iconst 1, 2, 0, 0, 0, 1, 0, 0), (2, .invokevirtual 266, 5, 115, 2, 6, 0, 0, 894), (5, .iconst 0, 6, 0, 0, 0, 0, 0, 0), (6, .istore_n 2, 7, 2, 0, 0, 0, 0, 0), (7, .iload_n 2, 8, 2, 0, 0, 0, 0, 0), (8, .aload_n 0, 9, 0, 0, 0, 0, 0, 0), (9, .getfield 97, 12, 6, 0, 0, 0, 0, 692), (12, .if_icmp .ge 29, 15, 41, 0, 0, 0, 0, 0), (15, .aload_n 0, 16, 0, 0, 0, 0, 0, 0), (16, .getfield 87, 19, 6, 30, 0, 0, 0, 722), (19, .iconst 3, 20, 0, 0, 0, 3, 0, 0), (20, .iload_n 1, 21, 1, 0, 0, 0, 0, 0), (21, .imul, 22, 0, 0, 0, 0, 0, 0), (22, .iload_n 2, 23, 2, 0, 0, 0, 0, 0), (23, .iadd, 24, 0, 0, 0, 0, 0, 0), (24, .aload_n 0, 25, 0, 0, 0, 0, 0, 0), (25, .getfield 54, 28, 6, 17, 0, 0, 0, 709), (28, .iconst 3, 29, 0, 0, 0, 3, 0, 0), (29, .iload_n 1, 30, 1, 0, 0, 0, 0, 0), (30, .imul, 31, 0, 0, 0, 0, 0, 0), (31, .iload_n 2, 32, 2, 0, 0, 0, 0, 0), (32, .iadd, 33, 0, 0, 0, 0, 0, 0), (33, .laload, 34, 0, 0, 0, 0, 0, 0), (34, .lastore, 35, 0, 0, 0, 0, 0, 0), (35, .iinc 2 1, 38, 2, 0, 0, 1, 0, 0), (38, .goto (-31), 41, 7, 0, 0, 0, 0, 0), (41, .aload_n 0, 42, 0, 0, 0, 0, 0, 0), (42, .iconst 1, 43, 0, 0, 0, 1, 0, 0), (43, .iconst 0, 44, 0, 0, 0, 0, 0, 0), (44, .invokevirtual 272, 47, 128, 3, 6, 0, 0, 946), (47, .return_, 48, 0, 0, 0, 0, 0, 0)]
theorem ok_Mo_reckonLoad : cd_Mo_reckonLoad.all (jm_okE "ShareSolveModel" prog_8_method_53_code 3 6 159 false false none) = true := by decide +kernel
def cd_Mo_over : List jm_e := [(0, .iconst 0, 1, 0, 0, 0, 0, 0, 0), (1, .istore_n 2, 2, 2, 0, 0, 0, 0, 0), (2, .iconst 0, 3, 0, 0, 0, 0, 0, 0), (3, .istore_n 3, 4, 3, 0, 0, 0, 0, 0), (4, .iload_n 3, 5, 3, 0, 0, 0, 0, 0), (5, .aload_n 0, 6, 0, 0, 0, 0, 0, 0), (6, .getfield 7, 9, 6, 1, 0, 0, 0, 693), (9, .iconst 1, 10, 0, 0, 0, 1, 0, 0), (10, .iaload, 11, 0, 0, 0, 0, 0, 0), (11, .if_icmp .ge 34, 14, 45, 0, 0, 0, 0, 0), (14, .aload_n 0, 15, 0, 0, 0, 0, 0, 0), (15, .getfield 260, 18, 6, 14, 0, 0, 0, 706), (18, .ifCond .eq 27, 21, 45, 0, 0, 0, 0, 0), (21, .aload_n 0, 22, 0, 0, 0, 0, 0, 0), (22, .iload_n 3, 23, 3, 0, 0, 0, 0, 0), (23, .invokevirtual 282, 26, 141, 2, 6, 0, 0, 998), (26, .ifCond .eq 13, 29, 39, 0, 0, 0, 0, 0), (29, .iload_n 2, 30, 2, 0, 0, 0, 0, 0), (30, .iload_n 1, 31, 1, 0, 0, 0, 0, 0), (31, .if_icmp .ne 5, 34, 36, 0, 0, 0, 0, 0), (34, .iload_n 3, 35, 3, 0, 0, 0, 0, 0), (35, .ireturn, 36, 0, 0, 0, 0, 0, 0), (36, .iinc 2 1, 39, 2, 0, 0, 1, 0, 0), (39, .iinc 3 1, 42, 3, 0, 0, 1, 0, 0), (42, .goto (-38), 45, 4, 0, 0, 0, 0, 0), (45, .iconst (-1), 46, 0, 0, 0, (-1), 0, 0), (46, .ireturn, 47, 0, 0, 0, 0, 0, 0)]
theorem ok_Mo_over : cd_Mo_over.all (jm_okE "ShareSolveModel" prog_8_method_56_code 4 8 204 false false (some (.int))) = true := by decide +kernel
def cd_Mo_isOver : List jm_e := [(0, .aload_n 0, 1, 0, 0, 0, 0, 0, 0), (1, .getfield 40, 4, 6, 11, 0, 0, 0, 703), (4, .iload_n 1, 5, 1, 0, 0, 0, 0, 0), (5, .baload, 6, 0, 0, 0, 0, 0, 0), (6, .ifCond .ne 5, 9, 11, 0, 0, 0, 0, 0), (9, .iconst 0, 10, 0, 0, 0, 0, 0, 0), (10, .ireturn, 11, 0, 0, 0, 0, 0, 0), (11, .aload_n 0, 12, 0, 0, 0, 0, 0, 0), (12, .iload_n 1, 13, 1, 0, 0, 0, 0, 0), (13, .invokevirtual 279, 16, 139, 2, 6, 0, 0, 990), (16, .aload_n 0, 17, 0, 0, 0, 0, 0, 0), (17, .iconst 0, 18, 0, 0, 0, 0, 0, 0), (18, .invokevirtual 225, 21, 130, 2, 6, 0, 0, 954), (21, .lstore_n 2, 22, 2, 0, 0, 0, 0, 0), (22, .aload_n 0, 23, 0, 0, 0, 0, 0, 0), (23, .getfield 206, 26, 6, 29, 0, 0, 0, 721), (26, .ifCond .ne 44, 29, 70, 0, 0, 0, 0, 0), (29, .lload_n 2, 30, 2, 0, 0, 0, 0, 0), (30, .aload_n 0, 31, 0, 0, 0, 0, 0, 0), (31, .getfield 44, 34, 6, 12, 0, 0, 0, 704), (34, .iload_n 1, 35, 1, 0, 0, 0, 0, 0), (35, .laload, 36, 0, 0, 0, 0, 0, 0), (36, .lcmp, 37, 0, 0, 0, 0, 0, 0), (37, .ifCond .lt 33, 40, 70, 0, 0, 0, 0, 0), (40, .lload_n 2, 41, 2, 0, 0, 0, 0, 0), (41, .aload_n 0, 42, 0, 0, 0, 0, 0, 0), (42, .getfield 48, 45, 6, 13, 0, 0, 0, 705), (45, .iload_n 1, 46, 1, 0, 0, 0, 0, 0), (46, .laload, 47, 0, 0, 0, 0, 0, 0), (47, .lcmp, 48, 0, 0, 0, 0, 0, 0), (48, .ifCond .gt 22, 51, 70, 0, 0, 0, 0, 0), (51, .lload_n 2, 52, 2, 0, 0, 0, 0, 0), (52, .aload_n 0, 53, 0, 0, 0, 0, 0, 0), (53, .getfield 48, 56, 6, 13, 0, 0, 0, 705), (56, .iload_n 1, 57, 1, 0, 0, 0, 0, 0), (57, .laload, 58, 0, 0, 0, 0, 0, 0), (58, .lcmp, 59, 0, 0, 0, 0, 0, 0), (59, .ifCond .ne 15, 62, 74, 0, 0, 0, 0, 0), (62, .aload_n 0, 63, 0, 0, 0, 0, 0, 0), (63, .iconst 2, 64, 0, 0, 0, 2, 0, 0), (64, .invokevirtual 229, 67, 135, 2, 6, 0, 0, 974), (67, .ifCond .ne 7, 70, 74, 0, 0, 0, 0, 0), (70, .iconst 1, 71, 0, 0, 0, 1, 0, 0), (71, .goto 4, 74, 75, 0, 0, 0, 0, 0), (74, .iconst 0, 75, 0, 0, 0, 0, 0, 0), (75, .ireturn, 76, 0, 0, 0, 0, 0, 0)]
theorem ok_Mo_isOver : cd_Mo_isOver.all (jm_okE "ShareSolveModel" prog_8_method_55_code 4 7 181 false false (some (.boolean))) = true := by decide +kernel
def cd_Mo_slope : List jm_e := [(0, .aload_n 0, 1, 0, 0, 0, 0, 0, 0), (1, .iload_n 1, 2, 1, 0, 0, 0, 0, 0), (2, .iload_n 2, 3, 2, 0, 0, 0, 0, 0), (3, .iload_n 3, 4, 3, 0, 0, 0, 0, 0), (4, .invokevirtual 136, 7, 98, 4, 6, 0, 0, 823), (7, .ifCond .eq 31, 10, 38, 0, 0, 0, 0, 0), (10, .iload 4, 12, 4, 0, 0, 0, 0, 0), (12, .ifCond .lt 26, 15, 38, 0, 0, 0, 0, 0), (15, .iload 4, 17, 4, 0, 0, 0, 0, 0), (17, .aload_n 0, 18, 0, 0, 0, 0, 0, 0), (18, .getfield 13, 21, 6, 2, 0, 0, 0, 694), (21, .iconst 0, 22, 0, 0, 0, 0, 0, 0), (22, .iaload, 23, 0, 0, 0, 0, 0, 0), (23, .if_icmp .ge 15, 26, 38, 0, 0, 0, 0, 0), (26, .iload 5, 28, 5, 0, 0, 0, 0, 0), (28, .ifCond .lt 10, 31, 38, 0, 0, 0, 0, 0), (31, .iload 5, 33, 5, 0, 0, 0, 0, 0), (33, .bipush 6, 35, 0, 0, 0, 6, 0, 0), (35, .if_icmp .le 7, 38, 42, 0, 0, 0, 0, 0), (38, .ldc2_w 223, 41, 0, 0, 0, 0, (-1), 893), (41, .lreturn, 42, 0, 0, 0, 0, 0, 0), (42, .aload_n 0, 43, 0, 0, 0, 0, 0, 0), (43, .iconst 0, 44, 0, 0, 0, 0, 0, 0), (44, .invokevirtual 242, 47, 106, 2, 6, 0, 0, 857), (47, .aload_n 0, 48, 0, 0, 0, 0, 0, 0), (48, .iconst 0, 49, 0, 0, 0, 0, 0, 0), (49, .invokevirtual 257, 52, 111, 2, 6, 0, 0, 877), (52, .ifCond .lt 7, 55, 59, 0, 0, 0, 0, 0), (55, .ldc2_w 223, 58, 0, 0, 0, 0, (-1), 893), (58, .lreturn, 59, 0, 0, 0, 0, 0, 0), (59, .aload_n 0, 60, 0, 0, 0, 0, 0, 0), (60, .iconst 0, 61, 0, 0, 0, 0, 0, 0), (61, .invokevirtual 266, 64, 115, 2, 6, 0, 0, 894), (64, .iconst 0, 65, 0, 0, 0, 0, 0, 0), (65, .istore 6, 67, 6, 0, 0, 0, 0, 0), (67, .iload 6, 69, 6, 0, 0, 0, 0, 0), (69, .aload_n 0, 70, 0, 0, 0, 0, 0, 0), (70, .getfield 97, 73, 6, 0, 0, 0, 0, 692), (73, .if_icmp .ge 64, 76, 137, 0, 0, 0, 0, 0), (76, .iconst 3, 77, 0, 0, 0, 3, 0, 0), (77, .iload_n 1, 78, 1, 0, 0, 0, 0, 0), (78, .imul, 79, 0, 0, 0, 0, 0, 0), (79, .iload 6, 81, 6, 0, 0, 0, 0, 0), (81, .iadd, 82, 0, 0, 0, 0, 0, 0), (82, .istore 7, 84, 7, 0, 0, 0, 0, 0), (84, .iconst 0, 85, 0, 0, 0, 0, 0, 0), (85, .istore 8, 87, 8, 0, 0, 0, 0, 0), (87, .iload 8, 89, 8, 0, 0, 0, 0, 0), (89, .aload_n 0, 90, 0, 0, 0, 0, 0, 0), (90, .getfield 16, 93, 6, 3, 0, 0, 0, 695), (93, .iload_n 1, 94, 1, 0, 0, 0, 0, 0), (94, .iaload, 95, 0, 0, 0, 0, 0, 0), (95, .if_icmp .ge 36, 98, 131, 0, 0, 0, 0, 0), (98, .aload_n 0, 99, 0, 0, 0, 0, 0, 0), (99, .getfield 87, 102, 6, 30, 0, 0, 0, 722), (102, .iload 7, 104, 7, 0, 0, 0, 0, 0), (104, .dup2, 105, 0, 0, 0, 0, 0, 0), (105, .laload, 106, 0, 0, 0, 0, 0, 0), (106, .aload_n 0, 107, 0, 0, 0, 0, 0, 0), (107, .getfield 60, 110, 6, 19, 0, 0, 0, 711), (110, .bipush 9, 112, 0, 0, 0, 9, 0, 0), (112, .iconst 3, 113, 0, 0, 0, 3, 0, 0), (113, .iload 8, 115, 8, 0, 0, 0, 0, 0), (115, .imul, 116, 0, 0, 0, 0, 0, 0), (116, .iload_n 2, 117, 2, 0, 0, 0, 0, 0), (117, .iadd, 118, 0, 0, 0, 0, 0, 0), (118, .imul, 119, 0, 0, 0, 0, 0, 0), (119, .iload 7, 121, 7, 0, 0, 0, 0, 0), (121, .iadd, 122, 0, 0, 0, 0, 0, 0), (122, .laload, 123, 0, 0, 0, 0, 0, 0), (123, .ladd, 124, 0, 0, 0, 0, 0, 0), (124, .lastore, 125, 0, 0, 0, 0, 0, 0), (125, .iinc 8 1, 128, 8, 0, 0, 1, 0, 0), (128, .goto (-41), 131, 87, 0, 0, 0, 0, 0), (131, .iinc 6 1, 134, 6, 0, 0, 1, 0, 0), (134, .goto (-67), 137, 67, 0, 0, 0, 0, 0), (137, .aload_n 0, 138, 0, 0, 0, 0, 0, 0), (138, .iconst 0, 139, 0, 0, 0, 0, 0, 0), (139, .iconst 5, 140, 0, 0, 0, 5, 0, 0), (140, .invokevirtual 272, 143, 128, 3, 6, 0, 0, 946), (143, .aload_n 0, 144, 0, 0, 0, 0, 0, 0), (144, .invokevirtual 254, 147, 126, 1, 6, 0, 0, 938), (147, .aload_n 0, 148, 0, 0, 0, 0, 0, 0), (148, .iconst 0, 149, 0, 0, 0, 0, 0, 0), (149, .iload 4, 151, 4, 0, 0, 0, 0, 0), (151, .iconst (-1), 152, 0, 0, 0, (-1), 0, 0), (152, .invokevirtual 269, 155, 127, 4, 6, 0, 0, 942), (155, .aload_n 0, 156, 0, 0, 0, 0, 0, 0), (156, .iload_n 1, 157, 1, 0, 0, 0, 0, 0), (157, .iload_n 2, 158, 2, 0, 0, 0, 0, 0), (158, .iload_n 3, 159, 3, 0, 0, 0, 0, 0), (159, .iload 4, 161, 4, 0, 0, 0, 0, 0), (161, .iconst 3, 162, 0, 0, 0, 3, 0, 0), (162, .invokevirtual 288, 165, 143, 6, 6, 0, 0, 1006), (165, .aload_n 0, 166, 0, 0, 0, 0, 0, 0), (166, .iload_n 1, 167, 1, 0, 0, 0, 0, 0), (167, .iload_n 2, 168, 2, 0, 0, 0, 0, 0), (168, .aload_n 0, 169, 0, 0, 0, 0, 0, 0), (169, .getfield 16, 172, 6, 3, 0, 0, 0, 695), (172, .iload_n 1, 173, 1, 0, 0, 0, 0, 0), (173, .iaload, 174, 0, 0, 0, 0, 0, 0), (174, .iconst 1, 175, 0, 0, 0, 1, 0, 0), (175, .isub, 176, 0, 0, 0, 0, 0, 0), (176, .iload 4, 178, 4, 0, 0, 0, 0, 0), (178, .iconst 4, 179, 0, 0, 0, 4, 0, 0), (179, .invokevirtual 288, 182, 143, 6, 6, 0, 0, 1006), (182, .aload_n 0, 183, 0, 0, 0, 0, 0, 0), (183, .iconst 3, 184, 0, 0, 0, 3, 0, 0), (184, .iconst 4, 185, 0, 0, 0, 4, 0, 0), (185, .invokevirtual 292, 188, 145, 3, 6, 0, 0, 1014), (188, .istore 6, 190, 6, 0, 0, 0, 0, 0), (190, .iload 6, 192, 6, 0, 0, 0, 0, 0), (192, .ifCond .eq 18, 195, 210, 0, 0, 0, 0, 0), (195, .aload_n 0, 196, 0, 0, 0, 0, 0, 0), (196, .iconst 4, 197, 0, 0, 0, 4, 0, 0), (197, .iconst 3, 198, 0, 0, 0, 3, 0, 0), (198, .invokevirtual 236, 201, 137, 3, 6, 0, 0, 982), (201, .aload_n 0, 202, 0, 0, 0, 0, 0, 0), (202, .iconst 4, 203, 0, 0, 0, 4, 0, 0), (203, .iconst 3, 204, 0, 0, 0, 3, 0, 0), (204, .invokevirtual 232, 207, 136, 3, 6, 0, 0, 978), (207, .goto 9, 210, 216, 0, 0, 0, 0, 0), (210, .aload_n 0, 211, 0, 0, 0, 0, 0, 0), (211, .iconst 3, 212, 0, 0, 0, 3, 0, 0), (212, .iconst 4, 213, 0, 0, 0, 4, 0, 0), (213, .invokevirtual 236, 216, 137, 3, 6, 0, 0, 982), (216, .aload_n 0, 217, 0, 0, 0, 0, 0, 0), (217, .iconst 5, 218, 0, 0, 0, 5, 0, 0), (218, .iconst 3, 219, 0, 0, 0, 3, 0, 0), (219, .iconst 0, 220, 0, 0, 0, 0, 0, 0), (220, .invokevirtual 295, 223, 146, 4, 6, 0, 0, 1018), (223, .aload_n 0, 224, 0, 0, 0, 0, 0, 0), (224, .iconst 1, 225, 0, 0, 0, 1, 0, 0), (225, .iconst 4, 226, 0, 0, 0, 4, 0, 0), (226, .invokevirtual 232, 229, 136, 3, 6, 0, 0, 978), (229, .aload_n 0, 230, 0, 0, 0, 0, 0, 0), (230, .iconst 4, 231, 0, 0, 0, 4, 0, 0), (231, .iconst 4, 232, 0, 0, 0, 4, 0, 0), (232, .iconst 1, 233, 0, 0, 0, 1, 0, 0), (233, .invokevirtual 295, 236, 146, 4, 6, 0, 0, 1018), (236, .aload_n 0, 237, 0, 0, 0, 0, 0, 0), (237, .iload 5, 239, 5, 0, 0, 0, 0, 0), (239, .iload 6, 241, 6, 0, 0, 0, 0, 0), (241, .invokevirtual 275, 244, 129, 3, 6, 0, 0, 950), (244, .lreturn, 245, 0, 0, 0, 0, 0, 0)]
theorem ok_Mo_slope : cd_Mo_slope.all (jm_okE "ShareSolveModel" prog_8_method_58_code 9 6 159 false false (some (.long))) = true := by decide +kernel
def cd_Mo_gatherOut : List jm_e := [(0, .aload_n 0, 1, 0, 0, 0, 0, 0, 0), (1, .getfield 19, 4, 6, 4, 0, 0, 0, 696), (4, .iconst 3, 5, 0, 0, 0, 3, 0, 0), (5, .iload_n 1, 6, 1, 0, 0, 0, 0, 0), (6, .imul, 7, 0, 0, 0, 0, 0, 0), (7, .iload_n 3, 8, 3, 0, 0, 0, 0, 0), (8, .iadd, 9, 0, 0, 0, 0, 0, 0), (9, .iaload, 10, 0, 0, 0, 0, 0, 0), (10, .istore 6, 12, 6, 0, 0, 0, 0, 0), (12, .iload 6, 14, 6, 0, 0, 0, 0, 0), (14, .ifCond .lt 18, 17, 32, 0, 0, 0, 0, 0), (17, .aload_n 0, 18, 0, 0, 0, 0, 0, 0), (18, .iconst 3, 19, 0, 0, 0, 3, 0, 0), (19, .iload 6, 21, 6, 0, 0, 0, 0, 0), (21, .imul, 22, 0, 0, 0, 0, 0, 0), (22, .iload_n 2, 23, 2, 0, 0, 0, 0, 0), (23, .iadd, 24, 0, 0, 0, 0, 0, 0), (24, .iload 5, 26, 5, 0, 0, 0, 0, 0), (26, .invokevirtual 285, 29, 144, 3, 6, 0, 0, 1010), (29, .goto 28, 32, 57, 0, 0, 0, 0, 0), (32, .iload 6, 34, 6, 0, 0, 0, 0, 0), (34, .bipush (-2), 36, 0, 0, 0, (-2), 0, 0), (36, .iload 4, 38, 4, 0, 0, 0, 0, 0), (38, .isub, 39, 0, 0, 0, 0, 0, 0), (39, .if_icmp .ne 12, 42, 51, 0, 0, 0, 0, 0), (42, .aload_n 0, 43, 0, 0, 0, 0, 0, 0), (43, .iload 5, 45, 5, 0, 0, 0, 0, 0), (45, .invokevirtual 251, 48, 121, 2, 6, 0, 0, 917), (48, .goto 9, 51, 57, 0, 0, 0, 0, 0), (51, .aload_n 0, 52, 0, 0, 0, 0, 0, 0), (52, .iload 5, 54, 5, 0, 0, 0, 0, 0), (54, .invokevirtual 192, 57, 123, 2, 6, 0, 0, 925), (57, .return_, 58, 0, 0, 0, 0, 0, 0)]
theorem ok_Mo_gatherOut : cd_Mo_gatherOut.all (jm_okE "ShareSolveModel" prog_8_method_57_code 7 4 109 false false none) = true := by decide +kernel
def cd_Mo_gatherWorth : List jm_e := [(0, .iconst 0, 1, 0, 0, 0, 0, 0, 0), (1, .istore_n 3, 2, 3, 0, 0, 0, 0, 0), (2, .iload_n 3, 3, 3, 0, 0, 0, 0, 0), (3, .bipush 8, 5, 0, 0, 0, 8, 0, 0), (5, .if_icmp .ge 80, 8, 85, 0, 0, 0, 0, 0), (8, .aload_n 0, 9, 0, 0, 0, 0, 0, 0), (9, .getfield 51, 12, 6, 16, 0, 0, 0, 708), (12, .iload_n 3, 13, 3, 0, 0, 0, 0, 0), (13, .laload, 14, 0, 0, 0, 0, 0, 0), (14, .lstore 4, 16, 4, 0, 0, 0, 0, 0), (16, .lconst 0, 17, 0, 0, 0, 0, 0, 0), (17, .lstore 6, 19, 6, 0, 0, 0, 0, 0), (19, .iconst 0, 20, 0, 0, 0, 0, 0, 0), (20, .istore 8, 22, 8, 0, 0, 0, 0, 0), (22, .iload 8, 24, 8, 0, 0, 0, 0, 0), (24, .bipush 9, 26, 0, 0, 0, 9, 0, 0), (26, .if_icmp .ge 45, 29, 71, 0, 0, 0, 0, 0), (29, .lload 6, 31, 6, 0, 0, 0, 0, 0), (31, .aload_n 0, 32, 0, 0, 0, 0, 0, 0), (32, .getfield 72, 35, 6, 23, 0, 0, 0, 715), (35, .bipush 81, 37, 0, 0, 0, 81, 0, 0), (37, .iload_n 3, 38, 3, 0, 0, 0, 0, 0), (38, .imul, 39, 0, 0, 0, 0, 0, 0), (39, .bipush 9, 41, 0, 0, 0, 9, 0, 0), (41, .iload 8, 43, 8, 0, 0, 0, 0, 0), (43, .imul, 44, 0, 0, 0, 0, 0, 0), (44, .iadd, 45, 0, 0, 0, 0, 0, 0), (45, .iload_n 1, 46, 1, 0, 0, 0, 0, 0), (46, .iadd, 47, 0, 0, 0, 0, 0, 0), (47, .laload, 48, 0, 0, 0, 0, 0, 0), (48, .aload_n 0, 49, 0, 0, 0, 0, 0, 0), (49, .getfield 87, 52, 6, 30, 0, 0, 0, 722), (52, .iload 8, 54, 8, 0, 0, 0, 0, 0), (54, .laload, 55, 0, 0, 0, 0, 0, 0), (55, .lload 4, 57, 4, 0, 0, 0, 0, 0), (57, .lrem, 58, 0, 0, 0, 0, 0, 0), (58, .lmul, 59, 0, 0, 0, 0, 0, 0), (59, .ladd, 60, 0, 0, 0, 0, 0, 0), (60, .lload 4, 62, 4, 0, 0, 0, 0, 0), (62, .lrem, 63, 0, 0, 0, 0, 0, 0), (63, .lstore 6, 65, 6, 0, 0, 0, 0, 0), (65, .iinc 8 1, 68, 8, 0, 0, 1, 0, 0), (68, .goto (-46), 71, 22, 0, 0, 0, 0, 0), (71, .aload_n 0, 72, 0, 0, 0, 0, 0, 0), (72, .getfield 81, 75, 6, 26, 0, 0, 0, 718), (75, .iload_n 3, 76, 3, 0, 0, 0, 0, 0), (76, .lload 6, 78, 6, 0, 0, 0, 0, 0), (78, .lastore, 79, 0, 0, 0, 0, 0, 0), (79, .iinc 3 1, 82, 3, 0, 0, 1, 0, 0), (82, .goto (-80), 85, 2, 0, 0, 0, 0, 0), (85, .aload_n 0, 86, 0, 0, 0, 0, 0, 0), (86, .iload_n 2, 87, 2, 0, 0, 0, 0, 0), (87, .invokevirtual 239, 90, 122, 2, 6, 0, 0, 921), (90, .return_, 91, 0, 0, 0, 0, 0, 0)]
theorem ok_Mo_gatherWorth : cd_Mo_gatherWorth.all (jm_okE "ShareSolveModel" prog_8_method_48_code 9 3 81 false false none) = true := by decide +kernel
def cd_Mo_isLess : List jm_e := [(0, .bipush 23, 2, 0, 0, 0, 23, 0, 0), (2, .istore_n 3, 3, 3, 0, 0, 0, 0, 0), (3, .iload_n 3, 4, 3, 0, 0, 0, 0, 0), (4, .ifCond .lt 67, 7, 71, 0, 0, 0, 0, 0), (7, .aload_n 0, 8, 0, 0, 0, 0, 0, 0), (8, .getfield 78, 11, 6, 25, 0, 0, 0, 717), (11, .bipush 24, 13, 0, 0, 0, 24, 0, 0), (13, .iload_n 1, 14, 1, 0, 0, 0, 0, 0), (14, .imul, 15, 0, 0, 0, 0, 0, 0), (15, .iload_n 3, 16, 3, 0, 0, 0, 0, 0), (16, .iadd, 17, 0, 0, 0, 0, 0, 0), (17, .laload, 18, 0, 0, 0, 0, 0, 0), (18, .aload_n 0, 19, 0, 0, 0, 0, 0, 0), (19, .getfield 78, 22, 6, 25, 0, 0, 0, 717), (22, .bipush 24, 24, 0, 0, 0, 24, 0, 0), (24, .iload_n 2, 25, 2, 0, 0, 0, 0, 0), (25, .imul, 26, 0, 0, 0, 0, 0, 0), (26, .iload_n 3, 27, 3, 0, 0, 0, 0, 0), (27, .iadd, 28, 0, 0, 0, 0, 0, 0), (28, .laload, 29, 0, 0, 0, 0, 0, 0), (29, .lcmp, 30, 0, 0, 0, 0, 0, 0), (30, .ifCond .eq 35, 33, 65, 0, 0, 0, 0, 0), (33, .aload_n 0, 34, 0, 0, 0, 0, 0, 0), (34, .getfield 78, 37, 6, 25, 0, 0, 0, 717), (37, .bipush 24, 39, 0, 0, 0, 24, 0, 0), (39, .iload_n 1, 40, 1, 0, 0, 0, 0, 0), (40, .imul, 41, 0, 0, 0, 0, 0, 0), (41, .iload_n 3, 42, 3, 0, 0, 0, 0, 0), (42, .iadd, 43, 0, 0, 0, 0, 0, 0), (43, .laload, 44, 0, 0, 0, 0, 0, 0), (44, .aload_n 0, 45, 0, 0, 0, 0, 0, 0), (45, .getfield 78, 48, 6, 25, 0, 0, 0, 717), (48, .bipush 24, 50, 0, 0, 0, 24, 0, 0), (50, .iload_n 2, 51, 2, 0, 0, 0, 0, 0), (51, .imul, 52, 0, 0, 0, 0, 0, 0), (52, .iload_n 3, 53, 3, 0, 0, 0, 0, 0), (53, .iadd, 54, 0, 0, 0, 0, 0, 0), (54, .laload, 55, 0, 0, 0, 0, 0, 0), (55, .lcmp, 56, 0, 0, 0, 0, 0, 0), (56, .ifCond .ge 7, 59, 63, 0, 0, 0, 0, 0), (59, .iconst 1, 60, 0, 0, 0, 1, 0, 0), (60, .goto 4, 63, 64, 0, 0, 0, 0, 0), (63, .iconst 0, 64, 0, 0, 0, 0, 0, 0), (64, .ireturn, 65, 0, 0, 0, 0, 0, 0), (65, .iinc 3 (-1), 68, 3, 0, 0, (-1), 0, 0), (68, .goto (-65), 71, 3, 0, 0, 0, 0, 0), (71, .iconst 0, 72, 0, 0, 0, 0, 0, 0), (72, .ireturn, 73, 0, 0, 0, 0, 0, 0)]
theorem ok_Mo_isLess : cd_Mo_isLess.all (jm_okE "ShareSolveModel" prog_8_method_33_code 4 0 0 false false (some (.boolean))) = true := by decide +kernel
def cd_Mo_multiply_2 : List jm_e := [(0, .aload_n 0, 1, 0, 0, 0, 0, 0, 0), (1, .iload_n 3, 2, 3, 0, 0, 0, 0, 0), (2, .invokevirtual 192, 5, 123, 2, 6, 0, 0, 925), (5, .iconst 0, 6, 0, 0, 0, 0, 0, 0), (6, .istore 4, 8, 4, 0, 0, 0, 0, 0), (8, .iload 4, 10, 4, 0, 0, 0, 0, 0), (10, .bipush 24, 12, 0, 0, 0, 24, 0, 0), (12, .if_icmp .ge 122, 15, 134, 0, 0, 0, 0, 0), (15, .lconst 0, 16, 0, 0, 0, 0, 0, 0), (16, .lstore 5, 18, 5, 0, 0, 0, 0, 0), (18, .iconst 0, 19, 0, 0, 0, 0, 0, 0), (19, .istore 7, 21, 7, 0, 0, 0, 0, 0), (21, .iload 4, 23, 4, 0, 0, 0, 0, 0), (23, .iload 7, 25, 7, 0, 0, 0, 0, 0), (25, .iadd, 26, 0, 0, 0, 0, 0, 0), (26, .bipush 24, 28, 0, 0, 0, 24, 0, 0), (28, .if_icmp .ge 100, 31, 128, 0, 0, 0, 0, 0), (31, .aload_n 0, 32, 0, 0, 0, 0, 0, 0), (32, .getfield 78, 35, 6, 25, 0, 0, 0, 717), (35, .bipush 24, 37, 0, 0, 0, 24, 0, 0), (37, .iload_n 1, 38, 1, 0, 0, 0, 0, 0), (38, .imul, 39, 0, 0, 0, 0, 0, 0), (39, .iload 4, 41, 4, 0, 0, 0, 0, 0), (41, .iadd, 42, 0, 0, 0, 0, 0, 0), (42, .laload, 43, 0, 0, 0, 0, 0, 0), (43, .lconst 0, 44, 0, 0, 0, 0, 0, 0), (44, .lcmp, 45, 0, 0, 0, 0, 0, 0), (45, .ifCond .le 83, 48, 128, 0, 0, 0, 0, 0), (48, .aload_n 0, 49, 0, 0, 0, 0, 0, 0), (49, .getfield 78, 52, 6, 25, 0, 0, 0, 717), (52, .bipush 24, 54, 0, 0, 0, 24, 0, 0), (54, .iload_n 3, 55, 3, 0, 0, 0, 0, 0), (55, .imul, 56, 0, 0, 0, 0, 0, 0), (56, .iload 4, 58, 4, 0, 0, 0, 0, 0), (58, .iadd, 59, 0, 0, 0, 0, 0, 0), (59, .iload 7, 61, 7, 0, 0, 0, 0, 0), (61, .iadd, 62, 0, 0, 0, 0, 0, 0), (62, .laload, 63, 0, 0, 0, 0, 0, 0), (63, .aload_n 0, 64, 0, 0, 0, 0, 0, 0), (64, .getfield 78, 67, 6, 25, 0, 0, 0, 717), (67, .bipush 24, 69, 0, 0, 0, 24, 0, 0), (69, .iload_n 1, 70, 1, 0, 0, 0, 0, 0), (70, .imul, 71, 0, 0, 0, 0, 0, 0), (71, .iload 4, 73, 4, 0, 0, 0, 0, 0), (73, .iadd, 74, 0, 0, 0, 0, 0, 0), (74, .laload, 75, 0, 0, 0, 0, 0, 0), (75, .aload_n 0, 76, 0, 0, 0, 0, 0, 0), (76, .getfield 78, 79, 6, 25, 0, 0, 0, 717), (79, .bipush 24, 81, 0, 0, 0, 24, 0, 0), (81, .iload_n 2, 82, 2, 0, 0, 0, 0, 0), (82, .imul, 83, 0, 0, 0, 0, 0, 0), (83, .iload 7, 85, 7, 0, 0, 0, 0, 0), (85, .iadd, 86, 0, 0, 0, 0, 0, 0), (86, .laload, 87, 0, 0, 0, 0, 0, 0), (87, .lmul, 88, 0, 0, 0, 0, 0, 0), (88, .ladd, 89, 0, 0, 0, 0, 0, 0), (89, .lload 5, 91, 5, 0, 0, 0, 0, 0), (91, .ladd, 92, 0, 0, 0, 0, 0, 0), (92, .lstore 8, 94, 8, 0, 0, 0, 0, 0), (94, .aload_n 0, 95, 0, 0, 0, 0, 0, 0), (95, .getfield 78, 98, 6, 25, 0, 0, 0, 717), (98, .bipush 24, 100, 0, 0, 0, 24, 0, 0), (100, .iload_n 3, 101, 3, 0, 0, 0, 0, 0), (101, .imul, 102, 0, 0, 0, 0, 0, 0), (102, .iload 4, 104, 4, 0, 0, 0, 0, 0), (104, .iadd, 105, 0, 0, 0, 0, 0, 0), (105, .iload 7, 107, 7, 0, 0, 0, 0, 0), (107, .iadd, 108, 0, 0, 0, 0, 0, 0), (108, .lload 8, 110, 8, 0, 0, 0, 0, 0), (110, .ldc2_w 190, 113, 0, 0, 0, 0, 268435455, 933), (113, .land, 114, 0, 0, 0, 0, 0, 0), (114, .lastore, 115, 0, 0, 0, 0, 0, 0), (115, .lload 8, 117, 8, 0, 0, 0, 0, 0), (117, .bipush 28, 119, 0, 0, 0, 28, 0, 0), (119, .lshr, 120, 0, 0, 0, 0, 0, 0), (120, .lstore 5, 122, 5, 0, 0, 0, 0, 0), (122, .iinc 7 1, 125, 7, 0, 0, 1, 0, 0), (125, .goto (-104), 128, 21, 0, 0, 0, 0, 0), (128, .iinc 4 1, 131, 4, 0, 0, 1, 0, 0), (131, .goto (-123), 134, 8, 0, 0, 0, 0, 0), (134, .return_, 135, 0, 0, 0, 0, 0, 0)]
theorem ok_Mo_multiply_2 : cd_Mo_multiply_2.all (jm_okE "ShareSolveModel" prog_8_method_36_code 10 1 22 false false none) = true := by decide +kernel
def cd_Mo_purity : List jm_e := [(0, .aload_n 0, 1, 0, 0, 0, 0, 0, 0), (1, .getfield 260, 4, 6, 14, 0, 0, 0, 706), (4, .ifCond .eq 35, 7, 39, 0, 0, 0, 0, 0), (7, .iload_n 1, 8, 1, 0, 0, 0, 0, 0), (8, .ifCond .lt 31, 11, 39, 0, 0, 0, 0, 0), (11, .iload_n 1, 12, 1, 0, 0, 0, 0, 0), (12, .aload_n 0, 13, 0, 0, 0, 0, 0, 0), (13, .getfield 13, 16, 6, 2, 0, 0, 0, 694), (16, .iconst 1, 17, 0, 0, 0, 1, 0, 0), (17, .iaload, 18, 0, 0, 0, 0, 0, 0), (18, .if_icmp .ge 21, 21, 39, 0, 0, 0, 0, 0), (21, .aload_n 0, 22, 0, 0, 0, 0, 0, 0), (22, .iload_n 2, 23, 2, 0, 0, 0, 0, 0), (23, .invokevirtual 133, 26, 99, 2, 6, 0, 0, 827), (26, .ifCond .eq 13, 29, 39, 0, 0, 0, 0, 0), (29, .iload_n 3, 30, 3, 0, 0, 0, 0, 0), (30, .ifCond .lt 9, 33, 39, 0, 0, 0, 0, 0), (33, .iload_n 3, 34, 3, 0, 0, 0, 0, 0), (34, .bipush 6, 36, 0, 0, 0, 6, 0, 0), (36, .if_icmp .le 7, 39, 43, 0, 0, 0, 0, 0), (39, .ldc2_w 223, 42, 0, 0, 0, 0, (-1), 893), (42, .lreturn, 43, 0, 0, 0, 0, 0, 0), (43, .aload_n 0, 44, 0, 0, 0, 0, 0, 0), (44, .iconst 1, 45, 0, 0, 0, 1, 0, 0), (45, .invokevirtual 266, 48, 115, 2, 6, 0, 0, 894), (48, .aload_n 0, 49, 0, 0, 0, 0, 0, 0), (49, .iconst 1, 50, 0, 0, 0, 1, 0, 0), (50, .iload_n 1, 51, 1, 0, 0, 0, 0, 0), (51, .iload_n 2, 52, 2, 0, 0, 0, 0, 0), (52, .invokevirtual 269, 55, 127, 4, 6, 0, 0, 942), (55, .aload_n 0, 56, 0, 0, 0, 0, 0, 0), (56, .iconst 1, 57, 0, 0, 0, 1, 0, 0), (57, .iconst 0, 58, 0, 0, 0, 0, 0, 0), (58, .invokevirtual 272, 61, 128, 3, 6, 0, 0, 946), (61, .aload_n 0, 62, 0, 0, 0, 0, 0, 0), (62, .invokevirtual 254, 65, 126, 1, 6, 0, 0, 938), (65, .aload_n 0, 66, 0, 0, 0, 0, 0, 0), (66, .iconst 1, 67, 0, 0, 0, 1, 0, 0), (67, .iload_n 1, 68, 1, 0, 0, 0, 0, 0), (68, .iconst (-1), 69, 0, 0, 0, (-1), 0, 0), (69, .invokevirtual 269, 72, 127, 4, 6, 0, 0, 942), (72, .aload_n 0, 73, 0, 0, 0, 0, 0, 0), (73, .iconst 1, 74, 0, 0, 0, 1, 0, 0), (74, .iconst 1, 75, 0, 0, 0, 1, 0, 0), (75, .invokevirtual 272, 78, 128, 3, 6, 0, 0, 946), (78, .aload_n 0, 79, 0, 0, 0, 0, 0, 0), (79, .iconst 1, 80, 0, 0, 0, 1, 0, 0), (80, .invokevirtual 229, 83, 135, 2, 6, 0, 0, 974), (83, .ifCond .eq 9, 86, 92, 0, 0, 0, 0, 0), (86, .ldc2_w 223, 89, 0, 0, 0, 0, (-1), 893), (89, .goto 9, 92, 98, 0, 0, 0, 0, 0), (92, .aload_n 0, 93, 0, 0, 0, 0, 0, 0), (93, .iload_n 3, 94, 3, 0, 0, 0, 0, 0), (94, .iconst 0, 95, 0, 0, 0, 0, 0, 0), (95, .invokevirtual 275, 98, 129, 3, 6, 0, 0, 950), (98, .lreturn, 99, 0, 0, 0, 0, 0, 0)]
theorem ok_Mo_purity : cd_Mo_purity.all (jm_okE "ShareSolveModel" prog_8_method_59_code 4 6 159 false false (some (.long))) = true := by decide +kernel
def cd_Mo_change : List jm_e := [(0, .aload_n 0, 1, 0, 0, 0, 0, 0, 0), (1, .iload_n 1, 2, 1, 0, 0, 0, 0, 0), (2, .iload_n 2, 3, 2, 0, 0, 0, 0, 0), (3, .iload_n 3, 4, 3, 0, 0, 0, 0, 0), (4, .lload 4, 6, 4, 0, 0, 0, 0, 0), (6, .lload 6, 8, 6, 0, 0, 0, 0, 0), (8, .invokevirtual 297, 11, 97, 6, 6, 0, 0, 1030), (11, .ifCond .ne 5, 14, 16, 0, 0, 0, 0, 0), (14, .iconst 0, 15, 0, 0, 0, 0, 0, 0), (15, .ireturn, 16, 0, 0, 0, 0, 0, 0), (16, .aload_n 0, 17, 0, 0, 0, 0, 0, 0), (17, .invokevirtual 300, 20, 105, 1, 6, 0, 0, 1031), (20, .istore 8, 22, 8, 0, 0, 0, 0, 0), (22, .iload 8, 24, 8, 0, 0, 0, 0, 0), (24, .ifCond .lt 7, 27, 31, 0, 0, 0, 0, 0), (27, .iconst 1, 28, 0, 0, 0, 1, 0, 0), (28, .goto 4, 31, 32, 0, 0, 0, 0, 0), (31, .iconst 0, 32, 0, 0, 0, 0, 0, 0), (32, .ireturn, 33, 0, 0, 0, 0, 0, 0)]
theorem ok_Mo_change : cd_Mo_change.all (jm_okE "ShareSolveModel" prog_8_method_60_code 9 6 159 false false (some (.boolean))) = true := by decide +kernel
def cd_Mo_find : List jm_e := [(0, .aload_n 0, 1, 0, 0, 0, 0, 0, 0), (1, .iload_n 1, 2, 1, 0, 0, 0, 0, 0), (2, .invokevirtual 125, 5, 96, 2, 6, 0, 0, 815), (5, .ifCond .eq 44, 8, 49, 0, 0, 0, 0, 0), (8, .aload_n 0, 9, 0, 0, 0, 0, 0, 0), (9, .iload_n 2, 10, 2, 0, 0, 0, 0, 0), (10, .invokevirtual 133, 13, 99, 2, 6, 0, 0, 827), (13, .ifCond .eq 36, 16, 49, 0, 0, 0, 0, 0), (16, .lload_n 3, 17, 3, 0, 0, 0, 0, 0), (17, .lconst 0, 18, 0, 0, 0, 0, 0, 0), (18, .lcmp, 19, 0, 0, 0, 0, 0, 0), (19, .ifCond .lt 30, 22, 49, 0, 0, 0, 0, 0), (22, .lload_n 3, 23, 3, 0, 0, 0, 0, 0), (23, .ldc2_w 150, 26, 0, 0, 0, 0, 1000000000, 852), (26, .lcmp, 27, 0, 0, 0, 0, 0, 0), (27, .ifCond .gt 22, 30, 49, 0, 0, 0, 0, 0), (30, .aload_n 0, 31, 0, 0, 0, 0, 0, 0), (31, .getfield 16, 34, 6, 3, 0, 0, 0, 695), (34, .iload_n 1, 35, 1, 0, 0, 0, 0, 0), (35, .iaload, 36, 0, 0, 0, 0, 0, 0), (36, .iconst 2, 37, 0, 0, 0, 2, 0, 0), (37, .if_icmp .lt 12, 40, 49, 0, 0, 0, 0, 0), (40, .aload_n 0, 41, 0, 0, 0, 0, 0, 0), (41, .getfield 13, 44, 6, 2, 0, 0, 0, 694), (44, .iconst 0, 45, 0, 0, 0, 0, 0, 0), (45, .iaload, 46, 0, 0, 0, 0, 0, 0), (46, .ifCond .ne 5, 49, 51, 0, 0, 0, 0, 0), (49, .iconst (-1), 50, 0, 0, 0, (-1), 0, 0), (50, .ireturn, 51, 0, 0, 0, 0, 0, 0), (51, .iconst 2, 52, 0, 0, 0, 2, 0, 0), (52, .iconst 3, 53, 0, 0, 0, 3, 0, 0), (53, .iload_n 1, 54, 1, 0, 0, 0, 0, 0), (54, .imul, 55, 0, 0, 0, 0, 0, 0), (55, .iload_n 2, 56, 2, 0, 0, 0, 0, 0), (56, .iadd, 57, 0, 0, 0, 0, 0, 0), (57, .imul, 58, 0, 0, 0, 0, 0, 0), (58, .istore 5, 60, 5, 0, 0, 0, 0, 0), (60, .aload_n 0, 61, 0, 0, 0, 0, 0, 0), (61, .getfield 22, 64, 6, 5, 0, 0, 0, 697), (64, .iload 5, 66, 5, 0, 0, 0, 0, 0), (66, .iaload, 67, 0, 0, 0, 0, 0, 0), (67, .istore 6, 69, 6, 0, 0, 0, 0, 0), (69, .aload_n 0, 70, 0, 0, 0, 0, 0, 0), (70, .getfield 25, 73, 6, 6, 0, 0, 0, 698), (73, .iload 5, 75, 5, 0, 0, 0, 0, 0), (75, .iaload, 76, 0, 0, 0, 0, 0, 0), (76, .istore 7, 78, 7, 0, 0, 0, 0, 0), (78, .iconst 0, 79, 0, 0, 0, 0, 0, 0), (79, .istore 8, 81, 8, 0, 0, 0, 0, 0), (81, .iload 8, 83, 8, 0, 0, 0, 0, 0), (83, .bipush 12, 85, 0, 0, 0, 12, 0, 0), (85, .if_icmp .gt 80, 88, 165, 0, 0, 0, 0, 0), (88, .aload_n 0, 89, 0, 0, 0, 0, 0, 0), (89, .iload_n 1, 90, 1, 0, 0, 0, 0, 0), (90, .iload_n 2, 91, 2, 0, 0, 0, 0, 0), (91, .iconst 0, 92, 0, 0, 0, 0, 0, 0), (92, .iload 8, 94, 8, 0, 0, 0, 0, 0), (94, .i2l, 95, 0, 0, 0, 0, 0, 0), (95, .ldc2_w 116, 98, 0, 0, 0, 0, 12, 834), (98, .invokevirtual 144, 101, 101, 6, 6, 0, 0, 835), (101, .ifCond .eq 58, 104, 159, 0, 0, 0, 0, 0), (104, .aload_n 0, 105, 0, 0, 0, 0, 0, 0), (105, .getfield 22, 108, 6, 5, 0, 0, 0, 697), (108, .iload 5, 110, 5, 0, 0, 0, 0, 0), (110, .iload 8, 112, 8, 0, 0, 0, 0, 0), (112, .iastore, 113, 0, 0, 0, 0, 0, 0), (113, .aload_n 0, 114, 0, 0, 0, 0, 0, 0), (114, .getfield 25, 117, 6, 6, 0, 0, 0, 698), (117, .iload 5, 119, 5, 0, 0, 0, 0, 0), (119, .bipush 12, 121, 0, 0, 0, 12, 0, 0), (121, .iastore, 122, 0, 0, 0, 0, 0, 0), (122, .aload_n 0, 123, 0, 0, 0, 0, 0, 0), (123, .getfield 94, 126, 6, 33, 0, 0, 0, 725), (126, .iconst 0, 127, 0, 0, 0, 0, 0, 0), (127, .dup2, 128, 0, 0, 0, 0, 0, 0), (128, .iaload, 129, 0, 0, 0, 0, 0, 0), (129, .iconst 1, 130, 0, 0, 0, 1, 0, 0), (130, .iadd, 131, 0, 0, 0, 0, 0, 0), (131, .iastore, 132, 0, 0, 0, 0, 0, 0), (132, .aload_n 0, 133, 0, 0, 0, 0, 0, 0), (133, .iload_n 2, 134, 2, 0, 0, 0, 0, 0), (134, .lload_n 3, 135, 3, 0, 0, 0, 0, 0), (135, .invokevirtual 304, 138, 150, 3, 6, 0, 0, 1036), (138, .ifCond .eq 21, 141, 159, 0, 0, 0, 0, 0), (141, .aload_n 0, 142, 0, 0, 0, 0, 0, 0), (142, .invokevirtual 300, 145, 105, 1, 6, 0, 0, 1031), (145, .istore 9, 147, 9, 0, 0, 0, 0, 0), (147, .iload 9, 149, 9, 0, 0, 0, 0, 0), (149, .ifCond .ne 8, 152, 157, 0, 0, 0, 0, 0), (152, .iload 8, 154, 8, 0, 0, 0, 0, 0), (154, .goto 4, 157, 158, 0, 0, 0, 0, 0), (157, .iconst (-1), 158, 0, 0, 0, (-1), 0, 0), (158, .ireturn, 159, 0, 0, 0, 0, 0, 0), (159, .iinc 8 1, 162, 8, 0, 0, 1, 0, 0), (162, .goto (-81), 165, 81, 0, 0, 0, 0, 0), (165, .aload_n 0, 166, 0, 0, 0, 0, 0, 0), (166, .getfield 22, 169, 6, 5, 0, 0, 0, 697), (169, .iload 5, 171, 5, 0, 0, 0, 0, 0), (171, .iload 6, 173, 6, 0, 0, 0, 0, 0), (173, .iastore, 174, 0, 0, 0, 0, 0, 0), (174, .aload_n 0, 175, 0, 0, 0, 0, 0, 0), (175, .getfield 25, 178, 6, 6, 0, 0, 0, 698), (178, .iload 5, 180, 5, 0, 0, 0, 0, 0), (180, .iload 7, 182, 7, 0, 0, 0, 0, 0), (182, .iastore, 183, 0, 0, 0, 0, 0, 0), (183, .aload_n 0, 184, 0, 0, 0, 0, 0, 0), (184, .getfield 94, 187, 6, 33, 0, 0, 0, 725), (187, .iconst 0, 188, 0, 0, 0, 0, 0, 0), (188, .dup2, 189, 0, 0, 0, 0, 0, 0), (189, .iaload, 190, 0, 0, 0, 0, 0, 0), (190, .iconst 1, 191, 0, 0, 0, 1, 0, 0), (191, .iadd, 192, 0, 0, 0, 0, 0, 0), (192, .iastore, 193, 0, 0, 0, 0, 0, 0), (193, .iconst (-1), 194, 0, 0, 0, (-1), 0, 0), (194, .ireturn, 195, 0, 0, 0, 0, 0, 0)]
theorem ok_Mo_find : cd_Mo_find.all (jm_okE "ShareSolveModel" prog_8_method_61_code 10 7 182 false false (some (.int))) = true := by decide +kernel
def cd_Mo_brings : List jm_e := [(0, .aload_n 0, 1, 0, 0, 0, 0, 0, 0), (1, .iconst 0, 2, 0, 0, 0, 0, 0, 0), (2, .invokevirtual 242, 5, 106, 2, 6, 0, 0, 857), (5, .aload_n 0, 6, 0, 0, 0, 0, 0, 0), (6, .iconst 0, 7, 0, 0, 0, 0, 0, 0), (7, .invokevirtual 257, 10, 111, 2, 6, 0, 0, 877), (10, .ifCond .lt 5, 13, 15, 0, 0, 0, 0, 0), (13, .iconst 0, 14, 0, 0, 0, 0, 0, 0), (14, .ireturn, 15, 0, 0, 0, 0, 0, 0), (15, .aload_n 0, 16, 0, 0, 0, 0, 0, 0), (16, .iconst 0, 17, 0, 0, 0, 0, 0, 0), (17, .invokevirtual 266, 20, 115, 2, 6, 0, 0, 894), (20, .aload_n 0, 21, 0, 0, 0, 0, 0, 0), (21, .iconst 0, 22, 0, 0, 0, 0, 0, 0), (22, .iconst 0, 23, 0, 0, 0, 0, 0, 0), (23, .iload_n 1, 24, 1, 0, 0, 0, 0, 0), (24, .invokevirtual 269, 27, 127, 4, 6, 0, 0, 942), (27, .aload_n 0, 28, 0, 0, 0, 0, 0, 0), (28, .iconst 0, 29, 0, 0, 0, 0, 0, 0), (29, .iconst 0, 30, 0, 0, 0, 0, 0, 0), (30, .invokevirtual 272, 33, 128, 3, 6, 0, 0, 946), (33, .aload_n 0, 34, 0, 0, 0, 0, 0, 0), (34, .iconst 0, 35, 0, 0, 0, 0, 0, 0), (35, .invokevirtual 225, 38, 130, 2, 6, 0, 0, 954), (38, .lload_n 2, 39, 2, 0, 0, 0, 0, 0), (39, .lcmp, 40, 0, 0, 0, 0, 0, 0), (40, .ifCond .lt 7, 43, 47, 0, 0, 0, 0, 0), (43, .iconst 1, 44, 0, 0, 0, 1, 0, 0), (44, .goto 4, 47, 48, 0, 0, 0, 0, 0), (47, .iconst 0, 48, 0, 0, 0, 0, 0, 0), (48, .ireturn, 49, 0, 0, 0, 0, 0, 0)]
theorem ok_Mo_brings : cd_Mo_brings.all (jm_okE "ShareSolveModel" prog_8_method_62_code 4 6 159 false false (some (.boolean))) = true := by decide +kernel
def cd_Mo_kept : List jm_e := [(0, .aload_n 0, 1, 0, 0, 0, 0, 0, 0), (1, .getfield 118, 4, 6, 15, 0, 0, 0, 707), (4, .ireturn, 5, 0, 0, 0, 0, 0, 0)]
theorem ok_Mo_kept : cd_Mo_kept.all (jm_okE "ShareSolveModel" prog_8_method_63_code 1 0 0 false false (some (.boolean))) = true := by decide +kernel
def cd_Lw_cell : List jm_e := [(0, .iload_n 1, 1, 1, 0, 0, 0, 0, 0), (1, .aload_n 0, 2, 0, 0, 0, 0, 0, 0), (2, .arraylength, 3, 1, 0, 0, 0, 0, 0), (3, .if_icmp .ge 9, 6, 12, 0, 0, 0, 0, 0), (6, .aload_n 0, 7, 0, 0, 0, 0, 0, 0), (7, .iload_n 1, 8, 1, 0, 0, 0, 0, 0), (8, .iaload, 9, 1, 0, 0, 0, 0, 0), (9, .goto 4, 12, 13, 0, 0, 0, 0, 0), (12, .iconst 0, 13, 0, 0, 0, 0, 0, 0), (13, .ireturn, 14, 0, 0, 0, 0, 0, 0)]
theorem ok_Lw_cell : cd_Lw_cell.all (jm_okE "ShareSolveLaw" method_2_code 2 0 0 true false (some (.int))) = true := by decide +kernel
end
section
/-! The pure words are sound: what they say of an instruction holds on the machine. -/
abbrev jm_tys (ca : Nat → ClassId) : List (ClassId × FieldType) := [(ca 50, .int), (ca 51, .long), (ca 52, .boolean), (ca 53, .object "ShareSolve$Whole"), (ca 54, .array .int)]
def jm_W (p : Program) (l : Launch) (en : Env) (R : Room) (s : State) (mi : MethodId) (args : Array Value) (below : List Frame) (meth : Method) (c : Code) (Qw : State → Prop) (nL : Nat) (D : va_G) (ca : Nat → ClassId) (A : Nat → Prop) : jm_K := fun pc lv st m nc ns =>
  ∀ (H : Heap) (locs : List Loc) (ls : Array Slot), va_P D jm_cl (jm_w jm_FT ca m) H → va_D A (jm_w jm_FT ca m) → va_S A s.heap H locs → lv_has ls nL lv → W p l en R s mi args below meth c H locs nc ns Qw (F0 mi pc ls st)
/-- a method's words: its own code, then all good ones -/
def jm_ws (y : jm_I) : List Cond := Cond.code y.1 y.2.1 y.2.2.1 y.2.2.2.1 :: jm_Tb
def jm_rm (y : jm_I) (a b : Nat) : Room := { frames := y.2.2.2.2.1, cells := a, slots := b, locals := y.2.2.2.2.2 }
def jm_N (U : State) : Prop := (∀ w ∈ jm_nest, va_Nw w U) ∧ va_AO "ShareSolve$Whole" U
def jm_B (D : va_G) (ca : Nat → ClassId) (m : jm_M) (sz : Nat) (U : State) : Prop := U.heap.size = sz ∧ va_P D jm_cl (jm_w jm_FT ca m) U.heap ∧ va_K D jm_cl (jm_tys ca) U ∧ jm_N U ∧ va_D (fun _ => True) (jm_w jm_FT ca m)
def jm_Qc (D : va_G) (ca : Nat → ClassId) (m : jm_M) (sz : Nat) (Q : Option Value → jm_M → Prop) : Array Value → State → Outcome → State → Prop := fun _ st oc t =>
  (∃ (v : Option Value) (m' : jm_M), oc = .returned v ∧ Q v m' ∧ va_P D jm_cl (jm_w jm_FT ca m') t.heap ∧ va_D (va_A (jm_w jm_FT ca m) sz) (jm_w jm_FT ca m')) ∧ va_F (va_A (jm_w jm_FT ca m) sz) st t
/-- THE CONTRACT of method k: from the memory m with these arguments it answers v and leaves m', as Q says, and makes at most a cells of b places -/
def jm_C (l : Launch) (D : va_G) (ca : Nat → ClassId) : jm_Ct := fun k args m a b Q =>
  ∀ sz : Nat, Met l (jm_mt k).1 (jm_ws (jm_mt k)) (jm_rm (jm_mt k) a b) (va_Pc args (jm_B D ca m sz)) (jm_Qc D ca m sz Q) a b (va_A (jm_w jm_FT ca m) sz)
def jm_H (p : Program) (R : Room) (s : State) (mi : MethodId) (args : Array Value) (meth : Method) (c : Code) (own : String) (cc : ByteArray) (nL fr lo : Nat) (law ini : Bool) (D : va_G) (ca : Nat → ClassId) (A : Nat → Prop) (S : Nat × Nat × (Nat → Int32)) : Prop :=
  p.tables.exec = Jvm.exec ∧ c.code = cc ∧ c.maxLocals = nL ∧ s.vm.findClass own = some mi.cls ∧ (∀ w ∈ jm_Tb, w.before args s = true) ∧ jm_N s ∧ va_K D jm_cl (jm_tys ca) s ∧ (∀ q, s.heap.size ≤ q → A q) ∧ fr ≤ R.frames ∧ lo ≤ R.locals ∧ (ini = true → meth.name = "<init>") ∧ (law = true → va_X S.1 S.2.1 S.2.2 s s.heap ∧ S.1 < s.heap.size ∧ ¬ A S.1)
theorem jm_rest {rest : List Value} (h : (rest.map fun v => v.category).sum ≤ 8) {n lo x : Nat} (h1 : n ≤ lo) (h2 : lo ≤ x) (h3 : 38 ≤ n) : (rest.map fun v => v.category).sum + 30 ≤ x := by omega
theorem jm_fix {C : String} {T : u_T} {N i : Nat} (h : jm_cl[i]? = some (C, T, N)) : jm_cls i C T N := jm_cls_all i C T N h
theorem jm_i50 {i : Nat} {q : vw_C} (h : jm_cl[i]? = some q) : i < 50 := by
  have := (List.getElem?_eq_some_iff.mp h).1
  simp [jm_cl] at this
  omega
section JS
variable {p : Program} {l : Launch} {en : Env} {R : Room} {s : State} {mi : MethodId} {args : Array Value} {below : List Frame} {meth : Method} {c : Code} {Qw : State → Prop} {own : String} {cc : ByteArray} {nL fr lo : Nat} {law ini : Bool} {ret : Option FieldType} {D : va_G} {ca : Nat → ClassId} {A : Nat → Prop} {S : Nat × Nat × (Nat → Int32)} {Rt : jm_Rt}
theorem jm_sget (h : jm_H p R s mi args meth c own cc nL fr lo law ini D ca A S) {pc i k q : Nat} {st : List Value} {lv : jm_LV} {m : jm_M} {nc ns a : Nat} {v : Value} {z : vw_C} (hc : jm_cl[q]? = some z) (hk : k < z.2.2) (hl0 : Cond.fieldLink own i z.1 (z.2.1 k).2.1 (z.2.1 k).2.2.1 ∈ jm_Tb) (hd : decode cc pc = .ok (.getfield i, 3)) (ho : jm_ok m a q) (hv : jm_val (jm_ft q k) m a k = v)
    (hs : jm_W p l en R s mi args below meth c Qw nL D ca A (pc + 3) lv (v :: st) m nc ns) : jm_W p l en R s mi args below meth c Qw nL D ca A pc lv (.ref a :: st) m nc ns := by
  obtain ⟨hx, hb, hml, hown, hts, hN, hK, hA, hfr, hlo, hin, hlaw⟩ := h
  obtain ⟨C, T, N⟩ := z
  obtain ⟨c1, c2, c3, c4, c5, c6, c7⟩ := jm_fix hc
  intro H locs ls hP hD hS hl
  obtain ⟨q0, hq⟩ := jm_w_get (FT := jm_FT) (ca := ca) ho.1
  rw [jm_cell_o ho.2 (jm_i50 hc)] at hq
  refine va_get (v := v) hx hb hts c1 hown hK hP q0 hq hc k hk (hts _ hl0) ?_ ?_ hd (hs H locs ls hP hD hS hl)
  · rw [c4 k hk]; exact fun _ h9 => h9
  · rw [jm_fs_get _ _ _ (by rw [c7]; exact hk), hv]
theorem jm_sput (h : jm_H p R s mi args meth c own cc nL fr lo law ini D ca A S) {pc i k q : Nat} {st : List Value} {lv : jm_LV} {m m' : jm_M} {nc ns a : Nat} {v : Value} {z : vw_C} (hc : jm_cl[q]? = some z) (hk : k < z.2.2) (hl0 : Cond.fieldLink own i z.1 (z.2.1 k).2.1 (z.2.1 k).2.2.1 ∈ jm_Tb) (hf : (z.2.1 k).2.2.2 = false ∨ (ini = true ∧ own = z.1)) (hd : decode cc pc = .ok (.putfield i, 3)) (ho : jm_ok m a q)
    (hn : narrow (jm_ft q k) v = v) (hfit : fits (jm_ft q k) v = true) (hL : m'.1 = m.1) (hT : m'.2.1 = m.2.1) (h1 : jm_val (jm_ft q k) m' a k = v) (h2 : ∀ j, j ≠ k → jm_val (jm_ft q j) m' a j = jm_val (jm_ft q j) m a j) (h3 : ∀ b, b ≠ a → jm_cell jm_FT ca m' b = jm_cell jm_FT ca m b)
    (hs : jm_W p l en R s mi args below meth c Qw nL D ca A (pc + 3) lv st m' nc ns) : jm_W p l en R s mi args below meth c Qw nL D ca A pc lv (v :: .ref a :: st) m nc ns := by
  obtain ⟨hx, hb, hml, hown, hts, hN, hK, hA, hfr, hlo, hin, hlaw⟩ := h
  obtain ⟨C, T, N⟩ := z
  obtain ⟨c1, c2, c3, c4, c5, c6, c7⟩ := jm_fix hc
  intro H locs ls hP hD hS hl
  obtain ⟨q0, hq⟩ := jm_w_get (FT := jm_FT) (ca := ca) ho.1
  have hset : (jm_w jm_FT ca m).set q0 (a, .inr (q, (jm_fs (jm_FT q) m a).set k v)) = jm_w jm_FT ca m' := by
    refine jm_w_set hD ho.1 hq hL hT ?_ h3
    rw [jm_cell_o (by rw [hT]; exact ho.2) (jm_i50 hc), jm_fs_set h1 h2]
  rw [jm_cell_o ho.2 (jm_i50 hc)] at hq
  by_cases hfin : (T k).2.2.2 = false
  · refine va_put (v := v) hx hb hts c1 (jm_ft q) c2 c3 hown hK hP hD hS q0 hq hc k hk (hts _ hl0) ?_ hfin (c2 k hk) hn hfit (by rw [jm_fs_len, c7]; exact hk) hd (fun H1 locs1 hP1 hD1 hS1 => ?_)
    · rw [c4 k hk]; exact fun _ h9 => h9
    · rw [hset] at hP1 hD1
      exact hs H1 locs1 ls hP1 hD1 hS1 hl
  · rcases hf with hf | ⟨hf1, hf2⟩
    · exact absurd hf hfin
    · have hfin' : (T k).2.2.2 = true := by
        cases hz : (T k).2.2.2
        · exact absurd hz hfin
        · rfl
      refine va_putF (v := v) hx hb hts c1 (jm_ft q) c2 c3 hown hK hP hD hS q0 hq hc k hk (hts _ hl0) ?_ hfin' (hin hf1) ?_ (c2 k hk) hn hfit (by rw [jm_fs_len, c7]; exact hk) hd (fun H1 locs1 hP1 hD1 hS1 => ?_)
      · rw [c4 k hk]; exact fun _ h9 => h9
      · rw [c4 k hk]; exact hf2.symm
      · rw [hset] at hP1 hD1
        exact hs H1 locs1 ls hP1 hD1 hS1 hl
theorem jm_val_uI {t : FieldType} {m : jm_M} {a j k : Nat} {x : Int32} (h : j ≠ k) : jm_val t (uI m a k x) a j = jm_val t m a j := by
  unfold jm_val
  simp only [uI, uA, va_up_self, va_up_ne _ _ h]
theorem jm_val_uJ {t : FieldType} {m : jm_M} {a j k : Nat} {x : Int64} (h : j ≠ k) : jm_val t (uJ m a k x) a j = jm_val t m a j := by
  unfold jm_val
  simp only [uJ, uJA, va_up_self, va_up_ne _ _ h]
theorem jm_val_uR {t : FieldType} {m : jm_M} {a j k : Nat} {x : Option Nat} (h : j ≠ k) : jm_val t (uR m a k x) a j = jm_val t m a j := by
  unfold jm_val
  simp only [uR, uRA, va_up_self, va_up_ne _ _ h]
/-- where an array is laid anew, and nothing else -/
theorem jm_wset {m m' : jm_M} {a k q0 : Nat} (hD : va_D A (jm_w jm_FT ca m)) (ho : jm_ok m a k) (hk : 50 ≤ k) (hq : (jm_w jm_FT ca m)[q0]? = some (a, jm_cell jm_FT ca m a)) (hL : m'.1 = m.1) (hT : m'.2.1 = m.2.1) (h3 : ∀ b, b ≠ a → jm_cell jm_FT ca m' b = jm_cell jm_FT ca m b) {n : Nat} {z : (Nat → Int32) ⊕ (Nat → Int64) ⊕ (Nat → UInt32) ⊕ (Nat → UInt64) ⊕ (Nat → Option Nat)} (hn : (m.2.1 a).2 = n) (hz : jm_con k m' a = z) : (jm_w jm_FT ca m).set q0 (a, .inl (ca k, n, z)) = jm_w jm_FT ca m' := by
  refine jm_w_set hD ho.1 hq hL hT ?_ h3
  rw [jm_cell_a (by rw [hT]; exact ho.2) hk, hT, hn, hz]
theorem jm_siald (h : jm_H p R s mi args meth c own cc nL fr lo law ini D ca A S) {pc : Nat} {st : List Value} {lv : jm_LV} {m : jm_M} {nc ns a : Nat} {i : Int32} (hd : decode cc pc = .ok (.iaload, 1)) (ho : jm_ok m a 50) (hi : vp_in i (m.2.1 a).2)
    (hs : jm_W p l en R s mi args below meth c Qw nL D ca A (pc + 1) lv (.int (m.2.2.1 a i.toNatClampNeg) :: st) m nc ns) : jm_W p l en R s mi args below meth c Qw nL D ca A pc lv (.int i :: .ref a :: st) m nc ns := by
  obtain ⟨hx, hb, hml, hown, hts, hN, hK, hA, hfr, hlo, hin, hlaw⟩ := h
  intro H locs ls hP hD hS hl
  obtain ⟨q0, hq⟩ := jm_w_get (FT := jm_FT) (ca := ca) ho.1
  rw [jm_cell_a ho.2 (by decide)] at hq
  exact va_iald hx hb hK hP q0 0 hq rfl hi hd (hs H locs ls hP hD hS hl)
theorem jm_slald (h : jm_H p R s mi args meth c own cc nL fr lo law ini D ca A S) {pc : Nat} {st : List Value} {lv : jm_LV} {m : jm_M} {nc ns a : Nat} {i : Int32} (hd : decode cc pc = .ok (.laload, 1)) (ho : jm_ok m a 51) (hi : vp_in i (m.2.1 a).2)
    (hs : jm_W p l en R s mi args below meth c Qw nL D ca A (pc + 1) lv (.long (m.2.2.2.1 a i.toNatClampNeg) :: st) m nc ns) : jm_W p l en R s mi args below meth c Qw nL D ca A pc lv (.int i :: .ref a :: st) m nc ns := by
  obtain ⟨hx, hb, hml, hown, hts, hN, hK, hA, hfr, hlo, hin, hlaw⟩ := h
  intro H locs ls hP hD hS hl
  obtain ⟨q0, hq⟩ := jm_w_get (FT := jm_FT) (ca := ca) ho.1
  rw [jm_cell_a ho.2 (by decide)] at hq
  exact va_lald hx hb hK hP q0 1 hq rfl hi hd (hs H locs ls hP hD hS hl)
theorem jm_szald (h : jm_H p R s mi args meth c own cc nL fr lo law ini D ca A S) {pc : Nat} {st : List Value} {lv : jm_LV} {m : jm_M} {nc ns a : Nat} {i : Int32} (hd : decode cc pc = .ok (.baload, 1)) (ho : jm_ok m a 52) (hi : vp_in i (m.2.1 a).2)
    (hs : jm_W p l en R s mi args below meth c Qw nL D ca A (pc + 1) lv (.int (m.2.2.1 a i.toNatClampNeg) :: st) m nc ns) : jm_W p l en R s mi args below meth c Qw nL D ca A pc lv (.int i :: .ref a :: st) m nc ns := by
  obtain ⟨hx, hb, hml, hown, hts, hN, hK, hA, hfr, hlo, hin, hlaw⟩ := h
  intro H locs ls hP hD hS hl
  obtain ⟨q0, hq⟩ := jm_w_get (FT := jm_FT) (ca := ca) ho.1
  rw [jm_cell_a ho.2 (by decide)] at hq
  exact va_zald hx hb hK hP q0 2 hq rfl hi hd (hs H locs ls hP hD hS hl)
theorem jm_siast (h : jm_H p R s mi args meth c own cc nL fr lo law ini D ca A S) {pc : Nat} {st : List Value} {lv : jm_LV} {m : jm_M} {nc ns a : Nat} {i : Int32} {x : Int32} (hd : decode cc pc = .ok (.iastore, 1)) (ho : jm_ok m a 50) (hi : vp_in i (m.2.1 a).2)
    (hs : jm_W p l en R s mi args below meth c Qw nL D ca A (pc + 1) lv st (uI m a i.toNatClampNeg x) nc ns) : jm_W p l en R s mi args below meth c Qw nL D ca A pc lv (.int x :: .int i :: .ref a :: st) m nc ns := by
  obtain ⟨hx, hb, hml, hown, hts, hN, hK, hA, hfr, hlo, hin, hlaw⟩ := h
  intro H locs ls hP hD hS hl
  obtain ⟨q0, hq⟩ := jm_w_get (FT := jm_FT) (ca := ca) ho.1
  have hset := jm_wset (m' := uI m a i.toNatClampNeg x) hD ho (by decide) hq rfl rfl (fun b hb => jm_cell_uA hb) rfl rfl
  rw [jm_cell_a ho.2 (by decide)] at hq
  refine va_iast hx hb hK hP hD hS q0 0 hq rfl hi hd (fun H1 locs1 hP1 hD1 hS1 => ?_)
  have e : (upd (m.2.2.1 a) i.toNatClampNeg x) = va_up (m.2.2.1 a) i.toNatClampNeg x := by
    funext j
    skip
    skip
    by_cases hj : j = i.toNatClampNeg
    · subst hj; simp [upd, va_up]
    · simp [upd, va_up, hj]
  rw [e] at hP1 hD1
  have e2 : jm_con 50 (uI m a i.toNatClampNeg x) a = .inl (va_up (m.2.2.1 a) i.toNatClampNeg x) := by
    unfold jm_con
    simp [uI, uJ, uA, uJA, va_up_self]
  rw [e2] at hset
  rw [hset] at hP1 hD1
  exact hs H1 locs1 ls hP1 hD1 hS1 hl
theorem jm_slast (h : jm_H p R s mi args meth c own cc nL fr lo law ini D ca A S) {pc : Nat} {st : List Value} {lv : jm_LV} {m : jm_M} {nc ns a : Nat} {i : Int32} {x : Int64} (hd : decode cc pc = .ok (.lastore, 1)) (ho : jm_ok m a 51) (hi : vp_in i (m.2.1 a).2)
    (hs : jm_W p l en R s mi args below meth c Qw nL D ca A (pc + 1) lv st (uJ m a i.toNatClampNeg x) nc ns) : jm_W p l en R s mi args below meth c Qw nL D ca A pc lv (.long x :: .int i :: .ref a :: st) m nc ns := by
  obtain ⟨hx, hb, hml, hown, hts, hN, hK, hA, hfr, hlo, hin, hlaw⟩ := h
  intro H locs ls hP hD hS hl
  obtain ⟨q0, hq⟩ := jm_w_get (FT := jm_FT) (ca := ca) ho.1
  have hset := jm_wset (m' := uJ m a i.toNatClampNeg x) hD ho (by decide) hq rfl rfl (fun b hb => jm_cell_uJA hb) rfl rfl
  rw [jm_cell_a ho.2 (by decide)] at hq
  refine va_last hx hb hK hP hD hS q0 1 hq rfl hi hd (fun H1 locs1 hP1 hD1 hS1 => ?_)
  have e : (vp_updL (m.2.2.2.1 a) i.toNatClampNeg x) = va_up (m.2.2.2.1 a) i.toNatClampNeg x := by
    funext j
    skip
    skip
    by_cases hj : j = i.toNatClampNeg
    · subst hj; simp [vp_updL, va_up]
    · simp [vp_updL, va_up, hj]
  rw [e] at hP1 hD1
  have e2 : jm_con 51 (uJ m a i.toNatClampNeg x) a = .inr (.inl (va_up (m.2.2.2.1 a) i.toNatClampNeg x)) := by
    unfold jm_con
    simp [uI, uJ, uA, uJA, va_up_self]
  rw [e2] at hset
  rw [hset] at hP1 hD1
  exact hs H1 locs1 ls hP1 hD1 hS1 hl
theorem jm_szast (h : jm_H p R s mi args meth c own cc nL fr lo law ini D ca A S) {pc : Nat} {st : List Value} {lv : jm_LV} {m : jm_M} {nc ns a : Nat} {i : Int32} {x : Int32} (hd : decode cc pc = .ok (.bastore, 1)) (ho : jm_ok m a 52) (hi : vp_in i (m.2.1 a).2) (hx01 : x = 0 ∨ x = 1)
    (hs : jm_W p l en R s mi args below meth c Qw nL D ca A (pc + 1) lv st (uI m a i.toNatClampNeg x) nc ns) : jm_W p l en R s mi args below meth c Qw nL D ca A pc lv (.int x :: .int i :: .ref a :: st) m nc ns := by
  obtain ⟨hx, hb, hml, hown, hts, hN, hK, hA, hfr, hlo, hin, hlaw⟩ := h
  intro H locs ls hP hD hS hl
  obtain ⟨q0, hq⟩ := jm_w_get (FT := jm_FT) (ca := ca) ho.1
  have hset := jm_wset (m' := uI m a i.toNatClampNeg x) hD ho (by decide) hq rfl rfl (fun b hb => jm_cell_uA hb) rfl rfl
  rw [jm_cell_a ho.2 (by decide)] at hq
  refine va_zast hx hb hK hP hD hS q0 2 hq rfl hi hd (fun H1 locs1 hP1 hD1 hS1 => ?_)
  have e : (upd (m.2.2.1 a) i.toNatClampNeg (vp_nar .boolean x)) = va_up (m.2.2.1 a) i.toNatClampNeg x := by
    funext j
    have e0 : vp_nar .boolean x = x := by rcases hx01 with rfl | rfl <;> rfl
    rw [e0]
    by_cases hj : j = i.toNatClampNeg
    · subst hj; simp [upd, va_up]
    · simp [upd, va_up, hj]
  rw [e] at hP1 hD1
  have e2 : jm_con 52 (uI m a i.toNatClampNeg x) a = .inl (va_up (m.2.2.1 a) i.toNatClampNeg x) := by
    unfold jm_con
    simp [uI, uJ, uA, uJA, va_up_self]
  rw [e2] at hset
  rw [hset] at hP1 hD1
  exact hs H1 locs1 ls hP1 hD1 hS1 hl
end JS
end
section
section JS2
variable {p : Program} {l : Launch} {en : Env} {R : Room} {s : State} {mi : MethodId} {args : Array Value} {below : List Frame} {meth : Method} {c : Code} {Qw : State → Prop} {own : String} {cc : ByteArray} {nL fr lo : Nat} {law ini : Bool} {ret : Option FieldType} {D : va_G} {ca : Nat → ClassId} {A : Nat → Prop} {S : Nat × Nat × (Nat → Int32)} {Rt : jm_Rt}
theorem jm_con_r {k : Nat} (h : 53 ≤ k) (m : jm_M) (a : Nat) : jm_con k m a = .inr (.inr (.inr (.inr (m.2.2.2.2 a)))) := by
  unfold jm_con
  rw [if_neg (by omega), if_neg (by omega)]
theorem jm_saald (h : jm_H p R s mi args meth c own cc nL fr lo law ini D ca A S) {pc k : Nat} {st : List Value} {lv : jm_LV} {m : jm_M} {nc ns a : Nat} {i : Int32} (hd : decode cc pc = .ok (.aaload, 1)) (hk : k = 53 ∨ k = 54) (ho : jm_ok m a k) (hi : vp_in i (m.2.1 a).2)
    (hs : jm_W p l en R s mi args below meth c Qw nL D ca A (pc + 1) lv (va_rf (m.2.2.2.2 a i.toNatClampNeg) :: st) m nc ns) : jm_W p l en R s mi args below meth c Qw nL D ca A pc lv (.int i :: .ref a :: st) m nc ns := by
  obtain ⟨hx, hb, hml, hown, hts, hN, hK, hA, hfr, hlo, hin, hlaw⟩ := h
  intro H locs ls hP hD hS hl
  obtain ⟨q0, hq⟩ := jm_w_get (FT := jm_FT) (ca := ca) ho.1
  rw [jm_cell_a ho.2 (by omega), jm_con_r (by omega)] at hq
  have hlt : i.toNatClampNeg < (m.2.1 a).2 := Nat.not_le.mp fun q => hi (Or.inr q)
  have hcell : H[a]? = some (vp_cell (ca k) ((m.2.1 a).2, .inr (.inr (.inr (.inr (m.2.2.2.2 a)))))) := hP q0 _ hq
  rcases hk with rfl | rfl
  · exact W.aald (v := va_rf (m.2.2.2.2 a i.toNatClampNeg)) (ty := .object "ShareSolve$Whole") hx hb hcell ((hK.2 3 _ rfl).1 (m.2.1 a).2 (fun j => va_rf (m.2.2.2.2 a j))) rfl (fun q => by cases q) (by show ¬ (i < 0 ∨ (arrV _ _ _).slots.size ≤ _); rw [arrV_size]; exact hi) (by show (arrV _ _ _).slots[_]? = _; rw [arrV_read _ _ hlt]) rfl rfl hd (hs H locs ls hP hD hS hl)
  · exact W.aald (v := va_rf (m.2.2.2.2 a i.toNatClampNeg)) (ty := .array .int) hx hb hcell ((hK.2 4 _ rfl).1 (m.2.1 a).2 (fun j => va_rf (m.2.2.2.2 a j))) rfl (fun q => by cases q) (by show ¬ (i < 0 ∨ (arrV _ _ _).slots.size ≤ _); rw [arrV_size]; exact hi) (by show (arrV _ _ _).slots[_]? = _; rw [arrV_read _ _ hlt]) rfl rfl hd (hs H locs ls hP hD hS hl)
theorem jm_saast (h : jm_H p R s mi args meth c own cc nL fr lo law ini D ca A S) {pc : Nat} {st : List Value} {lv : jm_LV} {m : jm_M} {nc ns a x : Nat} {i : Int32} (hd : decode cc pc = .ok (.aastore, 1)) (ho : jm_ok m a 53) (hi : vp_in i (m.2.1 a).2) (hxo : jm_ok m x 4)
    (hs : jm_W p l en R s mi args below meth c Qw nL D ca A (pc + 1) lv st (uR m a i.toNatClampNeg (some x)) nc ns) : jm_W p l en R s mi args below meth c Qw nL D ca A pc lv (.ref x :: .int i :: .ref a :: st) m nc ns := by
  obtain ⟨hx, hb, hml, hown, hts, hN, hK, hA, hfr, hlo, hin, hlaw⟩ := h
  intro H locs ls hP hD hS hl
  obtain ⟨q0, hq⟩ := jm_w_get (FT := jm_FT) (ca := ca) ho.1
  obtain ⟨q1, hq1⟩ := jm_w_get (FT := jm_FT) (ca := ca) hxo.1
  have hset := jm_wset (m' := uR m a i.toNatClampNeg (some x)) hD ho (by decide) hq rfl rfl (fun b hb => jm_cell_uRA hb) rfl rfl
  rw [jm_cell_a ho.2 (by decide), jm_con_r (by decide)] at hq
  rw [jm_cell_o hxo.2 (by decide)] at hq1
  refine va_astq hx hb hK hP hD hS q0 3 q1 4 hq rfl hq1 rfl hi hd (fun H1 locs1 hP1 hD1 hS1 => ?_)
  rw [jm_con_r (by decide)] at hset
  have e : (uR m a i.toNatClampNeg (some x)).2.2.2.2 a = va_up (m.2.2.2.2 a) i.toNatClampNeg (some x) := va_up_self _ _ _
  rw [e] at hset
  rw [hset] at hP1 hD1
  exact hs H1 locs1 ls hP1 hD1 hS1 hl
theorem jm_slen (h : jm_H p R s mi args meth c own cc nL fr lo law ini D ca A S) {pc : Nat} {st : List Value} {lv : jm_LV} {m : jm_M} {nc ns a : Nat} (hd : decode cc pc = .ok (.arraylength, 1)) (ho : a ∈ m.1) (hk : 50 ≤ (m.2.1 a).1) (hk2 : (m.2.1 a).1 ≤ 54)
    (hs : jm_W p l en R s mi args below meth c Qw nL D ca A (pc + 1) lv (.int (Int32.ofNat (m.2.1 a).2) :: st) m nc ns) : jm_W p l en R s mi args below meth c Qw nL D ca A pc lv (.ref a :: st) m nc ns := by
  obtain ⟨hx, hb, hml, hown, hts, hN, hK, hA, hfr, hlo, hin, hlaw⟩ := h
  intro H locs ls hP hD hS hl
  obtain ⟨q0, hq⟩ := jm_w_get (FT := jm_FT) (ca := ca) ho
  rw [jm_cell_a rfl hk] at hq
  have key : ∃ (t0 : Nat) (ty : FieldType), (jm_tys ca)[t0]? = some (ca (m.2.1 a).1, ty) := by
    rcases (show (m.2.1 a).1 = 50 ∨ (m.2.1 a).1 = 51 ∨ (m.2.1 a).1 = 52 ∨ (m.2.1 a).1 = 53 ∨ (m.2.1 a).1 = 54 by omega) with e | e | e | e | e <;> rw [e]
    · exact ⟨0, _, rfl⟩
    · exact ⟨1, _, rfl⟩
    · exact ⟨2, _, rfl⟩
    · exact ⟨3, _, rfl⟩
    · exact ⟨4, _, rfl⟩
  obtain ⟨t0, ty, ht⟩ := key
  exact va_alen hx hb hK hP q0 t0 hq ht rfl hd (hs H locs ls hP hD hS hl)
theorem jm_fs_new {ts : List FieldType} {m : jm_M} {q k n : Nat} : ∀ j, jm_val (ts.getD j .int) (aN m q k n) q j = jm_val (ts.getD j .int) (([], fun _ => (0, 0), fun _ _ => 0, fun _ _ => 0, fun _ _ => none) : jm_M) q j := by
  intro j
  unfold jm_val
  simp only [aN, va_up_self]
theorem jm_def (t : FieldType) (ht : t = .int ∨ t = .long ∨ t = .boolean ∨ (∃ x, t = .object x) ∨ ∃ x, t = .array x) (m : jm_M) (q k n j : Nat) : jm_val t (aN m q k n) q j = defaultValue t := by
  unfold jm_val
  rcases ht with rfl | rfl | rfl | ⟨x, rfl⟩ | ⟨x, rfl⟩ <;> simp only [aN, va_up_self] <;> rfl
def jm_tok (t : FieldType) : Bool := match t with | .int => true | .long => true | .boolean => true | .object _ => true | .array _ => true | _ => false
theorem jm_tok_of {t : FieldType} (h : jm_tok t = true) : t = .int ∨ t = .long ∨ t = .boolean ∨ (∃ x, t = .object x) ∨ ∃ x, t = .array x := by
  cases t <;> simp [jm_tok] at h ⊢
theorem jm_tok_all : ∀ q, q < 7 → ∀ k, k < (jm_FT q).length → jm_tok (jm_ft q k) = true := by decide +kernel
theorem jm_snew (h : jm_H p R s mi args meth c own cc nL fr lo law ini D ca A S) {pc i q : Nat} {st : List Value} {lv : jm_LV} {m : jm_M} {nc ns : Nat} {z : vw_C} (hc : jm_cl[q]? = some z) (hl0 : Cond.classLink own i z.1 ∈ jm_Tb) (hd : decode cc pc = .ok (.new i, 3)) (h1 : nc + 1 ≤ R.cells) (h2 : ns + jm_sz q ≤ R.slots)
    (hs : ∀ a : Nat, a ∉ m.1 → jm_W p l en R s mi args below meth c Qw nL D ca A (pc + 3) lv (.ref a :: st) (aN m a q 0) (nc + 1) (ns + jm_sz q)) : jm_W p l en R s mi args below meth c Qw nL D ca A pc lv st m nc ns := by
  obtain ⟨hx, hb, hml, hown, hts, hN, hK, hA, hfr, hlo, hin, hlaw⟩ := h
  obtain ⟨C, T, N⟩ := z
  obtain ⟨c1, c2, c3, c4, c5, c6, c7⟩ := jm_fix hc
  have hq7 : q < 7 := (List.getElem?_eq_some_iff.mp hc).1
  intro H locs ls hP hD hS hl
  have e7 : jm_sz q = N := c7
  rw [e7] at h2
  refine va_new (fs := jm_fs (jm_FT q) (([], fun _ => (0, 0), fun _ _ => 0, fun _ _ => 0, fun _ _ => none) : jm_M) 0) hx hb hts c1 (jm_ft q) c2 hown (hts _ hl0) (hts _ c6) (hts _ c5) hK hP hD hS hA hc (fun j hj => ?_) h1 h2 hd (fun a H1 hP1 hD1 hS1 => ?_)
  · unfold vp_V
    rw [List.getD_eq_getElem?_getD, jm_fs_get _ _ _ (by rw [c7]; exact hj)]
    have := jm_tok_of (jm_tok_all q hq7 j (by rw [c7]; exact hj))
    show defaultValue (jm_ft q j) = jm_val (jm_ft q j) _ 0 j
    unfold jm_val
    rcases this with e | e | e | ⟨x, e⟩ | ⟨x, e⟩ <;> rw [e] <;> rfl
  · have hfresh : a ∉ m.1 := fun hm => by
      obtain ⟨k, hk⟩ := jm_w_get (FT := jm_FT) (ca := ca) hm
      have e1 : (jm_w jm_FT ca m ++ [(a, .inr (q, jm_fs (jm_FT q) (([], fun _ => (0, 0), fun _ _ => 0, fun _ _ => 0, fun _ _ => none) : jm_M) 0))])[k]? = some (a, jm_cell jm_FT ca m a) := by
        rw [List.getElem?_append_left (List.getElem?_eq_some_iff.mp hk).1]; exact hk
      have e2 : (jm_w jm_FT ca m ++ [(a, Sum.inr (q, jm_fs (jm_FT q) (([], fun _ => (0, 0), fun _ _ => 0, fun _ _ => 0, fun _ _ => none) : jm_M) 0))])[(jm_w jm_FT ca m).length]? = some (a, .inr (q, jm_fs (jm_FT q) (([], fun _ => (0, 0), fun _ _ => 0, fun _ _ => 0, fun _ _ => none) : jm_M) 0)) := by simp
      have := hD1.1 _ _ _ _ e1 e2 rfl
      have := (List.getElem?_eq_some_iff.mp hk).1
      omega
    have hcell : jm_cell jm_FT ca (aN m a q 0) a = .inr (q, jm_fs (jm_FT q) (([], fun _ => (0, 0), fun _ _ => 0, fun _ _ => 0, fun _ _ => none) : jm_M) 0) := by
      rw [jm_cell_o (k := q) (by simp only [aN, va_up_self]) (by omega)]
      congr 2
      unfold jm_fs
      refine List.map_congr_left fun j _ => ?_
      unfold jm_val
      simp only [aN, va_up_self]
    rw [← hcell, jm_w_new hfresh] at hP1 hD1
    rw [← e7]
    exact hs a hfresh H1 locs ls hP1 hD1 hS1 hl
theorem jm_fresh {m : jm_M} {a : Nat} {e : va_E} (hD1 : va_D A (jm_w jm_FT ca m ++ [(a, e)])) : a ∉ m.1 := fun hm => by
  obtain ⟨k, hk⟩ := jm_w_get (FT := jm_FT) (ca := ca) hm
  have e1 : (jm_w jm_FT ca m ++ [(a, e)])[k]? = some (a, jm_cell jm_FT ca m a) := by
    rw [List.getElem?_append_left (List.getElem?_eq_some_iff.mp hk).1]; exact hk
  have e2 : (jm_w jm_FT ca m ++ [(a, e)])[(jm_w jm_FT ca m).length]? = some (a, e) := by simp
  have := hD1.1 _ _ _ _ e1 e2 rfl
  have := (List.getElem?_eq_some_iff.mp hk).1
  omega
theorem jm_snewa (h : jm_H p R s mi args meth c own cc nL fr lo law ini D ca A S) {pc k : Nat} {t : ArrayType} {st : List Value} {lv : jm_LV} {m : jm_M} {nc ns : Nat} {i : Int32} (hk : 50 ≤ k) (hk2 : k ≤ 52) (ht : jm_AT k = newarray.typeOf t) (hd : decode cc pc = .ok (.newarray t, 2)) (hi : ¬ i < 0) (hi2 : i.toNatClampNeg ≤ 1000000) (h1 : nc + 1 ≤ R.cells) (h2 : ns + i.toNatClampNeg ≤ R.slots)
    (hs : ∀ a : Nat, a ∉ m.1 → jm_W p l en R s mi args below meth c Qw nL D ca A (pc + 2) lv (.ref a :: st) (aN m a k i.toNatClampNeg) (nc + 1) (ns + i.toNatClampNeg)) : jm_W p l en R s mi args below meth c Qw nL D ca A pc lv (.int i :: st) m nc ns := by
  obtain ⟨hx, hb, hml, hown, hts, hN, hK, hA, hfr, hlo, hin, hlaw⟩ := h
  intro H locs ls hP hD hS hl
  have hword : (Cond.arrayClass (newarray.typeOf t)).before args s = true := by
    rcases (show k = 50 ∨ k = 51 ∨ k = 52 by omega) with e | e | e <;> subst e <;> rw [← ht]
    · exact hts _ (jm_wd_in jm_arr50)
    · exact hts _ (jm_wd_in jm_arr51)
    · exact hts _ (jm_wd_in jm_arr52)
  have fin : ∀ (ty : FieldType) (z : vp_A), newarray.typeOf t = ty → (jm_tys ca)[k - 50]? = some (ca k, ty) → (∀ (U : State) (x y : ClassId), va_RA U x ty → va_RA U y ty → x = y) → i.toNatClampNeg * componentBytes ty ≤ 536870912 → (∀ cA : ClassId, vp_cell cA z = arrV cA i.toNatClampNeg (fun _ => defaultValue ty)) → (∀ a, jm_cell jm_FT ca (aN m a k i.toNatClampNeg) a = .inl (ca k, z)) → W p l en R s mi args below meth c H locs nc ns Qw (F0 mi pc ls (.int i :: st)) := by
    intro ty z hty htys hRA hby hz hcell
    refine va_newa (ty := ty) (a0 := z) hx hb hword hty hK hP hD hS hA hz hi rfl hby h1 h2 hd (fun a cA H1 hK1 hP1 hD1 hS1 => ?_)
    have hcA : cA = ca k := by
      have r1 := (hK1.2 5 (cA, ty) rfl).2
      have r2 := (hK.2 (k - 50) _ htys).2
      exact hRA s _ _ r1 r2
    subst hcA
    have hf := jm_fresh hD1
    rw [← hcell a, jm_w_new hf] at hP1 hD1
    exact hs a hf H1 locs ls hP1 hD1 hS1 hl
  rcases (show k = 50 ∨ k = 51 ∨ k = 52 by omega) with e | e | e <;> subst e
  · refine fin .int (i.toNatClampNeg, .inl (fun _ => 0)) ht.symm rfl (fun U x y a b => Option.some.inj (a.symm.trans b)) (by show _ * 4 ≤ _; omega) (fun cA => rfl) (fun a => ?_)
    rw [jm_cell_a (k := 50) (by simp only [aN, va_up_self]) (by decide)]
    simp only [aN, va_up_self, jm_con]
    rfl
  · refine fin .long (i.toNatClampNeg, .inr (.inl (fun _ => 0))) ht.symm rfl (fun U x y a b => Option.some.inj (a.symm.trans b)) (by show _ * 8 ≤ _; omega) (fun cA => rfl) (fun a => ?_)
    rw [jm_cell_a (k := 51) (by simp only [aN, va_up_self]) (by decide)]
    simp only [aN, va_up_self, jm_con]
    rfl
  · refine fin .boolean (i.toNatClampNeg, .inl (fun _ => 0)) ht.symm rfl (fun U x y a b => Option.some.inj (a.symm.trans b)) (by show _ * 1 ≤ _; omega) (fun cA => rfl) (fun a => ?_)
    rw [jm_cell_a (k := 52) (by simp only [aN, va_up_self]) (by decide)]
    simp only [aN, va_up_self, jm_con]
    rfl
theorem jm_sanew (h : jm_H p R s mi args meth c own cc nL fr lo law ini D ca A S) {pc j : Nat} {st : List Value} {lv : jm_LV} {m : jm_M} {nc ns : Nat} {i : Int32} (hl0 : Cond.classLink own j "ShareSolve$Whole" ∈ jm_Tb) (hd : decode cc pc = .ok (.anewarray j, 3)) (hi : ¬ i < 0) (hi2 : i.toNatClampNeg ≤ 1000000) (h1 : nc + 1 ≤ R.cells) (h2 : ns + i.toNatClampNeg ≤ R.slots)
    (hs : ∀ a : Nat, a ∉ m.1 → jm_W p l en R s mi args below meth c Qw nL D ca A (pc + 3) lv (.ref a :: st) (aN m a 53 i.toNatClampNeg) (nc + 1) (ns + i.toNatClampNeg)) : jm_W p l en R s mi args below meth c Qw nL D ca A pc lv (.int i :: st) m nc ns := by
  obtain ⟨hx, hb, hml, hown, hts, hN, hK, hA, hfr, hlo, hin, hlaw⟩ := h
  intro H locs ls hP hD hS hl
  refine va_newq hx hb hown (hts _ hl0) hN.2 hK hP hD hS hA hi rfl (by omega) h1 h2 hd (fun a cA H1 hK1 hP1 hD1 hS1 => ?_)
  have hcA : cA = ca 53 := by
    obtain ⟨_, _, -, -, -, r1⟩ := (hK1.2 5 (cA, .object "ShareSolve$Whole") rfl).2
    obtain ⟨_, _, -, -, -, r2⟩ := (hK.2 3 _ rfl).2
    exact Option.some.inj (r1.symm.trans r2)
  subst hcA
  have hf := jm_fresh hD1
  have hcell : jm_cell jm_FT ca (aN m a 53 i.toNatClampNeg) a = .inl (ca 53, i.toNatClampNeg, .inr (.inr (.inr (.inr (fun _ => none))))) := by
    rw [jm_cell_a (k := 53) (by simp only [aN, va_up_self]) (by decide)]
    simp only [aN, va_up_self, jm_con]
    rfl
  rw [← hcell, jm_w_new hf] at hP1 hD1
  exact hs a hf H1 locs ls hP1 hD1 hS1 hl
end JS2
end
section
/-! Calls: a contract at a call, of an object's method, a constructor, a static method; plain or of a nest mate. -/
theorem jm_N_moved {u U : State} (hW : u.WarmedH U.vm) (h : jm_N u) : jm_N U := by
  refine ⟨fun w hw => ?_, h.2.moved hW.alike⟩
  have h1 := h.1 w hw
  have h2 := (List.mem_filter.mp hw).2
  cases w with
  | methodLinkNest a i x hst => exact va_Nw.warmM hW h1
  | _ => simp [jm_isN] at h2
theorem jm_N_same {u U : State} (hv : u.vm = U.vm) (h : jm_N u) : jm_N U := by
  refine ⟨fun w hw => ?_, h.2.moved (by rw [hv]; exact Vm.Alike.refl _)⟩
  have h1 := h.1 w hw
  have h2 := (List.mem_filter.mp hw).2
  cases w with
  | methodLinkNest a i x hst => exact va_Nw.same rfl hv h1
  | _ => simp [jm_isN] at h2
theorem jm_blind {D : va_G} {ca : Nat → ClassId} {m : jm_M} {sz : Nat} {av : List Value} : FrameBlind (va_Pc av (jm_B D ca m sz)) := fun a U g mk q => by
  obtain ⟨q0, q1, qP, qK, qN, qD⟩ := q
  exact ⟨q0, q1, qP, va_K.moved (u := U) (U := U.calling g mk a) (Vm.Alike.refl U.vm) qK, jm_N_same (u := U) (U := U.calling g mk a) rfl qN, qD⟩
section JC
variable {p : Program} {l : Launch} {en : Env} {R : Room} {s : State} {mi : MethodId} {args : Array Value} {below : List Frame} {meth : Method} {c : Code} {Qw : State → Prop} {own : String} {cc : ByteArray} {nL fr lo : Nat} {law ini : Bool} {ret : Option FieldType} {D : va_G} {ca : Nat → ClassId} {A : Nat → Prop} {S : Nat × Nat × (Nat → Int32)} {Rt : jm_Rt}
theorem jm_back {H : Heap} {locs : List Loc} {ls : Array Slot} {pc nc ns a b : Nat} {st0 rest : List Value} {lv : jm_LV} {m : jm_M} {Q : Option Value → jm_M → Prop} {xx : Array Value} (hA : ∀ q, s.heap.size ≤ q → A q) (hD : va_D A (jm_w jm_FT ca m)) (hS : va_S A s.heap H locs) (hl : lv_has ls nL lv)
    (hr : va_Run p l en R s mi args below meth c H locs nc ns a b (F0 mi pc ls st0) rest (jm_Qc D ca m H.size Q xx) (va_A (jm_w jm_FT ca m) H.size))
    (kk : ∀ v m', Q v m' → jm_W p l en R s mi args below meth c Qw nL D ca A (pc + 3) lv (v.toList ++ rest) m' (nc + a) (ns + b)) : W p l en R s mi args below meth c H locs nc ns Qw (F0 mi pc ls st0) := by
  intro T hT X
  obtain ⟨v, st₀, t, T', L, h0, X', hL, e1, e2, ⟨⟨v', m', hv, hq, hP', hD'⟩, hz, hk⟩, st⟩ := hr T hT X
  cases hv
  rw [h0] at hz hk
  have hAA : ∀ q, va_A (jm_w jm_FT ca m) H.size q → A q := fun q hq => by
    rcases hq with ⟨k, e, hk⟩ | hq
    · exact hD.2 k _ hk
    · exact hA q (Nat.le_trans hS.1 hq)
  have hD2 : va_D A (jm_w jm_FT ca m') := hD'.weaken (fun k q _ h => hAA _ h)
  have hS2 : va_S A s.heap T'.heap (locs ++ L) := by
    refine ⟨Nat.le_trans hS.1 (by rw [e1]; exact hz), fun q h1 h2 => ?_, fun q hq => ?_⟩
    · rw [e1, hk q (Nat.lt_of_lt_of_le h1 hS.1) (fun z => h2 (hAA q z))]
      exact hS.2.1 q h1 h2
    · rcases List.mem_append.mp hq with h | h
      · exact hS.2.2 q h
      · exact hAA _ (hL q h)
  obtain ⟨t2, a1, b1⟩ := kk v m' hq T'.heap (locs ++ L) ls (by rw [e1]; exact hP') hD2 hS2 hl T' rfl X'
  exact ⟨t2, st t2 a1, b1⟩
theorem jm_pre {H : Heap} {m : jm_M} {av : List Value} (hK : va_K D jm_cl (jm_tys ca) s) (hN : jm_N s) (hP : va_P D jm_cl (jm_w jm_FT ca m) H) (hD : va_D A (jm_w jm_FT ca m)) : ∀ U : State, U.heap = H → s.WarmedH U.vm → va_Pc av (jm_B D ca m H.size) av.toArray U := fun U hU hW =>
  ⟨rfl, by rw [hU], by rw [hU]; exact hP, va_K.moved hW.alike hK, jm_N_moved hW hN, hD.weaken (fun _ _ _ _ => trivial)⟩
theorem jm_gd {k : Nat} (hf : jm_mf k) : GoodIn jm_Tb (jm_ws (jm_mt k)) := fun w hw => by
  rcases List.mem_cons.mp hw with e | h
  · subst e; exact jm_good _ hf.1
  · exact jm_good _ h
/-- the link of a call, plain or of a nest mate -/
def jm_lk (own : String) (i : Nat) (y : MethodName) : Prop := Cond.methodLink own i y ∈ jm_Tb ∨ Cond.methodLinkNest own i y "ShareSolve" ∈ jm_nest
theorem jm_scallV (h : jm_H p R s mi args meth c own cc nL fr lo law ini D ca A S) {pc i k o q : Nat} {As rest : List Value} {lv : jm_LV} {m : jm_M} {nc ns a b : Nat} {Q : Option Value → jm_M → Prop} (hk : k < jm_mtL.length) (h1 : (jm_mt k).2.2.2.2.1 + 1 ≤ fr) (h2 : 8 + ((jm_mt k).2.2.1 + 11) + (jm_mt k).2.2.2.2.2 ≤ lo) (hlk : jm_lk own i (jm_mt k).1) (hst : (jm_st k).1 = false) (hnn : (jm_mt k).1.name ≠ "<init>") (hcl : (jm_cl[q]?).map (fun z => z.1) = some (jm_mt k).1.cls) (hn : (parseMethodDescriptor (jm_mt k).1.desc).map (fun d => d.parameters.length) = some As.length) (hd : decode cc pc = .ok (.invokevirtual i, 3))
    (ho : jm_ok m o q) (hW : (rest.map fun v => v.category).sum ≤ 8) (ha : nc + a ≤ R.cells) (hb2 : ns + b ≤ R.slots) (hC : jm_C l D ca k (.ref o :: As) m a b Q)
    (kk : ∀ v m', Q v m' → jm_W p l en R s mi args below meth c Qw nL D ca A (pc + 3) lv (v.toList ++ rest) m' (nc + a) (ns + b)) : jm_W p l en R s mi args below meth c Qw nL D ca A pc lv (As.reverse ++ .ref o :: rest) m nc ns := by
  obtain ⟨hx, hb, hml, hown, hts, hN, hK, hA, hfr, hlo, hin, hlaw⟩ := h
  have hf := jm_mf_all k hk
  obtain ⟨f1, f2, f3, f4, f5, f6⟩ := hf
  obtain ⟨g1, g2⟩ := f6 hst
  have g2 := g2.resolve_left hnn
  intro H locs ls hP hD hS hl
  obtain ⟨q0, hq⟩ := jm_w_get (FT := jm_FT) (ca := ca) ho.1
  cases hz : jm_cl[q]? with
  | none => rw [hz] at hcl; cases hcl
  | some z =>
    rw [hz] at hcl
    have hcl : z.1 = (jm_mt k).1.cls := Option.some.inj hcl
    rw [jm_cell_o ho.2 (jm_i50 hz)] at hq
    have hrecv := va_recv (q0 := q0) hK hP hz hq
    rw [hcl] at hrecv
    have hR : (jm_rm (jm_mt k) a b).frames + 1 ≤ R.frames ∧ 8 + ((jm_mt k).2.2.1 + 11) + (jm_rm (jm_mt k) a b).locals ≤ R.locals := ⟨Nat.le_trans h1 hfr, Nat.le_trans h2 hlo⟩
    rcases hlk with hlk | hlk
    · have cw : CallW R s args own (jm_mt k).1.cls i (jm_mt k).1 (jm_mt k).2.1 (jm_mt k).2.2.1 (jm_mt k).2.2.2.1 (jm_ws (jm_mt k)) (jm_rm (jm_mt k) a b) a b As.length := ⟨callB_of As.length hts (jm_gd ⟨f1, f2, f3, f4, f5, f6⟩) rfl rfl rfl (hts _ f4) (hts _ hlk) ⟨f2.1, f2.2, hn⟩ hR, hts _ g1, hts _ g2⟩
      exact jm_back hA hD hS hl (va_runV (As := As) (rest := rest) ⟨hx, hb, hml, hown, hts⟩ (hC H.size) cw ⟨jm_blind, hrecv, jm_pre hK hN hP hD⟩ rfl rfl hl.1 rfl (lv_room hW) hd ⟨ha, hb2⟩) kk
    · have cw := va_cnB (rm := jm_rm (jm_mt k) a b) As.length hts (jm_gd ⟨f1, f2, f3, f4, f5, f6⟩) rfl rfl rfl (hN.1 _ hlk) (hts _ f4) ⟨f2.1, f2.2, hn⟩ hR
      exact jm_back hA hD hS hl (va_runVN (As := As) (rest := rest) ⟨hx, hb, hml, hown, hts⟩ (hC H.size) ⟨cw, hts _ g1, hts _ g2⟩ ⟨jm_blind, hrecv, jm_pre hK hN hP hD⟩ rfl rfl hl.1 rfl (lv_room hW) hd ⟨ha, hb2⟩) kk
theorem jm_scallI (h : jm_H p R s mi args meth c own cc nL fr lo law ini D ca A S) {pc i k o : Nat} {As rest : List Value} {lv : jm_LV} {m : jm_M} {nc ns a b : Nat} {Q : Option Value → jm_M → Prop} (hk : k < jm_mtL.length) (h1 : (jm_mt k).2.2.2.2.1 + 1 ≤ fr) (h2 : 8 + ((jm_mt k).2.2.1 + 11) + (jm_mt k).2.2.2.2.2 ≤ lo) (hlk : jm_lk own i (jm_mt k).1) (hst : (jm_st k).1 = false) (hnn : (jm_mt k).1.name = "<init>") (hret : (jm_mt k).2.2.2.1 = none) (hn : (parseMethodDescriptor (jm_mt k).1.desc).map (fun d => d.parameters.length) = some As.length) (hd : decode cc pc = .ok (.invokespecial i, 3))
    (hW : (rest.map fun v => v.category).sum ≤ 8) (ha : nc + a ≤ R.cells) (hb2 : ns + b ≤ R.slots) (hC : jm_C l D ca k (.ref o :: As) m a b Q)
    (kk : ∀ v m', Q v m' → jm_W p l en R s mi args below meth c Qw nL D ca A (pc + 3) lv (v.toList ++ rest) m' (nc + a) (ns + b)) : jm_W p l en R s mi args below meth c Qw nL D ca A pc lv (As.reverse ++ .ref o :: rest) m nc ns := by
  obtain ⟨hx, hb, hml, hown, hts, hN, hK, hA, hfr, hlo, hin, hlaw⟩ := h
  have hf := jm_mf_all k hk
  obtain ⟨f1, f2, f3, f4, f5, f6⟩ := hf
  obtain ⟨g1, g2⟩ := f6 hst
  intro H locs ls hP hD hS hl
  have hR : (jm_rm (jm_mt k) a b).frames + 1 ≤ R.frames ∧ 8 + ((jm_mt k).2.2.1 + 11) + (jm_rm (jm_mt k) a b).locals ≤ R.locals := ⟨Nat.le_trans h1 hfr, Nat.le_trans h2 hlo⟩
  have hws : jm_ws (jm_mt k) = Cond.code (jm_mt k).1 (jm_mt k).2.1 (jm_mt k).2.2.1 none :: jm_Tb := by unfold jm_ws; rw [hret]
  rcases hlk with hlk | hlk
  · have cw := cwI (rm := jm_rm (jm_mt k) a b) As.length hts (jm_gd ⟨f1, f2, f3, f4, f5, f6⟩) hws rfl rfl (hts _ f4) (hts _ hlk) (hts _ g1) hnn ⟨f2.1, f2.2, hn⟩ hR
    exact jm_back hA hD hS hl (va_runI (As := As) (rest := rest) ⟨hx, hb, hml, hown, hts⟩ (hC H.size) cw ⟨jm_blind, jm_pre hK hN hP hD⟩ rfl rfl hl.1 rfl (lv_room hW) hd ⟨ha, hb2⟩) kk
  · have cw := va_cnB (rm := jm_rm (jm_mt k) a b) As.length hts (jm_gd ⟨f1, f2, f3, f4, f5, f6⟩) hws rfl rfl (hN.1 _ hlk) (hts _ f4) ⟨f2.1, f2.2, hn⟩ hR
    exact jm_back hA hD hS hl (va_runIN (As := As) (rest := rest) ⟨hx, hb, hml, hown, hts⟩ (hC H.size) ⟨cw, hnn, hts _ g1⟩ ⟨jm_blind, jm_pre hK hN hP hD⟩ rfl rfl hl.1 rfl (lv_room hW) hd ⟨ha, hb2⟩) kk
theorem jm_scallS (h : jm_H p R s mi args meth c own cc nL fr lo law ini D ca A S) {pc i k : Nat} {As rest : List Value} {lv : jm_LV} {m : jm_M} {nc ns a b : Nat} {Q : Option Value → jm_M → Prop} (hk : k < jm_mtL.length) (h1 : (jm_mt k).2.2.2.2.1 + 1 ≤ fr) (h2 : 8 + ((jm_mt k).2.2.1 + 11) + (jm_mt k).2.2.2.2.2 ≤ lo) (hlk : jm_lk own i (jm_mt k).1) (hst : (jm_st k).1 = true) (hn : (parseMethodDescriptor (jm_mt k).1.desc).map (fun d => d.parameters.length) = some As.length) (hd : decode cc pc = .ok (.invokestatic i, 3))
    (hW : (rest.map fun v => v.category).sum ≤ 8) (ha : nc + a ≤ R.cells) (hb2 : ns + b ≤ R.slots) (hC : jm_C l D ca k As m a b Q)
    (kk : ∀ v m', Q v m' → jm_W p l en R s mi args below meth c Qw nL D ca A (pc + 3) lv (v.toList ++ rest) m' (nc + a) (ns + b)) : jm_W p l en R s mi args below meth c Qw nL D ca A pc lv (As.reverse ++ rest) m nc ns := by
  obtain ⟨hx, hb, hml, hown, hts, hN, hK, hA, hfr, hlo, hin, hlaw⟩ := h
  have hf := jm_mf_all k hk
  obtain ⟨f1, f2, f3, f4, f5, f6⟩ := hf
  have g1 := f5 hst
  intro H locs ls hP hD hS hl
  have hR : (jm_rm (jm_mt k) a b).frames + 1 ≤ R.frames ∧ 8 + ((jm_mt k).2.2.1 + 11) + (jm_rm (jm_mt k) a b).locals ≤ R.locals := ⟨Nat.le_trans h1 hfr, Nat.le_trans h2 hlo⟩
  rcases hlk with hlk | hlk
  · have cw : CallB R s args own i (jm_mt k).1 (jm_mt k).2.1 (jm_mt k).2.2.1 (jm_mt k).2.2.2.1 (jm_ws (jm_mt k)) (jm_rm (jm_mt k) a b) a b As.length := callB_of As.length hts (jm_gd ⟨f1, f2, f3, f4, f5, f6⟩) rfl rfl rfl (hts _ f4) (hts _ hlk) ⟨f2.1, f2.2, hn⟩ hR
    exact jm_back hA hD hS hl (va_runS (As := As) (rest := rest) ⟨hx, hb, hml, hown, hts⟩ (hC H.size) ⟨cw, hts _ g1⟩ ⟨jm_blind, jm_pre hK hN hP hD⟩ rfl rfl hl.1 rfl (lv_room hW) hd ⟨ha, hb2⟩) kk
  · have cw := va_cnB (rm := jm_rm (jm_mt k) a b) As.length hts (jm_gd ⟨f1, f2, f3, f4, f5, f6⟩) rfl rfl rfl (hN.1 _ hlk) (hts _ f4) ⟨f2.1, f2.2, hn⟩ hR
    exact jm_back hA hD hS hl (va_runSN (As := As) (rest := rest) ⟨hx, hb, hml, hown, hts⟩ (hC H.size) ⟨cw, hts _ g1, trivial⟩ ⟨jm_blind, jm_pre hK hN hP hD⟩ rfl rfl hl.1 rfl (lv_room hW) hd ⟨ha, hb2⟩) kk
end JC
end
section
section JMO
variable {p : Program} {l : Launch} {en : Env} {R : Room} {s : State} {mi : MethodId} {args : Array Value} {below : List Frame} {meth : Method} {c : Code} {Qw : State → Prop} {own : String} {cc : ByteArray} {nL fr lo : Nat} {law ini : Bool} {ret : Option FieldType} {D : va_G} {ca : Nat → ClassId} {A : Nat → Prop} {S : Nat × Nat × (Nat → Int32)} {Rt : jm_Rt}
theorem jm_iinc {H : Heap} {locs : List Loc} {cells slots pc i : Nat} {ls : Array Slot} {rest : List Value} {n : Int} {x v : Int32} {lv : jm_LV} (hexec : p.tables.exec = Jvm.exec) (hb : c.code = cc) (hdg : decode cc pc = .ok (.iinc i n, 3)) (h : lv_has ls nL lv) (hg : ls[i]? = some (.val (.int x))) (hv : x + Int32.ofInt n = v) (hn : i < nL)
    (kk : ∀ ls' : Array Slot, lv_has ls' nL (jm_put1 lv i (.int v)) → W p l en R s mi args below meth c H locs cells slots Qw (F0 mi (pc + 3) ls' rest)) : W p l en R s mi args below meth c H locs cells slots Qw (F0 mi pc ls rest) := by
  have h2 : lv_has ls nL ((i, .int x) :: lv) := ⟨h.1, h.2.1, fun q hq => by
    rcases List.mem_cons.mp hq with e | hq
    · rw [e]; exact hg
    · exact h.2.2 q hq⟩
  refine lv_iinc (k := 0) hexec hb hdg h2 rfl hv hn rfl (fun ls' hl' => kk ls' ⟨hl'.1, hl'.2.1, fun q hq => hl'.2.2 q ?_⟩)
  rcases List.mem_cons.mp hq with e | hq
  · rw [e]; exact List.mem_cons_self
  · refine List.mem_cons_of_mem _ (List.mem_filter.mpr ?_)
    have := List.mem_filter.mp hq
    exact ⟨List.mem_cons_of_mem _ this.1, this.2⟩
theorem jm_scopy (h : jm_H p R s mi args meth c own cc nL fr lo law ini D ca A S) {pc i : Nat} {r : List Value} {lv : jm_LV} {m : jm_M} {nc ns a a0 : Nat} {n dp sp : Int32} (hlk : Cond.methodLink own i arraycopyName ∈ jm_Tb) (hf1 : 1 ≤ fr) (hf2 : 38 ≤ lo) (hd : decode cc pc = .ok (.invokestatic i, 3)) (o0 : jm_ok m a0 50) (o1 : jm_ok m a 50) (h1 : ¬ sp < 0) (h2 : ¬ dp < 0) (h3 : ¬ n < 0) (h4 : sp.toNatClampNeg + n.toNatClampNeg ≤ (m.2.1 a0).2) (h5 : dp.toNatClampNeg + n.toNatClampNeg ≤ (m.2.1 a).2) (hW : (r.map fun v => v.category).sum ≤ 8)
    (hs : jm_W p l en R s mi args below meth c Qw nL D ca A (pc + 3) lv r (uA m a (va_cpy (m.2.2.1 a0) (m.2.2.1 a) sp.toNatClampNeg dp.toNatClampNeg n.toNatClampNeg)) nc ns) : jm_W p l en R s mi args below meth c Qw nL D ca A pc lv (.int n :: .int dp :: .ref a :: .int sp :: .ref a0 :: r) m nc ns := by
  obtain ⟨hx, hb, hml, hown, hts, hN, hK, hA, hfr, hlo, hin, hlaw⟩ := h
  intro H locs ls hP hD hS hl
  obtain ⟨q0, hq0⟩ := jm_w_get (FT := jm_FT) (ca := ca) o0.1
  obtain ⟨q1, hq1⟩ := jm_w_get (FT := jm_FT) (ca := ca) o1.1
  have hset := jm_wset (m' := uA m a (va_cpy (m.2.2.1 a0) (m.2.2.1 a) sp.toNatClampNeg dp.toNatClampNeg n.toNatClampNeg)) hD o1 (by decide) hq1 rfl rfl (fun b hb => jm_cell_uA hb) rfl rfl
  rw [jm_cell_a o0.2 (by decide)] at hq0
  rw [jm_cell_a o1.2 (by decide)] at hq1
  have hw := jm_ac1
  refine va_copyi hx hb (by rw [hml]; exact hl.1.symm) hown (hts _ hlk) (hts _ (jm_wd_in hw.2.1)) (hts _ (jm_wd_in hw.1)) (hts _ (jm_wd_in hw.2.2)) hK hP hD hS q0 q1 0 0 hq0 hq1 rfl rfl rfl h1 h2 h3 h4 h5 (fun _ _ => rfl) (Nat.le_trans hf1 hfr) (by
    have e : nativeFrameWords "java/lang/System" "arraycopy" 5 = 7 := by decide +kernel
    rw [e]; omega) hd (fun H1 locs1 hP1 hD1 hS1 => ?_)
  have e2 : jm_con 50 (uA m a (va_cpy (m.2.2.1 a0) (m.2.2.1 a) sp.toNatClampNeg dp.toNatClampNeg n.toNatClampNeg)) a = .inl (va_cpy (m.2.2.1 a0) (m.2.2.1 a) sp.toNatClampNeg dp.toNatClampNeg n.toNatClampNeg) := by
    unfold jm_con
    simp [uA, va_up_self]
  rw [e2] at hset
  rw [hset] at hP1 hD1
  exact hs H1 locs1 ls hP1 hD1 hS1 hl
end JMO
end
section
/-! All instructions together. -/
section JM
variable {p : Program} {l : Launch} {en : Env} {R : Room} {s : State} {mi : MethodId} {args : Array Value} {below : List Frame} {meth : Method} {c : Code} {Qw : State → Prop} {own : String} {cc : ByteArray} {nL fr lo : Nat} {law ini : Bool} {ret : Option FieldType} {D : va_G} {ca : Nat → ClassId} {A : Nat → Prop} {S : Nat × Nat × (Nat → Int32)} {Rt : jm_Rt}
def jm_ck3 (k : Nat) (e : jm_e) : Prop := match k with | 0 => (jm_st e.2.2.2.1).1 = false ∧ (jm_mt e.2.2.2.1).1.name ≠ "<init>" ∧ (jm_cl[e.2.2.2.2.2.1]?).map (fun q => q.1) = some (jm_mt e.2.2.2.1).1.cls ∧ (parseMethodDescriptor (jm_mt e.2.2.2.1).1.desc).map (fun d => d.parameters.length + 1) = some e.2.2.2.2.1 | 1 => (jm_st e.2.2.2.1).1 = false ∧ (jm_mt e.2.2.2.1).1.name = "<init>" ∧ (jm_mt e.2.2.2.1).2.2.2.1 = none ∧ (parseMethodDescriptor (jm_mt e.2.2.2.1).1.desc).map (fun d => d.parameters.length + 1) = some e.2.2.2.2.1 | _ => (jm_st e.2.2.2.1).1 = true ∧ (parseMethodDescriptor (jm_mt e.2.2.2.1).1.desc).map (fun d => d.parameters.length) = some e.2.2.2.2.1
set_option maxRecDepth 100000 in
theorem jm_call_of {k i fr' lo' : Nat} {own' : String} {e : jm_e} (h : jm_call own' fr' lo' k i e = true) : e.2.2.2.1 < jm_mtL.length ∧ (jm_mt e.2.2.2.1).2.2.2.2.1 + 1 ≤ fr' ∧ 8 + ((jm_mt e.2.2.2.1).2.2.1 + 11) + (jm_mt e.2.2.2.1).2.2.2.2.2 ≤ lo' ∧ jm_lk own' i (jm_mt e.2.2.2.1).1 ∧ jm_ck3 k e := by
  unfold jm_call at h
  simp only [Bool.and_eq_true, Bool.or_eq_true, decide_eq_true_eq] at h
  obtain ⟨⟨⟨⟨h1, h2⟩, h3⟩, h4⟩, h5⟩ := h
  refine ⟨h1, h2, h3, h4.elim (fun z => Or.inl (jm_wd_in z)) (fun z => Or.inr (jm_nw_in z)), ?_⟩
  clear h1 h2 h3 h4
  match k with
  | 0 =>
    simp only [Bool.and_eq_true, decide_eq_true_eq] at h5
    exact ⟨h5.1.1.1, h5.1.1.2, h5.1.2, h5.2⟩
  | 1 =>
    simp only [Bool.and_eq_true, decide_eq_true_eq] at h5
    exact ⟨h5.1.1.1, h5.1.1.2, h5.1.2, h5.2⟩
  | k + 2 =>
    simp only [Bool.and_eq_true, decide_eq_true_eq] at h5
    exact h5
theorem jm_take {st : List Value} {n : Nat} : ((st.take n).reverse).reverse ++ st.drop n = st := by
  rw [List.reverse_reverse, List.take_append_drop]
theorem jm_narg {d : Option MethodDescriptor} {n : Nat} (h : d.map (fun x => x.parameters.length + 1) = some (n + 1)) : d.map (fun x => x.parameters.length) = some n := by
  cases d with
  | none => cases h
  | some z =>
    have : z.parameters.length + 1 = n + 1 := Option.some.inj h
    simp only [Option.map_some, Option.some.injEq]
    omega
set_option maxHeartbeats 4000000 in
theorem jm_sound (h : jm_H p R s mi args meth c own cc nL fr lo law ini D ca A S)
    (hri : ∀ pc lv m nc ns x, decode cc pc = .ok (.ireturn, 1) → (ret = some .int ∨ ret = some .boolean) → Rt (some (.int x)) m nc ns → jm_W p l en R s mi args below meth c Qw nL D ca A pc lv [.int x] m nc ns)
    (hrl : ∀ pc lv m nc ns x, decode cc pc = .ok (.lreturn, 1) → ret = some .long → Rt (some (.long x)) m nc ns → jm_W p l en R s mi args below meth c Qw nL D ca A pc lv [.long x] m nc ns)
    (hra : ∀ pc lv m nc ns x, decode cc pc = .ok (.areturn, 1) → ((∃ n, ret = some (.object n)) ∨ ∃ t, ret = some (.array t)) → Rt (some (.ref x)) m nc ns → jm_W p l en R s mi args below meth c Qw nL D ca A pc lv [.ref x] m nc ns)
    (hrv : ∀ pc lv m nc ns, decode cc pc = .ok (.return_, 1) → ret = none → Rt none m nc ns → jm_W p l en R s mi args below meth c Qw nL D ca A pc lv [] m nc ns)
    {e : jm_e} {lv : jm_LV} {st : List Value} {m : jm_M} {nc ns : Nat} (he : jm_okE own cc nL fr lo law ini ret e = true)
    (hs : jm_step jm_ft jm_sz (R.cells, R.slots) (jm_C l D ca) Rt S e lv st m nc ns (jm_W p l en R s mi args below meth c Qw nL D ca A)) : jm_W p l en R s mi args below meth c Qw nL D ca A e.1 lv st m nc ns := by
  have h0 := h
  obtain ⟨hx, hb, hml, hown, hts, hN, hK, hA, hfr, hlo, hin, hlaw⟩ := h0
  obtain ⟨pc, i, nx, a1, a2, a3, k32, k64, ix⟩ := e
  cases i
  case iconst n =>
    dsimp only [jm_okE, jm_dec] at he
    simp only [Bool.and_eq_true, decide_eq_true_eq] at he
    dsimp only [jm_step] at hs
    obtain ⟨⟨hd, rfl⟩, hv⟩ := he
    intro H locs ls hP hD hS hl
    exact lv_iconst hx hb hd hv (hs H locs ls hP hD hS hl)
  case bipush n =>
    dsimp only [jm_okE, jm_dec] at he
    simp only [Bool.and_eq_true, decide_eq_true_eq] at he
    dsimp only [jm_step] at hs
    obtain ⟨⟨hd, rfl⟩, hv⟩ := he
    intro H locs ls hP hD hS hl
    exact lv_bipush hx hb hd hv (hs H locs ls hP hD hS hl)
  case sipush n =>
    dsimp only [jm_okE, jm_dec] at he
    simp only [Bool.and_eq_true, decide_eq_true_eq] at he
    dsimp only [jm_step] at hs
    obtain ⟨⟨hd, rfl⟩, hv⟩ := he
    intro H locs ls hP hD hS hl
    exact lv_sipush hx hb hd hv (hs H locs ls hP hD hS hl)
  case lconst n =>
    dsimp only [jm_okE, jm_dec] at he
    simp only [Bool.and_eq_true, decide_eq_true_eq] at he
    dsimp only [jm_step] at hs
    obtain ⟨⟨hd, rfl⟩, hv⟩ := he
    intro H locs ls hP hD hS hl
    exact lv_lconst hx hb hd hv (hs H locs ls hP hD hS hl)
  case ldc n =>
    dsimp only [jm_okE, jm_dec] at he
    simp only [Bool.and_eq_true, decide_eq_true_eq] at he
    dsimp only [jm_step] at hs
    obtain ⟨⟨hd, rfl⟩, hv⟩ := he
    intro H locs ls hP hD hS hl
    exact lv_ldc hx hb hown (hts _ (jm_wd_in hv)) hd (hs H locs ls hP hD hS hl)
  case ldc_w n =>
    dsimp only [jm_okE, jm_dec] at he
    simp only [Bool.and_eq_true, decide_eq_true_eq] at he
    dsimp only [jm_step] at hs
    obtain ⟨⟨hd, rfl⟩, hv⟩ := he
    intro H locs ls hP hD hS hl
    exact lv_ldcw hx hb hown (hts _ (jm_wd_in hv)) hd (hs H locs ls hP hD hS hl)
  case ldc2_w n =>
    dsimp only [jm_okE, jm_dec] at he
    simp only [Bool.and_eq_true, decide_eq_true_eq] at he
    dsimp only [jm_step] at hs
    obtain ⟨⟨hd, rfl⟩, hv⟩ := he
    intro H locs ls hP hD hS hl
    exact lv_ldc2 hx hb hown (hts _ (jm_wd_in hv)) hd (hs H locs ls hP hD hS hl)
  case aconst_null  =>
    dsimp only [jm_okE, jm_dec] at he
    simp only [Bool.and_eq_true, decide_eq_true_eq] at he
    dsimp only [jm_step] at hs
    obtain ⟨hd, rfl⟩ := he
    intro H locs ls hP hD hS hl
    exact lv_null hx hb hd (hs H locs ls hP hD hS hl)
  case iload n =>
    dsimp only [jm_okE, jm_dec] at he
    simp only [Bool.and_eq_true, decide_eq_true_eq] at he
    dsimp only [jm_step] at hs
    obtain ⟨⟨hd, rfl⟩, rfl⟩ := he
    split at hs
    · rename_i x hg
      intro H locs ls hP hD hS hl
      exact lv_iload hx hb hd (jm_lv_at hl hg) (hs H locs ls hP hD hS hl)
    · exact hs.elim
  case iload_n n =>
    dsimp only [jm_okE, jm_dec] at he
    simp only [Bool.and_eq_true, decide_eq_true_eq] at he
    dsimp only [jm_step] at hs
    obtain ⟨⟨hd, rfl⟩, hn⟩ := he
    split at hs
    · rename_i x hg
      intro H locs ls hP hD hS hl
      exact lv_iload_n hx hb hd hn (jm_lv_at hl hg) (hs H locs ls hP hD hS hl)
    · exact hs.elim
  case lload n =>
    dsimp only [jm_okE, jm_dec] at he
    simp only [Bool.and_eq_true, decide_eq_true_eq] at he
    dsimp only [jm_step] at hs
    obtain ⟨⟨hd, rfl⟩, rfl⟩ := he
    split at hs
    · rename_i x hg
      intro H locs ls hP hD hS hl
      exact lv_lload hx hb hd (jm_lv_at hl hg) (hs H locs ls hP hD hS hl)
    · exact hs.elim
  case lload_n n =>
    dsimp only [jm_okE, jm_dec] at he
    simp only [Bool.and_eq_true, decide_eq_true_eq] at he
    dsimp only [jm_step] at hs
    obtain ⟨⟨hd, rfl⟩, hn⟩ := he
    split at hs
    · rename_i x hg
      intro H locs ls hP hD hS hl
      exact lv_lload_n hx hb hd hn (jm_lv_at hl hg) (hs H locs ls hP hD hS hl)
    · exact hs.elim
  case aload n =>
    dsimp only [jm_okE, jm_dec] at he
    simp only [Bool.and_eq_true, decide_eq_true_eq] at he
    dsimp only [jm_step] at hs
    obtain ⟨⟨hd, rfl⟩, rfl⟩ := he
    split at hs
    · rename_i x hg
      intro H locs ls hP hD hS hl
      exact lv_aload hx hb hd (jm_lv_at hl hg) (hs H locs ls hP hD hS hl)
    · rename_i hg
      intro H locs ls hP hD hS hl
      exact lv_aloadN hx hb hd (jm_lv_at hl hg) (hs H locs ls hP hD hS hl)
    · exact hs.elim
  case aload_n n =>
    dsimp only [jm_okE, jm_dec] at he
    simp only [Bool.and_eq_true, decide_eq_true_eq] at he
    dsimp only [jm_step] at hs
    obtain ⟨⟨hd, rfl⟩, hn⟩ := he
    split at hs
    · rename_i x hg
      intro H locs ls hP hD hS hl
      exact lv_aload_n hx hb hd hn (jm_lv_at hl hg) (hs H locs ls hP hD hS hl)
    · rename_i hg
      intro H locs ls hP hD hS hl
      exact lv_aload_nN hx hb hd hn (jm_lv_at hl hg) (hs H locs ls hP hD hS hl)
    · exact hs.elim
  case istore n =>
    dsimp only [jm_okE, jm_dec] at he
    simp only [Bool.and_eq_true, decide_eq_true_eq] at he
    dsimp only [jm_step] at hs
    obtain ⟨⟨⟨hd, rfl⟩, rfl⟩, hn⟩ := he
    split at hs
    · intro H locs ls hP hD hS hl
      exact lv_istore hx hb hd hl hn rfl (fun ls hl => (hs H locs ls hP hD hS hl))
    · exact hs.elim
  case istore_n n =>
    dsimp only [jm_okE, jm_dec] at he
    simp only [Bool.and_eq_true, decide_eq_true_eq] at he
    dsimp only [jm_step] at hs
    obtain ⟨⟨⟨hd, rfl⟩, hi⟩, hn⟩ := he
    split at hs
    · intro H locs ls hP hD hS hl
      exact lv_istore_n hx hb hd hi hl hn rfl (fun ls hl => (hs H locs ls hP hD hS hl))
    · exact hs.elim
  case lstore n =>
    dsimp only [jm_okE, jm_dec] at he
    simp only [Bool.and_eq_true, decide_eq_true_eq] at he
    dsimp only [jm_step] at hs
    obtain ⟨⟨⟨hd, rfl⟩, rfl⟩, hn⟩ := he
    split at hs
    · intro H locs ls hP hD hS hl
      exact lv_lstore hx hb hd hl hn rfl (fun ls hl => (hs H locs ls hP hD hS hl))
    · exact hs.elim
  case lstore_n n =>
    dsimp only [jm_okE, jm_dec] at he
    simp only [Bool.and_eq_true, decide_eq_true_eq] at he
    dsimp only [jm_step] at hs
    obtain ⟨⟨⟨hd, rfl⟩, hi⟩, hn⟩ := he
    split at hs
    · intro H locs ls hP hD hS hl
      exact lv_lstore_n hx hb hd hi hl hn rfl (fun ls hl => (hs H locs ls hP hD hS hl))
    · exact hs.elim
  case astore n =>
    dsimp only [jm_okE, jm_dec] at he
    simp only [Bool.and_eq_true, decide_eq_true_eq] at he
    dsimp only [jm_step] at hs
    obtain ⟨⟨⟨hd, rfl⟩, rfl⟩, hn⟩ := he
    split at hs
    · intro H locs ls hP hD hS hl
      exact lv_astore hx hb hd hl hn rfl (fun ls hl => (hs H locs ls hP hD hS hl))
    · intro H locs ls hP hD hS hl
      exact lv_astoreN hx hb hd hl hn rfl (fun ls hl => (hs H locs ls hP hD hS hl))
    · exact hs.elim
  case astore_n n =>
    dsimp only [jm_okE, jm_dec] at he
    simp only [Bool.and_eq_true, decide_eq_true_eq] at he
    dsimp only [jm_step] at hs
    obtain ⟨⟨⟨hd, rfl⟩, hi⟩, hn⟩ := he
    split at hs
    · intro H locs ls hP hD hS hl
      exact lv_astore_n hx hb hd hi hl hn rfl (fun ls hl => (hs H locs ls hP hD hS hl))
    · intro H locs ls hP hD hS hl
      exact lv_astore_nN hx hb hd hi hl hn rfl (fun ls hl => (hs H locs ls hP hD hS hl))
    · exact hs.elim
  case iinc n k =>
    dsimp only [jm_okE, jm_dec] at he
    simp only [Bool.and_eq_true, decide_eq_true_eq] at he
    dsimp only [jm_step] at hs
    obtain ⟨⟨⟨⟨hd, rfl⟩, rfl⟩, hn⟩, hv⟩ := he
    split at hs
    · rename_i x hg
      intro H locs ls hP hD hS hl
      exact jm_iinc hx hb hd hl (jm_lv_at hl hg) (by rw [hv]) hn (fun ls hl => (hs H locs ls hP hD hS hl))
    · exact hs.elim
  case iadd  =>
    dsimp only [jm_okE, jm_dec] at he
    simp only [Bool.and_eq_true, decide_eq_true_eq] at he
    dsimp only [jm_step] at hs
    obtain ⟨hd, rfl⟩ := he
    split at hs
    · intro H locs ls hP hD hS hl
      exact lv_iadd hx hb hd (hs H locs ls hP hD hS hl)
    · exact hs.elim
  case isub  =>
    dsimp only [jm_okE, jm_dec] at he
    simp only [Bool.and_eq_true, decide_eq_true_eq] at he
    dsimp only [jm_step] at hs
    obtain ⟨hd, rfl⟩ := he
    split at hs
    · intro H locs ls hP hD hS hl
      exact lv_isub hx hb hd (hs H locs ls hP hD hS hl)
    · exact hs.elim
  case imul  =>
    dsimp only [jm_okE, jm_dec] at he
    simp only [Bool.and_eq_true, decide_eq_true_eq] at he
    dsimp only [jm_step] at hs
    obtain ⟨hd, rfl⟩ := he
    split at hs
    · intro H locs ls hP hD hS hl
      exact lv_imul hx hb hd (hs H locs ls hP hD hS hl)
    · exact hs.elim
  case iand  =>
    dsimp only [jm_okE, jm_dec] at he
    simp only [Bool.and_eq_true, decide_eq_true_eq] at he
    dsimp only [jm_step] at hs
    obtain ⟨hd, rfl⟩ := he
    split at hs
    · intro H locs ls hP hD hS hl
      exact lv_iand hx hb hd (hs H locs ls hP hD hS hl)
    · exact hs.elim
  case ior  =>
    dsimp only [jm_okE, jm_dec] at he
    simp only [Bool.and_eq_true, decide_eq_true_eq] at he
    dsimp only [jm_step] at hs
    obtain ⟨hd, rfl⟩ := he
    split at hs
    · intro H locs ls hP hD hS hl
      exact lv_ior hx hb hd (hs H locs ls hP hD hS hl)
    · exact hs.elim
  case ixor  =>
    dsimp only [jm_okE, jm_dec] at he
    simp only [Bool.and_eq_true, decide_eq_true_eq] at he
    dsimp only [jm_step] at hs
    obtain ⟨hd, rfl⟩ := he
    split at hs
    · intro H locs ls hP hD hS hl
      exact lv_ixor hx hb hd (hs H locs ls hP hD hS hl)
    · exact hs.elim
  case ishl  =>
    dsimp only [jm_okE, jm_dec] at he
    simp only [Bool.and_eq_true, decide_eq_true_eq] at he
    dsimp only [jm_step] at hs
    obtain ⟨hd, rfl⟩ := he
    split at hs
    · intro H locs ls hP hD hS hl
      exact lv_ishl hx hb hd (hs H locs ls hP hD hS hl)
    · exact hs.elim
  case ishr  =>
    dsimp only [jm_okE, jm_dec] at he
    simp only [Bool.and_eq_true, decide_eq_true_eq] at he
    dsimp only [jm_step] at hs
    obtain ⟨hd, rfl⟩ := he
    split at hs
    · intro H locs ls hP hD hS hl
      exact lv_ishr hx hb hd (hs H locs ls hP hD hS hl)
    · exact hs.elim
  case ineg  =>
    dsimp only [jm_okE, jm_dec] at he
    simp only [Bool.and_eq_true, decide_eq_true_eq] at he
    dsimp only [jm_step] at hs
    obtain ⟨hd, rfl⟩ := he
    split at hs
    · intro H locs ls hP hD hS hl
      exact lv_ineg hx hb hd (hs H locs ls hP hD hS hl)
    · exact hs.elim
  case ladd  =>
    dsimp only [jm_okE, jm_dec] at he
    simp only [Bool.and_eq_true, decide_eq_true_eq] at he
    dsimp only [jm_step] at hs
    obtain ⟨hd, rfl⟩ := he
    split at hs
    · intro H locs ls hP hD hS hl
      exact lv_ladd hx hb hd (hs H locs ls hP hD hS hl)
    · exact hs.elim
  case lsub  =>
    dsimp only [jm_okE, jm_dec] at he
    simp only [Bool.and_eq_true, decide_eq_true_eq] at he
    dsimp only [jm_step] at hs
    obtain ⟨hd, rfl⟩ := he
    split at hs
    · intro H locs ls hP hD hS hl
      exact lv_lsub hx hb hd (hs H locs ls hP hD hS hl)
    · exact hs.elim
  case lmul  =>
    dsimp only [jm_okE, jm_dec] at he
    simp only [Bool.and_eq_true, decide_eq_true_eq] at he
    dsimp only [jm_step] at hs
    obtain ⟨hd, rfl⟩ := he
    split at hs
    · intro H locs ls hP hD hS hl
      exact lv_lmul hx hb hd (hs H locs ls hP hD hS hl)
    · exact hs.elim
  case land  =>
    dsimp only [jm_okE, jm_dec] at he
    simp only [Bool.and_eq_true, decide_eq_true_eq] at he
    dsimp only [jm_step] at hs
    obtain ⟨hd, rfl⟩ := he
    split at hs
    · intro H locs ls hP hD hS hl
      exact lv_land hx hb hd (hs H locs ls hP hD hS hl)
    · exact hs.elim
  case lor  =>
    dsimp only [jm_okE, jm_dec] at he
    simp only [Bool.and_eq_true, decide_eq_true_eq] at he
    dsimp only [jm_step] at hs
    obtain ⟨hd, rfl⟩ := he
    split at hs
    · intro H locs ls hP hD hS hl
      exact lv_lor hx hb hd (hs H locs ls hP hD hS hl)
    · exact hs.elim
  case lxor  =>
    dsimp only [jm_okE, jm_dec] at he
    simp only [Bool.and_eq_true, decide_eq_true_eq] at he
    dsimp only [jm_step] at hs
    obtain ⟨hd, rfl⟩ := he
    split at hs
    · intro H locs ls hP hD hS hl
      exact lv_lxor hx hb hd (hs H locs ls hP hD hS hl)
    · exact hs.elim
  case lneg  =>
    dsimp only [jm_okE, jm_dec] at he
    simp only [Bool.and_eq_true, decide_eq_true_eq] at he
    dsimp only [jm_step] at hs
    obtain ⟨hd, rfl⟩ := he
    split at hs
    · intro H locs ls hP hD hS hl
      exact lv_lneg hx hb hd (hs H locs ls hP hD hS hl)
    · exact hs.elim
  case iushr  =>
    dsimp only [jm_okE, jm_dec] at he
    simp only [Bool.and_eq_true, decide_eq_true_eq] at he
    dsimp only [jm_step] at hs
    obtain ⟨hd, rfl⟩ := he
    split at hs
    · intro H locs ls hP hD hS hl
      exact lv_iushr hx hb hd rfl (hs H locs ls hP hD hS hl)
    · exact hs.elim
  case lushr  =>
    dsimp only [jm_okE, jm_dec] at he
    simp only [Bool.and_eq_true, decide_eq_true_eq] at he
    dsimp only [jm_step] at hs
    obtain ⟨hd, rfl⟩ := he
    split at hs
    · intro H locs ls hP hD hS hl
      exact lv_lushr hx hb hd rfl (hs H locs ls hP hD hS hl)
    · exact hs.elim
  case lshl  =>
    dsimp only [jm_okE, jm_dec] at he
    simp only [Bool.and_eq_true, decide_eq_true_eq] at he
    dsimp only [jm_step] at hs
    obtain ⟨hd, rfl⟩ := he
    split at hs
    · intro H locs ls hP hD hS hl
      exact lv_lshl hx hb hd rfl (hs H locs ls hP hD hS hl)
    · exact hs.elim
  case lshr  =>
    dsimp only [jm_okE, jm_dec] at he
    simp only [Bool.and_eq_true, decide_eq_true_eq] at he
    dsimp only [jm_step] at hs
    obtain ⟨hd, rfl⟩ := he
    split at hs
    · intro H locs ls hP hD hS hl
      exact lv_lshr hx hb hd rfl (hs H locs ls hP hD hS hl)
    · exact hs.elim
  case i2l  =>
    dsimp only [jm_okE, jm_dec] at he
    simp only [Bool.and_eq_true, decide_eq_true_eq] at he
    dsimp only [jm_step] at hs
    obtain ⟨hd, rfl⟩ := he
    split at hs
    · intro H locs ls hP hD hS hl
      exact lv_i2l hx hb hd rfl (hs H locs ls hP hD hS hl)
    · exact hs.elim
  case l2i  =>
    dsimp only [jm_okE, jm_dec] at he
    simp only [Bool.and_eq_true, decide_eq_true_eq] at he
    dsimp only [jm_step] at hs
    obtain ⟨hd, rfl⟩ := he
    split at hs
    · intro H locs ls hP hD hS hl
      exact lv_l2i hx hb hd rfl (hs H locs ls hP hD hS hl)
    · exact hs.elim
  case lcmp  =>
    dsimp only [jm_okE, jm_dec] at he
    simp only [Bool.and_eq_true, decide_eq_true_eq] at he
    dsimp only [jm_step] at hs
    obtain ⟨hd, rfl⟩ := he
    split at hs
    · intro H locs ls hP hD hS hl
      exact W.lcmp hx hb hd (hs H locs ls hP hD hS hl)
    · exact hs.elim
  case idiv  =>
    dsimp only [jm_okE, jm_dec] at he
    simp only [Bool.and_eq_true, decide_eq_true_eq] at he
    dsimp only [jm_step] at hs
    obtain ⟨hd, rfl⟩ := he
    split at hs
    · obtain ⟨hne, hs⟩ := hs
      intro H locs ls hP hD hS hl
      exact lv_idiv hx hb hd hne (hs H locs ls hP hD hS hl)
    · exact hs.elim
  case irem  =>
    dsimp only [jm_okE, jm_dec] at he
    simp only [Bool.and_eq_true, decide_eq_true_eq] at he
    dsimp only [jm_step] at hs
    obtain ⟨hd, rfl⟩ := he
    split at hs
    · obtain ⟨hne, hs⟩ := hs
      intro H locs ls hP hD hS hl
      exact lv_irem hx hb hd hne (hs H locs ls hP hD hS hl)
    · exact hs.elim
  case ldiv  =>
    dsimp only [jm_okE, jm_dec] at he
    simp only [Bool.and_eq_true, decide_eq_true_eq] at he
    dsimp only [jm_step] at hs
    obtain ⟨hd, rfl⟩ := he
    split at hs
    · obtain ⟨hne, hs⟩ := hs
      intro H locs ls hP hD hS hl
      exact lv_ldiv hx hb hd hne (hs H locs ls hP hD hS hl)
    · exact hs.elim
  case lrem  =>
    dsimp only [jm_okE, jm_dec] at he
    simp only [Bool.and_eq_true, decide_eq_true_eq] at he
    dsimp only [jm_step] at hs
    obtain ⟨hd, rfl⟩ := he
    split at hs
    · obtain ⟨hne, hs⟩ := hs
      intro H locs ls hP hD hS hl
      exact lv_lrem hx hb hd hne (hs H locs ls hP hD hS hl)
    · exact hs.elim
  case dup  =>
    dsimp only [jm_okE, jm_dec] at he
    simp only [Bool.and_eq_true, decide_eq_true_eq] at he
    dsimp only [jm_step] at hs
    obtain ⟨hd, rfl⟩ := he
    split at hs
    · obtain ⟨h1, hs⟩ := hs
      intro H locs ls hP hD hS hl
      exact lv_dup hx hb hd h1 (hs H locs ls hP hD hS hl)
    · exact hs.elim
  case pop  =>
    dsimp only [jm_okE, jm_dec] at he
    simp only [Bool.and_eq_true, decide_eq_true_eq] at he
    dsimp only [jm_step] at hs
    obtain ⟨hd, rfl⟩ := he
    split at hs
    · obtain ⟨h1, hs⟩ := hs
      intro H locs ls hP hD hS hl
      exact lv_pop hx hb hd h1 (hs H locs ls hP hD hS hl)
    · exact hs.elim
  case dup_x1  =>
    dsimp only [jm_okE, jm_dec] at he
    simp only [Bool.and_eq_true, decide_eq_true_eq] at he
    dsimp only [jm_step] at hs
    obtain ⟨hd, rfl⟩ := he
    split at hs
    · obtain ⟨h1, h2, hs⟩ := hs
      intro H locs ls hP hD hS hl
      exact lv_dup_x1 hx hb hd h1 h2 (hs H locs ls hP hD hS hl)
    · exact hs.elim
  case dup_x2  =>
    dsimp only [jm_okE, jm_dec] at he
    simp only [Bool.and_eq_true, decide_eq_true_eq] at he
    dsimp only [jm_step] at hs
    obtain ⟨hd, rfl⟩ := he
    split at hs
    · obtain ⟨h1, h2, h3, hs⟩ := hs
      intro H locs ls hP hD hS hl
      exact lv_dup_x2 hx hb hd h1 h2 h3 (hs H locs ls hP hD hS hl)
    · exact hs.elim
  case dup2  =>
    dsimp only [jm_okE, jm_dec] at he
    simp only [Bool.and_eq_true, decide_eq_true_eq] at he
    dsimp only [jm_step] at hs
    obtain ⟨hd, rfl⟩ := he
    split at hs
    · intro H locs ls hP hD hS hl
      exact lv_dup2_2 hx hb hd rfl (hs H locs ls hP hD hS hl)
    · obtain ⟨h1, h2, hs⟩ := hs
      intro H locs ls hP hD hS hl
      exact lv_dup2_11 hx hb hd h1 h2 (hs H locs ls hP hD hS hl)
    · exact hs.elim
  case pop2  =>
    dsimp only [jm_okE, jm_dec] at he
    simp only [Bool.and_eq_true, decide_eq_true_eq] at he
    dsimp only [jm_step] at hs
    obtain ⟨hd, rfl⟩ := he
    split at hs
    · intro H locs ls hP hD hS hl
      exact lv_pop2_2 hx hb hd rfl (hs H locs ls hP hD hS hl)
    · obtain ⟨h1, h2, hs⟩ := hs
      intro H locs ls hP hD hS hl
      exact lv_pop2_11 hx hb hd h1 h2 (hs H locs ls hP hD hS hl)
    · exact hs.elim
  case goto off =>
    dsimp only [jm_okE, jm_dec] at he
    simp only [Bool.and_eq_true, decide_eq_true_eq] at he
    dsimp only [jm_step] at hs
    obtain ⟨⟨hd, rfl⟩, ht⟩ := he
    intro H locs ls hP hD hS hl
    exact lv_goto hx hb hd ht (hs H locs ls hP hD hS hl)
  case ifCond cd off =>
    dsimp only [jm_okE, jm_dec] at he
    simp only [Bool.and_eq_true, decide_eq_true_eq] at he
    obtain ⟨⟨hd, rfl⟩, ht⟩ := he
    cases cd
    · dsimp only [jm_step] at hs
      split at hs
      · intro H locs ls hP hD hS hl
        exact lv_if_eq hx hb hd ht (fun q => hs.1 q H locs ls hP hD hS hl) (fun q => hs.2 q H locs ls hP hD hS hl)
      · exact hs.elim
    · dsimp only [jm_step] at hs
      split at hs
      · intro H locs ls hP hD hS hl
        exact lv_if_ne hx hb hd ht (fun q => hs.2 q H locs ls hP hD hS hl) (fun q => hs.1 q H locs ls hP hD hS hl)
      · exact hs.elim
    · dsimp only [jm_step] at hs
      split at hs
      · intro H locs ls hP hD hS hl
        exact lv_if_lt hx hb hd ht (fun q => hs.1 q H locs ls hP hD hS hl) (fun q => hs.2 q H locs ls hP hD hS hl)
      · exact hs.elim
    · dsimp only [jm_step] at hs
      split at hs
      · intro H locs ls hP hD hS hl
        exact lv_if_ge hx hb hd ht (fun q => hs.1 q H locs ls hP hD hS hl) (fun q => hs.2 q H locs ls hP hD hS hl)
      · exact hs.elim
    · dsimp only [jm_step] at hs
      split at hs
      · intro H locs ls hP hD hS hl
        exact lv_if_gt hx hb hd ht (fun q => hs.1 q H locs ls hP hD hS hl) (fun q => hs.2 q H locs ls hP hD hS hl)
      · exact hs.elim
    · dsimp only [jm_step] at hs
      split at hs
      · intro H locs ls hP hD hS hl
        exact lv_if_le hx hb hd ht (fun q => hs.1 q H locs ls hP hD hS hl) (fun q => hs.2 q H locs ls hP hD hS hl)
      · exact hs.elim
  case if_icmp cd off =>
    dsimp only [jm_okE, jm_dec] at he
    simp only [Bool.and_eq_true, decide_eq_true_eq] at he
    obtain ⟨⟨hd, rfl⟩, ht⟩ := he
    cases cd
    · dsimp only [jm_step] at hs
      split at hs
      · intro H locs ls hP hD hS hl
        exact lv_icmp_eq hx hb hd ht (fun q => hs.1 q H locs ls hP hD hS hl) (fun q => hs.2 q H locs ls hP hD hS hl)
      · exact hs.elim
    · dsimp only [jm_step] at hs
      split at hs
      · intro H locs ls hP hD hS hl
        exact lv_icmp_ne hx hb hd ht (fun q => hs.2 q H locs ls hP hD hS hl) (fun q => hs.1 q H locs ls hP hD hS hl)
      · exact hs.elim
    · dsimp only [jm_step] at hs
      split at hs
      · intro H locs ls hP hD hS hl
        exact lv_icmp_lt hx hb hd ht (fun q => hs.1 q H locs ls hP hD hS hl) (fun q => hs.2 q H locs ls hP hD hS hl)
      · exact hs.elim
    · dsimp only [jm_step] at hs
      split at hs
      · intro H locs ls hP hD hS hl
        exact lv_icmp_ge hx hb hd ht (fun q => hs.1 q H locs ls hP hD hS hl) (fun q => hs.2 q H locs ls hP hD hS hl)
      · exact hs.elim
    · dsimp only [jm_step] at hs
      split at hs
      · intro H locs ls hP hD hS hl
        exact lv_icmp_gt hx hb hd ht (fun q => hs.1 q H locs ls hP hD hS hl) (fun q => hs.2 q H locs ls hP hD hS hl)
      · exact hs.elim
    · dsimp only [jm_step] at hs
      split at hs
      · intro H locs ls hP hD hS hl
        exact lv_icmp_le hx hb hd ht (fun q => hs.1 q H locs ls hP hD hS hl) (fun q => hs.2 q H locs ls hP hD hS hl)
      · exact hs.elim
  case ifnull off =>
    dsimp only [jm_okE, jm_dec] at he
    simp only [Bool.and_eq_true, decide_eq_true_eq] at he
    dsimp only [jm_step] at hs
    obtain ⟨⟨hd, rfl⟩, ht⟩ := he
    split at hs
    · intro H locs ls hP hD hS hl
      exact lv_ifnull hx hb hd (hs H locs ls hP hD hS hl)
    · intro H locs ls hP hD hS hl
      exact lv_ifnullN hx hb hd ht (hs H locs ls hP hD hS hl)
    · exact hs.elim
  case ifnonnull off =>
    dsimp only [jm_okE, jm_dec] at he
    simp only [Bool.and_eq_true, decide_eq_true_eq] at he
    dsimp only [jm_step] at hs
    obtain ⟨⟨hd, rfl⟩, ht⟩ := he
    split at hs
    · intro H locs ls hP hD hS hl
      exact lv_ifnonnull hx hb hd ht (hs H locs ls hP hD hS hl)
    · intro H locs ls hP hD hS hl
      exact lv_ifnonnullN hx hb hd (hs H locs ls hP hD hS hl)
    · exact hs.elim
  case tableswitch d lo2 hi offs =>
    dsimp only [jm_okE, jm_dec] at he
    simp only [Bool.and_eq_true, decide_eq_true_eq] at he
    dsimp only [jm_step] at hs
    obtain ⟨hd, -⟩ := he
    split at hs
    · obtain ⟨tgt, hq, hs⟩ := hs
      intro H locs ls hP hD hS hl
      rcases hq with ⟨q1, q2⟩ | ⟨q1, q2, off, q3, q4⟩
      · exact lv_tableOut hx hb hd q1 q2 (hs H locs ls hP hD hS hl)
      · exact lv_tableIn hx hb hd q1 q2 q3 q4 (hs H locs ls hP hD hS hl)
    · exact hs.elim
  case getfield i =>
    dsimp only [jm_okE, jm_dec] at he
    simp only [Bool.and_eq_true, decide_eq_true_eq] at he
    dsimp only [jm_step] at hs
    obtain ⟨⟨hd, rfl⟩, hf⟩ := he
    cases hc : jm_cl[a1]? with
    | none => rw [hc] at hf; exact absurd hf (by simp)
    | some z =>
      rw [hc] at hf
      simp only [Bool.and_eq_true, decide_eq_true_eq] at hf
      split at hs
      · obtain ⟨ho, hs⟩ := hs
        split at hs
        · rename_i ht; exact jm_sget h hc hf.1 (jm_wd_in hf.2) hd ho (by rw [ht]; rfl) hs
        · rename_i ht; obtain ⟨z, hz, hs⟩ := hs; exact jm_sget h hc hf.1 (jm_wd_in hf.2) hd ho (by rw [ht, ← hz]; rfl) hs
        · rename_i ht; obtain ⟨z, hz, hs⟩ := hs; exact jm_sget h hc hf.1 (jm_wd_in hf.2) hd ho (by rw [ht, ← hz]; rfl) hs
        · rename_i ht; exact jm_sget h hc hf.1 (jm_wd_in hf.2) hd ho (by rw [ht]; rfl) hs
        · rename_i ht; exact jm_sget h hc hf.1 (jm_wd_in hf.2) hd ho (by rw [ht]; rfl) hs
        · exact hs.elim
      · exact hs.elim
  case putfield i =>
    dsimp only [jm_okE, jm_dec] at he
    simp only [Bool.and_eq_true, decide_eq_true_eq] at he
    dsimp only [jm_step] at hs
    obtain ⟨⟨hd, rfl⟩, hf⟩ := he
    cases hc : jm_cl[a1]? with
    | none => rw [hc] at hf; exact absurd hf (by simp)
    | some z =>
      rw [hc] at hf
      simp only [Bool.and_eq_true, Bool.or_eq_true, decide_eq_true_eq] at hf
      have hf2 := hf.2
      split at hs
      · rename_i ht
        split at hs
        · obtain ⟨ho, hs⟩ := hs
          exact jm_sput (m' := uJ m _ a2 _) h hc hf.1.1 (jm_wd_in hf.1.2) hf2 hd ho (by rw [ht]; rfl) (by rw [ht]; rfl) rfl rfl (by rw [ht]; simp [jm_val, uJ, uJA, va_up_self]) (fun j hj => jm_val_uJ hj) (fun b hb => jm_cell_uJA hb) hs
        · exact hs.elim
      · rename_i ht
        split at hs
        · obtain ⟨ho, hs⟩ := hs
          exact jm_sput (m' := uR m _ a2 _) h hc hf.1.1 (jm_wd_in hf.1.2) hf2 hd ho (by rw [ht]; rfl) (by rw [ht]; rfl) rfl rfl (by rw [ht]; simp [jm_val, uR, uRA, va_up_self, va_rf]) (fun j hj => jm_val_uR hj) (fun b hb => jm_cell_uRA hb) hs
        · obtain ⟨ho, hs⟩ := hs
          exact jm_sput (m' := uR m _ a2 _) h hc hf.1.1 (jm_wd_in hf.1.2) hf2 hd ho (by rw [ht]; rfl) (by rw [ht]; rfl) rfl rfl (by rw [ht]; simp [jm_val, uR, uRA, va_up_self, va_rf]) (fun j hj => jm_val_uR hj) (fun b hb => jm_cell_uRA hb) hs
        · exact hs.elim
      · rename_i ht
        split at hs
        · obtain ⟨ho, hs⟩ := hs
          exact jm_sput (m' := uR m _ a2 _) h hc hf.1.1 (jm_wd_in hf.1.2) hf2 hd ho (by rw [ht]; rfl) (by rw [ht]; rfl) rfl rfl (by rw [ht]; simp [jm_val, uR, uRA, va_up_self, va_rf]) (fun j hj => jm_val_uR hj) (fun b hb => jm_cell_uRA hb) hs
        · obtain ⟨ho, hs⟩ := hs
          exact jm_sput (m' := uR m _ a2 _) h hc hf.1.1 (jm_wd_in hf.1.2) hf2 hd ho (by rw [ht]; rfl) (by rw [ht]; rfl) rfl rfl (by rw [ht]; simp [jm_val, uR, uRA, va_up_self, va_rf]) (fun j hj => jm_val_uR hj) (fun b hb => jm_cell_uRA hb) hs
        · exact hs.elim
      · rename_i ht
        split at hs
        · obtain ⟨ho, hs⟩ := hs
          exact jm_sput (m' := uI m _ a2 _) h hc hf.1.1 (jm_wd_in hf.1.2) hf2 hd ho (by rw [ht]; rfl) (by rw [ht]; rfl) rfl rfl (by rw [ht]; simp [jm_val, uI, uA, va_up_self]) (fun j hj => jm_val_uI hj) (fun b hb => jm_cell_uA hb) hs
        · exact hs.elim
      · rename_i ht
        split at hs
        · obtain ⟨ho, h01, hs⟩ := hs
          exact jm_sput (m' := uI m _ a2 _) h hc hf.1.1 (jm_wd_in hf.1.2) hf2 hd ho (by rw [ht]; rcases h01 with rfl | rfl <;> rfl) (by rw [ht]; rcases h01 with rfl | rfl <;> rfl) rfl rfl (by rw [ht]; simp [jm_val, uI, uA, va_up_self]) (fun j hj => jm_val_uI hj) (fun b hb => jm_cell_uA hb) hs
        · exact hs.elim
      · exact hs.elim
  case iaload  =>
    dsimp only [jm_okE, jm_dec] at he
    simp only [Bool.and_eq_true, decide_eq_true_eq] at he
    dsimp only [jm_step] at hs
    obtain ⟨⟨hd, rfl⟩, hq⟩ := he
    split at hs
    · cases hb1 : Nat.beq a1 1 with
      | true =>
        rw [hb1] at hs
        obtain ⟨rfl, hi, hs⟩ := hs
        have hlw : law = true := by
          simp only [Bool.or_eq_true, decide_eq_true_eq] at hq
          rcases hq with q | q
          · rw [q] at hb1; exact absurd hb1 (by decide)
          · exact q
        obtain ⟨w1, w2, w3⟩ := hlaw hlw
        intro H locs ls hP hD hS hl
        exact va_sld hx hb w1 w2 w3 hS hi hd (hs H locs ls hP hD hS hl)
      | false =>
        rw [hb1] at hs
        obtain ⟨ho, hi, hs⟩ := hs
        exact jm_siald h hd ho hi hs
    · exact hs.elim
  case arraylength  =>
    dsimp only [jm_okE, jm_dec] at he
    simp only [Bool.and_eq_true, decide_eq_true_eq] at he
    dsimp only [jm_step] at hs
    obtain ⟨⟨hd, rfl⟩, hq⟩ := he
    split at hs
    · cases hb1 : Nat.beq a1 1 with
      | true =>
        rw [hb1] at hs
        obtain ⟨rfl, hs⟩ := hs
        have hlw : law = true := by
          simp only [Bool.or_eq_true, decide_eq_true_eq] at hq
          rcases hq with q | q
          · rw [q] at hb1; exact absurd hb1 (by decide)
          · exact q
        obtain ⟨w1, w2, w3⟩ := hlaw hlw
        intro H locs ls hP hD hS hl
        exact va_slen hx hb w1 w2 w3 hS hd (hs H locs ls hP hD hS hl)
      | false =>
        rw [hb1] at hs
        obtain ⟨ho, h1, h2, hs⟩ := hs
        exact jm_slen h hd ho h1 h2 hs
    · exact hs.elim
  case laload  =>
    dsimp only [jm_okE, jm_dec] at he
    simp only [Bool.and_eq_true, decide_eq_true_eq] at he
    dsimp only [jm_step] at hs
    obtain ⟨hd, rfl⟩ := he
    split at hs
    · obtain ⟨ho, hi, hs⟩ := hs
      exact jm_slald h hd ho hi hs
    · exact hs.elim
  case baload  =>
    dsimp only [jm_okE, jm_dec] at he
    simp only [Bool.and_eq_true, decide_eq_true_eq] at he
    dsimp only [jm_step] at hs
    obtain ⟨hd, rfl⟩ := he
    split at hs
    · obtain ⟨ho, hi, hs⟩ := hs
      exact jm_szald h hd ho hi hs
    · exact hs.elim
  case iastore  =>
    dsimp only [jm_okE, jm_dec] at he
    simp only [Bool.and_eq_true, decide_eq_true_eq] at he
    dsimp only [jm_step] at hs
    obtain ⟨hd, rfl⟩ := he
    split at hs
    · obtain ⟨ho, hi, hs⟩ := hs
      exact jm_siast h hd ho hi hs
    · exact hs.elim
  case lastore  =>
    dsimp only [jm_okE, jm_dec] at he
    simp only [Bool.and_eq_true, decide_eq_true_eq] at he
    dsimp only [jm_step] at hs
    obtain ⟨hd, rfl⟩ := he
    split at hs
    · obtain ⟨ho, hi, hs⟩ := hs
      exact jm_slast h hd ho hi hs
    · exact hs.elim
  case bastore  =>
    dsimp only [jm_okE, jm_dec] at he
    simp only [Bool.and_eq_true, decide_eq_true_eq] at he
    dsimp only [jm_step] at hs
    obtain ⟨hd, rfl⟩ := he
    split at hs
    · obtain ⟨ho, hi, h01, hs⟩ := hs
      exact jm_szast h hd ho hi h01 hs
    · exact hs.elim
  case aaload  =>
    dsimp only [jm_okE, jm_dec] at he
    simp only [Bool.and_eq_true, decide_eq_true_eq] at he
    dsimp only [jm_step] at hs
    obtain ⟨⟨hd, rfl⟩, hk⟩ := he
    split at hs
    · obtain ⟨ho, hi, z, hz, hs⟩ := hs
      exact jm_saald h hd hk ho hi (by rw [hz]; exact hs)
    · exact hs.elim
  case aastore  =>
    dsimp only [jm_okE, jm_dec] at he
    simp only [Bool.and_eq_true, decide_eq_true_eq] at he
    dsimp only [jm_step] at hs
    obtain ⟨⟨⟨hd, rfl⟩, rfl⟩, rfl⟩ := he
    split at hs
    · obtain ⟨ho, hi, hxo, hs⟩ := hs
      exact jm_saast h hd ho hi hxo hs
    · exact hs.elim
  case new i =>
    dsimp only [jm_okE, jm_dec] at he
    simp only [Bool.and_eq_true, decide_eq_true_eq] at he
    dsimp only [jm_step] at hs
    obtain ⟨⟨hd, rfl⟩, hf⟩ := he
    cases hc : jm_cl[a1]? with
    | none => rw [hc] at hf; exact absurd hf (by simp)
    | some z =>
      rw [hc] at hf
      exact jm_snew h hc (jm_wd_in hf) hd hs.1 hs.2.1 hs.2.2
  case newarray t =>
    dsimp only [jm_okE, jm_dec] at he
    simp only [Bool.and_eq_true, decide_eq_true_eq] at he
    dsimp only [jm_step] at hs
    obtain ⟨⟨⟨⟨hd, rfl⟩, h1⟩, h2⟩, h3⟩ := he
    split at hs
    · obtain ⟨q1, q2, q3, q4, q5⟩ := hs
      exact jm_snewa h h1 h2 h3 hd q1 q2 q3 q4 q5
    · exact hs.elim
  case anewarray i =>
    dsimp only [jm_okE, jm_dec] at he
    simp only [Bool.and_eq_true, decide_eq_true_eq] at he
    dsimp only [jm_step] at hs
    obtain ⟨⟨⟨hd, rfl⟩, rfl⟩, h3⟩ := he
    split at hs
    · obtain ⟨q1, q2, q3, q4, q5⟩ := hs
      exact jm_sanew h (jm_wd_in h3) hd q1 q2 q3 q4 q5
    · exact hs.elim
  case invokevirtual i =>
    dsimp only [jm_okE, jm_dec] at he
    simp only [Bool.and_eq_true, decide_eq_true_eq] at he
    dsimp only [jm_step] at hs
    obtain ⟨⟨hd, rfl⟩, hcl⟩ := he
    obtain ⟨c1, c2, c3, c4, c5, c6, c7, c8⟩ := jm_call_of hcl
    obtain ⟨ho, hW, hln, a, b, Q, q1, q2, hC, kk⟩ := hs
    split at ho
    · rename_i o As heq
      rw [heq] at hC
      have hlen : As.length + 1 = a2 := by
        have := congrArg List.length heq
        simp only [List.length_reverse, List.length_take, List.length_cons] at this
        omega
      have e : st = As.reverse ++ .ref o :: st.drop a2 := by
        have := jm_take (st := st) (n := a2)
        rw [heq] at this
        rw [List.reverse_cons, List.append_assoc] at this
        exact this.symm
      dsimp only at c8
      rw [← hlen] at c8
      rw [e]
      exact jm_scallV h c1 c2 c3 c4 c5 c6 c7 (jm_narg c8) hd ho hW q1 q2 hC kk
    · exact ho.elim
  case invokespecial i =>
    dsimp only [jm_okE, jm_dec] at he
    simp only [Bool.and_eq_true, decide_eq_true_eq] at he
    dsimp only [jm_step] at hs
    obtain ⟨⟨hd, rfl⟩, hcl⟩ := he
    cases hb1 : Nat.beq a1 999 with
    | true =>
      rw [hb1] at hs hcl
      dsimp only [cond] at hs hcl
      simp only [Bool.and_eq_true, decide_eq_true_eq] at hcl
      split at hs
      · obtain ⟨hW, hs⟩ := hs
        intro H locs ls hP hD hS hl
        refine W.objInit hx hb hown (hts _ (jm_wd_in hcl.1.1)) (hts _ (jm_wd_in jm_obj1)) (hts _ jm_obj2) rfl (by rw [hml]; exact hl.1) rfl hd (Nat.le_trans hcl.1.2 hfr) (by show 2 * 0 + _ + 12 ≤ _; have := hcl.2; omega) ?_
        exact (hs H locs ls hP hD hS hl)
      · exact hs.elim
    | false =>
      rw [hb1] at hs hcl
      dsimp only [cond] at hs hcl
      obtain ⟨c1, c2, c3, c4, c5, c6, c7, c8⟩ := jm_call_of hcl
      obtain ⟨ho, hW, hln, a, b, Q, q1, q2, hC, kk⟩ := hs
      dsimp only at c8
      split at ho
      · rename_i o As heq
        rw [heq] at hC
        have hlen : As.length + 1 = a2 := by
          have := congrArg List.length heq
          simp only [List.length_reverse, List.length_take, List.length_cons] at this
          omega
        have e : st = As.reverse ++ .ref o :: st.drop a2 := by
          have := jm_take (st := st) (n := a2)
          rw [heq] at this
          rw [List.reverse_cons, List.append_assoc] at this
          exact this.symm
        rw [← hlen] at c8
        rw [e]
        exact jm_scallI h c1 c2 c3 c4 c5 c6 c7 (jm_narg c8) hd hW q1 q2 hC kk
      · exact ho.elim
  case invokestatic i =>
    dsimp only [jm_okE, jm_dec] at he
    simp only [Bool.and_eq_true, decide_eq_true_eq] at he
    dsimp only [jm_step] at hs
    obtain ⟨⟨hd, rfl⟩, hcl⟩ := he
    cases hb0 : Nat.blt a1 900 with
    | true =>
      rw [hb0] at hs hcl
      dsimp only [cond] at hs hcl
      obtain ⟨c1, c2, c3, c4, c5, c8⟩ := jm_call_of hcl
      obtain ⟨hW, hln, a, b, Q, q1, q2, hC, kk⟩ := hs
      have hlen : ((st.take a2).reverse).length = a2 := by
        simp only [List.length_reverse, List.length_take]
        omega
      have e : st = ((st.take a2).reverse).reverse ++ st.drop a2 := jm_take.symm
      rw [e]
      exact jm_scallS h c1 c2 c3 c4 c5 (by rw [hlen]; exact c8) hd hW q1 q2 hC kk
    | false =>
      rw [hb0] at hs hcl
      dsimp only [cond] at hs hcl
      simp only [Bool.and_eq_true, decide_eq_true_eq] at hcl
      obtain ⟨⟨hf1, hf2⟩, hcl⟩ := hcl
      have hlo2 : 38 ≤ R.locals := Nat.le_trans hf2 hlo
      cases hb1 : Nat.beq a1 900 with
      | true =>
        rw [hb1] at hs hcl
        dsimp only [cond] at hs hcl
        split at hs
        · obtain ⟨hW, hn1, hn2, hs⟩ := hs
          intro H locs ls hP hD hS hl
          exact va_mmax hx hb (by rw [hml]; exact hl.1.symm) hown (hts _ (jm_wd_in hcl)) (hts _ (jm_wd_in jm_mx1)) (hts _ (jm_wd_in jm_mth)) (hts _ jm_mx2) (Nat.le_trans hf1 hfr) (by omega) hn1 hn2 hd (hs H locs ls hP hD hS hl)
        · exact hs.elim
      | false =>
       rw [hb1] at hs hcl
       dsimp only [cond] at hs hcl
       cases hb2 : Nat.beq a1 901 with
       | true =>
        rw [hb2] at hs hcl
        dsimp only [cond] at hs hcl
        split at hs
        · obtain ⟨hW, hn1, hn2, hs⟩ := hs
          intro H locs ls hP hD hS hl
          exact va_mmin hx hb (by rw [hml]; exact hl.1.symm) hown (hts _ (jm_wd_in hcl)) (hts _ (jm_wd_in jm_mn1)) (hts _ (jm_wd_in jm_mth)) (hts _ jm_mn2) (Nat.le_trans hf1 hfr) (by omega) hn1 hn2 hd (hs H locs ls hP hD hS hl)
        · exact hs.elim
       | false =>
        rw [hb2] at hs hcl
        dsimp only [cond] at hs hcl
        cases hb4 : Nat.beq a1 903 with
        | true =>
         rw [hb4] at hs hcl
         dsimp only [cond] at hs hcl
         split at hs
         · obtain ⟨hW, hn1, hn2, hs⟩ := hs
           intro H locs ls hP hD hS hl
           exact va_mmin_long hx hb (by rw [hml]; exact hl.1.symm) hown (hts _ (jm_wd_in hcl)) (hts _ (jm_wd_in jm_ml1)) (hts _ (jm_wd_in jm_mth)) (hts _ jm_ml2) (Nat.le_trans hf1 hfr) (by omega) hn1 hn2 hd (hs H locs ls hP hD hS hl)
         · exact hs.elim
        | false =>
         rw [hb4] at hs hcl
         dsimp only [cond] at hs hcl
         cases hb5 : Nat.beq a1 904 with
         | true =>
          rw [hb5] at hs hcl
          dsimp only [cond] at hs hcl
          split at hs
          · obtain ⟨o0, o1, h1, h2, h3, h4, h5, hW, hs⟩ := hs
            exact jm_scopy h (jm_wd_in hcl) hf1 hf2 hd o0 o1 h1 h2 h3 h4 h5 hW hs
          · exact hs.elim
         | false =>
          rw [hb5] at hs
          exact hs.elim
  case ireturn  =>
    dsimp only [jm_okE, jm_dec] at he
    simp only [Bool.and_eq_true, decide_eq_true_eq] at he
    dsimp only [jm_step] at hs
    obtain ⟨⟨hd, rfl⟩, hr⟩ := he
    split at hs
    · exact hri _ _ _ _ _ _ hd hr hs
    · exact hs.elim
  case lreturn  =>
    dsimp only [jm_okE, jm_dec] at he
    simp only [Bool.and_eq_true, decide_eq_true_eq] at he
    dsimp only [jm_step] at hs
    obtain ⟨⟨hd, rfl⟩, hr⟩ := he
    split at hs
    · exact hrl _ _ _ _ _ _ hd hr hs
    · exact hs.elim
  case areturn  =>
    dsimp only [jm_okE, jm_dec] at he
    simp only [Bool.and_eq_true, decide_eq_true_eq] at he
    dsimp only [jm_step] at hs
    obtain ⟨⟨hd, rfl⟩, hr⟩ := he
    split at hs
    · refine hra _ _ _ _ _ _ hd ?_ hs
      split at hr
      · exact Or.inl ⟨_, rfl⟩
      · exact Or.inr ⟨_, rfl⟩
      · exact absurd hr (by decide)
    · exact hs.elim
  case return_  =>
    dsimp only [jm_okE, jm_dec] at he
    simp only [Bool.and_eq_true, decide_eq_true_eq] at he
    dsimp only [jm_step] at hs
    obtain ⟨⟨hd, rfl⟩, hr⟩ := he
    split at hs
    · exact hrv _ _ _ _ _ hd hr hs
    · exact hs.elim
  all_goals exact False.elim hs
end JM
end
section
/-! A method's contract out of its pure words alone. -/
def jm_rb (ret : Option FieldType) (v : Option Value) : Prop := match ret with
  | some .boolean => (match v with | some (.int x) => x = 0 ∨ x = 1 | _ => True)
  | _ => True
abbrev jm_rt (ret : Option FieldType) (a b : Nat) (Q : Option Value → jm_M → Prop) : jm_Rt := fun v m nc ns => nc ≤ a ∧ ns ≤ b ∧ jm_rb ret v ∧ Q v m
/-- the locals with these numbers, in this order -/
def jm_sel (lv : jm_LV) : List Nat → jm_LV
  | [] => []
  | k :: r => match jm_get lv k with
    | some v => (k, v) :: jm_sel lv r
    | none => jm_sel lv r
theorem jm_sel_has {ls : Array Slot} {nL : Nat} {lv : jm_LV} (h : lv_has ls nL lv) : ∀ ks : List Nat, lv_has ls nL (jm_sel lv ks)
  | [] => ⟨h.1, h.2.1, fun q hq => by cases hq⟩
  | k :: r => by
    have ih := jm_sel_has h r
    unfold jm_sel
    split
    · rename_i v hv
      refine ⟨h.1, h.2.1, fun q hq => ?_⟩
      rcases List.mem_cons.mp hq with e | hq
      · rw [e]; exact jm_lv_at h hv
      · exact ih.2.2 q hq
    · exact ih
abbrev jm_cl0 (l : Launch) (D : va_G) (ca : Nat → ClassId) (cd : List jm_e) (ret : Option FieldType) (a b : Nat) (Q : Option Value → jm_M → Prop) (X : jm_K) : Prop :=
  (∀ pc lv st m nc ns e, jm_at cd pc = some e → jm_step jm_ft jm_sz (a, b) (jm_C l D ca) (jm_rt ret a b Q) (0, 0, fun _ => 0) e lv st m nc ns X → X pc lv st m nc ns) ∧ (∀ pc lv st m nc ns ks, X pc (jm_sel lv ks) st m nc ns → X pc lv st m nc ns)
/-- the pure words lead from the method's start to its end -/
def jm_V (l : Launch) (D : va_G) (ca : Nat → ClassId) (cd : List jm_e) (ret : Option FieldType) (a b : Nat) (Q : Option Value → jm_M → Prop) (lv : jm_LV) (m : jm_M) : Prop :=
  ∀ X : jm_K, jm_cl0 l D ca cd ret a b Q X → X 0 lv [] m 0 0
theorem jm_C_of {l : Launch} {D : va_G} {ca : Nat → ClassId} {k : Nat} {cd : List jm_e} {args : List Value} {m : jm_M} {a b : Nat} {Q : Option Value → jm_M → Prop} {ini : Bool} (hk : k < jm_mtL.length) (hok : cd.all (jm_okE (jm_mt k).1.cls (jm_mt k).2.1 (jm_mt k).2.2.1 (jm_mt k).2.2.2.2.1 (jm_mt k).2.2.2.2.2 false ini (jm_mt k).2.2.2.1) = true) (hini : ini = true → (jm_mt k).1.name = "<init>") (hlen : (lg_sl args).length ≤ (jm_mt k).2.2.1)
    (hV : jm_V l D ca cd (jm_mt k).2.2.2.1 a b Q (lv_args 0 args) m) : jm_C l D ca k args m a b Q := by
  obtain ⟨f1, f2, f3, f4, f5, f6⟩ := jm_mf_all k hk
  intro sz
  refine Met.ofW (cc := (jm_mt k).2.1) (maxL := (jm_mt k).2.2.1) (ret := (jm_mt k).2.2.2.1) f3 rfl ?_
  intro p e s mi args0 below meth c s₁ B hml hv
  obtain ⟨rfl, hsz, hP, hK, hN, hD0⟩ := hv
  have hx := B.exec
  have hb := B.bytes
  have hr := B.returns
  have hts : ∀ w ∈ jm_Tb, w.before args.toArray s = true := fun w hw => atoms_spec (ws := jm_ws (jm_mt k)) B.pre w (List.mem_cons_of_mem _ hw)
  have hown : s.vm.findClass (jm_mt k).1.cls = some mi.cls := findClass_of_methodNamed B.named
  have hlocks := B.notSynchronized
  have hnm : meth.name = (jm_mt k).1.name := (name_of_methodNamed B.named B.method).1
  subst hsz
  have hD := hD0.self (sz := s.heap.size)
  have hA : ∀ q : Nat, s.heap.size ≤ q → va_A (jm_w jm_FT ca m) s.heap.size q := fun q h => Or.inr h
  have hS : va_S (va_A (jm_w jm_FT ca m) s.heap.size) s.heap s.heap [] := va_S.rf
  have hl := lv_entry args (n := (jm_mt k).2.2.1) hlen
  rw [lg_entry_eq]
  generalize (lg_sl args ++ List.replicate ((jm_mt k).2.2.1 - (lg_sl args).length) Slot.unset).toArray = ls at hl ⊢
  have hH : jm_H p (jm_rm (jm_mt k) a b) s mi args.toArray meth c (jm_mt k).1.cls (jm_mt k).2.1 (jm_mt k).2.2.1 (jm_mt k).2.2.2.2.1 (jm_mt k).2.2.2.2.2 false ini D ca (va_A (jm_w jm_FT ca m) s.heap.size) (0, 0, fun _ => 0) :=
    ⟨hx, hb, hml, hown, hts, hN, hK, hA, Nat.le_refl _, Nat.le_refl _, fun h => by rw [hnm]; exact hini h, fun h => by cases h⟩
  refine hV (jm_W p l e (jm_rm (jm_mt k) a b) s mi args.toArray below meth c (MQ below (jm_Qc D ca m s.heap.size Q) args.toArray s a b (va_A (jm_w jm_FT ca m) s.heap.size)) (jm_mt k).2.2.1 D ca (va_A (jm_w jm_FT ca m) s.heap.size)) ⟨?_, fun pc lv st m nc ns ks h H locs ls hP hD hS hl => h H locs ls hP hD hS (jm_sel_has hl ks)⟩ s.heap [] ls hP hD hS hl
  intro pc lv st m1 nc ns en he hs
  obtain ⟨h1, h2⟩ := jm_at_mem he
  have hok1 := List.all_eq_true.mp hok en h1
  rw [← h2]
  refine jm_sound hH ?_ ?_ ?_ ?_ hok1 hs
  · intro pc lv m2 nc ns x hd hret hq H locs ls hP hD hS hl
    obtain ⟨q1, q2, q3, q4⟩ := hq
    refine W.widen q1 q2 ?_
    rcases hret with hret | hret
    · exact W.iret hx hb (by rw [hr]; exact hret) (fun t ht hW => ⟨⟨some (.int x), m2, rfl, q4, by rw [ht]; exact hP, hD⟩, hS.F ht⟩) hS.2.2 hd
    · rw [hret] at q3
      exact W.zret (ty := .boolean) hx hb (by rw [hr]; exact hret) (by rcases q3 with rfl | rfl <;> rfl) (fun t ht hW => ⟨⟨some (.int x), m2, rfl, q4, by rw [ht]; exact hP, hD⟩, hS.F ht⟩) hS.2.2 hd
  · intro pc lv m2 nc ns x hd hret hq H locs ls hP hD hS hl
    obtain ⟨q1, q2, q3, q4⟩ := hq
    refine W.widen q1 q2 ?_
    exact W.lret hx hb (by rw [hr]; exact hret) (fun t ht hW => ⟨⟨some (.long x), m2, rfl, q4, by rw [ht]; exact hP, hD⟩, hS.F ht⟩) hS.2.2 hd
  · intro pc lv m2 nc ns x hd hret hq H locs ls hP hD hS hl
    obtain ⟨q1, q2, q3, q4⟩ := hq
    refine W.widen q1 q2 ?_
    rcases hret with ⟨z, hret⟩ | ⟨z, hret⟩
    · exact W.aret (rt := .object z) hx hb (by rw [hr]; exact hret) (Or.inl ⟨z, rfl⟩) (Or.inr ⟨x, rfl⟩) (fun t ht hW => ⟨⟨some (.ref x), m2, rfl, q4, by rw [ht]; exact hP, hD⟩, hS.F ht⟩) hS.2.2 hd
    · exact W.aret (rt := .array z) hx hb (by rw [hr]; exact hret) (Or.inr ⟨z, rfl⟩) (Or.inr ⟨x, rfl⟩) (fun t ht hW => ⟨⟨some (.ref x), m2, rfl, q4, by rw [ht]; exact hP, hD⟩, hS.F ht⟩) hS.2.2 hd
  · intro pc lv m2 nc ns hd hret hq H locs ls hP hD hS hl
    obtain ⟨q1, q2, q3, q4⟩ := hq
    refine W.widen q1 q2 ?_
    exact W.vret hx hb (by rw [hr]; exact hret) (fun t ht hW => ⟨⟨none, m2, rfl, q4, by rw [ht]; exact hP, hD⟩, hS.F ht⟩) hS.2.2 hd
/-- a stretch of instructions, up to the places in 'stops', each with the locals that are kept there -/
def jm_stop : List (Nat × List Nat) → Nat → Option (List Nat)
  | [], _ => none
  | q :: r, pc => bif Nat.beq q.1 pc then some q.2 else jm_stop r pc
def jm_go (cd : List jm_e) (cap : Nat × Nat) (Ct : jm_Ct) (Rt : jm_Rt) (S : Nat × Nat × (Nat → Int32)) (stops : List (Nat × List Nat)) (X : jm_K) : Nat → jm_K
  | 0 => X
  | n + 1 => fun pc lv st m nc ns => match jm_at cd pc with
    | none => False
    | some e => jm_step jm_ft jm_sz cap Ct Rt S e lv st m nc ns (fun pc' lv' st' m' nc' ns' => match jm_stop stops pc' with | some ks => X pc' (jm_sel lv' ks) st' m' nc' ns' | none => jm_go cd cap Ct Rt S stops X n pc' lv' st' m' nc' ns')
set_option maxHeartbeats 4000000 in
theorem jm_mono {cap : Nat × Nat} {Ct : jm_Ct} {Rt : jm_Rt} {S : Nat × Nat × (Nat → Int32)} {e : jm_e} {lv : jm_LV} {st : List Value} {m : jm_M} {nc ns : Nat} {X Y : jm_K} (h : ∀ pc lv st m nc ns, X pc lv st m nc ns → Y pc lv st m nc ns) (hs : jm_step jm_ft jm_sz cap Ct Rt S e lv st m nc ns X) : jm_step jm_ft jm_sz cap Ct Rt S e lv st m nc ns Y := by
  obtain ⟨pc, i, nx, a1, a2, a3, k32, k64, ix⟩ := e
  cases i
  case ifCond cd off => cases cd <;> (dsimp only [jm_step] at hs ⊢; split at hs <;> first | exact hs.elim | exact ⟨fun q => h _ _ _ _ _ _ (hs.1 q), fun q => h _ _ _ _ _ _ (hs.2 q)⟩)
  case if_icmp cd off => cases cd <;> (dsimp only [jm_step] at hs ⊢; split at hs <;> first | exact hs.elim | exact ⟨fun q => h _ _ _ _ _ _ (hs.1 q), fun q => h _ _ _ _ _ _ (hs.2 q)⟩)
  case invokevirtual i =>
    obtain ⟨q0, q1, q2, a, b, Q, q3, q4, q5, q6⟩ := hs
    exact ⟨q0, q1, q2, a, b, Q, q3, q4, q5, fun v m' hq => h _ _ _ _ _ _ (q6 v m' hq)⟩
  case invokespecial i =>
    dsimp only [jm_step] at hs ⊢
    cases hb : Nat.beq a1 999 <;> rw [hb] at hs <;> dsimp only [cond] at hs ⊢
    · obtain ⟨q0, q1, q2, a, b, Q, q3, q4, q5, q6⟩ := hs
      exact ⟨q0, q1, q2, a, b, Q, q3, q4, q5, fun v m' hq => h _ _ _ _ _ _ (q6 v m' hq)⟩
    · split at hs
      · exact ⟨hs.1, h _ _ _ _ _ _ hs.2⟩
      · exact hs.elim
  case invokestatic i =>
    dsimp only [jm_step] at hs ⊢
    cases hb0 : Nat.blt a1 900 <;> rw [hb0] at hs <;> dsimp only [cond] at hs ⊢
    · cases hb1 : Nat.beq a1 900 <;> rw [hb1] at hs <;> dsimp only [cond] at hs ⊢
      · cases hb2 : Nat.beq a1 901 <;> rw [hb2] at hs <;> dsimp only [cond] at hs ⊢
        · cases hb3 : Nat.beq a1 903 <;> rw [hb3] at hs <;> dsimp only [cond] at hs ⊢
          · cases hb4 : Nat.beq a1 904 <;> rw [hb4] at hs <;> dsimp only [cond] at hs ⊢
            · split at hs
              · obtain ⟨o0, o1, h1, h2, h3, h4, h5, hW, hs⟩ := hs
                exact ⟨o0, o1, h1, h2, h3, h4, h5, hW, h _ _ _ _ _ _ hs⟩
              · exact hs.elim
          · split at hs
            · exact ⟨hs.1, hs.2.1, hs.2.2.1, h _ _ _ _ _ _ hs.2.2.2⟩
            · exact hs.elim
        · split at hs
          · exact ⟨hs.1, hs.2.1, hs.2.2.1, h _ _ _ _ _ _ hs.2.2.2⟩
          · exact hs.elim
      · split at hs
        · exact ⟨hs.1, hs.2.1, hs.2.2.1, h _ _ _ _ _ _ hs.2.2.2⟩
        · exact hs.elim
    · obtain ⟨q1, q2, a, b, Q, q3, q4, q5, q6⟩ := hs
      exact ⟨q1, q2, a, b, Q, q3, q4, q5, fun v m' hq => h _ _ _ _ _ _ (q6 v m' hq)⟩
  case getfield i =>
    dsimp only [jm_step] at hs ⊢
    split at hs
    · refine ⟨hs.1, ?_⟩
      have hs := hs.2
      split at hs
      · exact h _ _ _ _ _ _ hs
      · obtain ⟨z, hz, hs⟩ := hs; exact ⟨z, hz, h _ _ _ _ _ _ hs⟩
      · obtain ⟨z, hz, hs⟩ := hs; exact ⟨z, hz, h _ _ _ _ _ _ hs⟩
      · exact h _ _ _ _ _ _ hs
      · exact h _ _ _ _ _ _ hs
      · exact hs
    · exact hs.elim
  case putfield i =>
    dsimp only [jm_step] at hs ⊢
    split at hs
    · split at hs
      · exact ⟨hs.1, h _ _ _ _ _ _ hs.2⟩
      · exact hs.elim
    · split at hs
      · exact ⟨hs.1, h _ _ _ _ _ _ hs.2⟩
      · exact ⟨hs.1, h _ _ _ _ _ _ hs.2⟩
      · exact hs.elim
    · split at hs
      · exact ⟨hs.1, h _ _ _ _ _ _ hs.2⟩
      · exact ⟨hs.1, h _ _ _ _ _ _ hs.2⟩
      · exact hs.elim
    · split at hs
      · exact ⟨hs.1, h _ _ _ _ _ _ hs.2⟩
      · exact hs.elim
    · split at hs
      · exact ⟨hs.1, hs.2.1, h _ _ _ _ _ _ hs.2.2⟩
      · exact hs.elim
    · exact hs.elim
  case iaload =>
    dsimp only [jm_step] at hs ⊢
    split at hs
    · cases hb : Nat.beq a1 1 <;> rw [hb] at hs <;> exact ⟨hs.1, hs.2.1, h _ _ _ _ _ _ hs.2.2⟩
    · exact hs.elim
  case arraylength =>
    dsimp only [jm_step] at hs ⊢
    split at hs
    · cases hb : Nat.beq a1 1 <;> rw [hb] at hs
      · exact ⟨hs.1, hs.2.1, hs.2.2.1, h _ _ _ _ _ _ hs.2.2.2⟩
      · exact ⟨hs.1, h _ _ _ _ _ _ hs.2⟩
    · exact hs.elim
  case new i => exact ⟨hs.1, hs.2.1, fun q hq => h _ _ _ _ _ _ (hs.2.2 q hq)⟩
  all_goals first
    | exact h _ _ _ _ _ _ hs
    | exact hs
    | (dsimp only [jm_step] at hs ⊢
       split at hs <;> first
        | exact hs.elim
        | exact h _ _ _ _ _ _ hs
        | exact ⟨hs.1, h _ _ _ _ _ _ hs.2⟩
        | exact ⟨hs.1, hs.2.1, h _ _ _ _ _ _ hs.2.2⟩
        | exact ⟨hs.1, hs.2.1, hs.2.2.1, h _ _ _ _ _ _ hs.2.2.2⟩
        | (obtain ⟨z, hz, hs⟩ := hs; exact ⟨z, hz, h _ _ _ _ _ _ hs⟩)
        | (obtain ⟨o, i, z, hz, hs⟩ := hs; exact ⟨o, i, z, hz, h _ _ _ _ _ _ hs⟩)
        | (obtain ⟨q1, q2, q3, q4, q5⟩ := hs; exact ⟨q1, q2, q3, q4, fun q hq => h _ _ _ _ _ _ (q5 q hq)⟩)
        | exact hs)
theorem jm_run {cd : List jm_e} {cap : Nat × Nat} {Ct : jm_Ct} {Rt : jm_Rt} {S : Nat × Nat × (Nat → Int32)} {X : jm_K} (hX : (∀ pc lv st m nc ns e, jm_at cd pc = some e → jm_step jm_ft jm_sz cap Ct Rt S e lv st m nc ns X → X pc lv st m nc ns) ∧ (∀ pc lv st m nc ns ks, X pc (jm_sel lv ks) st m nc ns → X pc lv st m nc ns)) (stops : List (Nat × List Nat)) : ∀ (n : Nat) {pc : Nat} {lv : jm_LV} {st : List Value} {m : jm_M} {nc ns : Nat}, jm_go cd cap Ct Rt S stops X n pc lv st m nc ns → X pc lv st m nc ns
  | 0, _, _, _, _, _, _, h => h
  | n + 1, pc, lv, st, m, nc, ns, h => by
    unfold jm_go at h
    split at h
    · exact h.elim
    · rename_i e he
      refine hX.1 _ _ _ _ _ _ e he (jm_mono (fun pc' lv' st' m' nc' ns' hq => ?_) h)
      split at hq
      · exact hX.2 _ _ _ _ _ _ _ hq
      · exact jm_run hX stops n hq
end
section
/-! ===== lN n to 2^64: shifts, and, or, masks, one bit ===== -/
theorem wb_tb (n : Nat) : (lN n).toBitVec = BitVec.ofNat 64 n := rfl
theorem wb_inj {a b : Int64} (h : a.toBitVec = b.toBitVec) : a = b := Int64.toBitVec_inj.mp h
theorem wb_tn {n : Nat} (h : n < 2 ^ 64) : (lN n).toBitVec.toNat = n := by rw [wb_tb, BitVec.toNat_ofNat, Nat.mod_eq_of_lt h]
theorem wb_of (x : Int64) : ∃ n, n < 2 ^ 64 ∧ x = lN n := ⟨x.toBitVec.toNat, x.toBitVec.isLt, wb_inj (by rw [wb_tb]; simp)⟩
theorem wb_of32 (x : Int32) : ∃ n, n < 2 ^ 32 ∧ x = nI n := ⟨x.toBitVec.toNat, x.toBitVec.isLt, Int32.toBitVec_inj.mp (by show _ = BitVec.ofNat 32 _; simp)⟩
theorem wb_c : ∀ k, k < 64 → ((nI k).toInt64 &&& 63) = lN k := by decide +kernel
theorem wb_cu : ∀ k, k < 64 → ((nI k).toInt64.toUInt64 &&& Int64.toUInt64 63) = UInt64.ofNat k := by decide +kernel
theorem wb_sm : ∀ k, k < 64 → (BitVec.ofNat 64 k).smod 64 = BitVec.ofNat 64 k := by decide +kernel
theorem wb_pw {a b : Nat} (h : a ≤ b) : 2 ^ b = 2 ^ a * 2 ^ (b - a) := by rw [← Nat.pow_add]; congr 1; omega
theorem wb_lt2 {a b : Nat} (h : a < b) : 2 ^ a < 2 ^ b := Nat.pow_lt_pow_right (by decide) h
theorem wb_mod (n : Nat) : lN n = lN (n % 2 ^ 64) := wb_inj (by rw [wb_tb, wb_tb]; apply BitVec.eq_of_toNat_eq; rw [BitVec.toNat_ofNat, BitVec.toNat_ofNat, Nat.mod_mod])
theorem wb_shr {n k : Nat} (hn : n < 2 ^ 64) (hk : k < 64) : ((lN n).toUInt64 >>> ((nI k).toInt64.toUInt64 &&& Int64.toUInt64 63)).toInt64 = lN (n / 2 ^ k) := by
  rw [wb_cu k hk]
  apply wb_inj
  apply BitVec.eq_of_toNat_eq
  show ((lN n).toUInt64 >>> UInt64.ofNat k).toNat = (BitVec.ofNat 64 _).toNat
  have h1 : (UInt64.ofNat k).toNat = k := by
    show (BitVec.ofNat 64 k).toNat = k
    rw [BitVec.toNat_ofNat, Nat.mod_eq_of_lt (by omega)]
  have h2 : (lN n).toUInt64.toNat = n := wb_tn hn
  rw [UInt64.toNat_shiftRight, h1, h2, Nat.mod_eq_of_lt hk, Nat.shiftRight_eq_div_pow, BitVec.toNat_ofNat, Nat.mod_eq_of_lt (Nat.lt_of_le_of_lt (Nat.div_le_self _ _) hn)]
theorem wb_shl (n : Nat) {k : Nat} (hk : k < 64) : lN n <<< ((nI k).toInt64 &&& 63) = lN (n * 2 ^ k) := by
  rw [wb_c k hk]
  apply wb_inj
  rw [Int64.toBitVec_shiftLeft, wb_tb, wb_tb, wb_tb, wb_sm k hk]
  apply BitVec.eq_of_toNat_eq
  rw [BitVec.shiftLeft_eq', BitVec.toNat_shiftLeft, BitVec.toNat_ofNat, BitVec.toNat_ofNat, BitVec.toNat_ofNat, Nat.mod_eq_of_lt (show k < 2 ^ 64 by omega), Nat.shiftLeft_eq, Nat.mul_mod, Nat.mod_mod, ← Nat.mul_mod]
theorem wb_and {a b : Nat} (ha : a < 2 ^ 64) (hb : b < 2 ^ 64) : lN a &&& lN b = lN (a &&& b) := by
  apply wb_inj
  rw [Int64.toBitVec_and, wb_tb, wb_tb, wb_tb]
  apply BitVec.eq_of_toNat_eq
  rw [BitVec.toNat_and, BitVec.toNat_ofNat, BitVec.toNat_ofNat, BitVec.toNat_ofNat, Nat.mod_eq_of_lt ha, Nat.mod_eq_of_lt hb, Nat.mod_eq_of_lt (Nat.and_lt_two_pow _ hb)]
theorem wb_or {a b : Nat} (ha : a < 2 ^ 64) (hb : b < 2 ^ 64) : lN a ||| lN b = lN (a ||| b) := by
  apply wb_inj
  rw [Int64.toBitVec_or, wb_tb, wb_tb, wb_tb]
  apply BitVec.eq_of_toNat_eq
  rw [BitVec.toNat_or, BitVec.toNat_ofNat, BitVec.toNat_ofNat, BitVec.toNat_ofNat, Nat.mod_eq_of_lt ha, Nat.mod_eq_of_lt hb, Nat.mod_eq_of_lt (Nat.or_lt_two_pow ha hb)]
theorem wb_mask {n k : Nat} (hn : n < 2 ^ 64) (hk : k < 64) : lN n &&& lN (2 ^ k - 1) = lN (n % 2 ^ k) := by
  rw [wb_and hn (by have := wb_lt2 hk; omega), Nat.and_two_pow_sub_one_eq_mod]
theorem wb_a1 {n : Nat} (hn : n < 2 ^ 64) : lN n &&& 1 = lN (n % 2) := wb_mask (k := 1) hn (by decide)
theorem wb_bit {n k : Nat} (hn : n < 2 ^ 64) (hk : k < 64) : ((lN n).toUInt64 >>> ((nI k).toInt64.toUInt64 &&& Int64.toUInt64 63)).toInt64 &&& 1 = lN (n / 2 ^ k % 2) := by
  rw [wb_shr hn hk, wb_a1 (Nat.lt_of_le_of_lt (Nat.div_le_self _ _) hn)]
theorem wb_xor {q k : Nat} (hk : k < 63) (h : 2 ^ k ≤ q) (h2 : q < 2 ^ (k + 1)) : lN q ^^^ lN (2 ^ k) = lN (q - 2 ^ k) := by
  obtain ⟨r, rfl⟩ : ∃ r, q = 2 ^ k + r := ⟨q - 2 ^ k, by omega⟩
  have hr : r < 2 ^ k := by rw [Nat.pow_succ] at h2; omega
  have hx : (2 ^ k + r) ^^^ 2 ^ k = r := by
    apply Nat.eq_of_testBit_eq
    intro i
    rw [Nat.testBit_xor, Nat.testBit_two_pow]
    rcases Nat.lt_trichotomy i k with h | h | h
    · rw [Nat.testBit_two_pow_add_gt h]
      simp [show ¬ k = i by omega]
    · subst h
      rw [Nat.testBit_two_pow_add_eq]
      simp
    · have a1 : 2 ^ (k + 1) ≤ 2 ^ i := Nat.pow_le_pow_right (by decide) h
      rw [Nat.testBit_lt_two_pow (show 2 ^ k + r < 2 ^ i by omega), Nat.testBit_lt_two_pow (show r < 2 ^ i by omega)]
      simp [show ¬ k = i by omega]
  have b1 := wb_lt2 (show k + 1 < 64 by omega)
  have b2 := wb_lt2 (show k < 64 by omega)
  apply wb_inj
  rw [Int64.toBitVec_xor, wb_tb, wb_tb, wb_tb]
  apply BitVec.eq_of_toNat_eq
  rw [BitVec.toNat_xor, BitVec.toNat_ofNat, BitVec.toNat_ofNat, BitVec.toNat_ofNat, Nat.mod_eq_of_lt (by omega : 2 ^ k + r < 2 ^ 64), Nat.mod_eq_of_lt b2, hx, Nat.add_sub_cancel_left, Nat.mod_eq_of_lt (by omega)]
/-! ===== lN: masks, 'or' of parts that don't overlap is a sum ===== -/
theorem u_tn {n : Nat} (h : n < 2 ^ 64) : (UInt64.ofNat n).toNat = n := Nat.mod_eq_of_lt h
theorem g_and {a b c : Nat} (ha : a < 2 ^ 64) (hb : b < 2 ^ 64) (hc : a &&& b = c) : lN a &&& lN b = lN c := by
  subst hc
  have h : UInt64.ofNat a &&& UInt64.ofNat b = UInt64.ofNat (a &&& b) := UInt64.toNat_inj.mp (by rw [UInt64.toNat_and, u_tn ha, u_tn hb, u_tn (Nat.and_lt_two_pow a hb)])
  have h2 := congrArg UInt64.toInt64 h
  exact h2
theorem g_and1 {a : Nat} (ha : a < 2 ^ 64) : lN a &&& 1 = lN (a % 2) := g_and (b := 1) ha (by decide) (Nat.and_two_pow_sub_one_eq_mod a 1)
theorem g_mask {a s p : Nat} (hp : 2 ^ s = p) (hs : s < 64) (ha : a < 2 ^ 64) : lN a &&& lN (p - 1) = lN (a % p) := by
  subst hp
  have := Nat.pow_lt_pow_right (show 1 < 2 by decide) hs
  exact g_and ha (by omega) (Nat.and_two_pow_sub_one_eq_mod a s)
theorem g_or {k p a b : Nat} (hp : 2 ^ k = p) (ha : a < p) (h : b * p + a < 2 ^ 64) : lN (b * p) ||| lN a = lN (b * p + a) := by
  subst hp
  have h1 : b * 2 ^ k ||| a = b * 2 ^ k + a := by rw [← Nat.shiftLeft_eq, Nat.shiftLeft_add_eq_or_of_lt ha]
  have h3 : UInt64.ofNat (b * 2 ^ k) ||| UInt64.ofNat a = UInt64.ofNat (b * 2 ^ k + a) := UInt64.toNat_inj.mp (by rw [UInt64.toNat_or, u_tn (by omega), u_tn (by omega), u_tn h, h1])
  have h2 := congrArg UInt64.toInt64 h3
  exact h2
theorem g_or' {k p a b : Nat} (hp : 2 ^ k = p) (ha : a < p) (h : a + b * p < 2 ^ 64) : lN a ||| lN (b * p) = lN (a + b * p) := by
  rw [Int64.or_comm, g_or hp ha (by omega), Nat.add_comm]
theorem g_ushr {a k p : Nat} {y : UInt64} (hy : y = UInt64.ofNat k) (hk : k < 64) (hp : 2 ^ k = p) (ha : a < 2 ^ 64) : ((lN a).toUInt64 >>> y).toInt64 = lN (a / p) := by
  subst hy hp
  have h : UInt64.ofNat a >>> UInt64.ofNat k = UInt64.ofNat (a / 2 ^ k) := UInt64.toNat_inj.mp (by rw [UInt64.toNat_shiftRight, u_tn ha, u_tn (by omega), u_tn (Nat.lt_of_le_of_lt (Nat.div_le_self _ _) ha), Nat.mod_eq_of_lt hk, Nat.shiftRight_eq_div_pow])
  have h2 := congrArg UInt64.toInt64 h
  exact h2
theorem g_shl {a k p : Nat} {y : Int64} (hy : y.toBitVec.smod 64 = BitVec.ofNat 64 k) (hk : k < 64) (hp : 2 ^ k = p) (ha : a < 2 ^ 64) : lN a <<< y = lN (a * p) := by
  subst hp
  apply Int64.toBitVec_inj.mp
  rw [Int64.toBitVec_shiftLeft, hy]
  apply BitVec.eq_of_toNat_eq
  have hb : (lN a).toBitVec.toNat = a := Nat.mod_eq_of_lt ha
  have hk' : (BitVec.ofNat 64 k).toNat = k := Nat.mod_eq_of_lt (by omega)
  have h : ((lN a).toBitVec <<< BitVec.ofNat 64 k).toNat = (a * 2 ^ k) % 2 ^ 64 := by simp only [BitVec.shiftLeft_eq', BitVec.toNat_shiftLeft, hb, hk', Nat.shiftLeft_eq]
  exact h
end
section
/-! Whole numbers by limbs of 30 bits. -/
abbrev wB : Nat := 1073741824
def wv (h : Nat → Nat) : Nat → Nat
  | 0 => 0
  | n + 1 => wv h n + h n * wB ^ n
def wl (X i : Nat) : Nat := X / wB ^ i % wB
theorem wB_pos (n : Nat) : 0 < wB ^ n := Nat.pow_pos (by decide)
theorem wl_lt (X i : Nat) : wl X i < wB := Nat.mod_lt _ (by decide)
theorem wv_congr {h g : Nat → Nat} : ∀ {n : Nat}, (∀ i, i < n → h i = g i) → wv h n = wv g n
  | 0, _ => rfl
  | n + 1, q => by
    show wv h n + h n * wB ^ n = wv g n + g n * wB ^ n
    rw [wv_congr (fun i hi => q i (by omega)), q n (by omega)]
theorem wv_lt {h : Nat → Nat} : ∀ {n : Nat}, (∀ i, i < n → h i < wB) → wv h n < wB ^ n
  | 0, _ => Nat.one_pos
  | n + 1, q => by
    have h1 := wv_lt (h := h) (n := n) (fun i hi => q i (by omega))
    have h2 : (h n + 1) * wB ^ n ≤ wB * wB ^ n := Nat.mul_le_mul_right _ (q n (by omega))
    rw [Nat.add_mul, Nat.one_mul] at h2
    show wv h n + h n * wB ^ n < wB ^ n * wB
    rw [Nat.mul_comm (wB ^ n) wB]
    omega
theorem wv_wl (X : Nat) : ∀ n : Nat, wv (wl X) n = X % wB ^ n
  | 0 => by
    show 0 = X % 1
    omega
  | n + 1 => by
    show wv (wl X) n + wl X n * wB ^ n = _
    rw [wv_wl X n, Nat.mod_pow_succ, Nat.mul_comm]
    rfl
theorem wv_wl' {X n : Nat} (h : X < wB ^ n) : wv (wl X) n = X := by rw [wv_wl, Nat.mod_eq_of_lt h]
theorem wl_wv {h : Nat → Nat} : ∀ {n : Nat}, (∀ i, i < n → h i < wB) → ∀ i, i < n → wl (wv h n) i = h i
  | 0, _, i, hi => absurd hi (by omega)
  | n + 1, q, i, hi => by
    have h1 := wv_lt (h := h) (n := n) (fun j hj => q j (by omega))
    show (wv h n + h n * wB ^ n) / wB ^ i % wB = h i
    by_cases hin : i = n
    · subst hin
      rw [Nat.add_mul_div_right _ _ (wB_pos i), Nat.div_eq_of_lt h1, Nat.zero_add, Nat.mod_eq_of_lt (q i (by omega))]
    · have e : h n * wB ^ n = (h n * wB ^ (n - i - 1) * wB) * wB ^ i := by
        rw [Nat.mul_assoc, Nat.mul_assoc, ← Nat.pow_succ', ← Nat.pow_add]
        congr 2
        omega
      rw [e, Nat.add_mul_div_right _ _ (wB_pos i), Nat.add_mul_mod_self_right]
      exact wl_wv (h := h) (n := n) (fun j hj => q j (by omega)) i (by omega)
theorem wl_zero {X i n : Nat} (h : X < wB ^ n) (hi : n ≤ i) : wl X i = 0 := by
  have : X < wB ^ i := Nat.lt_of_lt_of_le h (Nat.pow_le_pow_right (by decide) hi)
  unfold wl
  rw [Nat.div_eq_of_lt this]
  rfl
theorem wl_top {X n : Nat} (h : X < wB ^ (n + 1)) : wl X n = X / wB ^ n := by
  unfold wl
  refine Nat.mod_eq_of_lt ?_
  refine Nat.div_lt_of_lt_mul ?_
  rw [← Nat.pow_succ]
  exact h
/-- how many limbs are used -/
def wuA (X : Nat) : Nat → Nat
  | 0 => 0
  | n + 1 => if wB ^ n ≤ X then n + 1 else wuA X n
def wu (X : Nat) : Nat := wuA X 13
theorem wuA_le (X : Nat) : ∀ n, wuA X n ≤ n
  | 0 => Nat.le_refl 0
  | n + 1 => by
    unfold wuA
    by_cases h : wB ^ n ≤ X
    · rw [if_pos h]; exact Nat.le_refl _
    · rw [if_neg h]; exact Nat.le_succ_of_le (wuA_le X n)
theorem wuA_spec (X : Nat) : ∀ n, X < wB ^ n → X < wB ^ (wuA X n) ∧ ∀ v, v < wuA X n → wB ^ v ≤ X
  | 0, h => ⟨h, fun v hv => absurd hv (by unfold wuA; omega)⟩
  | n + 1, h => by
    unfold wuA
    by_cases q : wB ^ n ≤ X
    · rw [if_pos q]
      exact ⟨h, fun v hv => Nat.le_trans (Nat.pow_le_pow_right (by decide) (by omega)) q⟩
    · rw [if_neg q]
      exact wuA_spec X n (by omega)
theorem wu_le (X : Nat) : wu X ≤ 13 := wuA_le X 13
theorem wu_lt {X : Nat} (h : X < wB ^ 13) : X < wB ^ (wu X) := (wuA_spec X 13 h).1
theorem wu_ge {X : Nat} (h : X < wB ^ 13) {v : Nat} (hv : v < wu X) : wB ^ v ≤ X := (wuA_spec X 13 h).2 v hv
theorem wuA_eq {X : Nat} : ∀ (n k : Nat), k ≤ n → X < wB ^ k → wuA X n = wuA X k
  | 0, k, hk, _ => by rw [show k = 0 by omega]
  | n + 1, k, hk, h => by
    by_cases e : k = n + 1
    · rw [e]
    · have h2 : wuA X (n + 1) = wuA X n := by
        show (if wB ^ n ≤ X then n + 1 else wuA X n) = wuA X n
        rw [if_neg]
        have : wB ^ k ≤ wB ^ n := Nat.pow_le_pow_right (by decide) (by omega)
        omega
      rw [h2, wuA_eq n k (by omega) h]
theorem wu_zero {X : Nat} (h : X < wB ^ 13) : wu X = 0 ↔ X = 0 := by
  constructor
  · intro e
    have := wu_lt h
    rw [e] at this
    simp at this
    exact this
  · intro e
    subst e
    decide
end
section
/-! Rows of the pure memory. -/
theorem uI_uA {m : jm_M} {a k : Nat} {g : Nat → Int32} {x : Int32} : uI (uA m a g) a k x = uA m a (va_up g k x) := by
  simp only [uI, uA, va_up_self, bx_uu]
theorem uA_uA {m : jm_M} {a : Nat} {g g' : Nat → Int32} : uA (uA m a g) a g' = uA m a g' := by
  simp only [uA, bx_uu]
theorem va_up_id {α : Type} (f : Nat → α) (a : Nat) : va_up f a (f a) = f := by
  funext b
  by_cases hb : b = a
  · subst hb; rw [va_up_self]
  · rw [va_up_ne _ _ hb]
theorem uA_id {m : jm_M} {a : Nat} : uA m a (m.2.2.1 a) = m := by
  unfold uA
  rw [va_up_id]
theorem uA_id' {m : jm_M} {a : Nat} {g : Nat → Int32} (h : m.2.2.1 a = g) : uA m a g = m := by
  rw [← h, uA_id]
theorem va_up_comm {α : Type} (f : Nat → α) {a b : Nat} (x y : α) (h : a ≠ b) : va_up (va_up f a x) b y = va_up (va_up f b y) a x := by
  funext c
  by_cases h1 : c = a
  · subst h1; rw [va_up_ne _ _ h, va_up_self, va_up_self]
  · by_cases h2 : c = b
    · subst h2; rw [va_up_self, va_up_ne _ _ h1, va_up_self]
    · rw [va_up_ne _ _ h2, va_up_ne _ _ h1, va_up_ne _ _ h1, va_up_ne _ _ h2]
theorem nI_c {i : Nat} (h : i < 2 ^ 31) : (nI i).toNatClampNeg = i := nI_clamp h
theorem vin_of {n k N : Nat} (h : k = N) (hn : n < N) (hN : N < 2 ^ 31) : vp_in (nI n) k := by
  rw [h]; exact vp_in_nI hn hN
theorem vin13 {n k : Nat} (h : k = 13) (hn : n < 13) : vp_in (nI n) k := vin_of h hn (by decide)
end
section
/-! Carries, masks and shifts of limbs. -/
theorem wl_mod (X i : Nat) : wl (X % wB ^ (i + 1)) i = wl X i := by
  unfold wl
  rw [Nat.pow_succ, Nat.mod_mul_right_div_self, Nat.mod_mod]
theorem wl_congr {X Y i : Nat} (h : X % wB ^ (i + 1) = Y % wB ^ (i + 1)) : wl X i = wl Y i := by
  rw [← wl_mod X, ← wl_mod Y, h]
theorem wl_div (X i : Nat) : X % wB ^ (i + 1) = X % wB ^ i + wl X i * wB ^ i := by
  rw [Nat.mod_pow_succ, Nat.mul_comm]; rfl
theorem cy_sum {P t : Nat → Nat} {i : Nat} (h : P (i + 1) = P i + t i * wB ^ i) : t i + P i / wB ^ i = P (i + 1) / wB ^ i := by
  rw [h, Nat.add_mul_div_right _ _ (wB_pos i)]; omega
theorem cy_next {P t : Nat → Nat} {i : Nat} (h : P (i + 1) = P i + t i * wB ^ i) : (t i + P i / wB ^ i) / wB = P (i + 1) / wB ^ (i + 1) := by
  rw [cy_sum h, Nat.div_div_eq_div_mul, Nat.pow_succ]
theorem cy_dig {P t : Nat → Nat} {i : Nat} (h : P (i + 1) = P i + t i * wB ^ i) : (t i + P i / wB ^ i) % wB = wl (P (i + 1)) i := by
  rw [cy_sum h]; rfl
theorem lm_mask {n : Nat} (h : n < 2 ^ 64) : (lN n &&& 1073741823).toInt32 = nI (n % wB) := by
  have e : (1073741823 : Int64) = lN (2 ^ 30 - 1) := by decide
  rw [e, wb_mask h (by decide), lN_i]
theorem lm_shr {n : Nat} (h : n < 2 ^ 64) : ((lN n).toUInt64 >>> ((30 : Int32).toInt64.toUInt64 &&& Int64.toUInt64 63)).toInt64 = lN (n / wB) := by
  have e : (30 : Int32) = nI 30 := rfl
  rw [e, wb_shr h (by decide)]
theorem lm_l {n : Nat} (h : n < wB) : (nI n).toInt64 = lN n := nI_l (Nat.lt_trans h (by decide))
theorem nI_max {a b : Nat} (ha : a < 2 ^ 31) (hb : b < 2 ^ 31) : (if nI a < nI b then nI b else nI a) = nI (max a b) := by
  by_cases h : a < b
  · rw [if_pos (nI_lt h hb), Nat.max_eq_right (by omega)]
  · rw [if_neg (nI_nlt (by omega) ha), Nat.max_eq_left (by omega)]
theorem nI_min {a b : Nat} (ha : a < 2 ^ 31) (hb : b < 2 ^ 31) : (if nI b < nI a then nI b else nI a) = nI (min a b) := by
  by_cases h : b < a
  · rw [if_pos (nI_lt h ha), Nat.min_eq_right (by omega)]
  · rw [if_neg (nI_nlt (by omega) hb), Nat.min_eq_left (by omega)]
/-- the first i limbs of Z, the others of X -/
abbrev wm (Z X i : Nat) : Nat → Int32 := fun j => if j < i then nI (wl Z j) else nI (wl X j)
theorem wm_0 (Z X : Nat) : wm Z X 0 = fun j => nI (wl X j) := by
  funext j
  rw [wm, if_neg (by omega)]
theorem wm_s (Z X i : Nat) : va_up (wm Z X i) i (nI (wl Z i)) = wm Z X (i + 1) := by
  funext j
  by_cases h : j = i
  · subst h; rw [va_up_self, wm, if_pos (by omega)]
  · rw [va_up_ne _ _ h, wm, wm]
    by_cases h2 : j < i
    · rw [if_pos h2, if_pos (by omega)]
    · rw [if_neg h2, if_neg (by omega)]
theorem wm_at (Z X i : Nat) : wm Z X i i = nI (wl X i) := by rw [wm, if_neg (by omega)]
theorem wm_end {Z X n : Nat} (hZ : Z < wB ^ n) (hX : X < wB ^ n) : wm Z X n = fun j => nI (wl Z j) := by
  funext j
  by_cases h : j < n
  · rw [wm, if_pos h]
  · rw [wm, if_neg h, wl_zero hX (by omega), wl_zero hZ (by omega)]
end
section
/-! Borrows: numbers below 0 in ints and longs. -/
theorem sz_sub {a b : Nat} (ha : a < 2 ^ 31) (hb : b < 2 ^ 31) : (nI a - nI b).toInt = (a : Int) - b := by
  rw [Int32.toInt_sub, nI_toInt ha, nI_toInt hb]
  exact Int.bmod_eq_of_le (by omega) (by omega)
theorem sz_sub3 (a b c : Nat) : nI a - nI b - nI c = nI a - nI (b + c) := by
  rw [← nI_add]
  apply Int32.toBitVec_inj.mp
  simp only [Int32.toBitVec_sub, Int32.toBitVec_add, BitVec.sub_sub]
theorem sz_tn32 {x : Int32} {n k : Nat} (h : x.toInt = (n : Int) - k * 1073741824) : x.toBitVec.toNat % wB = n % wB := by
  have h1 : x.toInt = x.toBitVec.toInt := rfl
  rw [h1, BitVec.toInt_eq_toNat_cond] at h
  have h2 := x.toBitVec.isLt
  generalize x.toBitVec.toNat = z at *
  show z % 1073741824 = n % 1073741824
  split at h <;> omega
theorem sz_mask32 (x : Int32) : (x.toInt64 &&& 1073741823).toInt32 = nI (x.toBitVec.toNat % wB) := by
  have e : (x.toInt64 &&& 1073741823).toInt32 = x &&& 1073741823 := by
    apply Int32.toBitVec_inj.mp
    simp
  rw [e, pk_and x 30 (by decide)]
theorem lz_sub {a b : Nat} (ha : a < 2 ^ 62) (hb : b < 2 ^ 62) : (lN a - lN b).toInt = (a : Int) - b := by
  rw [Int64.toInt_sub, pk_lT (by omega), pk_lT (by omega)]
  exact Int.bmod_eq_of_le (by omega) (by omega)
theorem lz_sub3 (a b c : Nat) : lN a - lN b - lN c = lN a - lN (b + c) := by
  rw [← lN_add]
  apply Int64.toBitVec_inj.mp
  simp only [Int64.toBitVec_sub, Int64.toBitVec_add, BitVec.sub_sub]
theorem lz_mask {x : Int64} {n k : Nat} (hn : n < wB) (h : x.toInt = (n : Int) - k * 1073741824) : (x &&& 1073741823).toInt32 = nI n := by
  have h1 : x.toInt = x.toBitVec.toInt := rfl
  have h3 : x = lN x.toBitVec.toNat := by
    apply wb_inj
    rw [wb_tb]; simp
  rw [h1, BitVec.toInt_eq_toNat_cond] at h
  have h2 := x.toBitVec.isLt
  rw [h3, lm_mask h2]
  generalize x.toBitVec.toNat = z at *
  have hn : n < 1073741824 := hn
  have : z % 1073741824 = n := by
    split at h <;> omega
  rw [show z % wB = n from this]
theorem lz_shr {x : Int64} {n k : Nat} (hn : n < wB) (hk : k < 2 ^ 62) (h : x.toInt = (n : Int) - k * 1073741824) : -(x >>> ((30 : Int32).toInt64 &&& 63)) = lN k := by
  have hn : n < 1073741824 := hn
  have e : (x >>> ((30 : Int32).toInt64 &&& 63)).toInt = -(k : Int) := by
    have e0 : (x >>> ((30 : Int32).toInt64 &&& 63)).toInt = x.toInt >>> 30 := by
      have hD : (((30 : Int32).toInt64 &&& 63).toBitVec.smod 64).toNat = 30 := by decide
      rw [← hD]
      exact BitVec.toInt_sshiftRight ..
    rw [e0, h, Int.shiftRight_eq_div_pow]
    show ((n : Int) - k * 1073741824) / 1073741824 = -k
    omega
  apply Int64.toInt_inj.mp
  rw [Int64.toInt_neg, e, pk_lT (by omega)]
  have e2 : - -(k : Int) = k := by omega
  rw [e2]
  exact Int.bmod_eq_of_le (by omega) (by omega)
/-- the difference modulo M -/
theorem sub_modM {X Y M : Nat} (hM : 0 < M) (h : Y ≤ X) : (X - Y) % M + Y % M = X % M + (if X % M < Y % M then M else 0) := by
  have h1 := Nat.div_add_mod X M
  have h2 := Nat.div_add_mod Y M
  have h3 := Nat.mod_lt X hM
  have h4 := Nat.mod_lt Y hM
  generalize X % M = x at *
  generalize Y % M = y at *
  generalize X / M = q at *
  generalize Y / M = r at *
  by_cases hxy : x < y
  · rw [if_pos hxy]
    have hqr : r < q := by
      rcases Nat.lt_or_ge r q with g | g
      · exact g
      · have := Nat.mul_le_mul_left M g
        omega
    have e : X - Y = (M + x - y) + M * (q - r - 1) := by
      have e1 : M * q = M * (q - r - 1) + M * r + M := by
        rw [← Nat.mul_add, ← Nat.mul_succ]
        congr 1
        omega
      omega
    rw [e, Nat.add_mul_mod_self_left, Nat.mod_eq_of_lt (by omega)]
    omega
  · rw [if_neg hxy]
    have hqr : r ≤ q := by
      rcases Nat.lt_or_ge q r with g | g
      · have := Nat.mul_le_mul_left M (show q + 1 ≤ r from g)
        rw [Nat.mul_add, Nat.mul_one] at this
        omega
      · exact g
    have e : X - Y = (x - y) + M * (q - r) := by
      have e1 : M * q = M * (q - r) + M * r := by
        rw [← Nat.mul_add]
        congr 1
        omega
      omega
    rw [e, Nat.add_mul_mod_self_left, Nat.mod_eq_of_lt (by omega)]
    omega
/-- what is owed by the first i limbs -/
def wo (X Y i : Nat) : Nat := if X % wB ^ i < Y % wB ^ i then 1 else 0
theorem wo_le (X Y i : Nat) : wo X Y i ≤ 1 := by unfold wo; split <;> omega
/-- limb i of X - Y, and what is owed then -/
theorem wo_step {X Y : Nat} (h : Y ≤ X) (i : Nat) : wl X i + wo X Y (i + 1) * wB = wl (X - Y) i + (wl Y i + wo X Y i) := by
  have a1 := sub_modM (wB_pos i) h
  have a2 := sub_modM (wB_pos (i + 1)) h
  rw [wl_div (X - Y) i, wl_div X i, wl_div Y i] at a2
  have b1 : (if X % wB ^ i < Y % wB ^ i then wB ^ i else 0) = wo X Y i * wB ^ i := by
    unfold wo; split <;> simp
  have b2 : (if X % wB ^ i + wl X i * wB ^ i < Y % wB ^ i + wl Y i * wB ^ i then wB ^ (i + 1) else 0) = wo X Y (i + 1) * wB * wB ^ i := by
    unfold wo
    rw [wl_div X i, wl_div Y i]
    split
    · rw [Nat.one_mul, Nat.pow_succ, Nat.mul_comm]
    · simp
  rw [b1] at a1
  rw [b2] at a2
  have hpos := wB_pos i
  have key : (wl X i + wo X Y (i + 1) * wB) * wB ^ i = (wl (X - Y) i + (wl Y i + wo X Y i)) * wB ^ i := by
    rw [Nat.add_mul, Nat.add_mul, Nat.add_mul]
    omega
  exact Nat.eq_of_mul_eq_mul_right hpos key
theorem wo_next {X Y : Nat} (h : Y ≤ X) (i : Nat) : wo X Y (i + 1) = if wl X i < wl Y i + wo X Y i then 1 else 0 := by
  have h1 := wo_step h i
  have h2 := wo_le X Y (i + 1)
  have h3 : wl (X - Y) i < 1073741824 := wl_lt _ i
  have h4 : wl X i < 1073741824 := wl_lt _ i
  have h5 : wo X Y (i + 1) * wB = wo X Y (i + 1) * 1073741824 := rfl
  rw [h5] at h1
  split <;> omega
end
section
theorem c_Ar_fill {l : Launch} {D : va_G} {ca : Nat → ClassId} {m : jm_M} {a : Nat} {x : Int32} (ok : jm_ok m a 50) (hn : (m.2.1 a).2 < 2 ^ 31) : jm_C l D ca n_Ar_fill [.ref a, .int x] m 0 0 (fun v m' => v = none ∧ m' = uA m a (fun i => if i < (m.2.1 a).2 then x else m.2.2.1 a i)) := by
  refine jm_C_of (cd := cd_Ar_fill) (ini := false) (by decide +kernel) ok_Ar_fill (fun h => by cases h) (Nat.le_of_ble_eq_true rfl) ?_
  intro X hX
  generalize hN : (m.2.1 a).2 = n at hn ⊢
  have loop : ∀ (d i : Nat) (g : Nat → Int32), i + d = n → g = (fun j => if j < i then x else m.2.2.1 a j) → X 5 [(0, .ref a), (1, .int x), (2, .int (nI i)), (3, .int (nI n))] [] (uA m a g) 0 0 := by
    intro d
    induction d with
    | zero =>
      intro i g hi hg
      refine jm_run hX [] 20 ?_
      refine And.intro (fun h0 => ?_) (fun h0 => ?_)
      · refine ⟨Nat.le_refl _, Nat.le_refl _, trivial, rfl, ?_⟩
        rw [hg, show i = n by omega, ← hN]
      · exact absurd (nI_le (show n ≤ i by omega) (by omega)) h0
    | succ d ih =>
      intro i g hi hg
      refine jm_run hX [(5, [0, 1, 2, 3])] 20 ?_
      refine And.intro (fun h0 => ?_) (fun h0 => ?_)
      · exact absurd h0 (nI_ge (show i < n by omega) (by omega))
      · refine And.intro ok (And.intro ?_ ?_)
        · show vp_in (nI i) (m.2.1 a).2
          rw [hN]; exact vp_in_nI (by omega) (by omega)
        · have := ih (i + 1) (va_up g i x) (by omega) (by
            rw [hg]; funext j
            by_cases hj : j = i
            · subst hj; rw [va_up_self, if_pos (by omega)]
            · rw [va_up_ne _ _ hj]
              by_cases h2 : j < i
              · rw [if_pos h2, if_pos (by omega)]
              · rw [if_neg h2, if_neg (by omega)])
          rw [← uI_uA] at this
          rw [← nI_1] at this
          have e : (nI i).toNatClampNeg = i := nI_clamp (by omega)
          show X 5 [(0, .ref a), (1, .int x), (2, .int (nI i + 1)), (3, .int (nI n))] [] (uI (uA m a g) a (nI i).toNatClampNeg x) 0 0
          rw [e]
          exact this
  refine jm_run hX [(5, [0, 1, 2, 3])] 20 ?_
  refine And.intro ok.1 (And.intro (by rw [ok.2]; decide) (And.intro (by rw [ok.2]; decide) ?_))
  have := loop n 0 (m.2.2.1 a) (by omega) (by funext j; rw [if_neg (by omega)])
  rw [← hN] at this
  have e : uA m a (m.2.2.1 a) = m := by
    unfold uA
    rw [show va_up m.2.2.1 a (m.2.2.1 a) = m.2.2.1 from by
      funext b
      by_cases hb : b = a
      · subst hb; rw [va_up_self]
      · rw [va_up_ne _ _ hb]]
  rw [e] at this
  exact this
end
section
/-! Whole: a whole number X below wB ^ 13 in the limbs' array p of the object h. -/
abbrev wr (X : Nat) : Nat → Int32 := fun i => nI (wl X i)
def whT (m : jm_M) (h p : Nat) : Prop := jm_ok m h 4 ∧ m.2.2.2.2 h 0 = some p ∧ jm_ok m p 50 ∧ (m.2.1 p).2 = 13
def whV (m : jm_M) (h p X : Nat) : Prop := X < wB ^ 13 ∧ m.2.2.1 p = wr X ∧ m.2.2.1 h 1 = nI (wu X)
/-- the number becomes X -/
abbrev whS (m : jm_M) (h p X : Nat) : jm_M := uI (uA m p (wr X)) h 1 (nI (wu X))
theorem whT_ne {m : jm_M} {h p : Nat} (T : whT m h p) : p ≠ h := fun e => by
  have h1 := T.1.2
  have h2 := T.2.2.1.2
  rw [e, h1] at h2
  exact absurd h2 (by decide)
theorem wl_31 (X i : Nat) : wl X i < 2 ^ 31 := Nat.lt_trans (wl_lt X i) (by decide)
theorem wu_top {X e : Nat} (he : e ≤ 13) (h : X < wB ^ e) (h2 : e = 0 ∨ wl X (e - 1) ≠ 0) : wu X = e := by
  unfold wu
  rw [wuA_eq 13 e he h]
  rcases e with _ | e
  · rfl
  · have h2 := h2.resolve_left (by omega)
    unfold wuA
    rw [if_pos]
    rcases Nat.lt_or_ge X (wB ^ e) with q | q
    · exact absurd (wl_zero q (Nat.le_refl e)) h2
    · exact q
section WH
variable {l : Launch} {D : va_G} {ca : Nat → ClassId}
theorem c_Wh_isZero {m : jm_M} {h p X : Nat} (T : whT m h p) (V : whV m h p X) : jm_C l D ca n_Wh_isZero [.ref h] m 0 0 (fun v m' => m' = m ∧ v = some (.int (if X = 0 then 1 else 0))) := by
  refine jm_C_of (cd := cd_Wh_isZero) (ini := false) (by decide +kernel) ok_Wh_isZero (fun h => by cases h) (Nat.le_of_ble_eq_true rfl) ?_
  intro X0 hX
  have hu : nI (wu X) = 0 ↔ X = 0 := by
    rw [← wu_zero V.1, ← nI_0, nI_eq (by have := wu_le X; omega) (by omega)]
  refine jm_run hX [] 20 ?_
  refine And.intro T.1 ?_
  refine And.intro (fun h0 => ?_) (fun h0 => ?_)
  · rw [V.2.2, hu] at h0
    exact ⟨Nat.le_refl _, Nat.le_refl _, Or.inr rfl, rfl, by rw [if_pos h0]⟩
  · rw [V.2.2, hu] at h0
    exact ⟨Nat.le_refl _, Nat.le_refl _, Or.inl rfl, rfl, by rw [if_neg h0]⟩
/-- any row: the limb at a place of 0 .. 2^30, 0 beyond -/
theorem c_Wh_limb {m : jm_M} {h p i : Nat} {g : Nat → Int32} (T : whT m h p) (hg : m.2.2.1 p = g) (hi : i < 2 ^ 30) : jm_C l D ca n_Wh_limb [.ref h, .int (nI i)] m 0 0 (fun v m' => m' = m ∧ v = some (.int (if i < 13 then g i else 0))) := by
  refine jm_C_of (cd := cd_Wh_limb) (ini := false) (by decide +kernel) ok_Wh_limb (fun h => by cases h) (Nat.le_of_ble_eq_true rfl) ?_
  intro X hX
  refine jm_run hX [] 20 ?_
  refine And.intro (fun h0 => absurd h0 (nI_pos (by omega))) (fun _ => ?_)
  refine And.intro (fun h0 => ?_) (fun h0 => ?_)
  · refine ⟨Nat.le_refl _, Nat.le_refl _, trivial, rfl, ?_⟩
    have : ¬ i < 13 := fun q => nI_ge q (by omega) h0
    rw [if_neg this]
  · have hlt : i < 13 := by
      rcases Nat.lt_or_ge i 13 with q | q
      · exact q
      · exact absurd (nI_le q (by omega)) h0
    refine And.intro T.1 ⟨some p, T.2.1, ?_⟩
    refine And.intro T.2.2.1 (And.intro (by rw [T.2.2.2]; exact vp_in_nI hlt (by omega)) ?_)
    refine ⟨Nat.le_refl _, Nat.le_refl _, trivial, rfl, ?_⟩
    rw [if_pos hlt, nI_c (by omega), hg]
theorem c_Wh_limbN {m : jm_M} {h p : Nat} {i : Int32} (T : whT m h p) (hi : i < 0) : jm_C l D ca n_Wh_limb [.ref h, .int i] m 0 0 (fun v m' => m' = m ∧ v = some (.int 0)) := by
  refine jm_C_of (cd := cd_Wh_limb) (ini := false) (by decide +kernel) ok_Wh_limb (fun h => by cases h) (Nat.le_of_ble_eq_true rfl) ?_
  intro X hX
  refine jm_run hX [] 20 ?_
  exact And.intro (fun h0 => ⟨Nat.le_refl _, Nat.le_refl _, trivial, rfl, rfl⟩) (fun h0 => absurd hi h0)
theorem c_Wh_topLimb {m : jm_M} {h p X : Nat} (T : whT m h p) (V : whV m h p X) : jm_C l D ca n_Wh_topLimb [.ref h] m 0 0 (fun v m' => m' = m ∧ v = some (.int (nI (wl X (wu X - 1))))) := by
  refine jm_C_of (cd := cd_Wh_topLimb) (ini := false) (by decide +kernel) ok_Wh_topLimb (fun h => by cases h) (Nat.le_of_ble_eq_true rfl) ?_
  intro X0 hX
  have hu := wu_le X
  refine jm_run hX [] 30 ?_
  refine And.intro T.1 ?_
  refine And.intro (fun h0 => ?_) (fun h0 => ?_)
  · rw [V.2.2] at h0
    have h1 : wu X = 0 := by
      rcases Nat.eq_zero_or_pos (wu X) with q | q
      · exact q
      · exact absurd h0 (nI_nlt q (by omega))
    have h2 : X = 0 := (wu_zero V.1).mp h1
    refine ⟨Nat.le_refl _, Nat.le_refl _, trivial, rfl, ?_⟩
    rw [h1, h2]; rfl
  · rw [V.2.2] at h0
    have h1 : 1 ≤ wu X := by
      rcases Nat.eq_zero_or_pos (wu X) with q | q
      · rw [q] at h0; exact absurd (by decide) h0
      · exact q
    refine And.intro T.1 ?_
    refine And.intro (fun h0 => ?_) (fun h0 => ?_)
    · rw [V.2.2] at h0
      exact absurd h0 (nI_nlt hu (by decide))
    · refine And.intro T.1 ⟨some p, T.2.1, ?_⟩
      refine And.intro T.1 ?_
      have e : m.2.2.1 h 1 - 1 = nI (wu X - 1) := by
        rw [V.2.2, show wu X = (wu X - 1) + 1 by omega, nI_pred]; rfl
      refine And.intro T.2.2.1 (And.intro ?_ ?_)
      · rw [T.2.2.2]
        show vp_in (m.2.2.1 h 1 - 1) 13
        rw [e]; exact vp_in_nI (by omega) (by omega)
      · refine ⟨Nat.le_refl _, Nat.le_refl _, trivial, rfl, ?_⟩
        show some (Value.int (m.2.2.1 p (m.2.2.1 h 1 - 1).toNatClampNeg)) = _
        rw [e, nI_c (by omega), V.2.1]
theorem c_Wh_dropZeros {m : jm_M} {h p X f : Nat} (T : whT m h p) (hg : m.2.2.1 p = wr X) (hf : f < 2 ^ 30) (hX0 : X < wB ^ (min f 13)) : jm_C l D ca n_Wh_dropZeros [.ref h, .int (nI f)] m 0 0 (fun v m' => v = none ∧ m' = uI m h 1 (nI (wu X))) := by
  refine jm_C_of (cd := cd_Wh_dropZeros) (ini := false) (by decide +kernel) ok_Wh_dropZeros (fun h => by cases h) (Nat.le_of_ble_eq_true rfl) ?_
  intro X0 hX
  have loop : ∀ e : Nat, e ≤ 13 → X < wB ^ e → X0 13 [(0, .ref h), (2, .int (nI e))] [] m 0 0 := by
    intro e
    induction e with
    | zero =>
      intro _ hx
      refine jm_run hX [] 20 ?_
      refine And.intro (fun h0 => ?_) (fun h0 => absurd (by decide) h0)
      refine And.intro T.1 ?_
      refine ⟨Nat.le_refl _, Nat.le_refl _, trivial, rfl, ?_⟩
      rw [wu_top (e := 0) (by omega) hx (Or.inl rfl)]
    | succ e ih =>
      intro he hx
      refine jm_run hX [(13, [0, 2])] 20 ?_
      refine And.intro (fun h0 => absurd h0 (nI_nle (by omega) (by omega))) (fun _ => ?_)
      refine And.intro T.1 ⟨some p, T.2.1, ?_⟩
      have e1 : nI (e + 1) - 1 = nI e := nI_pred e
      refine And.intro T.2.2.1 (And.intro ?_ ?_)
      · rw [T.2.2.2]
        show vp_in (nI (e + 1) - 1) 13
        rw [e1]; exact vp_in_nI (by omega) (by omega)
      · have e2 : m.2.2.1 p (nI (e + 1) - 1).toNatClampNeg = nI (wl X e) := by rw [e1, nI_c (by omega), hg]
        refine And.intro (fun h0 => ?_) (fun h0 => ?_)
        · have h0 : m.2.2.1 p (nI (e + 1) - 1).toNatClampNeg = 0 := h0
          rw [e2, ← nI_0, nI_eq (wl_31 X e) (by omega)] at h0
          have h3 : X < wB ^ e := by
            rw [wl_top hx] at h0
            rcases Nat.lt_or_ge X (wB ^ e) with q | q
            · exact q
            · have := Nat.div_pos q (wB_pos e); omega
          have := ih (by omega) h3
          rw [show nI e = nI (e + 1) + (-1) from (pk_m1 e).symm] at this
          exact this
        · have h0 : ¬ m.2.2.1 p (nI (e + 1) - 1).toNatClampNeg = 0 := h0
          rw [e2, ← nI_0, nI_eq (wl_31 X e) (by omega)] at h0
          refine And.intro T.1 ?_
          refine ⟨Nat.le_refl _, Nat.le_refl _, trivial, rfl, ?_⟩
          rw [wu_top (e := e + 1) he hx (Or.inr h0)]
  refine jm_run hX [(13, [0, 2])] 20 ?_
  refine And.intro (fun h0 => ?_) (fun h0 => ?_)
  · have h1 : 13 ≤ f := by
      rcases Nat.lt_or_ge f 13 with q | q
      · exact absurd h0 (nI_ge q (by decide))
      · exact q
    exact loop 13 (Nat.le_refl _) (by rw [Nat.min_eq_right h1] at hX0; exact hX0)
  · have h1 : f < 13 := by
      rcases Nat.lt_or_ge f 13 with q | q
      · exact q
      · exact absurd (nI_le q (by omega)) h0
    exact loop f (by omega) (by rw [Nat.min_eq_left (by omega)] at hX0; exact hX0)
end WH
end
section
/-- a proper row of limbs -/
def whR (m : jm_M) (p : Nat) : Prop := ∃ Y, Y < wB ^ 13 ∧ m.2.2.1 p = wr Y
theorem whV.R {m : jm_M} {h p X : Nat} (V : whV m h p X) : whR m p := ⟨X, V.1, V.2.1⟩
theorem whR_hi {m : jm_M} {p j : Nat} (R : whR m p) (hj : 13 ≤ j) : m.2.2.1 p j = 0 := by
  obtain ⟨Y, h1, h2⟩ := R
  rw [h2]
  show nI (wl Y j) = 0
  rw [wl_zero h1 hj]; rfl
theorem whS_V {m : jm_M} {h p X : Nat} (T : whT m h p) (hX : X < wB ^ 13) : whV (whS m h p X) h p X := by
  refine ⟨hX, ?_, ?_⟩
  · show va_up (va_up m.2.2.1 p (wr X)) h _ p = wr X
    rw [va_up_ne _ _ (whT_ne T), va_up_self]
  · show va_up (va_up m.2.2.1 p (wr X)) h _ h 1 = _
    rw [va_up_self, va_up_self]
theorem lN_31 {n : Nat} (h : n < 2 ^ 31) : (lN n).toInt32 = nI n := lN_i n
section WH2
variable {l : Launch} {D : va_G} {ca : Nat → ClassId}
theorem c_Wh_become_2 {m : jm_M} {h p o q X : Nat} (T : whT m h p) (R : whR m p) (To : whT m o q) (Vo : whV m o q X) (hpo : p ≠ o) : jm_C l D ca n_Wh_become_2 [.ref h, .ref o] m 0 0 (fun v m' => v = none ∧ m' = whS m h p X) := by
  refine jm_C_of (cd := cd_Wh_become_2) (ini := false) (by decide +kernel) ok_Wh_become_2 (fun h => by cases h) (Nat.le_of_ble_eq_true rfl) ?_
  intro X0 hX
  have hcp : va_cpy (m.2.2.1 q) (m.2.2.1 p) 0 0 13 = wr X := by
    funext j
    unfold va_cpy
    by_cases hj : j < 13
    · rw [if_pos ⟨Nat.zero_le _, by omega⟩, Vo.2.1, Nat.zero_add, Nat.sub_zero]
    · rw [if_neg (fun z => hj (by omega)), whR_hi R (by omega)]
      show 0 = nI (wl X j)
      rw [wl_zero Vo.1 (by omega)]; rfl
  refine jm_run hX [] 20 ?_
  refine And.intro To.1 ⟨some q, To.2.1, ?_⟩
  refine And.intro T.1 ⟨some p, T.2.1, ?_⟩
  refine ⟨To.2.2.1, T.2.2.1, by decide, by decide, by decide, ?_, ?_, Nat.le_of_ble_eq_true rfl, ?_⟩
  · rw [To.2.2.2]; decide
  · rw [T.2.2.2]; decide
  refine And.intro To.1 ?_
  refine And.intro T.1 ?_
  refine ⟨Nat.le_refl _, Nat.le_refl _, trivial, rfl, ?_⟩
  show uI (uA m p (va_cpy (m.2.2.1 q) (m.2.2.1 p) 0 0 13)) h 1 (va_up m.2.2.1 p _ o 1) = _
  rw [hcp, va_up_ne _ _ (Ne.symm hpo), Vo.2.2]
theorem c_Wh_become_1 {m : jm_M} {h p V : Nat} (T : whT m h p) (R : whR m p) (hV : V < 2 ^ 63) : jm_C l D ca n_Wh_become_1 [.ref h, .long (lN V)] m 0 0 (fun v m' => v = none ∧ m' = whS m h p V) := by
  refine jm_C_of (cd := cd_Wh_become_1) (ini := false) (by decide +kernel) ok_Wh_become_1 (fun h => by cases h) (Nat.le_of_ble_eq_true rfl) ?_
  intro X0 hX
  have hV3 : V < wB ^ 3 := Nat.lt_trans hV (by decide)
  have hV13 : V < wB ^ 13 := Nat.lt_trans hV (by decide)
  have hfill : (fun i => if i < (m.2.1 p).2 then (0 : Int32) else m.2.2.1 p i) = fun _ => 0 := by
    funext i
    rw [T.2.2.2]
    by_cases hi : i < 13
    · rw [if_pos hi]
    · rw [if_neg hi, whR_hi R (by omega)]
  have e0 : (lN V &&& 1073741823).toInt32 = nI (wl V 0) := by
    rw [lm_mask (Nat.lt_trans hV (by decide))]
    unfold wl
    rw [Nat.pow_zero, Nat.div_one]
  have e1 : (((lN V).toUInt64 >>> ((30 : Int32).toInt64.toUInt64 &&& Int64.toUInt64 63)).toInt64 &&& 1073741823).toInt32 = nI (wl V 1) := by
    rw [lm_shr (Nat.lt_trans hV (by decide)), lm_mask (Nat.lt_of_le_of_lt (Nat.div_le_self _ _) (Nat.lt_trans hV (by decide)))]
    unfold wl
    rw [Nat.pow_one]
  have e2 : ((lN V).toUInt64 >>> ((60 : Int32).toInt64.toUInt64 &&& Int64.toUInt64 63)).toInt64.toInt32 = nI (wl V 2) := by
    have e : (60 : Int32) = nI 60 := rfl
    rw [e, wb_shr (Nat.lt_trans hV (by decide)) (by decide), lN_i, wl_top hV3]
    rfl
  have hrow : va_up (va_up (va_up (fun _ => (0 : Int32)) 0 (nI (wl V 0))) 1 (nI (wl V 1))) 2 (nI (wl V 2)) = wr V := by
    funext j
    show (if j = 2 then _ else if j = 1 then _ else if j = 0 then _ else 0) = nI (wl V j)
    by_cases j2 : j = 2
    · rw [if_pos j2, j2]
    · rw [if_neg j2]
      by_cases j1 : j = 1
      · rw [if_pos j1, j1]
      · rw [if_neg j1]
        by_cases j0 : j = 0
        · rw [if_pos j0, j0]
        · rw [if_neg j0, wl_zero hV3 (by omega)]; rfl
  have k : X0 46 [(0, .ref h)] [] (uA m p (wr V)) 0 0 := by
    refine jm_run hX [] 10 ?_
    refine And.intro T.1 (And.intro (Nat.le_of_ble_eq_true rfl) (And.intro (Nat.le_of_ble_eq_true rfl) ⟨0, 0, _, Nat.le_refl _, Nat.le_refl _, c_Wh_dropZeros (m := uA m p (wr V)) (p := p) (X := V) (f := 3) T (va_up_self _ _ _) (by decide) hV3, fun v m' hq => ?_⟩))
    obtain ⟨rfl, rfl⟩ := hq
    exact ⟨Nat.le_refl _, Nat.le_refl _, trivial, rfl, rfl⟩
  refine jm_run hX [(46, [0])] 60 ?_
  refine And.intro T.1 ⟨some p, T.2.1, ?_⟩
  refine ⟨Nat.le_of_ble_eq_true rfl, Nat.le_of_ble_eq_true rfl, 0, 0, _, Nat.le_refl _, Nat.le_refl _, c_Ar_fill T.2.2.1 (by rw [T.2.2.2]; decide), fun v m' hq => ?_⟩
  obtain ⟨rfl, rfl⟩ := hq
  rw [hfill]
  refine And.intro T.1 ⟨some p, T.2.1, ?_⟩
  refine And.intro T.2.2.1 (And.intro (vin13 (n := 0) T.2.2.2 (by decide)) ?_)
  refine And.intro T.1 ⟨some p, T.2.1, ?_⟩
  refine And.intro T.2.2.1 (And.intro (vin13 (n := 1) T.2.2.2 (by decide)) ?_)
  refine And.intro T.1 ⟨some p, T.2.1, ?_⟩
  refine And.intro T.2.2.1 (And.intro (vin13 (n := 2) T.2.2.2 (by decide)) ?_)
  have hm : uI (uI (uI (uA m p (fun _ => 0)) p 0 (lN V &&& 1073741823).toInt32) p 1 (((lN V).toUInt64 >>> ((30 : Int32).toInt64.toUInt64 &&& Int64.toUInt64 63)).toInt64 &&& 1073741823).toInt32) p 2 ((lN V).toUInt64 >>> ((60 : Int32).toInt64.toUInt64 &&& Int64.toUInt64 63)).toInt64.toInt32 = uA m p (wr V) := by
    rw [uI_uA, uI_uA, uI_uA, e0, e1, e2, hrow]
  rw [← hm] at k
  exact k
theorem c_Wh_lowestBits {m : jm_M} {h p X : Nat} (T : whT m h p) (V : whV m h p X) : jm_C l D ca n_Wh_lowestBits [.ref h] m 0 0 (fun v m' => m' = m ∧ v = some (.long (lN X))) := by
  refine jm_C_of (cd := cd_Wh_lowestBits) (ini := false) (by decide +kernel) ok_Wh_lowestBits (fun h => by cases h) (Nat.le_of_ble_eq_true rfl) ?_
  intro X0 hX
  have e30 : (30 : Int32) = nI 30 := rfl
  have e60 : (60 : Int32) = nI 60 := rfl
  have hv : ((nI (wl X 0)).toInt64 ||| ((nI (wl X 1)).toInt64 <<< ((30 : Int32).toInt64 &&& 63))) ||| ((nI (wl X 2)).toInt64 <<< ((60 : Int32).toInt64 &&& 63)) = lN X := by
    have b0 : wl X 0 < 1073741824 := wl_lt X 0
    have b1 : wl X 1 < 1073741824 := wl_lt X 1
    rw [lm_l b0, lm_l b1, lm_l (wl_lt X 2), e30, e60, wb_shl _ (by decide), wb_shl _ (by decide)]
    rw [g_or' (k := 30) rfl b0 (by omega)]
    have e3 : lN (wl X 2 * 2 ^ 60) = lN (wl X 2 % 16 * 2 ^ 60) := by
      have e4 : wl X 2 * 2 ^ 60 % 2 ^ 64 = wl X 2 % 16 * 2 ^ 60 % 2 ^ 64 := by omega
      rw [wb_mod, wb_mod (wl X 2 % 16 * 2 ^ 60), e4]
    rw [e3, g_or' (k := 60) rfl (by omega) (by omega)]
    have w0 : wl X 0 = X % 1073741824 := by unfold wl; rw [Nat.pow_zero, Nat.div_one]
    have w1 : wl X 1 = X / 1073741824 % 1073741824 := by unfold wl; rw [Nat.pow_one]
    have w2 : wl X 2 = X / 1152921504606846976 % 1073741824 := rfl
    have e5 : wl X 0 + wl X 1 * 2 ^ 30 + wl X 2 % 16 * 2 ^ 60 = X % 2 ^ 64 := by
      rw [w0, w1, w2]
      omega
    rw [e5, ← wb_mod X]
  refine jm_run hX [] 60 ?_
  refine And.intro T.1 ⟨some p, T.2.1, ?_⟩
  refine And.intro T.2.2.1 (And.intro (vin13 (n := 0) T.2.2.2 (by decide)) ?_)
  refine And.intro T.1 ⟨some p, T.2.1, ?_⟩
  refine And.intro T.2.2.1 (And.intro (vin13 (n := 1) T.2.2.2 (by decide)) ?_)
  refine And.intro T.1 ⟨some p, T.2.1, ?_⟩
  refine And.intro T.2.2.1 (And.intro (vin13 (n := 2) T.2.2.2 (by decide)) ?_)
  refine ⟨Nat.le_refl _, Nat.le_refl _, trivial, rfl, ?_⟩
  show some (Value.long (((m.2.2.1 p 0).toInt64 ||| ((m.2.2.1 p 1).toInt64 <<< ((30 : Int32).toInt64 &&& 63))) ||| ((m.2.2.1 p 2).toInt64 <<< ((60 : Int32).toInt64 &&& 63)))) = _
  rw [V.2.1]
  exact congrArg (fun z => some (Value.long z)) hv
end WH2
end
section
theorem wl_split (X k : Nat) : X / wB ^ k = X / wB ^ (k + 1) * wB + wl X k := by
  rw [Nat.pow_succ, ← Nat.div_div_eq_div_mul]
  unfold wl
  rw [Nat.mul_comm]
  exact (Nat.div_add_mod _ _).symm
theorem wl_less {X Y k : Nat} (h : X / wB ^ (k + 1) = Y / wB ^ (k + 1)) (h2 : wl X k < wl Y k) : X < Y := by
  have h3 : X / wB ^ k < Y / wB ^ k := by
    rw [wl_split X k, wl_split Y k, h]; omega
  rcases Nat.lt_or_ge X Y with q | q
  · exact q
  · exact absurd (Nat.div_le_div_right (c := wB ^ k) q) (by omega)
/-- what a comparison answers -/
def cmpI (X Y : Nat) : Int32 := if X < Y then -1 else if X = Y then 0 else 1
section WH3
variable {l : Launch} {D : va_G} {ca : Nat → ClassId}
theorem c_Wh_compareWith {m : jm_M} {h p o q X Y : Nat} (T : whT m h p) (V : whV m h p X) (To : whT m o q) (Vo : whV m o q Y) : jm_C l D ca n_Wh_compareWith [.ref h, .ref o] m 0 0 (fun v m' => m' = m ∧ v = some (.int (cmpI X Y))) := by
  refine jm_C_of (cd := cd_Wh_compareWith) (ini := false) (by decide +kernel) ok_Wh_compareWith (fun h => by cases h) (Nat.le_of_ble_eq_true rfl) ?_
  intro X0 hX
  have loop : ∀ k : Nat, k ≤ 13 → X / wB ^ k = Y / wB ^ k → X0 3 [(0, .ref h), (1, .ref o), (2, .int (nI k + (-1)))] [] m 0 0 := by
    intro k
    induction k with
    | zero =>
      intro _ hk
      have e : X = Y := by simpa using hk
      refine jm_run hX [] 20 ?_
      refine And.intro (fun h0 => ?_) (fun h0 => absurd (by decide) h0)
      refine ⟨Nat.le_refl _, Nat.le_refl _, trivial, rfl, ?_⟩
      unfold cmpI
      rw [if_neg (by omega), if_pos e]
    | succ k ih =>
      intro hk he
      have e1 : nI (k + 1) + (-1) = nI k := pk_m1 k
      rw [e1]
      have ex : m.2.2.1 p (nI k).toNatClampNeg = nI (wl X k) := by rw [nI_c (by omega), V.2.1]
      have ey : m.2.2.1 q (nI k).toNatClampNeg = nI (wl Y k) := by rw [nI_c (by omega), Vo.2.1]
      refine jm_run hX [(3, [0, 1, 2])] 30 ?_
      refine And.intro (fun h0 => absurd h0 (nI_pos (by omega))) (fun _ => ?_)
      refine And.intro T.1 ⟨some p, T.2.1, ?_⟩
      refine And.intro T.2.2.1 (And.intro (vin13 T.2.2.2 (by omega)) ?_)
      refine And.intro To.1 ⟨some q, To.2.1, ?_⟩
      refine And.intro To.2.2.1 (And.intro (vin13 To.2.2.2 (by omega)) ?_)
      refine And.intro (fun h0 => ?_) (fun h0 => ?_)
      · have h0 : m.2.2.1 p (nI k).toNatClampNeg = m.2.2.1 q (nI k).toNatClampNeg := h0
        rw [ex, ey, nI_eq (wl_31 X k) (wl_31 Y k)] at h0
        exact ih (by omega) (by rw [wl_split X k, wl_split Y k, he, h0])
      · have h0 : ¬ m.2.2.1 p (nI k).toNatClampNeg = m.2.2.1 q (nI k).toNatClampNeg := h0
        rw [ex, ey, nI_eq (wl_31 X k) (wl_31 Y k)] at h0
        refine And.intro T.1 ⟨some p, T.2.1, ?_⟩
        refine And.intro T.2.2.1 (And.intro (vin13 T.2.2.2 (by omega)) ?_)
        refine And.intro To.1 ⟨some q, To.2.1, ?_⟩
        refine And.intro To.2.2.1 (And.intro (vin13 To.2.2.2 (by omega)) ?_)
        refine And.intro (fun h1 => ?_) (fun h1 => ?_)
        · have h1 : m.2.2.1 q (nI k).toNatClampNeg ≤ m.2.2.1 p (nI k).toNatClampNeg := h1
          rw [ex, ey, nI_leI (wl_31 Y k) (wl_31 X k)] at h1
          have := wl_less he.symm (show wl Y k < wl X k by omega)
          refine ⟨Nat.le_refl _, Nat.le_refl _, trivial, rfl, ?_⟩
          unfold cmpI
          rw [if_neg (by omega), if_neg (by omega)]
        · have h1 : ¬ m.2.2.1 q (nI k).toNatClampNeg ≤ m.2.2.1 p (nI k).toNatClampNeg := h1
          rw [ex, ey, nI_leI (wl_31 Y k) (wl_31 X k)] at h1
          have := wl_less he (show wl X k < wl Y k by omega)
          refine ⟨Nat.le_refl _, Nat.le_refl _, trivial, rfl, ?_⟩
          unfold cmpI
          rw [if_pos this]
  refine jm_run hX [(3, [0, 1, 2])] 20 ?_
  have := loop 13 (Nat.le_refl _) (by rw [Nat.div_eq_of_lt V.1, Nat.div_eq_of_lt Vo.1])
  rw [show nI 13 + (-1) = nI 12 from pk_m1 12] at this
  exact this
/-- X + F times Y, where it keeps below wB ^ 13 -/
theorem c_Wh_addTimes {m : jm_M} {h p o q X Y F : Nat} (T : whT m h p) (V : whV m h p X) (To : whT m o q) (Vo : whV m o q Y) (hpq : p ≠ q) (hF : F < wB) (hZ : X + F * Y < wB ^ 13) : jm_C l D ca n_Wh_addTimes [.ref h, .ref o, .long (lN F)] m 0 0 (fun v m' => v = none ∧ m' = whS m h p (X + F * Y)) := by
  refine jm_C_of (cd := cd_Wh_addTimes) (ini := false) (by decide +kernel) ok_Wh_addTimes (fun h => by cases h) (Nat.le_of_ble_eq_true rfl) ?_
  intro X0 hX
  have hux := wu_le X
  have huy := wu_le Y
  generalize hE : min (max (wu X) (wu Y) + 2) 13 = E
  have hE13 : E ≤ 13 := by omega
  have hXm : X < wB ^ (max (wu X) (wu Y)) := Nat.lt_of_lt_of_le (wu_lt V.1) (Nat.pow_le_pow_right (by decide) (by omega))
  have hYm : Y < wB ^ (max (wu X) (wu Y)) := Nat.lt_of_lt_of_le (wu_lt Vo.1) (Nat.pow_le_pow_right (by decide) (by omega))
  have hXE : X < wB ^ E := by
    rcases Nat.lt_or_ge (max (wu X) (wu Y) + 2) 13 with g | g
    · exact Nat.lt_of_lt_of_le hXm (Nat.pow_le_pow_right (by decide) (by omega))
    · rw [show E = 13 by omega]; exact V.1
  have hZE : X + F * Y < wB ^ E := by
    rcases Nat.lt_or_ge (max (wu X) (wu Y) + 2) 13 with g | g
    · rw [show E = max (wu X) (wu Y) + 2 by omega, Nat.pow_add]
      generalize wB ^ (max (wu X) (wu Y)) = M at hXm hYm
      have h1 : F * Y ≤ wB * M := Nat.mul_le_mul (Nat.le_of_lt hF) (Nat.le_of_lt hYm)
      have h2 : wB ^ 2 = 1152921504606846976 := by decide
      rw [h2]
      have h3 : wB * M = 1073741824 * M := rfl
      omega
    · rw [show E = 13 by omega]; exact hZ
  -- the carry
  let P : Nat → Nat := fun i => X % wB ^ i + F * (Y % wB ^ i)
  have hP : ∀ i, P (i + 1) = P i + (wl X i + F * wl Y i) * wB ^ i := by
    intro i
    show X % wB ^ (i + 1) + F * (Y % wB ^ (i + 1)) = X % wB ^ i + F * (Y % wB ^ i) + (wl X i + F * wl Y i) * wB ^ i
    rw [wl_div X i, wl_div Y i, Nat.mul_add, Nat.add_mul, Nat.mul_assoc]
    omega
  have hPm : ∀ i, wl (P (i + 1)) i = wl (X + F * Y) i := by
    intro i
    refine wl_congr ?_
    show (X % wB ^ (i + 1) + F * (Y % wB ^ (i + 1))) % wB ^ (i + 1) = (X + F * Y) % wB ^ (i + 1)
    rw [Nat.add_mod, Nat.mod_mod, Nat.mul_mod, Nat.mod_mod, ← Nat.mul_mod, ← Nat.add_mod]
  have hc : ∀ i, P i / wB ^ i ≤ wB := by
    intro i
    have h1 : X % wB ^ i < wB ^ i := Nat.mod_lt _ (wB_pos i)
    have h2 : Y % wB ^ i < wB ^ i := Nat.mod_lt _ (wB_pos i)
    have h3 : F * (Y % wB ^ i) ≤ F * wB ^ i := Nat.mul_le_mul_left _ (Nat.le_of_lt h2)
    have h4 : P i < wB ^ i * (F + 1) := by
      show X % wB ^ i + F * (Y % wB ^ i) < _
      rw [Nat.mul_add, Nat.mul_one, Nat.mul_comm (wB ^ i) F]; omega
    have := Nat.div_lt_of_lt_mul h4
    omega
  have step : ∀ i, ((nI (wl X i)).toInt64 + (nI (wl Y i)).toInt64 * lN F) + lN (P i / wB ^ i) = lN ((wl X i + F * wl Y i) + P i / wB ^ i) := by
    intro i
    rw [lm_l (wl_lt X i), lm_l (wl_lt Y i), lN_mul, lN_add, lN_add, Nat.mul_comm (wl Y i) F]
  have big : ∀ i, (wl X i + F * wl Y i) + P i / wB ^ i < 2 ^ 64 := by
    intro i
    have h1 : wl X i < 1073741824 := wl_lt X i
    have h2 : wl Y i < 1073741824 := wl_lt Y i
    have h3 : P i / wB ^ i ≤ 1073741824 := hc i
    have h4 : F * wl Y i ≤ 1073741824 * 1073741824 := Nat.mul_le_mul (Nat.le_of_lt hF) (Nat.le_of_lt h2)
    omega
  have fin : X0 84 [(0, .ref h), (6, .int (nI E))] [] (uA m p (wr (X + F * Y))) 0 0 := by
    refine jm_run hX [] 20 ?_
    refine And.intro T.1 (And.intro (Nat.le_of_ble_eq_true rfl) (And.intro (Nat.le_of_ble_eq_true rfl) ⟨0, 0, _, Nat.le_refl _, Nat.le_refl _, c_Wh_dropZeros (m := uA m p (wr (X + F * Y))) (p := p) (X := X + F * Y) (f := E) T (va_up_self _ _ _) (by omega) (by rw [Nat.min_eq_left hE13]; exact hZE), fun v m' hq => ?_⟩))
    obtain ⟨rfl, rfl⟩ := hq
    exact ⟨Nat.le_refl _, Nat.le_refl _, trivial, rfl, rfl⟩
  have loop : ∀ (d i : Nat), i + d = E → X0 26 [(0, .ref h), (1, .ref o), (2, .long (lN F)), (4, .long (lN (P i / wB ^ i))), (6, .int (nI E)), (7, .int (nI i))] [] (uA m p (wm (X + F * Y) X i)) 0 0 := by
    intro d
    induction d with
    | zero =>
      intro i hi
      refine jm_run hX [(84, [0, 6])] 10 ?_
      refine And.intro (fun h0 => ?_) (fun h0 => absurd (nI_le (show E ≤ i by omega) (by omega)) h0)
      rw [show i = E by omega, wm_end hZE hXE]
      exact fin
    | succ d ih =>
      intro i hi
      have e0 : (nI i).toNatClampNeg = i := nI_c (by omega)
      have e1 : (uA m p (wm (X + F * Y) X i)).2.2.1 p (nI i).toNatClampNeg = nI (wl X i) := by
        rw [e0]; show va_up m.2.2.1 p _ p i = _; rw [va_up_self, wm_at]
      have e2 : (uA m p (wm (X + F * Y) X i)).2.2.1 q (nI i).toNatClampNeg = nI (wl Y i) := by
        rw [e0]; show va_up m.2.2.1 p _ q i = _; rw [va_up_ne _ _ (Ne.symm hpq), Vo.2.1]
      have k := ih (i + 1) (by omega)
      rw [← cy_next (t := fun i => wl X i + F * wl Y i) (hP i), ← wm_s, ← hPm i, ← cy_dig (t := fun i => wl X i + F * wl Y i) (hP i), ← uI_uA, ← lm_mask (big i), ← lm_shr (big i), ← step i, ← e1, ← e2, ← nI_1] at k
      refine jm_run hX [(26, [0, 1, 2, 4, 6, 7])] 40 ?_
      refine And.intro (fun h0 => absurd h0 (nI_ge (show i < E by omega) (by omega))) (fun _ => ?_)
      refine And.intro T.1 ⟨some p, T.2.1, ?_⟩
      refine And.intro T.2.2.1 (And.intro (vin13 T.2.2.2 (by omega)) ?_)
      refine And.intro To.1 ⟨some q, To.2.1, ?_⟩
      refine And.intro To.2.2.1 (And.intro (vin13 To.2.2.2 (by omega)) ?_)
      refine And.intro T.1 ⟨some p, T.2.1, ?_⟩
      refine And.intro T.2.2.1 (And.intro (vin13 T.2.2.2 (by omega)) ?_)
      rw [e0] at k ⊢
      exact k
  have k0 := loop E 0 (by omega)
  rw [wm_0, show (fun j => nI (wl X j)) = m.2.2.1 p from V.2.1.symm, uA_id, show P 0 / wB ^ 0 = 0 by
    show (X % wB ^ 0 + F * (Y % wB ^ 0)) / wB ^ 0 = 0
    rw [Nat.pow_zero, Nat.mod_one, Nat.mod_one, Nat.mul_zero], ← hE, ← nI_min (by omega) (by omega), ← nI_add, ← nI_max (by omega) (by omega), ← V.2.2, ← Vo.2.2] at k0
  refine jm_run hX [(26, [0, 1, 2, 4, 6, 7])] 40 ?_
  refine And.intro T.1 (And.intro To.1 ?_)
  refine ⟨Nat.le_of_ble_eq_true rfl, Nat.le_refl _, Nat.le_refl _, ?_⟩
  refine ⟨Nat.le_of_ble_eq_true rfl, Nat.le_refl _, Nat.le_refl _, ?_⟩
  exact k0
end WH3
end
section
theorem wv_up {h : Nat → Nat} {a d : Nat} (h0 : h a = 0) : ∀ {n : Nat}, a < n → wv (va_up h a d) n = wv h n + d * wB ^ a
  | 0, hn => absurd hn (by omega)
  | n + 1, hn => by
    show wv (va_up h a d) n + va_up h a d n * wB ^ n = wv h n + h n * wB ^ n + d * wB ^ a
    by_cases e : n = a
    · subst e
      rw [va_up_self, h0, Nat.zero_mul, wv_congr (h := va_up h n d) (g := h) (fun i hi => va_up_ne _ _ (by omega))]
      omega
    · rw [va_up_ne _ _ e, wv_up h0 (n := n) (by omega)]
      omega
theorem wl_put {X a d : Nat} (hX : X < wB ^ 13) (ha : a < 13) (h0 : wl X a = 0) (hd : d < wB) : X + d * wB ^ a < wB ^ 13 ∧ (va_up (wr X) a (nI d)) = wr (X + d * wB ^ a) := by
  have e : wv (va_up (wl X) a d) 13 = X + d * wB ^ a := by rw [wv_up h0 ha, wv_wl' hX]
  have hl : ∀ i, i < 13 → va_up (wl X) a d i < wB := fun i _ => by
    by_cases q : i = a
    · subst q; rw [va_up_self]; exact hd
    · rw [va_up_ne _ _ q]; exact wl_lt X i
  have hlt : X + d * wB ^ a < wB ^ 13 := by rw [← e]; exact wv_lt hl
  refine ⟨hlt, ?_⟩
  funext j
  show va_up (wr X) a (nI d) j = nI (wl (X + d * wB ^ a) j)
  rcases Nat.lt_or_ge j 13 with q | q
  · rw [← e, wl_wv hl j q]
    by_cases g : j = a
    · subst g; rw [va_up_self, va_up_self]
    · rw [va_up_ne _ _ g, va_up_ne _ _ g]
  · rw [wl_zero hlt q, va_up_ne _ _ (by omega)]
    show nI (wl X j) = nI 0
    rw [wl_zero hX q]
section WH4
variable {l : Launch} {D : va_G} {ca : Nat → ClassId}
theorem c_Wh_subtract {m : jm_M} {h p o q X Y : Nat} (T : whT m h p) (V : whV m h p X) (To : whT m o q) (Vo : whV m o q Y) (hpq : p ≠ q) (hXY : Y ≤ X) : jm_C l D ca n_Wh_subtract [.ref h, .ref o] m 0 0 (fun v m' => v = none ∧ m' = whS m h p (X - Y)) := by
  refine jm_C_of (cd := cd_Wh_subtract) (ini := false) (by decide +kernel) ok_Wh_subtract (fun h => by cases h) (Nat.le_of_ble_eq_true rfl) ?_
  intro X0 hX
  have hux := wu_le X
  have hXu := wu_lt V.1
  have hZu : X - Y < wB ^ (wu X) := Nat.lt_of_le_of_lt (Nat.sub_le _ _) hXu
  have hph := whT_ne T
  have hused : ∀ g, (uA m p g).2.2.1 h 1 = nI (wu X) := fun g => by
    show va_up m.2.2.1 p g h 1 = _
    rw [va_up_ne _ _ (Ne.symm hph)]; exact V.2.2
  have fin : X0 60 [(0, .ref h)] [] (uA m p (wr (X - Y))) 0 0 := by
    have key := c_Wh_dropZeros (l := l) (D := D) (ca := ca) (m := uA m p (wr (X - Y))) (h := h) (p := p) (X := X - Y) (f := wu X) T (va_up_self _ _ _) (by omega) (by rw [Nat.min_eq_left hux]; exact hZu)
    rw [← hused (wr (X - Y))] at key
    refine jm_run hX [] 20 ?_
    refine And.intro T.1 (And.intro T.1 (And.intro (Nat.le_of_ble_eq_true rfl) (And.intro (Nat.le_of_ble_eq_true rfl) ⟨0, 0, _, Nat.le_refl _, Nat.le_refl _, key, fun v m' hq => ?_⟩)))
    obtain ⟨rfl, rfl⟩ := hq
    exact ⟨Nat.le_refl _, Nat.le_refl _, trivial, rfl, rfl⟩
  have loop : ∀ (d i : Nat), i + d = wu X → X0 4 [(0, .ref h), (1, .ref o), (2, .int (nI (wo X Y i))), (3, .int (nI i))] [] (uA m p (wm (X - Y) X i)) 0 0 := by
    intro d
    induction d with
    | zero =>
      intro i hi
      refine jm_run hX [(60, [0])] 10 ?_
      refine And.intro T.1 (And.intro (fun h0 => ?_) (fun h0 => ?_))
      · rw [show i = wu X by omega, wm_end hZu hXu]
        exact fin
      · have h0 : ¬ (uA m p (wm (X - Y) X i)).2.2.1 h 1 ≤ nI i := h0
        rw [hused] at h0
        exact absurd (nI_le (show wu X ≤ i by omega) (by omega)) h0
    | succ d ih =>
      intro i hi
      have e0 : (nI i).toNatClampNeg = i := nI_c (by omega)
      have e1 : (uA m p (wm (X - Y) X i)).2.2.1 p (nI i).toNatClampNeg = nI (wl X i) := by
        rw [e0]; show va_up m.2.2.1 p _ p i = _; rw [va_up_self, wm_at]
      have e2 : (uA m p (wm (X - Y) X i)).2.2.1 q (nI i).toNatClampNeg = nI (wl Y i) := by
        rw [e0]; show va_up m.2.2.1 p _ q i = _; rw [va_up_ne _ _ (Ne.symm hpq), Vo.2.1]
      have hst := wo_step hXY i
      have ho1 := wo_le X Y (i + 1)
      have ho0 := wo_le X Y i
      have hx : wl X i < 1073741824 := wl_lt X i
      have hy : wl Y i < 1073741824 := wl_lt Y i
      have hz : wl (X - Y) i < 1073741824 := wl_lt (X - Y) i
      have hB : wo X Y (i + 1) * wB = wo X Y (i + 1) * 1073741824 := rfl
      rw [hB] at hst
      have hleft : (nI (wl X i) - nI (wl Y i) - nI (wo X Y i)).toInt = (wl (X - Y) i : Int) - (wo X Y (i + 1) : Nat) * 1073741824 := by
        rw [sz_sub3, sz_sub (by omega) (by omega)]; omega
      have hmask : ((nI (wl X i) - nI (wl Y i) - nI (wo X Y i)).toInt64 &&& 1073741823).toInt32 = nI (wl (X - Y) i) := by
        rw [sz_mask32, sz_tn32 hleft, Nat.mod_eq_of_lt (wl_lt _ _)]
      have k := ih (i + 1) (by omega)
      rw [← wm_s, ← uI_uA, ← hmask, ← e1, ← e2, ← nI_1] at k
      refine jm_run hX [(4, [0, 1, 2, 3])] 40 ?_
      refine And.intro T.1 (And.intro (fun h0 => ?_) (fun h0 => ?_))
      · have h0 : (uA m p (wm (X - Y) X i)).2.2.1 h 1 ≤ nI i := h0
        rw [hused] at h0
        exact absurd h0 (nI_ge (show i < wu X by omega) (by omega))
      refine And.intro T.1 ⟨some p, T.2.1, ?_⟩
      refine And.intro T.2.2.1 (And.intro (vin13 T.2.2.2 (by omega)) ?_)
      refine And.intro To.1 ⟨some q, To.2.1, ?_⟩
      refine And.intro To.2.2.1 (And.intro (vin13 To.2.2.2 (by omega)) ?_)
      refine And.intro T.1 ⟨some p, T.2.1, ?_⟩
      refine And.intro T.2.2.1 (And.intro (vin13 T.2.2.2 (by omega)) ?_)
      refine And.intro (fun h0 => ?_) (fun h0 => ?_)
      · have h0 : (0 : Int32) ≤ (uA m p (wm (X - Y) X i)).2.2.1 p (nI i).toNatClampNeg - (uA m p (wm (X - Y) X i)).2.2.1 q (nI i).toNatClampNeg - nI (wo X Y i) := h0
        rw [e1, e2, Int32.le_iff_toInt_le, hleft] at h0
        have e3 : wo X Y (i + 1) = 0 := by
          have : (0 : Int32).toInt = 0 := by decide
          omega
        rw [e3] at k
        rw [e0] at k ⊢
        exact k
      · have h0 : ¬ (0 : Int32) ≤ (uA m p (wm (X - Y) X i)).2.2.1 p (nI i).toNatClampNeg - (uA m p (wm (X - Y) X i)).2.2.1 q (nI i).toNatClampNeg - nI (wo X Y i) := h0
        rw [e1, e2, Int32.le_iff_toInt_le, hleft] at h0
        have e3 : wo X Y (i + 1) = 1 := by
          have : (0 : Int32).toInt = 0 := by decide
          omega
        rw [e3] at k
        rw [e0] at k ⊢
        exact k
  have k0 := loop (wu X) 0 (by omega)
  rw [wm_0, show (fun j => nI (wl X j)) = m.2.2.1 p from V.2.1.symm, uA_id, show wo X Y 0 = 0 by
    unfold wo; rw [Nat.pow_zero, Nat.mod_one, Nat.mod_one]; rfl] at k0
  refine jm_run hX [(4, [0, 1, 2, 3])] 40 ?_
  exact k0
theorem c_Wh_setLimb {m : jm_M} {h p X a d : Nat} (T : whT m h p) (V : whV m h p X) (ha : a < 13) (h0 : wl X a = 0) (hd : d < wB) : jm_C l D ca n_Wh_setLimb [.ref h, .int (nI a), .int (nI d)] m 0 0 (fun v m' => v = none ∧ m' = whS m h p (X + d * wB ^ a)) := by
  refine jm_C_of (cd := cd_Wh_setLimb) (ini := false) (by decide +kernel) ok_Wh_setLimb (fun h => by cases h) (Nat.le_of_ble_eq_true rfl) ?_
  intro X0 hX
  obtain ⟨hlt, hrow⟩ := wl_put V.1 ha h0 hd
  have hux := wu_le X
  have hph := whT_ne T
  have hZ : X + d * wB ^ a < wB ^ (min (max (wu X) (a + 1)) 13) := by
    rw [Nat.min_eq_left (by omega)]
    rcases Nat.lt_or_ge a (wu X) with g | g
    · rw [Nat.max_eq_left (by omega)]
      rcases Nat.lt_or_ge (X + d * wB ^ a) (wB ^ wu X) with w | w
      · exact w
      · exfalso
        have h1 : wl (X + d * wB ^ a) (wu X) = 0 ∨ wu X = 13 := by
          rcases Nat.lt_or_ge (wu X) 13 with v | v
          · left
            have := congrFun hrow (wu X)
            rw [va_up_ne _ _ (by omega)] at this
            have h2 : nI (wl X (wu X)) = nI (wl (X + d * wB ^ a) (wu X)) := this
            rw [nI_eq (wl_31 _ _) (wl_31 _ _), wl_zero (wu_lt V.1) (Nat.le_refl _)] at h2
            exact h2.symm
          · right; omega
        rcases h1 with h1 | h1
        · -- all limbs from wu X on are 0
          have hz : ∀ j, wu X ≤ j → wl (X + d * wB ^ a) j = 0 := fun j hj => by
            have := congrFun hrow j
            rw [va_up_ne _ _ (by omega)] at this
            have h2 : nI (wl X j) = nI (wl (X + d * wB ^ a) j) := this
            rw [nI_eq (wl_31 _ _) (wl_31 _ _), wl_zero (wu_lt V.1) hj] at h2
            exact h2.symm
          have hw := wu_top (X := X + d * wB ^ a) (e := wu (X + d * wB ^ a)) (wu_le _) (wu_lt hlt) 
          have hn : wu (X + d * wB ^ a) ≤ wu X := by
            rcases Nat.lt_or_ge (wu X) (wu (X + d * wB ^ a)) with v | v
            · have h5 := wu_ge hlt (v := wu (X + d * wB ^ a) - 1) (by omega)
              have h6 := hz (wu (X + d * wB ^ a) - 1) (by omega)
              have h7 := wu_lt hlt
              rw [show wu (X + d * wB ^ a) = (wu (X + d * wB ^ a) - 1) + 1 by omega] at h7
              rw [wl_top h7] at h6
              have := Nat.div_pos h5 (wB_pos _)
              omega
            · exact v
          have := wu_lt hlt
          have h8 : wB ^ wu (X + d * wB ^ a) ≤ wB ^ wu X := Nat.pow_le_pow_right (by decide) hn
          omega
        · rw [h1] at w; omega
    · rw [Nat.max_eq_right (by omega), Nat.pow_succ, Nat.mul_comm (wB ^ a) wB]
      have h1 : X < wB ^ a := Nat.lt_of_lt_of_le (wu_lt V.1) (Nat.pow_le_pow_right (by decide) g)
      have h2 : (d + 1) * wB ^ a ≤ wB * wB ^ a := Nat.mul_le_mul_right _ hd
      rw [Nat.add_mul, Nat.one_mul] at h2
      omega
  have hused : ∀ g, (uA m p g).2.2.1 h 1 = nI (wu X) := fun g => by
    show va_up m.2.2.1 p g h 1 = _
    rw [va_up_ne _ _ (Ne.symm hph)]; exact V.2.2
  have fin : X0 17 [(0, .ref h), (1, .int (nI a))] [] (uA m p (wr (X + d * wB ^ a))) 0 0 := by
    have key := c_Wh_dropZeros (l := l) (D := D) (ca := ca) (m := uA m p (wr (X + d * wB ^ a))) (h := h) (p := p) (X := X + d * wB ^ a) (f := max (wu X) (a + 1)) T (va_up_self _ _ _) (by omega) hZ
    rw [← nI_max (by omega) (by omega), ← hused (wr (X + d * wB ^ a)), ← nI_1] at key
    refine jm_run hX [] 20 ?_
    refine And.intro T.1 ⟨Nat.le_of_ble_eq_true rfl, Nat.le_refl _, Nat.le_refl _, ?_⟩
    refine And.intro T.1 (And.intro (Nat.le_of_ble_eq_true rfl) (And.intro (Nat.le_of_ble_eq_true rfl) ⟨0, 0, _, Nat.le_refl _, Nat.le_refl _, key, fun v m' hq => ?_⟩))
    obtain ⟨rfl, rfl⟩ := hq
    exact ⟨Nat.le_refl _, Nat.le_refl _, trivial, rfl, rfl⟩
  rw [← hrow, ← V.2.1] at fin
  have fin2 : X0 17 [(0, .ref h), (1, .int (nI a))] [] (uI m p (nI a).toNatClampNeg (nI d)) 0 0 := by
    rw [nI_c (by omega)]; exact fin
  refine jm_run hX [(17, [0, 1])] 20 ?_
  refine And.intro (fun g => absurd g (nI_pos (by omega))) (fun _ => ?_)
  refine And.intro (fun g => absurd g (nI_ge ha (by decide))) (fun _ => ?_)
  refine And.intro T.1 ⟨some p, T.2.1, ?_⟩
  exact And.intro T.2.2.1 (And.intro (vin13 T.2.2.2 ha) fin2)
theorem c_Wh_shiftUp {m : jm_M} {h p X s : Nat} (T : whT m h p) (V : whV m h p X) (hs : s < 30) (hZ : X * 2 ^ s < wB ^ 13) : jm_C l D ca n_Wh_shiftUp [.ref h, .int (nI s)] m 0 0 (fun v m' => v = none ∧ m' = whS m h p (X * 2 ^ s)) := by
  refine jm_C_of (cd := cd_Wh_shiftUp) (ini := false) (by decide +kernel) ok_Wh_shiftUp (fun h => by cases h) (Nat.le_of_ble_eq_true rfl) ?_
  intro X0 hX
  have hux := wu_le X
  have h2s : 2 ^ s < 1073741824 := Nat.pow_lt_pow_right (a := 2) (m := s) (n := 30) (by decide) hs
  generalize hS2 : 2 ^ s = s2 at hZ h2s
  generalize hE : min (wu X + 1) 13 = E
  have hE13 : E ≤ 13 := by omega
  have hXE : X < wB ^ E := by
    rcases Nat.lt_or_ge (wu X + 1) 13 with g | g
    · exact Nat.lt_of_lt_of_le (wu_lt V.1) (Nat.pow_le_pow_right (by decide) (by omega))
    · rw [show E = 13 by omega]; exact V.1
  have hZE : X * s2 < wB ^ E := by
    rcases Nat.lt_or_ge (wu X + 1) 13 with g | g
    · rw [show E = wu X + 1 by omega, Nat.pow_succ]
      have h1 := wu_lt V.1
      have h3 : (X + 1) * wB ≤ wB ^ wu X * wB := Nat.mul_le_mul_right _ h1
      have h4 : X * s2 ≤ X * wB := Nat.mul_le_mul_left _ (Nat.le_of_lt h2s)
      rw [Nat.add_mul] at h3
      have h5 : 1 * wB = 1073741824 := rfl
      omega
    · rw [show E = 13 by omega]; exact hZ
  let P : Nat → Nat := fun i => X % wB ^ i * s2
  have hP : ∀ i, P (i + 1) = P i + (wl X i * s2) * wB ^ i := by
    intro i
    show X % wB ^ (i + 1) * s2 = X % wB ^ i * s2 + wl X i * s2 * wB ^ i
    rw [wl_div X i, Nat.add_mul, Nat.mul_right_comm]
  have hPm : ∀ i, wl (P (i + 1)) i = wl (X * s2) i := by
    intro i
    refine wl_congr ?_
    show (X % wB ^ (i + 1) * s2) % wB ^ (i + 1) = (X * s2) % wB ^ (i + 1)
    rw [Nat.mul_mod, Nat.mod_mod, ← Nat.mul_mod]
  have hc : ∀ i, P i / wB ^ i ≤ 1073741824 := by
    intro i
    have h1 : X % wB ^ i < wB ^ i := Nat.mod_lt _ (wB_pos i)
    have h3 : P i < wB ^ i * (s2 + 1) := by
      show X % wB ^ i * s2 < _
      have : X % wB ^ i * s2 ≤ wB ^ i * s2 := Nat.mul_le_mul_right _ (Nat.le_of_lt h1)
      rw [Nat.mul_add]
      have := wB_pos i
      omega
    have := Nat.div_lt_of_lt_mul h3
    omega
  have step : ∀ i, ((nI (wl X i)).toInt64 <<< ((nI s).toInt64 &&& 63)) + lN (P i / wB ^ i) = lN ((wl X i * s2) + P i / wB ^ i) := by
    intro i
    rw [lm_l (wl_lt X i), wb_shl _ (by omega), lN_add, hS2]
  have big : ∀ i, (wl X i * s2) + P i / wB ^ i < 2 ^ 64 := by
    intro i
    have h1 : wl X i < 1073741824 := wl_lt X i
    have h3 := hc i
    have h4 : wl X i * s2 ≤ 1073741824 * 1073741824 := Nat.mul_le_mul (Nat.le_of_lt h1) (Nat.le_of_lt h2s)
    omega
  have fin : X0 65 [(0, .ref h), (4, .int (nI E))] [] (uA m p (wr (X * s2))) 0 0 := by
    refine jm_run hX [] 20 ?_
    refine And.intro T.1 (And.intro (Nat.le_of_ble_eq_true rfl) (And.intro (Nat.le_of_ble_eq_true rfl) ⟨0, 0, _, Nat.le_refl _, Nat.le_refl _, c_Wh_dropZeros (m := uA m p (wr (X * s2))) (p := p) (X := X * s2) (f := E) T (va_up_self _ _ _) (by omega) (by rw [Nat.min_eq_left hE13]; exact hZE), fun v m' hq => ?_⟩))
    obtain ⟨rfl, rfl⟩ := hq
    exact ⟨Nat.le_refl _, Nat.le_refl _, trivial, rfl, by rw [hS2]⟩
  have loop : ∀ (d i : Nat), i + d = E → X0 18 [(0, .ref h), (1, .int (nI s)), (2, .long (lN (P i / wB ^ i))), (4, .int (nI E)), (5, .int (nI i))] [] (uA m p (wm (X * s2) X i)) 0 0 := by
    intro d
    induction d with
    | zero =>
      intro i hi
      refine jm_run hX [(65, [0, 4])] 10 ?_
      refine And.intro (fun h0 => ?_) (fun h0 => absurd (nI_le (show E ≤ i by omega) (by omega)) h0)
      rw [show i = E by omega, wm_end hZE hXE]
      exact fin
    | succ d ih =>
      intro i hi
      have e0 : (nI i).toNatClampNeg = i := nI_c (by omega)
      have e1 : (uA m p (wm (X * s2) X i)).2.2.1 p (nI i).toNatClampNeg = nI (wl X i) := by
        rw [e0]; show va_up m.2.2.1 p _ p i = _; rw [va_up_self, wm_at]
      have k := ih (i + 1) (by omega)
      rw [← cy_next (t := fun i => wl X i * s2) (hP i), ← wm_s, ← hPm i, ← cy_dig (t := fun i => wl X i * s2) (hP i), ← uI_uA, ← lm_mask (big i), ← lm_shr (big i), ← step i, ← e1, ← nI_1] at k
      refine jm_run hX [(18, [0, 1, 2, 4, 5])] 40 ?_
      refine And.intro (fun h0 => absurd h0 (nI_ge (show i < E by omega) (by omega))) (fun _ => ?_)
      refine And.intro T.1 ⟨some p, T.2.1, ?_⟩
      refine And.intro T.2.2.1 (And.intro (vin13 T.2.2.2 (by omega)) ?_)
      refine And.intro T.1 ⟨some p, T.2.1, ?_⟩
      refine And.intro T.2.2.1 (And.intro (vin13 T.2.2.2 (by omega)) ?_)
      rw [e0] at k ⊢
      exact k
  have k0 := loop E 0 (by omega)
  rw [wm_0, show (fun j => nI (wl X j)) = m.2.2.1 p from V.2.1.symm, uA_id, show P 0 / wB ^ 0 = 0 by
    show (X % wB ^ 0 * s2) / wB ^ 0 = 0
    rw [Nat.pow_zero, Nat.mod_one, Nat.zero_mul], ← hE, ← nI_min (by omega) (by omega), ← nI_1 (wu X), ← V.2.2] at k0
  refine jm_run hX [(18, [0, 1, 2, 4, 5])] 40 ?_
  refine And.intro T.1 ⟨Nat.le_of_ble_eq_true rfl, Nat.le_refl _, Nat.le_refl _, ?_⟩
  exact k0
end WH4
end
section
theorem wl_hi (X a j : Nat) : wl X (a + j) = wl (X / wB ^ a) j := by
  unfold wl
  rw [Nat.div_div_eq_div_mul, Nat.pow_add]
theorem wl_lo {R W a i : Nat} (hi : i < a) : wl (R % wB ^ a + W * wB ^ a) i = wl R i := by
  have e : wB ^ a = wB ^ (i + 1) * wB ^ (a - i - 1) := by
    rw [← Nat.pow_add]; congr 1; omega
  refine wl_congr ?_
  rw [e, Nat.mul_left_comm, Nat.add_mul_mod_self_left, Nat.mod_mul_right_mod]
theorem wj_div {R W a : Nat} : (R % wB ^ a + W * wB ^ a) / wB ^ a = W := by
  rw [Nat.add_mul_div_right _ _ (wB_pos a), Nat.div_eq_of_lt (Nat.mod_lt _ (wB_pos a)), Nat.zero_add]
theorem wm_st {Z X a : Nat} (h : ∀ i, i < a → wl Z i = wl X i) : wm Z X a = wr X := by
  funext j
  by_cases hj : j < a
  · rw [wm, if_pos hj, h j hj]
  · rw [wm, if_neg hj]
theorem wm_d (X Z k : Nat) : va_up (wm X Z (k + 1)) k (nI (wl Z k)) = wm X Z k := by
  funext j
  by_cases h : j = k
  · subst h; rw [va_up_self, wm, if_neg (by omega)]
  · rw [va_up_ne _ _ h, wm, wm]
    by_cases h2 : j < k
    · rw [if_pos h2, if_pos (by omega)]
    · rw [if_neg h2, if_neg (by omega)]
theorem nI_m1 (x : Int32) : x - 1 = x + (-1) := Int32.sub_eq_add_neg ..
section WH5
variable {l : Launch} {D : va_G} {ca : Nat → ClassId}
theorem c_Wh_shiftDown {m : jm_M} {h p X U s : Nat} (T : whT m h p) (hrow : m.2.2.1 p = wr X) (hU : m.2.2.1 h 1 = nI U) (hU13 : U ≤ 13) (hXU : X < wB ^ U) (hs : s < 30) : jm_C l D ca n_Wh_shiftDown [.ref h, .int (nI s)] m 0 0 (fun v m' => v = none ∧ m' = whS m h p (X / 2 ^ s)) := by
  refine jm_C_of (cd := cd_Wh_shiftDown) (ini := false) (by decide +kernel) ok_Wh_shiftDown (fun h => by cases h) (Nat.le_of_ble_eq_true rfl) ?_
  intro X0 hX
  have h2s : 2 ^ s < 1073741824 := Nat.pow_lt_pow_right (a := 2) (m := s) (n := 30) (by decide) hs
  have h2p : 0 < 2 ^ s := Nat.pow_pos (by decide)
  have hsh : lN 1 <<< ((nI s).toInt64 &&& 63) - 1 = lN (2 ^ s - 1) := by
    rw [wb_shl _ (by omega), Nat.one_mul]
    exact lN_sub (b := 1) (by omega)
  generalize hZe : X / 2 ^ s = Z
  have hZX : Z ≤ X := by rw [← hZe]; exact Nat.div_le_self _ _
  have hZU : Z < wB ^ U := by omega
  have hph := whT_ne T
  have hused : ∀ g, (uA m p g).2.2.1 h 1 = nI U := fun g => by
    show va_up m.2.2.1 p g h 1 = _
    rw [va_up_ne _ _ (Ne.symm hph)]; exact hU
  have fin : X0 57 [(0, .ref h)] [] (uA m p (wr Z)) 0 0 := by
    have key := c_Wh_dropZeros (l := l) (D := D) (ca := ca) (m := uA m p (wr Z)) (h := h) (p := p) (X := Z) (f := U) T (va_up_self _ _ _) (by omega) (by rw [Nat.min_eq_left hU13]; exact hZU)
    rw [← hused (wr Z)] at key
    refine jm_run hX [] 20 ?_
    refine And.intro T.1 (And.intro T.1 (And.intro (Nat.le_of_ble_eq_true rfl) (And.intro (Nat.le_of_ble_eq_true rfl) ⟨0, 0, _, Nat.le_refl _, Nat.le_refl _, key, fun v m' hq => ?_⟩)))
    obtain ⟨rfl, rfl⟩ := hq
    exact ⟨Nat.le_refl _, Nat.le_refl _, trivial, rfl, by rw [hZe]⟩
  have loop : ∀ k : Nat, k ≤ U → X0 10 [(0, .ref h), (1, .int (nI s)), (2, .long (lN (X / wB ^ k % 2 ^ s))), (4, .int (nI k + (-1)))] [] (uA m p (wm X Z k)) 0 0 := by
    intro k
    induction k with
    | zero =>
      intro _
      refine jm_run hX [(57, [0])] 10 ?_
      refine And.intro (fun h0 => ?_) (fun h0 => absurd (by decide) h0)
      rw [wm_0]
      exact fin
    | succ k ih =>
      intro hk
      have e4 : nI (k + 1) + (-1) = nI k := pk_m1 k
      rw [e4]
      have e0 : (nI k).toNatClampNeg = k := nI_c (by omega)
      have e1 : (uA m p (wm X Z (k + 1))).2.2.1 p (nI k).toNatClampNeg = nI (wl X k) := by
        rw [e0]; show va_up m.2.2.1 p _ p k = _; rw [va_up_self, wm, if_pos (by omega)]
      have hmv : X / wB ^ (k + 1) % 2 ^ s * wB + wl X k = X / wB ^ k % (2 ^ s * wB) := by
        rw [wl_split X k, Nat.mul_comm (2 ^ s) wB, Nat.mul_comm (X / wB ^ (k + 1)) wB, Nat.add_comm (wB * _), Nat.mod_mul, Nat.add_mul_mod_self_left, Nat.mod_eq_of_lt (wl_lt X k), Nat.add_mul_div_left _ _ (show 0 < wB by decide), Nat.div_eq_of_lt (wl_lt X k), Nat.zero_add]
        rw [Nat.mul_comm, Nat.add_comm]
      have hmlt : X / wB ^ (k + 1) % 2 ^ s * wB + wl X k < 2 ^ 64 := by
        have a1 : X / wB ^ (k + 1) % 2 ^ s < 2 ^ s := Nat.mod_lt _ h2p
        have a2 : wl X k < 1073741824 := wl_lt X k
        have a3 : X / wB ^ (k + 1) % 2 ^ s * wB ≤ 1073741824 * 1073741824 := Nat.mul_le_mul (by omega) (Nat.le_refl _)
        omega
      have hlong : (lN (X / wB ^ (k + 1) % 2 ^ s) <<< ((30 : Int32).toInt64 &&& 63)) + (nI (wl X k)).toInt64 = lN (X / wB ^ (k + 1) % 2 ^ s * wB + wl X k) := by
        have e30 : (30 : Int32) = nI 30 := rfl
        rw [e30, wb_shl _ (by decide), lm_l (wl_lt X k), lN_add]
      have hdig : ((lN (X / wB ^ (k + 1) % 2 ^ s * wB + wl X k)).toUInt64 >>> ((nI s).toInt64.toUInt64 &&& Int64.toUInt64 63)).toInt64.toInt32 = nI (wl Z k) := by
        rw [wb_shr hmlt (by omega), lN_i, hmv, Nat.mod_mul_right_div_self, ← hZe]
        unfold wl
        rw [Nat.div_div_eq_div_mul, Nat.div_div_eq_div_mul, Nat.mul_comm]
      have hcar : lN (X / wB ^ (k + 1) % 2 ^ s * wB + wl X k) &&& (lN 1 <<< ((nI s).toInt64 &&& 63) - 1) = lN (X / wB ^ k % 2 ^ s) := by
        rw [hsh, wb_mask hmlt (by omega), hmv, Nat.mod_mul_right_mod]
      have kk := ih (by omega)
      rw [← wm_d, ← uI_uA, ← hdig, ← hcar, ← hlong, ← e1] at kk
      refine jm_run hX [(10, [0, 1, 2, 4])] 40 ?_
      refine And.intro (fun h0 => absurd h0 (nI_pos (by omega))) (fun _ => ?_)
      refine And.intro T.1 ⟨some p, T.2.1, ?_⟩
      refine And.intro T.2.2.1 (And.intro (vin13 T.2.2.2 (by omega)) ?_)
      refine And.intro T.1 ⟨some p, T.2.1, ?_⟩
      refine And.intro T.2.2.1 (And.intro (vin13 T.2.2.2 (by omega)) ?_)
      rw [e0] at kk ⊢
      exact kk
  have k0 := loop U (Nat.le_refl _)
  rw [wm_end hXU hZU, show (fun j => nI (wl X j)) = m.2.2.1 p from hrow.symm, uA_id, Nat.div_eq_of_lt hXU, Nat.zero_mod, ← nI_m1, ← hU] at k0
  refine jm_run hX [(10, [0, 1, 2, 4])] 40 ?_
  exact And.intro T.1 k0
theorem c_Wh_becomeProduct {m : jm_M} {h p o1 q1 o2 q2 X Y : Nat} (T : whT m h p) (R : whR m p) (T1 : whT m o1 q1) (V1 : whV m o1 q1 X) (T2 : whT m o2 q2) (V2 : whV m o2 q2 Y) (hp1 : p ≠ q1) (hp2 : p ≠ q2) (ho1 : p ≠ o1) (ho2 : p ≠ o2) (hZ : X * Y < wB ^ 13) : jm_C l D ca n_Wh_becomeProduct [.ref h, .ref o1, .ref o2] m 0 0 (fun v m' => v = none ∧ m' = whS m h p (X * Y)) := by
  refine jm_C_of (cd := cd_Wh_becomeProduct) (ini := false) (by decide +kernel) ok_Wh_becomeProduct (fun h => by cases h) (Nat.le_of_ble_eq_true rfl) ?_
  intro X0 hX
  have hux := wu_le X
  have huy := wu_le Y
  have u1 : ∀ g, (uA m p g).2.2.1 o1 1 = nI (wu X) := fun g => by
    show va_up m.2.2.1 p g o1 1 = _
    rw [va_up_ne _ _ (Ne.symm ho1)]; exact V1.2.2
  have u2 : ∀ g, (uA m p g).2.2.1 o2 1 = nI (wu Y) := fun g => by
    show va_up m.2.2.1 p g o2 1 = _
    rw [va_up_ne _ _ (Ne.symm ho2)]; exact V2.2.2
  have r1 : ∀ g, (uA m p g).2.2.1 q1 = wr X := fun g => by
    show va_up m.2.2.1 p g q1 = _
    rw [va_up_ne _ _ (Ne.symm hp1)]; exact V1.2.1
  have r2 : ∀ g, (uA m p g).2.2.1 q2 = wr Y := fun g => by
    show va_up m.2.2.1 p g q2 = _
    rw [va_up_ne _ _ (Ne.symm hp2)]; exact V2.2.1
  have hXY : X * Y < wB ^ (min (wu X + wu Y) 13) := by
    rcases Nat.lt_or_ge (wu X + wu Y) 13 with g | g
    · rw [Nat.min_eq_left (by omega), Nat.pow_add]
      exact Nat.mul_lt_mul'' (wu_lt V1.1) (wu_lt V2.1)
    · rw [Nat.min_eq_right g]; exact hZ
  have fin : X0 112 [(0, .ref h), (1, .ref o1), (2, .ref o2)] [] (uA m p (wr (X * Y))) 0 0 := by
    have key := c_Wh_dropZeros (l := l) (D := D) (ca := ca) (m := uA m p (wr (X * Y))) (h := h) (p := p) (X := X * Y) (f := wu X + wu Y) T (va_up_self _ _ _) (by omega) hXY
    rw [← nI_add, ← u1 (wr (X * Y)), ← u2 (wr (X * Y))] at key
    refine jm_run hX [] 20 ?_
    refine And.intro T1.1 (And.intro T2.1 (And.intro T.1 (And.intro (Nat.le_of_ble_eq_true rfl) (And.intro (Nat.le_of_ble_eq_true rfl) ⟨0, 0, _, Nat.le_refl _, Nat.le_refl _, key, fun v m' hq => ?_⟩))))
    obtain ⟨rfl, rfl⟩ := hq
    exact ⟨Nat.le_refl _, Nat.le_refl _, trivial, rfl, rfl⟩
  -- the outer loop
  have outer : ∀ (d i : Nat), i + d = wu X → X0 10 [(0, .ref h), (1, .ref o1), (2, .ref o2), (3, .int (nI i))] [] (uA m p (wr (X % wB ^ i * Y))) 0 0 := by
    intro d
    induction d with
    | zero =>
      intro i hi
      refine jm_run hX [(112, [0, 1, 2])] 10 ?_
      refine And.intro T1.1 (And.intro (fun h0 => ?_) (fun h0 => ?_))
      · rw [show i = wu X by omega, Nat.mod_eq_of_lt (wu_lt V1.1)]
        exact fin
      · have h0 : ¬ (uA m p (wr (X % wB ^ i * Y))).2.2.1 o1 1 ≤ nI i := h0
        rw [u1] at h0
        exact absurd (nI_le (show wu X ≤ i by omega) (by omega)) h0
    | succ d ihd =>
      intro i hi
      have hi13 : i < 13 := by omega
      generalize hS : X % wB ^ i * Y = S
      generalize hS' : X % wB ^ (i + 1) * Y = S'
      have eS' : S' = S + wl X i * Y * wB ^ i := by
        rw [← hS', ← hS, wl_div X i, Nat.add_mul, Nat.mul_right_comm]
      have hS'13 : S' < wB ^ 13 := by
        rw [← hS']
        exact Nat.lt_of_le_of_lt (Nat.mul_le_mul_right _ (Nat.mod_le _ _)) hZ
      have hSS : S ≤ S' := by omega
      have hS13 : S < wB ^ 13 := by omega
      have hS'e : S' < wB ^ (i + wu Y + 1) := by
        rw [← hS', show i + wu Y + 1 = (i + 1) + wu Y by omega, Nat.pow_add wB (i + 1) (wu Y)]
        exact Nat.mul_lt_mul'' (Nat.mod_lt _ (wB_pos _)) (wu_lt V2.1)
      have eq1 : S' / wB ^ i = S / wB ^ i + wl X i * Y := by
        rw [eS', Nat.add_mul_div_right _ _ (wB_pos i)]
      have hlow : ∀ j, j < i → wl S' j = wl S j := by
        intro j hj
        have e : wB ^ i = wB ^ (j + 1) * wB ^ (i - j - 1) := by
          rw [← Nat.pow_add]; congr 1; omega
        refine wl_congr ?_
        rw [eS', e, Nat.mul_left_comm, Nat.add_mul_mod_self_left]
      generalize hf : wl X i = f at eS' eq1
      have hfB : f < 1073741824 := by rw [← hf]; exact wl_lt X i
      generalize hS1 : S / wB ^ i = S1 at eq1
      let P : Nat → Nat := fun j => S1 % wB ^ j + f * (Y % wB ^ j)
      have hP : ∀ j, P (j + 1) = P j + (wl S1 j + f * wl Y j) * wB ^ j := by
        intro j
        show S1 % wB ^ (j + 1) + f * (Y % wB ^ (j + 1)) = S1 % wB ^ j + f * (Y % wB ^ j) + (wl S1 j + f * wl Y j) * wB ^ j
        rw [wl_div S1 j, wl_div Y j, Nat.mul_add, Nat.add_mul, Nat.mul_assoc]
        omega
      have hPm : ∀ j, wl (P (j + 1)) j = wl S' (i + j) := by
        intro j
        rw [wl_hi, eq1]
        refine wl_congr ?_
        show (S1 % wB ^ (j + 1) + f * (Y % wB ^ (j + 1))) % wB ^ (j + 1) = (S1 + f * Y) % wB ^ (j + 1)
        rw [Nat.add_mod, Nat.mod_mod, Nat.mul_mod, Nat.mod_mod, ← Nat.mul_mod, ← Nat.add_mod]
      have hc : ∀ j, P j / wB ^ j ≤ 1073741824 := by
        intro j
        have h1 : S1 % wB ^ j < wB ^ j := Nat.mod_lt _ (wB_pos j)
        have h2 : Y % wB ^ j < wB ^ j := Nat.mod_lt _ (wB_pos j)
        have h3 : f * (Y % wB ^ j) ≤ f * wB ^ j := Nat.mul_le_mul_left _ (Nat.le_of_lt h2)
        have h4 : P j < wB ^ j * (f + 1) := by
          show S1 % wB ^ j + f * (Y % wB ^ j) < _
          rw [Nat.mul_add, Nat.mul_one, Nat.mul_comm (wB ^ j) f]; omega
        have := Nat.div_lt_of_lt_mul h4
        omega
      have step : ∀ j, ((nI (wl S (i + j))).toInt64 + lN f * (nI (wl Y j)).toInt64) + lN (P j / wB ^ j) = lN ((wl S1 j + f * wl Y j) + P j / wB ^ j) := by
        intro j
        rw [lm_l (wl_lt S (i + j)), lm_l (wl_lt Y j), lN_mul, lN_add, lN_add, wl_hi, hS1]
      have big : ∀ j, (wl S1 j + f * wl Y j) + P j / wB ^ j < 2 ^ 64 := by
        intro j
        have h1 : wl S1 j < 1073741824 := wl_lt S1 j
        have h2 : wl Y j < 1073741824 := wl_lt Y j
        have h3 := hc j
        have h4 : f * wl Y j ≤ 1073741824 * 1073741824 := Nat.mul_le_mul (Nat.le_of_lt hfB) (Nat.le_of_lt h2)
        omega
      -- the end of the inner loop
      have after : X0 106 [(0, .ref h), (1, .ref o1), (2, .ref o2), (3, .int (nI i))] [] (uA m p (wr S')) 0 0 := by
        refine jm_run hX [(10, [0, 1, 2, 3])] 10 ?_
        have := ihd (i + 1) (by omega)
        rw [hS', ← nI_1] at this
        exact this
      have inner : ∀ (e j : Nat), i + j + e = min (i + wu Y + 1) 13 → X0 33 [(0, .ref h), (1, .ref o1), (2, .ref o2), (3, .int (nI i)), (4, .long (lN f)), (6, .long (lN (P j / wB ^ j))), (8, .int (nI j))] [] (uA m p (wm S' S (i + j))) 0 0 := by
        intro e
        induction e with
        | zero =>
          intro j hj
          have hend : wm S' S (i + j) = wr S' := by
            rcases Nat.lt_or_ge (i + wu Y + 1) 13 with g | g
            · have e9 : i + j = i + wu Y + 1 := by omega
              rw [e9]
              exact wm_end hS'e (by omega)
            · have e9 : i + j = 13 := by omega
              rw [e9]
              exact wm_end hS'13 hS13
          rw [hend]
          refine jm_run hX [(106, [0, 1, 2, 3])] 20 ?_
          refine And.intro T2.1 (And.intro (fun h0 => after) (fun h0 => ?_))
          have h0 : ¬ (uA m p (wr S')).2.2.1 o2 1 < nI j := h0
          rw [u2] at h0
          have hj13 : i + j = 13 := by
            rcases Nat.lt_or_ge (wu Y) j with g | g
            · exact absurd (nI_lt g (by omega)) h0
            · omega
          refine And.intro (fun h1 => after) (fun h1 => ?_)
          have h1 : ¬ (13 : Int32) ≤ nI i + nI j := h1
          rw [nI_add, hj13] at h1
          exact absurd (by decide) h1
        | succ e ihe =>
          intro j hj
          have e0 : (nI i + nI j).toNatClampNeg = i + j := by rw [nI_add, nI_c (by omega)]
          have e1 : (uA m p (wm S' S (i + j))).2.2.1 p (nI i + nI j).toNatClampNeg = nI (wl S (i + j)) := by
            rw [e0]; show va_up m.2.2.1 p _ p (i + j) = _; rw [va_up_self, wm_at]
          have k := ihe (j + 1) (by omega)
          rw [← cy_next (t := fun j => wl S1 j + f * wl Y j) (hP j), show i + (j + 1) = (i + j) + 1 by omega, ← wm_s, ← hPm j, ← cy_dig (t := fun j => wl S1 j + f * wl Y j) (hP j), ← uI_uA, ← lm_mask (big j), ← lm_shr (big j), ← step j, ← e1, ← nI_1] at k
          have key := c_Wh_limb (l := l) (D := D) (ca := ca) (m := uA m p (wm S' S (i + j))) (h := o2) (p := q2) (i := j) T2 (r2 _) (by omega)
          refine jm_run hX [(33, [0, 1, 2, 3, 4, 6, 8])] 60 ?_
          refine And.intro T2.1 (And.intro (fun h0 => ?_) (fun _ => ?_))
          · have h0 : (uA m p (wm S' S (i + j))).2.2.1 o2 1 < nI j := h0
            rw [u2] at h0
            exact absurd h0 (nI_nlt (show j ≤ wu Y by omega) (by omega))
          refine And.intro (fun h1 => ?_) (fun _ => ?_)
          · have h1 : (13 : Int32) ≤ nI i + nI j := h1
            rw [nI_add] at h1
            exact absurd h1 (nI_ge (show i + j < 13 by omega) (by decide))
          refine And.intro T.1 ⟨some p, T.2.1, ?_⟩
          refine And.intro T.2.2.1 (And.intro ?_ ?_)
          · show vp_in (nI i + nI j) (m.2.1 p).2
            rw [nI_add]; exact vin13 T.2.2.2 (by omega)
          refine And.intro T2.1 (And.intro (Nat.le_of_ble_eq_true rfl) (And.intro (Nat.le_of_ble_eq_true rfl) ⟨0, 0, _, Nat.le_refl _, Nat.le_refl _, key, fun v m' hq => ?_⟩))
          obtain ⟨rfl, rfl⟩ := hq
          have ej : (if j < 13 then wr Y j else (0 : Int32)) = nI (wl Y j) := by
            by_cases g : j < 13
            · rw [if_pos g]
            · rw [if_neg g, wl_zero V2.1 (by omega)]; rfl
          rw [ej]
          refine And.intro T.1 ⟨some p, T.2.1, ?_⟩
          refine And.intro T.2.2.1 (And.intro ?_ ?_)
          · show vp_in (nI i + nI j) (m.2.1 p).2
            rw [nI_add]; exact vin13 T.2.2.2 (by omega)
          have k2 : X0 33 [(0, .ref h), (1, .ref o1), (2, .ref o2), (3, .int (nI i)), (4, .long (lN f)), (6, .long ((((uA m p (wm S' S (i + j))).2.2.1 p (nI i + nI j).toNatClampNeg).toInt64 + lN f * (nI (wl Y j)).toInt64 + lN (P j / wB ^ j)).toUInt64 >>> ((30 : Int32).toInt64.toUInt64 &&& Int64.toUInt64 63)).toInt64), (8, .int (nI j + 1))] [] (uI (uA m p (wm S' S (i + j))) p (nI i + nI j).toNatClampNeg ((((uA m p (wm S' S (i + j))).2.2.1 p (nI i + nI j).toNatClampNeg).toInt64 + lN f * (nI (wl Y j)).toInt64 + lN (P j / wB ^ j)) &&& 1073741823).toInt32) 0 0 := by
            rw [e0] at k ⊢
            exact k
          exact k2
      have k0 := inner (min (i + wu Y + 1) 13 - i) 0 (by omega)
      have h13e : min (i + wu Y + 1) 13 - i ≥ 0 := by omega
      rw [Nat.add_zero, wm_st hlow, show P 0 / wB ^ 0 = 0 by
        show (S1 % wB ^ 0 + f * (Y % wB ^ 0)) / wB ^ 0 = 0
        rw [Nat.pow_zero, Nat.mod_one, Nat.mod_one, Nat.mul_zero]] at k0
      have ef : ((uA m p (wr S)).2.2.1 q1 (nI i).toNatClampNeg).toInt64 = lN f := by
        rw [nI_c (by omega), r1]
        show (nI (wl X i)).toInt64 = _
        rw [lm_l (wl_lt X i), hf]
      rw [← ef] at k0
      refine jm_run hX [(33, [0, 1, 2, 3, 4, 6, 8])] 30 ?_
      refine And.intro T1.1 (And.intro (fun h0 => ?_) (fun _ => ?_))
      · have h0 : (uA m p (wr S)).2.2.1 o1 1 ≤ nI i := h0
        rw [u1] at h0
        exact absurd h0 (nI_ge (show i < wu X by omega) (by omega))
      refine And.intro T1.1 ⟨some q1, T1.2.1, ?_⟩
      refine And.intro T1.2.2.1 (And.intro (vin13 T1.2.2.2 (by omega)) ?_)
      exact k0
  have k0 := outer (wu X) 0 (by omega)
  rw [Nat.pow_zero, Nat.mod_one, Nat.zero_mul] at k0
  have hfill : (fun i => if i < (m.2.1 p).2 then (0 : Int32) else m.2.2.1 p i) = wr 0 := by
    funext i
    rw [T.2.2.2]
    have e0 : wr 0 i = 0 := by
      show nI (wl 0 i) = 0
      unfold wl
      rw [Nat.zero_div]; rfl
    rw [e0]
    by_cases hi : i < 13
    · rw [if_pos hi]
    · rw [if_neg hi, whR_hi R (by omega)]
  refine jm_run hX [(10, [0, 1, 2, 3])] 30 ?_
  refine And.intro T.1 ⟨some p, T.2.1, ?_⟩
  refine ⟨Nat.le_of_ble_eq_true rfl, Nat.le_of_ble_eq_true rfl, 0, 0, _, Nat.le_refl _, Nat.le_refl _, c_Ar_fill T.2.2.1 (by rw [T.2.2.2]; decide), fun v m' hq => ?_⟩
  obtain ⟨rfl, rfl⟩ := hq
  rw [hfill]
  exact k0
end WH5
end
section
/-! R less F times S, limb by limb, from the limb a on: what is owed, and the limbs. -/
def sO (F S R : Nat) : Nat → Nat
  | 0 => 0
  | j + 1 => (F * wl S j + sO F S R j + 1073741823 - wl R j) / 1073741824
def sW (F S R j : Nat) : Nat := wl R j + sO F S R (j + 1) * 1073741824 - (F * wl S j + sO F S R j)
theorem sO_le {F S R : Nat} (hF : F < wB) : ∀ j, sO F S R j ≤ 1073741824
  | 0 => by show 0 ≤ _; omega
  | j + 1 => by
    have h1 := sO_le (S := S) (R := R) hF j
    have h2 : wl S j < 1073741824 := wl_lt S j
    have h4 : F * wl S j ≤ 1073741823 * 1073741823 := Nat.mul_le_mul (Nat.le_of_lt_succ hF) (by omega)
    show (F * wl S j + sO F S R j + 1073741823 - wl R j) / 1073741824 ≤ _
    omega
theorem sW_lt (F S R j : Nat) : sW F S R j < wB := by
  have h3 : wl R j < 1073741824 := wl_lt R j
  show wl R j + (F * wl S j + sO F S R j + 1073741823 - wl R j) / 1073741824 * 1073741824 - (F * wl S j + sO F S R j) < 1073741824
  omega
theorem sW_eq (F S R j : Nat) : sW F S R j + (F * wl S j + sO F S R j) = wl R j + sO F S R (j + 1) * 1073741824 := by
  have h3 : wl R j < 1073741824 := wl_lt R j
  show wl R j + (F * wl S j + sO F S R j + 1073741823 - wl R j) / 1073741824 * 1073741824 - (F * wl S j + sO F S R j) + (F * wl S j + sO F S R j) = wl R j + (F * wl S j + sO F S R j + 1073741823 - wl R j) / 1073741824 * 1073741824
  omega
theorem sW_sum (F S R : Nat) : ∀ n, wv (sW F S R) n + F * (S % wB ^ n) = R % wB ^ n + sO F S R n * wB ^ n
  | 0 => by
    show 0 + F * (S % 1) = R % 1 + 0 * 1
    rw [Nat.mod_one, Nat.mod_one]; omega
  | n + 1 => by
    have ih := sW_sum F S R n
    have he := sW_eq F S R n
    have hm : (sW F S R n + (F * wl S n + sO F S R n)) * wB ^ n = (wl R n + sO F S R (n + 1) * 1073741824) * wB ^ n := by rw [he]
    have e1 : sO F S R (n + 1) * wB ^ (n + 1) = sO F S R (n + 1) * 1073741824 * wB ^ n := by
      rw [Nat.pow_succ, Nat.mul_comm (wB ^ n), Nat.mul_assoc]
    show wv (sW F S R) n + sW F S R n * wB ^ n + F * (S % wB ^ (n + 1)) = R % wB ^ (n + 1) + sO F S R (n + 1) * wB ^ (n + 1)
    rw [wl_div S n, wl_div R n, e1, Nat.mul_add, ← Nat.mul_assoc]
    rw [Nat.add_mul, Nat.add_mul, Nat.add_mul] at hm
    omega
section WH6
variable {l : Launch} {D : va_G} {ca : Nat → ClassId}
theorem c_Wh_subtractTimes {m : jm_M} {h p o q R S F a n : Nat} (T : whT m h p) (hrow : m.2.2.1 p = wr R) (hR : R < wB ^ 13) (To : whT m o q) (Vo : whV m o q S) (hpq : p ≠ q) (hpo : p ≠ o) (hF : F < wB) (hn : n = min (wu S + 1) (13 - a)) (ha : a + wu S ≤ 13) (hRn : R / wB ^ a < wB ^ n) : jm_C l D ca n_Wh_subtractTimes [.ref h, .ref o, .long (lN F), .int (nI a)] m 0 0 (fun v m' => ∃ W ow, W + F * S = R / wB ^ a + ow * wB ^ n ∧ W < wB ^ n ∧ ow ≤ 1073741824 ∧ v = some (.int (nI ow)) ∧ m' = uA m p (wr (R % wB ^ a + W * wB ^ a))) := by
  refine jm_C_of (cd := cd_Wh_subtractTimes) (ini := false) (by decide +kernel) ok_Wh_subtractTimes (fun h => by cases h) (Nat.le_of_ble_eq_true rfl) ?_
  intro X0 hX
  have hus := wu_le S
  have hSn : S < wB ^ n := Nat.lt_of_lt_of_le (wu_lt Vo.1) (Nat.pow_le_pow_right (by decide) (by omega))
  generalize hR1 : R / wB ^ a = R1 at hRn
  have hsum := sW_sum F S R1 n
  rw [Nat.mod_eq_of_lt hSn, Nat.mod_eq_of_lt hRn] at hsum
  have hWlt : wv (sW F S R1) n < wB ^ n := wv_lt (fun i _ => sW_lt F S R1 i)
  generalize hR' : R % wB ^ a + wv (sW F S R1) n * wB ^ a = R'
  have hR'a : R' / wB ^ a = wv (sW F S R1) n := by rw [← hR', wj_div]
  have hlow : ∀ i, i < a → wl R' i = wl R i := fun i hi => by rw [← hR', wl_lo hi]
  have hdig : ∀ j, j < n → wl R' (a + j) = sW F S R1 j := fun j hj => by
    rw [wl_hi, hR'a, wl_wv (fun i _ => sW_lt F S R1 i) j hj]
  have hRan : R < wB ^ (a + n) := by
    rw [Nat.pow_add]
    have := Nat.lt_mul_div_succ R (wB_pos a)
    rw [hR1] at this
    exact Nat.lt_of_lt_of_le this (Nat.mul_le_mul_left _ hRn)
  have hR'an : R' < wB ^ (a + n) := by
    rw [Nat.pow_add]
    have := Nat.lt_mul_div_succ R' (wB_pos a)
    rw [hR'a] at this
    exact Nat.lt_of_lt_of_le this (Nat.mul_le_mul_left _ hWlt)
  have us : ∀ g, (uA m p g).2.2.1 o 1 = nI (wu S) := fun g => by
    show va_up m.2.2.1 p g o 1 = _
    rw [va_up_ne _ _ (Ne.symm hpo)]; exact Vo.2.2
  have rs : ∀ g, (uA m p g).2.2.1 q = wr S := fun g => by
    show va_up m.2.2.1 p g q = _
    rw [va_up_ne _ _ (Ne.symm hpq)]; exact Vo.2.1
  have fin : X0 82 [(5, .long (lN (sO F S R1 n)))] [] (uA m p (wr R')) 0 0 := by
    refine jm_run hX [] 10 ?_
    refine ⟨Nat.le_refl _, Nat.le_refl _, trivial, wv (sW F S R1) n, sO F S R1 n, ?_, hWlt, sO_le hF n, ?_, ?_⟩
    · rw [hR1]; exact hsum
    · show some (Value.int (lN (sO F S R1 n)).toInt32) = _
      rw [lN_i]
    · rw [hR']
  have loop : ∀ (e j : Nat), j + e = n → X0 6 [(0, .ref h), (1, .ref o), (2, .long (lN F)), (4, .int (nI a)), (5, .long (lN (sO F S R1 j))), (7, .int (nI j))] [] (uA m p (wm R' R (a + j))) 0 0 := by
    intro e
    induction e with
    | zero =>
      intro j hj
      rw [show j = n by omega, wm_end hR'an hRan]
      refine jm_run hX [(82, [5])] 20 ?_
      refine And.intro To.1 (And.intro (fun h0 => fin) (fun h0 => ?_))
      have h0 : ¬ (uA m p (wr R')).2.2.1 o 1 < nI n := h0
      rw [us] at h0
      have hn13 : a + n = 13 := by
        rcases Nat.lt_or_ge (wu S) n with g | g
        · exact absurd (nI_lt g (by omega)) h0
        · omega
      refine And.intro (fun h1 => fin) (fun h1 => ?_)
      have h1 : ¬ (13 : Int32) ≤ nI a + nI n := h1
      rw [nI_add, hn13] at h1
      exact absurd (by decide) h1
    | succ e ih =>
      intro j hj
      have e0 : (nI a + nI j).toNatClampNeg = a + j := by rw [nI_add, nI_c (by omega)]
      have e1 : (uA m p (wm R' R (a + j))).2.2.1 p (nI a + nI j).toNatClampNeg = nI (wl R (a + j)) := by
        rw [e0]; show va_up m.2.2.1 p _ p (a + j) = _; rw [va_up_self, wm_at]
      have hR1j : wl R (a + j) = wl R1 j := by rw [wl_hi, hR1]
      have hst := sW_eq F S R1 j
      have b1 : wl R1 j < 1073741824 := wl_lt R1 j
      have b2 : wl S j < 1073741824 := wl_lt S j
      have b3 : F * wl S j ≤ 1073741823 * 1073741823 := Nat.mul_le_mul (Nat.le_of_lt_succ hF) (by omega)
      have b4 := sO_le (S := S) (R := R1) hF j
      have b5 := sO_le (S := S) (R := R1) hF (j + 1)
      have hleft : ((nI (wl R (a + j))).toInt64 - (nI (wl S j)).toInt64 * lN F - lN (sO F S R1 j)).toInt = (sW F S R1 j : Int) - (sO F S R1 (j + 1) : Nat) * 1073741824 := by
        rw [lm_l (wl_lt R (a + j)), lm_l (wl_lt S j), lN_mul, lz_sub3, Nat.mul_comm (wl S j) F, hR1j, lz_sub (by omega) (by omega)]
        omega
      have k := ih (j + 1) (by omega)
      rw [show a + (j + 1) = (a + j) + 1 by omega, ← wm_s, hdig j (by omega), ← uI_uA, ← lz_mask (sW_lt F S R1 j) hleft, ← lz_shr (sW_lt F S R1 j) (by omega) hleft, ← e1, ← nI_1] at k
      have key := c_Wh_limb (l := l) (D := D) (ca := ca) (m := uA m p (wm R' R (a + j))) (h := o) (p := q) (i := j) To (rs _) (by omega)
      refine jm_run hX [(6, [0, 1, 2, 4, 5, 7])] 60 ?_
      refine And.intro To.1 (And.intro (fun h0 => ?_) (fun _ => ?_))
      · have h0 : (uA m p (wm R' R (a + j))).2.2.1 o 1 < nI j := h0
        rw [us] at h0
        exact absurd h0 (nI_nlt (show j ≤ wu S by omega) (by omega))
      refine And.intro (fun h1 => ?_) (fun _ => ?_)
      · have h1 : (13 : Int32) ≤ nI a + nI j := h1
        rw [nI_add] at h1
        exact absurd h1 (nI_ge (show a + j < 13 by omega) (by decide))
      refine And.intro T.1 ⟨some p, T.2.1, ?_⟩
      refine And.intro T.2.2.1 (And.intro ?_ ?_)
      · show vp_in (nI a + nI j) (m.2.1 p).2
        rw [nI_add]; exact vin13 T.2.2.2 (by omega)
      refine And.intro To.1 (And.intro (Nat.le_of_ble_eq_true rfl) (And.intro (Nat.le_of_ble_eq_true rfl) ⟨0, 0, _, Nat.le_refl _, Nat.le_refl _, key, fun v m' hq => ?_⟩))
      obtain ⟨rfl, rfl⟩ := hq
      have ej : (if j < 13 then wr S j else (0 : Int32)) = nI (wl S j) := by
        by_cases g : j < 13
        · rw [if_pos g]
        · rw [if_neg g, wl_zero Vo.1 (by omega)]; rfl
      rw [ej]
      refine And.intro T.1 ⟨some p, T.2.1, ?_⟩
      refine And.intro T.2.2.1 (And.intro ?_ ?_)
      · show vp_in (nI a + nI j) (m.2.1 p).2
        rw [nI_add]; exact vin13 T.2.2.2 (by omega)
      have k2 : X0 6 [(0, .ref h), (1, .ref o), (2, .long (lN F)), (4, .int (nI a)), (5, .long (-((((uA m p (wm R' R (a + j))).2.2.1 p (nI a + nI j).toNatClampNeg).toInt64 - (nI (wl S j)).toInt64 * lN F - lN (sO F S R1 j)) >>> ((30 : Int32).toInt64 &&& 63)))), (7, .int (nI j + 1))] [] (uI (uA m p (wm R' R (a + j))) p (nI a + nI j).toNatClampNeg ((((uA m p (wm R' R (a + j))).2.2.1 p (nI a + nI j).toNatClampNeg).toInt64 - (nI (wl S j)).toInt64 * lN F - lN (sO F S R1 j)) &&& 1073741823).toInt32) 0 0 := by
        rw [e0] at k ⊢
        exact k
      exact k2
  have k0 := loop n 0 (by omega)
  rw [Nat.add_zero, wm_st hlow, ← hrow, uA_id] at k0
  refine jm_run hX [(6, [0, 1, 2, 4, 5, 7])] 20 ?_
  exact k0
theorem c_Wh_addAt {m : jm_M} {h p o q R S a n : Nat} (T : whT m h p) (hrow : m.2.2.1 p = wr R) (hR : R < wB ^ 13) (To : whT m o q) (Vo : whV m o q S) (hpq : p ≠ q) (hpo : p ≠ o) (hn : n = min (wu S + 1) (13 - a)) (ha : a + wu S ≤ 13) (hRn : R / wB ^ a < wB ^ n) : jm_C l D ca n_Wh_addAt [.ref h, .ref o, .int (nI a)] m 0 0 (fun v m' => v = some (.int (nI ((R / wB ^ a + S) / wB ^ n))) ∧ m' = uA m p (wr (R % wB ^ a + (R / wB ^ a + S) % wB ^ n * wB ^ a))) := by
  refine jm_C_of (cd := cd_Wh_addAt) (ini := false) (by decide +kernel) ok_Wh_addAt (fun h => by cases h) (Nat.le_of_ble_eq_true rfl) ?_
  intro X0 hX
  have hus := wu_le S
  have hSn : S < wB ^ n := Nat.lt_of_lt_of_le (wu_lt Vo.1) (Nat.pow_le_pow_right (by decide) (by omega))
  generalize hR1 : R / wB ^ a = R1 at hRn
  generalize hR' : R % wB ^ a + (R1 + S) % wB ^ n * wB ^ a = R'
  have hR'a : R' / wB ^ a = (R1 + S) % wB ^ n := by rw [← hR', wj_div]
  have hWlt : (R1 + S) % wB ^ n < wB ^ n := Nat.mod_lt _ (wB_pos n)
  have hlow : ∀ i, i < a → wl R' i = wl R i := fun i hi => by rw [← hR', wl_lo hi]
  let P : Nat → Nat := fun j => R1 % wB ^ j + S % wB ^ j
  have hP : ∀ j, P (j + 1) = P j + (wl R1 j + wl S j) * wB ^ j := by
    intro j
    show R1 % wB ^ (j + 1) + S % wB ^ (j + 1) = R1 % wB ^ j + S % wB ^ j + (wl R1 j + wl S j) * wB ^ j
    rw [wl_div R1 j, wl_div S j, Nat.add_mul]
    omega
  have hPm : ∀ j, j < n → wl (P (j + 1)) j = wl R' (a + j) := by
    intro j hj
    rw [wl_hi, hR'a]
    refine wl_congr ?_
    have e : wB ^ n = wB ^ (j + 1) * wB ^ (n - j - 1) := by
      rw [← Nat.pow_add]; congr 1; omega
    show (R1 % wB ^ (j + 1) + S % wB ^ (j + 1)) % wB ^ (j + 1) = (R1 + S) % wB ^ n % wB ^ (j + 1)
    rw [e, Nat.mod_mul_right_mod, ← Nat.add_mod]
  have hc : ∀ j, P j / wB ^ j ≤ 1 := by
    intro j
    have h1 : R1 % wB ^ j < wB ^ j := Nat.mod_lt _ (wB_pos j)
    have h2 : S % wB ^ j < wB ^ j := Nat.mod_lt _ (wB_pos j)
    have h4 : P j < wB ^ j * 2 := by
      show R1 % wB ^ j + S % wB ^ j < _
      omega
    have := Nat.div_lt_of_lt_mul h4
    omega
  have hPn : P n / wB ^ n = (R1 + S) / wB ^ n := by
    show (R1 % wB ^ n + S % wB ^ n) / wB ^ n = _
    rw [Nat.mod_eq_of_lt hRn, Nat.mod_eq_of_lt hSn]
  have hRan : R < wB ^ (a + n) := by
    rw [Nat.pow_add]
    have := Nat.lt_mul_div_succ R (wB_pos a)
    rw [hR1] at this
    exact Nat.lt_of_lt_of_le this (Nat.mul_le_mul_left _ hRn)
  have hR'an : R' < wB ^ (a + n) := by
    rw [Nat.pow_add]
    have := Nat.lt_mul_div_succ R' (wB_pos a)
    rw [hR'a] at this
    exact Nat.lt_of_lt_of_le this (Nat.mul_le_mul_left _ hWlt)
  have us : ∀ g, (uA m p g).2.2.1 o 1 = nI (wu S) := fun g => by
    show va_up m.2.2.1 p g o 1 = _
    rw [va_up_ne _ _ (Ne.symm hpo)]; exact Vo.2.2
  have rs : ∀ g, (uA m p g).2.2.1 q = wr S := fun g => by
    show va_up m.2.2.1 p g q = _
    rw [va_up_ne _ _ (Ne.symm hpq)]; exact Vo.2.1
  have fin : X0 72 [(3, .int (nI (P n / wB ^ n)))] [] (uA m p (wr R')) 0 0 := by
    refine jm_run hX [] 10 ?_
    refine ⟨Nat.le_refl _, Nat.le_refl _, trivial, ?_, ?_⟩
    · rw [hR1, hPn]
    · rw [hR1, hR']
  have loop : ∀ (e j : Nat), j + e = n → X0 5 [(0, .ref h), (1, .ref o), (2, .int (nI a)), (3, .int (nI (P j / wB ^ j))), (4, .int (nI j))] [] (uA m p (wm R' R (a + j))) 0 0 := by
    intro e
    induction e with
    | zero =>
      intro j hj
      rw [show j = n by omega, wm_end hR'an hRan]
      refine jm_run hX [(72, [3])] 20 ?_
      refine And.intro To.1 (And.intro (fun h0 => fin) (fun h0 => ?_))
      have h0 : ¬ (uA m p (wr R')).2.2.1 o 1 < nI n := h0
      rw [us] at h0
      have hn13 : a + n = 13 := by
        rcases Nat.lt_or_ge (wu S) n with g | g
        · exact absurd (nI_lt g (by omega)) h0
        · omega
      refine And.intro (fun h1 => fin) (fun h1 => ?_)
      have h1 : ¬ (13 : Int32) ≤ nI a + nI n := h1
      rw [nI_add, hn13] at h1
      exact absurd (by decide) h1
    | succ e ih =>
      intro j hj
      have e0 : (nI a + nI j).toNatClampNeg = a + j := by rw [nI_add, nI_c (by omega)]
      have e1 : (uA m p (wm R' R (a + j))).2.2.1 p (nI a + nI j).toNatClampNeg = nI (wl R (a + j)) := by
        rw [e0]; show va_up m.2.2.1 p _ p (a + j) = _; rw [va_up_self, wm_at]
      have hR1j : wl R (a + j) = wl R1 j := by rw [wl_hi, hR1]
      have b1 : wl R1 j < 1073741824 := wl_lt R1 j
      have b2 : wl S j < 1073741824 := wl_lt S j
      have b4 := hc j
      have hs : nI (wl R (a + j)) + nI (wl S j) + nI (P j / wB ^ j) = nI ((wl R1 j + wl S j) + P j / wB ^ j) := by
        rw [hR1j, nI_add, nI_add]
      have hmk : ((nI ((wl R1 j + wl S j) + P j / wB ^ j)).toInt64 &&& 1073741823).toInt32 = nI (((wl R1 j + wl S j) + P j / wB ^ j) % wB) := by
        rw [nI_l (by omega), lm_mask (by omega)]
      have hsh : ((nI ((wl R1 j + wl S j) + P j / wB ^ j)).toUInt32 >>> ((30 : Int32).toUInt32 &&& Int32.toUInt32 31)).toInt32 = nI (((wl R1 j + wl S j) + P j / wB ^ j) / wB) := pk_ushrN (by omega) 30 30 (by decide)
      have k := ih (j + 1) (by omega)
      rw [← cy_next (t := fun j => wl R1 j + wl S j) (hP j), show a + (j + 1) = (a + j) + 1 by omega, ← wm_s, ← hPm j (by omega), ← cy_dig (t := fun j => wl R1 j + wl S j) (hP j), ← uI_uA, ← hmk, ← hsh, ← hs, ← e1, ← nI_1] at k
      have key := c_Wh_limb (l := l) (D := D) (ca := ca) (m := uA m p (wm R' R (a + j))) (h := o) (p := q) (i := j) To (rs _) (by omega)
      refine jm_run hX [(5, [0, 1, 2, 3, 4])] 60 ?_
      refine And.intro To.1 (And.intro (fun h0 => ?_) (fun _ => ?_))
      · have h0 : (uA m p (wm R' R (a + j))).2.2.1 o 1 < nI j := h0
        rw [us] at h0
        exact absurd h0 (nI_nlt (show j ≤ wu S by omega) (by omega))
      refine And.intro (fun h1 => ?_) (fun _ => ?_)
      · have h1 : (13 : Int32) ≤ nI a + nI j := h1
        rw [nI_add] at h1
        exact absurd h1 (nI_ge (show a + j < 13 by omega) (by decide))
      refine And.intro T.1 ⟨some p, T.2.1, ?_⟩
      refine And.intro T.2.2.1 (And.intro ?_ ?_)
      · show vp_in (nI a + nI j) (m.2.1 p).2
        rw [nI_add]; exact vin13 T.2.2.2 (by omega)
      refine And.intro To.1 (And.intro (Nat.le_of_ble_eq_true rfl) (And.intro (Nat.le_of_ble_eq_true rfl) ⟨0, 0, _, Nat.le_refl _, Nat.le_refl _, key, fun v m' hq => ?_⟩))
      obtain ⟨rfl, rfl⟩ := hq
      have ej : (if j < 13 then wr S j else (0 : Int32)) = nI (wl S j) := by
        by_cases g : j < 13
        · rw [if_pos g]
        · rw [if_neg g, wl_zero Vo.1 (by omega)]; rfl
      rw [ej]
      refine And.intro T.1 ⟨some p, T.2.1, ?_⟩
      refine And.intro T.2.2.1 (And.intro ?_ ?_)
      · show vp_in (nI a + nI j) (m.2.1 p).2
        rw [nI_add]; exact vin13 T.2.2.2 (by omega)
      have k2 : X0 5 [(0, .ref h), (1, .ref o), (2, .int (nI a)), (3, .int (((uA m p (wm R' R (a + j))).2.2.1 p (nI a + nI j).toNatClampNeg + nI (wl S j) + nI (P j / wB ^ j)).toUInt32 >>> ((30 : Int32).toUInt32 &&& Int32.toUInt32 31)).toInt32), (4, .int (nI j + 1))] [] (uI (uA m p (wm R' R (a + j))) p (nI a + nI j).toNatClampNeg (((uA m p (wm R' R (a + j))).2.2.1 p (nI a + nI j).toNatClampNeg + nI (wl S j) + nI (P j / wB ^ j)).toInt64 &&& 1073741823).toInt32) 0 0 := by
        rw [e0] at k ⊢
        exact k
      exact k2
  have k0 := loop n 0 (by omega)
  rw [Nat.add_zero, wm_st hlow, ← hrow, uA_id, show P 0 / wB ^ 0 = 0 by
    show (R1 % wB ^ 0 + S % wB ^ 0) / wB ^ 0 = 0
    rw [Nat.pow_zero, Nat.mod_one, Nat.mod_one]] at k0
  refine jm_run hX [(5, [0, 1, 2, 3, 4])] 20 ?_
  exact k0
end WH6
end
section
/-! The class's things, by numbers: 0 ShareSolve, 1 Line, 2 Flow, 3 Solved, 4 Division; Line's arrays 5 outs, 6 joins, 7 shares, 8 crushed, 9 becomes, 10 feeds, 11 spanned, 12 lows, 13 highs, 14 getsAway; Flow's 15 scale, 16 moves (rows 17 ..), 26 leaves (27 ..), 36 turns (37 ..), 40 cells; Solved's 41 atPorts, 42 loads; the whole numbers i (0 .. 131): 100 + 2 i, their limbs 101 + 2 i. Numbers: 0 .. 107 cells, 108 below, 109 first, 110 second, 111 passing, 112 product, 113 square, 114 quotient, 115 rest, 116 shifted, 117 next, 118 Solved.below, 119 .. atPorts, 128 .. loads, 131 sum. -/
def kdL : List (Nat × Nat) := [(5, 0), (2, 0), (1, 0), (3, 0), (0, 0), (50, 3), (50, 9), (50, 27), (50, 9), (50, 9), (51, 9), (52, 3), (51, 3), (51, 3), (52, 9), (50, 9), (54, 9), (50, 9), (50, 9), (50, 9), (50, 9), (50, 9), (50, 9), (50, 9), (50, 9), (50, 9), (54, 9), (50, 9), (50, 9), (50, 9), (50, 9), (50, 9), (50, 9), (50, 9), (50, 9), (50, 9), (54, 3), (50, 9), (50, 9), (50, 9), (53, 108), (53, 9), (53, 3)]
def kd (k : Nat) : Nat × Nat := if k < 43 then kdL.getD k (0, 0) else if k % 2 = 0 then (4, 0) else (50, 13)
def kin (k : Nat) : Prop := k < 43 ∨ (100 ≤ k ∧ k < 364)
def rfL : List (Nat × Nat × Nat) := [(0, 0, 1), (0, 1, 2), (0, 2, 3), (1, 3, 5), (1, 4, 6), (1, 5, 7), (1, 6, 8), (1, 7, 9), (1, 8, 10), (1, 9, 11), (1, 10, 12), (1, 11, 13), (1, 12, 14), (2, 0, 4), (2, 1, 316), (2, 2, 1), (2, 4, 15), (2, 5, 16), (2, 6, 26), (2, 7, 36), (2, 8, 40), (2, 9, 318), (2, 10, 320), (2, 11, 322), (2, 12, 324), (2, 13, 326), (4, 0, 328), (4, 1, 330), (4, 2, 332), (4, 3, 334), (3, 3, 336), (3, 4, 41), (3, 5, 42), (3, 6, 362)]
/-- the addresses ad hold these things, apart, linked so -/
def SST (m : jm_M) (ad : Nat → Nat) : Prop :=
  (∀ k, kin k → ad k ∈ m.1 ∧ m.2.1 (ad k) = kd k) ∧ (∀ i j, kin i → kin j → ad i = ad j → i = j) ∧ (∀ q ∈ rfL, m.2.2.2.2 (ad q.1) q.2.1 = some (ad q.2.2)) ∧ (∀ i, i < 132 → m.2.2.2.2 (ad (100 + 2 * i)) 0 = some (ad (101 + 2 * i))) ∧
  (∀ i, i < 9 → m.2.2.2.2 (ad 16) i = some (ad (17 + i))) ∧ (∀ i, i < 9 → m.2.2.2.2 (ad 26) i = some (ad (27 + i))) ∧ (∀ i, i < 3 → m.2.2.2.2 (ad 36) i = some (ad (37 + i))) ∧ (∀ i, i < 108 → m.2.2.2.2 (ad 40) i = some (ad (100 + 2 * i))) ∧ (∀ i, i < 9 → m.2.2.2.2 (ad 41) i = some (ad (338 + 2 * i))) ∧ (∀ i, i < 3 → m.2.2.2.2 (ad 42) i = some (ad (356 + 2 * i)))
theorem SST.ok {m : jm_M} {ad : Nat → Nat} (h : SST m ad) (k : Nat) (hk : kin k) : jm_ok m (ad k) (kd k).1 := ⟨(h.1 k hk).1, by rw [(h.1 k hk).2]⟩
theorem SST.len {m : jm_M} {ad : Nat → Nat} (h : SST m ad) (k : Nat) (hk : kin k) : (m.2.1 (ad k)).2 = (kd k).2 := by rw [(h.1 k hk).2]
theorem SST.ne {m : jm_M} {ad : Nat → Nat} (h : SST m ad) {i j : Nat} (hi : kin i) (hj : kin j) (hij : i ≠ j) : ad i ≠ ad j := fun e => hij (h.2.1 i j hi hj e)
theorem kin_o {i : Nat} (h : i < 132) : kin (100 + 2 * i) := Or.inr (by omega)
theorem kin_p {i : Nat} (h : i < 132) : kin (101 + 2 * i) := Or.inr (by omega)
theorem kd_o (i : Nat) : kd (100 + 2 * i) = (4, 0) := by
  unfold kd
  rw [if_neg (by omega), if_pos (by omega)]
theorem kd_p (i : Nat) : kd (101 + 2 * i) = (50, 13) := by
  unfold kd
  rw [if_neg (by omega), if_neg (by omega)]
theorem SST.wh {m : jm_M} {ad : Nat → Nat} (h : SST m ad) (i : Nat) (hi : i < 132) : whT m (ad (100 + 2 * i)) (ad (101 + 2 * i)) := by
  have h1 := h.1 _ (kin_o hi)
  have h2 := h.1 _ (kin_p hi)
  rw [kd_o] at h1
  rw [kd_p] at h2
  exact ⟨⟨h1.1, by rw [h1.2]⟩, h.2.2.2.1 i hi, ⟨h2.1, by rw [h2.2]⟩, by rw [h2.2]⟩
/-- the whole numbers V, but perhaps number x -/
def WVx (m : jm_M) (ad : Nat → Nat) (x : Nat) (V : Nat → Nat) : Prop := ∀ i, i < 132 → i ≠ x → whV m (ad (100 + 2 * i)) (ad (101 + 2 * i)) (V i)
def WV (m : jm_M) (ad : Nat → Nat) (V : Nat → Nat) : Prop := ∀ i, i < 132 → whV m (ad (100 + 2 * i)) (ad (101 + 2 * i)) (V i)
/-- only whole numbers have changed -/
def FRW (ad : Nat → Nat) (m m' : jm_M) : Prop := m'.1 = m.1 ∧ m'.2.1 = m.2.1 ∧ m'.2.2.2.2 = m.2.2.2.2 ∧ m'.2.2.2.1 = m.2.2.2.1 ∧ ∀ b, (∀ k, 100 ≤ k → k < 364 → b ≠ ad k) → m'.2.2.1 b = m.2.2.1 b
theorem FRW.rf {ad : Nat → Nat} {m : jm_M} : FRW ad m m := ⟨rfl, rfl, rfl, rfl, fun _ _ => rfl⟩
theorem FRW.tr {ad : Nat → Nat} {m1 m2 m3 : jm_M} (h : FRW ad m1 m2) (g : FRW ad m2 m3) : FRW ad m1 m3 :=
  ⟨g.1.trans h.1, g.2.1.trans h.2.1, g.2.2.1.trans h.2.2.1, g.2.2.2.1.trans h.2.2.2.1, fun b hb => (g.2.2.2.2 b hb).trans (h.2.2.2.2 b hb)⟩
theorem FRW.S {ad : Nat → Nat} {m m' : jm_M} (h : FRW ad m m') (S : SST m ad) : SST m' ad := by
  obtain ⟨h1, h2, h3, h4, h5⟩ := h
  unfold SST at S ⊢
  rw [h1, h2, h3]
  exact S
theorem FRW.uA {ad : Nat → Nat} {m : jm_M} {i : Nat} {g : Nat → Int32} (hi : i < 132) : FRW ad m (uA m (ad (101 + 2 * i)) g) :=
  ⟨rfl, rfl, rfl, rfl, fun b hb => va_up_ne _ _ (hb (101 + 2 * i) (by omega) (by omega))⟩
theorem FRW.uI {ad : Nat → Nat} {m : jm_M} {i k : Nat} {x : Int32} (hi : i < 132) : FRW ad m (uI m (ad (100 + 2 * i)) k x) :=
  ⟨rfl, rfl, rfl, rfl, fun b hb => va_up_ne _ _ (hb (100 + 2 * i) (by omega) (by omega))⟩
theorem FRW.wS {ad : Nat → Nat} {m : jm_M} {i X : Nat} (hi : i < 132) : FRW ad m (whS m (ad (100 + 2 * i)) (ad (101 + 2 * i)) X) := (FRW.uA hi).tr (FRW.uI hi)
theorem WV.x {m : jm_M} {ad V : Nat → Nat} (h : WV m ad V) (x : Nat) : WVx m ad x V := fun i hi _ => h i hi
/-- number i becomes X -/
theorem WVx.set {m : jm_M} {ad V : Nat → Nat} {x i X : Nat} (S : SST m ad) (h : WVx m ad x V) (hi : i < 132) (hX : X < wB ^ 13) : WVx (whS m (ad (100 + 2 * i)) (ad (101 + 2 * i)) X) ad x (va_up V i X) := by
  intro j hj hjx
  by_cases e : j = i
  · subst e
    rw [va_up_self]
    exact whS_V (S.wh j hj) hX
  · rw [va_up_ne _ _ e]
    have hv := h j hj hjx
    refine ⟨hv.1, ?_, ?_⟩
    · show va_up (va_up m.2.2.1 (ad (101 + 2 * i)) _) (ad (100 + 2 * i)) _ (ad (101 + 2 * j)) = _
      rw [va_up_ne _ _ (S.ne (kin_p hj) (kin_o hi) (by omega)), va_up_ne _ _ (S.ne (kin_p hj) (kin_p hi) (by omega))]
      exact hv.2.1
    · show va_up (va_up m.2.2.1 (ad (101 + 2 * i)) _) (ad (100 + 2 * i)) _ (ad (100 + 2 * j)) 1 = _
      rw [va_up_ne _ _ (S.ne (kin_o hj) (kin_o hi) (by omega)), va_up_ne _ _ (S.ne (kin_o hj) (kin_p hi) (by omega))]
      exact hv.2.2
theorem WV.set {m : jm_M} {ad V : Nat → Nat} {i X : Nat} (S : SST m ad) (h : WV m ad V) (hi : i < 132) (hX : X < wB ^ 13) : WV (whS m (ad (100 + 2 * i)) (ad (101 + 2 * i)) X) ad (va_up V i X) := fun j hj => WVx.set (x := 132) S (h.x 132) hi hX j hj (by omega)
/-- number x has a value again -/
theorem WVx.fix {m : jm_M} {ad V : Nat → Nat} {x X : Nat} (S : SST m ad) (h : WVx m ad x V) (hx : x < 132) (hX : X < wB ^ 13) : WV (whS m (ad (100 + 2 * x)) (ad (101 + 2 * x)) X) ad (va_up V x X) := by
  intro j hj
  by_cases e : j = x
  · subst e
    rw [va_up_self]
    exact whS_V (S.wh j hj) hX
  · exact WVx.set S h hx hX j hj e
theorem WVx.row {m : jm_M} {ad V : Nat → Nat} {x : Nat} {g : Nat → Int32} (S : SST m ad) (h : WVx m ad x V) (hx : x < 132) : WVx (uA m (ad (101 + 2 * x)) g) ad x V := by
  intro j hj hjx
  have hv := h j hj hjx
  refine ⟨hv.1, ?_, ?_⟩
  · show va_up m.2.2.1 (ad (101 + 2 * x)) g (ad (101 + 2 * j)) = _
    rw [va_up_ne _ _ (S.ne (kin_p hj) (kin_p hx) (by omega))]
    exact hv.2.1
  · show va_up m.2.2.1 (ad (101 + 2 * x)) g (ad (100 + 2 * j)) 1 = _
    rw [va_up_ne _ _ (S.ne (kin_o hj) (kin_p hx) (by omega))]
    exact hv.2.2
end
section
/-! Division: leading zeros, a guess of a digit, the digit. -/
theorem nI_less {x k : Nat} (h : k ≤ x) : nI x + (-(nI k)) = nI (x - k) := by
  rw [← pk_sub h, Int32.sub_eq_add_neg]
theorem lN_min {a b : Nat} (ha : a < 2 ^ 63) (hb : b < 2 ^ 63) : (if lN b < lN a then lN b else lN a) = lN (min a b) := by
  by_cases h : b < a
  · rw [if_pos ((pk_lLT hb ha).mpr h), Nat.min_eq_right (by omega)]
  · rw [if_neg (fun z => h ((pk_lLT hb ha).mp z)), Nat.min_eq_left (by omega)]
section DV
variable {l : Launch} {D : va_G} {ca : Nat → ClassId}
theorem c_In_nlz {m : jm_M} {n : Nat} (hn0 : 0 < n) (hn : n < 2 ^ 30) : jm_C l D ca n_In_numberOfLeadingZeros [.int (nI n)] m 0 0 (fun v m' => m' = m ∧ ∃ k, 2 ≤ k ∧ k ≤ 31 ∧ v = some (.int (nI k)) ∧ 2 ^ (31 - k) ≤ n ∧ n < 2 ^ (32 - k)) := by
  refine jm_C_of (cd := cd_In_numberOfLeadingZeros) (ini := false) (by decide +kernel) ok_In_numberOfLeadingZeros (fun h => by cases h) (Nat.le_of_ble_eq_true rfl) ?_
  intro X hX
  have hdd : ∀ s t, n / 2 ^ s / 2 ^ t = n / 2 ^ (s + t) := fun s t => by rw [Nat.div_div_eq_div_mul, ← Nat.pow_add]
  have hle : ∀ s, n / 2 ^ s ≤ n := fun s => Nat.div_le_self _ _
  have s73 : ∀ s, s ≤ 30 → 0 < n / 2 ^ s → n / 2 ^ s < 4 → X 73 [(0, .int (nI (n / 2 ^ s))), (1, .int (nI (31 - s)))] [] m 0 0 := by
    intro s hs h0 h4
    have e1 : ((nI (n / 2 ^ s)).toUInt32 >>> ((1 : Int32).toUInt32 &&& Int32.toUInt32 31)).toInt32 = nI (n / 2 ^ s / 2 ^ 1) := pk_ushrN (by omega) 1 1 (by decide)
    refine jm_run hX [] 10 ?_
    have h1 : 2 ^ s * (n / 2 ^ s) ≤ n := Nat.mul_div_le _ _
    have h2 : n < 2 ^ s * (n / 2 ^ s + 1) := Nat.lt_mul_div_succ n (Nat.pow_pos (by decide))
    refine ⟨Nat.le_refl _, Nat.le_refl _, trivial, rfl, 31 - s - n / 2 ^ s / 2 ^ 1, ?_, by omega, ?_, ?_⟩
    · -- n below 2^30: so s is small
      have hs29 : 2 ^ s ≤ n := by
        rcases Nat.lt_or_ge n (2 ^ s) with g | g
        · rw [Nat.div_eq_of_lt g] at h0; omega
        · exact g
      have : s < 30 := by
        rcases Nat.lt_or_ge s 30 with g | g
        · exact g
        · have := Nat.pow_le_pow_right (show 0 < 2 by decide) g
          omega
      rcases Nat.lt_or_ge (n / 2 ^ s) 2 with g | g
      · have : n / 2 ^ s / 2 ^ 1 = 0 := by omega
        omega
      · have h5 : 2 ^ s * 2 ≤ n := Nat.le_trans (Nat.mul_le_mul_left _ g) h1
        have : s < 29 := by
          rcases Nat.lt_or_ge s 29 with g2 | g2
          · exact g2
          · have h6 := Nat.pow_le_pow_right (show 0 < 2 by decide) g2
            omega
        omega
    · show some (Value.int (nI (31 - s) - ((nI (n / 2 ^ s)).toUInt32 >>> ((1 : Int32).toUInt32 &&& Int32.toUInt32 31)).toInt32)) = _
      rw [e1, pk_sub (by omega)]
    · rcases Nat.lt_or_ge (n / 2 ^ s) 2 with g | g
      · have e2 : n / 2 ^ s = 1 := by omega
        rw [e2] at h1 h2 ⊢
        rw [show 31 - (31 - s - 1 / 2 ^ 1) = s by omega, show 32 - (31 - s - 1 / 2 ^ 1) = s + 1 by omega, Nat.pow_succ]
        omega
      · have e2 : n / 2 ^ s / 2 ^ 1 = 1 := by omega
        rw [e2, show 31 - (31 - s - 1) = s + 1 by omega, show 32 - (31 - s - 1) = s + 2 by omega, Nat.pow_succ, Nat.pow_add]
        have h5 : 2 ^ s * 2 ≤ n := Nat.le_trans (Nat.mul_le_mul_left _ g) h1
        have h6 : n < 2 ^ s * 4 := Nat.lt_of_lt_of_le h2 (Nat.mul_le_mul_left _ (by omega))
        omega
  have s61 : ∀ s, s ≤ 28 → 0 < n / 2 ^ s → n / 2 ^ s < 16 → X 61 [(0, .int (nI (n / 2 ^ s))), (1, .int (nI (31 - s)))] [] m 0 0 := by
    intro s hs h0 h4
    have e1 : ((nI (n / 2 ^ s)).toUInt32 >>> ((2 : Int32).toUInt32 &&& Int32.toUInt32 31)).toInt32 = nI (n / 2 ^ s / 2 ^ 2) := pk_ushrN (by omega) 2 2 (by decide)
    refine jm_run hX [(73, [0, 1])] 10 ?_
    refine And.intro (fun g => ?_) (fun g => ?_)
    · refine s73 s (by omega) h0 ?_
      rcases Nat.lt_or_ge (n / 2 ^ s) 4 with q | q
      · exact q
      · exact absurd g (nI_nlt q (by omega))
    · have h5 : 4 ≤ n / 2 ^ s := by
        rcases Nat.lt_or_ge (n / 2 ^ s) 4 with q | q
        · exact absurd (nI_lt q (by decide)) g
        · exact q
      have k := s73 (s + 2) (by omega) (by rw [← hdd]; omega) (by rw [← hdd]; omega)
      rw [← hdd s 2, ← e1, show 31 - (s + 2) = (31 - s) - 2 by omega, ← nI_less (k := 2) (by omega)] at k
      exact k
  have s48 : ∀ s, s ≤ 24 → 0 < n / 2 ^ s → n / 2 ^ s < 256 → X 48 [(0, .int (nI (n / 2 ^ s))), (1, .int (nI (31 - s)))] [] m 0 0 := by
    intro s hs h0 h4
    have e1 : ((nI (n / 2 ^ s)).toUInt32 >>> ((4 : Int32).toUInt32 &&& Int32.toUInt32 31)).toInt32 = nI (n / 2 ^ s / 2 ^ 4) := pk_ushrN (by omega) 4 4 (by decide)
    refine jm_run hX [(61, [0, 1])] 10 ?_
    refine And.intro (fun g => ?_) (fun g => ?_)
    · refine s61 s (by omega) h0 ?_
      rcases Nat.lt_or_ge (n / 2 ^ s) 16 with q | q
      · exact q
      · exact absurd g (nI_nlt q (by omega))
    · have h5 : 16 ≤ n / 2 ^ s := by
        rcases Nat.lt_or_ge (n / 2 ^ s) 16 with q | q
        · exact absurd (nI_lt q (by decide)) g
        · exact q
      have k := s61 (s + 4) (by omega) (by rw [← hdd]; omega) (by rw [← hdd]; omega)
      rw [← hdd s 4, ← e1, show 31 - (s + 4) = (31 - s) - 4 by omega, ← nI_less (k := 4) (by omega)] at k
      exact k
  have s33 : ∀ s, s ≤ 16 → 0 < n / 2 ^ s → n / 2 ^ s < 65536 → X 33 [(0, .int (nI (n / 2 ^ s))), (1, .int (nI (31 - s)))] [] m 0 0 := by
    intro s hs h0 h4
    have e1 : ((nI (n / 2 ^ s)).toUInt32 >>> ((8 : Int32).toUInt32 &&& Int32.toUInt32 31)).toInt32 = nI (n / 2 ^ s / 2 ^ 8) := pk_ushrN (by omega) 8 8 (by decide)
    refine jm_run hX [(48, [0, 1])] 10 ?_
    refine And.intro (fun g => ?_) (fun g => ?_)
    · refine s48 s (by omega) h0 ?_
      rcases Nat.lt_or_ge (n / 2 ^ s) 256 with q | q
      · exact q
      · exact absurd g (nI_nlt q (by omega))
    · have h5 : 256 ≤ n / 2 ^ s := by
        rcases Nat.lt_or_ge (n / 2 ^ s) 256 with q | q
        · exact absurd (nI_lt q (by decide)) g
        · exact q
      -- s is 0 or n / 2^s is small enough
      have k := s48 (s + 8) (by omega) (by rw [← hdd]; omega) (by rw [← hdd]; omega)
      rw [← hdd s 8, ← e1, show 31 - (s + 8) = (31 - s) - 8 by omega, ← nI_less (k := 8) (by omega)] at k
      exact k
  have e16 : ((nI n).toUInt32 >>> ((16 : Int32).toUInt32 &&& Int32.toUInt32 31)).toInt32 = nI (n / 2 ^ 16) := pk_ushrN (by omega) 16 16 (by decide)
  refine jm_run hX [(33, [0, 1])] 20 ?_
  refine And.intro (fun _ => ?_) (fun g => absurd (show (0 : Int32) < nI n from nI_lt (a := 0) hn0 (by omega)) g)
  refine And.intro (fun g => ?_) (fun g => ?_)
  · have k := s33 0 (by omega) (by rw [Nat.pow_zero, Nat.div_one]; exact hn0) (by
      rw [Nat.pow_zero, Nat.div_one]
      rcases Nat.lt_or_ge n 65536 with q | q
      · exact q
      · exact absurd g (nI_nlt q (by omega)))
    rw [Nat.pow_zero, Nat.div_one] at k
    exact k
  · have h5 : 65536 ≤ n := by
      rcases Nat.lt_or_ge n 65536 with q | q
      · exact absurd (nI_lt q (by decide)) g
      · exact q
    have k := s33 16 (by omega) (by omega) (by omega)
    rw [← e16] at k
    exact k
theorem c_Dv_guessDigit {m : jm_M} {ad V : Nat → Nat} {R a : Nat} (S : SST m ad) (hV : WVx m ad 115 V) (hrow : m.2.2.1 (ad 331) = wr R) (hR : R < wB ^ 13) (hs1 : 1 ≤ wu (V 116)) (ht : wl (V 116) (wu (V 116) - 1) ≠ 0) (ha : a + wu (V 116) ≤ 13) (hR1 : R / wB ^ a < wB ^ (wu (V 116) + 1)) : jm_C l D ca n_Dv_guessDigit [.ref (ad 4), .int (nI a)] m 0 0 (fun v m' => m' = m ∧ v = some (.int (nI (min (R / wB ^ a / wB ^ (wu (V 116) - 1) / wl (V 116) (wu (V 116) - 1)) 1073741823)))) := by
  refine jm_C_of (cd := cd_Dv_guessDigit) (ini := false) (by decide +kernel) ok_Dv_guessDigit (fun h => by cases h) (Nat.le_of_ble_eq_true rfl) ?_
  intro X0 hX
  have od : jm_ok m (ad 4) 0 := S.ok 4 (Or.inl (by decide))
  have rs : m.2.2.2.2 (ad 4) 2 = some (ad 332) := S.2.2.1 (4, 2, 332) (by decide)
  have rr : m.2.2.2.2 (ad 4) 1 = some (ad 330) := S.2.2.1 (4, 1, 330) (by decide)
  have Ts := S.wh 116 (by decide)
  have Tr := S.wh 115 (by decide)
  have Vs := hV 116 (by decide) (by decide)
  generalize hS : V 116 = Sv at *
  generalize hu : wu Sv = u at *
  generalize htp : wl Sv (u - 1) = t at *
  have ht31 : t < 1073741824 := by rw [← htp]; exact wl_lt Sv _
  have hlimb : ∀ i, (if i < 13 then wr R i else (0 : Int32)) = nI (wl R i) := fun i => by
    by_cases g : i < 13
    · rw [if_pos g]
    · rw [if_neg g, wl_zero hR (by omega)]; rfl
  have htwo : wl R (a + u) * wB + wl R (a + u - 1) = R / wB ^ a / wB ^ (u - 1) := by
    have e1 : a + u - 1 = a + (u - 1) := by omega
    rw [e1, wl_hi, wl_hi]
    have := wl_split (R / wB ^ a) (u - 1)
    rw [show u - 1 + 1 = u by omega] at this
    rw [this, wl_top hR1]
  have hbig : wl R (a + u) * wB + wl R (a + u - 1) < 2 ^ 62 := by
    have h1 : wl R (a + u) < 1073741824 := wl_lt R _
    have h2 : wl R (a + u - 1) < 1073741824 := wl_lt R _
    have h3 : wl R (a + u) * wB ≤ 1073741823 * 1073741824 := Nat.mul_le_mul (by omega) (Nat.le_refl _)
    omega
  have hval : ((lN (wl R (a + u))) <<< ((30 : Int32).toInt64 &&& 63)) + lN (wl R (a + u - 1)) = lN (wl R (a + u) * wB + wl R (a + u - 1)) := by
    have e30 : (30 : Int32) = nI 30 := rfl
    rw [e30, wb_shl _ (by decide), lN_add]
  refine jm_run hX [] 60 ?_
  refine And.intro od ⟨some (ad 332), rs, ?_⟩
  refine And.intro Ts.1 (And.intro (Nat.le_of_ble_eq_true rfl) (And.intro (Nat.le_of_ble_eq_true rfl) ⟨0, 0, _, Nat.le_refl _, Nat.le_refl _, c_Wh_topLimb Ts Vs, fun v m' hq => ?_⟩))
  obtain ⟨rfl, rfl⟩ := hq
  rw [hu, htp]
  refine And.intro (fun g => ?_) (fun _ => ?_)
  · have g : nI t = 0 := g
    rw [← nI_0, nI_eq (by omega) (by omega)] at g
    exact absurd g ht
  refine And.intro od ⟨some (ad 332), rs, And.intro Ts.1 ?_⟩
  have eu : m'.2.2.1 (ad 332) 1 = nI u := by rw [← hu]; exact Vs.2.2
  have eh : nI a + m'.2.2.1 (ad 332) 1 = nI (a + u) := by rw [eu, nI_add]
  refine And.intro od ⟨some (ad 330), rr, ?_⟩
  have key1 := c_Wh_limb (l := l) (D := D) (ca := ca) (m := m') (h := ad 330) (p := ad 331) (i := a + u) Tr hrow (by omega)
  rw [← eh] at key1
  refine And.intro Tr.1 (And.intro (Nat.le_of_ble_eq_true rfl) (And.intro (Nat.le_of_ble_eq_true rfl) ⟨0, 0, _, Nat.le_refl _, Nat.le_refl _, key1, fun v m2 hq => ?_⟩))
  obtain ⟨rfl, rfl⟩ := hq
  rw [hlimb]
  refine And.intro od ⟨some (ad 330), rr, ?_⟩
  have key2 := c_Wh_limb (l := l) (D := D) (ca := ca) (m := m2) (h := ad 330) (p := ad 331) (i := a + u - 1) Tr hrow (by omega)
  have eh2 : nI a + m2.2.2.1 (ad 332) 1 - 1 = nI (a + u - 1) := by
    rw [eh, show a + u = (a + u - 1) + 1 by omega, nI_pred]; rfl
  rw [← eh2] at key2
  refine And.intro Tr.1 (And.intro (Nat.le_of_ble_eq_true rfl) (And.intro (Nat.le_of_ble_eq_true rfl) ⟨0, 0, _, Nat.le_refl _, Nat.le_refl _, key2, fun v m3 hq => ?_⟩))
  obtain ⟨rfl, rfl⟩ := hq
  rw [hlimb]
  have etop : (nI t).toInt64 = lN t := nI_l (by omega)
  refine And.intro ?_ ?_
  · show ¬ (nI t).toInt64 = 0
    rw [etop]
    intro g
    have : lN t = lN 0 := g
    rw [pk_lEQ (by omega) (by omega)] at this
    exact ht this
  · refine ⟨Nat.le_of_ble_eq_true rfl, Nat.le_refl _, Nat.le_refl _, ?_⟩
    refine ⟨Nat.le_refl _, Nat.le_refl _, trivial, rfl, ?_⟩
    show some (Value.int (if (1073741823 : Int64) < (((nI (wl R (a + u))).toInt64 <<< ((30 : Int32).toInt64 &&& 63)) + (nI (wl R (a + u - 1))).toInt64) / (nI t).toInt64 then (1073741823 : Int64) else (((nI (wl R (a + u))).toInt64 <<< ((30 : Int32).toInt64 &&& 63)) + (nI (wl R (a + u - 1))).toInt64) / (nI t).toInt64).toInt32) = _
    rw [lm_l (wl_lt R _), lm_l (wl_lt R _), etop, hval, pk_lDiv (by omega) (by omega) (by omega)]
    have e5 : (1073741823 : Int64) = lN 1073741823 := rfl
    have hle := Nat.div_le_self (wl R (a + u) * wB + wl R (a + u - 1)) t
    rw [e5, lN_min (by omega) (by decide), lN_i, htwo]
end DV
end
section
theorem knuth {R S M t : Nat} (hM : 0 < M) (h1 : t * M ≤ S) (h2 : S < (t + 1) * M) (ht : 1073741824 ≤ 2 * t) (hR : R < S * 1073741824) : R / S ≤ min (R / M / t) 1073741823 ∧ min (R / M / t) 1073741823 ≤ R / S + 2 := by
  have hS : 0 < S := by
    rcases Nat.eq_zero_or_pos S with e | e
    · rw [e, Nat.zero_mul] at hR; omega
    · exact e
  have hq : R / S < 1073741824 := Nat.div_lt_of_lt_mul hR
  have htM : 0 < t * M := Nat.mul_pos (by omega) hM
  have a1 : R / S ≤ R / M / t := by
    rw [Nat.div_div_eq_div_mul, Nat.mul_comm M t]
    exact Nat.div_le_div_left h1 htM
  refine ⟨by omega, ?_⟩
  rcases Nat.lt_or_ge (R / S + 2) (min (R / M / t) 1073741823) with g | g
  · exfalso
    generalize hqv : R / S = q at *
    have g2 : q + 3 ≤ R / M / t := by omega
    have b1 : (q + 3) * (t * M) ≤ R := by
      have := Nat.mul_le_mul_right (t * M) g2
      rw [Nat.div_div_eq_div_mul, Nat.mul_comm M t] at this
      exact Nat.le_trans this (Nat.div_mul_le_self _ _)
    have b2 : R < (q + 1) * S := by
      have := Nat.lt_mul_div_succ R hS
      rw [hqv, Nat.mul_comm] at this
      exact this
    have b3 : (q + 1) * S ≤ (q + 1) * ((t + 1) * M) := Nat.mul_le_mul_left _ (Nat.le_of_lt h2)
    have b4 : (q + 3) * t * M < (q + 1) * (t + 1) * M := by
      rw [Nat.mul_assoc, Nat.mul_assoc]; omega
    have b5 : (q + 3) * t < (q + 1) * (t + 1) := Nat.lt_of_mul_lt_mul_right b4
    have b6 : (q + 3) * t = q * t + 3 * t := Nat.add_mul _ _ _
    have b7 : (q + 1) * (t + 1) = q * t + t + q + 1 := by
      rw [Nat.add_mul, Nat.mul_add]; omega
    generalize q * t = z at *
    omega
  · exact g
section DV2
variable {l : Launch} {D : va_G} {ca : Nat → ClassId}
theorem c_Dv_nextDigit {m : jm_M} {ad V : Nat → Nat} {R a : Nat} (S : SST m ad) (hV : WVx m ad 115 V) (hrow : m.2.2.1 (ad 331) = wr R) (hR : R < wB ^ 13) (hs1 : 1 ≤ wu (V 116)) (ht : 1073741824 ≤ 2 * wl (V 116) (wu (V 116) - 1)) (ha : a + wu (V 116) ≤ 13) (hR1 : R / wB ^ a < V 116 * wB) : jm_C l D ca n_Dv_nextDigit [.ref (ad 4), .int (nI a)] m 0 0 (fun v m' => v = some (.int (nI (R / wB ^ a / V 116))) ∧ m' = uA m (ad 331) (wr (R % wB ^ a + R / wB ^ a % V 116 * wB ^ a))) := by
  refine jm_C_of (cd := cd_Dv_nextDigit) (ini := false) (by decide +kernel) ok_Dv_nextDigit (fun h => by cases h) (Nat.le_of_ble_eq_true rfl) ?_
  intro X0 hX
  have od : jm_ok m (ad 4) 0 := S.ok 4 (Or.inl (by decide))
  have rs : m.2.2.2.2 (ad 4) 2 = some (ad 332) := S.2.2.1 (4, 2, 332) (by decide)
  have rr : m.2.2.2.2 (ad 4) 1 = some (ad 330) := S.2.2.1 (4, 1, 330) (by decide)
  have Ts := S.wh 116 (by decide)
  have Tr := S.wh 115 (by decide)
  have Vs := hV 116 (by decide) (by decide)
  have hne1 : ad 331 ≠ ad 333 := S.ne (i := 331) (j := 333) (Or.inr (by decide)) (Or.inr (by decide)) (by decide)
  have hne2 : ad 331 ≠ ad 332 := S.ne (i := 331) (j := 332) (Or.inr (by decide)) (Or.inr (by decide)) (by decide)
  have hu1 := wu_lt Vs.1
  have hu2 := wu_le (V 116)
  have key0 := c_Dv_guessDigit (l := l) (D := D) (ca := ca) (a := a) S hV hrow hR hs1 (by omega) ha (by
    refine Nat.lt_of_lt_of_le hR1 ?_
    rw [Nat.pow_succ]
    exact Nat.mul_le_mul_right _ (Nat.le_of_lt hu1))
  generalize hS : V 116 = Sv at *
  generalize hu : wu Sv = u at *
  -- the divisor's top limb
  have hu1' : Sv < wB ^ ((u - 1) + 1) := by rw [show u - 1 + 1 = u by omega]; exact hu1
  have htp := wl_top hu1'
  generalize htv : wl Sv (u - 1) = t at *
  have hk := knuth (R := R / wB ^ a) (S := Sv) (M := wB ^ (u - 1)) (t := t) (wB_pos _) (by rw [htp]; exact Nat.div_mul_le_self _ _) (by
    rw [htp, Nat.mul_comm]
    exact Nat.lt_mul_div_succ _ (wB_pos _)) ht hR1
  generalize hg : min (R / wB ^ a / wB ^ (u - 1) / t) 1073741823 = gd at *
  have hgB : gd < wB := by
    have : gd ≤ 1073741823 := by omega
    show gd < 1073741824
    omega
  generalize hn : min (u + 1) (13 - a) = n
  generalize hR1v : R / wB ^ a = R1 at *
  have hRn : R1 < wB ^ n := by
    rcases Nat.lt_or_ge (u + 1) (13 - a) with g | g
    · rw [show n = u + 1 by omega, Nat.pow_succ]
      exact Nat.lt_of_lt_of_le hR1 (Nat.mul_le_mul_right _ (Nat.le_of_lt hu1))
    · rw [show n = 13 - a by omega, ← hR1v]
      refine Nat.div_lt_of_lt_mul ?_
      rw [← Nat.pow_add, show a + (13 - a) = 13 by omega]
      exact hR
  have hSpos : 0 < Sv := by
    rcases Nat.eq_zero_or_pos Sv with e | e
    · rw [e, Nat.zero_mul] at hR1; omega
    · exact e
  have hdm := Nat.div_add_mod R1 Sv
  have hmod := Nat.mod_lt R1 hSpos
  generalize hq : R1 / Sv = q at *
  generalize hr : R1 % Sv = r at *
  have fin : X0 58 [(2, .int (nI q))] [] (uA m (ad 331) (wr (R % wB ^ a + r * wB ^ a))) 0 0 := by
    refine jm_run hX [] 10 ?_
    exact ⟨Nat.le_refl _, Nat.le_refl _, trivial, rfl, rfl⟩
  have hexit : ∀ dg W, W + dg * Sv = R1 + 0 * wB ^ n → q ≤ dg → dg = q ∧ W = r := by
    intro dg W hW hqd
    rw [Nat.zero_mul, Nat.add_zero] at hW
    have h1 : dg ≤ q := by
      rcases Nat.lt_or_ge q dg with g | g
      · have := Nat.mul_le_mul_right Sv (show q + 1 ≤ dg from g)
        rw [Nat.add_mul, Nat.mul_comm q Sv] at this
        omega
      · exact g
    have e : dg = q := by omega
    subst e
    rw [Nat.mul_comm] at hW
    exact ⟨rfl, by omega⟩
  have hlt13 : ∀ W, W < wB ^ n → R % wB ^ a + W * wB ^ a < wB ^ 13 := by
    intro W hW
    have h1 : R % wB ^ a < wB ^ a := Nat.mod_lt _ (wB_pos a)
    have h2 : (W + 1) * wB ^ a ≤ wB ^ n * wB ^ a := Nat.mul_le_mul_right _ hW
    rw [← Nat.pow_add, Nat.add_mul, Nat.one_mul] at h2
    have h3 : wB ^ (n + a) ≤ wB ^ 13 := Nat.pow_le_pow_right (by decide) (by omega)
    omega
  have loop : ∀ (e dg ow W : Nat), e ≤ 2 → W + dg * Sv = R1 + ow * wB ^ n → W < wB ^ n → ow ≤ 1073741824 → q ≤ dg → dg ≤ q + e → dg < 1073741824 → X0 24 [(0, .ref (ad 4)), (1, .int (nI a)), (2, .int (nI dg)), (3, .int (nI ow)), (4, .int (nI (2 - e)))] [] (uA m (ad 331) (wr (R % wB ^ a + W * wB ^ a))) 0 0 := by
    intro e
    induction e with
    | zero =>
      intro dg ow W _ hW hWn how hqd hde hdB
      have edq : dg = q := by omega
      have how0 : ow = 0 := by
        rcases Nat.eq_zero_or_pos ow with g | g
        · exact g
        · have h5 : 1 * wB ^ n ≤ ow * wB ^ n := Nat.mul_le_mul_right _ g
          rw [edq, Nat.mul_comm q Sv] at hW
          omega
      rw [how0] at hW
      obtain ⟨e1, e2⟩ := hexit dg W hW hqd
      rw [e1, e2]
      refine jm_run hX [(58, [2])] 10 ?_
      exact And.intro (fun _ => fin) (fun g => absurd (by decide) g)
    | succ e ih =>
      intro dg ow W he hW hWn how hqd hde hdB
      refine jm_run hX [(24, [0, 1, 2, 3, 4]), (58, [2])] 40 ?_
      refine And.intro (fun g => absurd g (nI_ge (show 2 - (e + 1) < 2 by omega) (by decide))) (fun _ => ?_)
      refine And.intro (fun g => ?_) (fun g => ?_)
      · have g : nI ow = 0 := g
        rw [← nI_0, nI_eq (by omega) (by omega)] at g
        rw [g] at hW
        obtain ⟨e1, e2⟩ := hexit dg W hW hqd
        rw [e1, e2]
        exact fin
      · have g : ¬ nI ow = 0 := g
        rw [← nI_0, nI_eq (by omega) (by omega)] at g
        have hdq : q + 1 ≤ dg := by
          rcases Nat.lt_or_ge q dg with g2 | g2
          · exact g2
          · exfalso
            have edq : dg = q := by omega
            have h5 : 1 * wB ^ n ≤ ow * wB ^ n := Nat.mul_le_mul_right _ (by omega)
            rw [edq, Nat.mul_comm q Sv] at hW
            omega
        have hRc := hlt13 W hWn
        have key := c_Wh_addAt (l := l) (D := D) (ca := ca) (m := uA m (ad 331) (wr (R % wB ^ a + W * wB ^ a))) (h := ad 330) (p := ad 331) (o := ad 332) (q := ad 333) (R := R % wB ^ a + W * wB ^ a) (S := Sv) (a := a) (n := n) Tr (va_up_self _ _ _) hRc Ts (by
          refine ⟨Vs.1, ?_, ?_⟩
          · show va_up m.2.2.1 (ad 331) _ (ad 333) = _
            rw [va_up_ne _ _ (Ne.symm hne1)]; exact Vs.2.1
          · show va_up m.2.2.1 (ad 331) _ (ad 332) 1 = _
            rw [va_up_ne _ _ (Ne.symm hne2)]; exact Vs.2.2) hne1 hne2 (by rw [hu]; exact hn.symm) (by rw [hu]; exact ha) (by rw [wj_div]; exact hWn)
        rw [wj_div, uA_uA, Nat.add_mul_mod_self_right, Nat.mod_mod] at key
        refine And.intro od ⟨some (ad 330), rr, ?_⟩
        refine And.intro od ⟨some (ad 332), rs, ?_⟩
        refine And.intro Tr.1 (And.intro (Nat.le_of_ble_eq_true rfl) (And.intro (Nat.le_of_ble_eq_true rfl) ⟨0, 0, _, Nat.le_refl _, Nat.le_refl _, key, fun v m' hq => ?_⟩))
        obtain ⟨rfl, rfl⟩ := hq
        have hWS := Nat.div_add_mod (W + Sv) (wB ^ n)
        have hWSm := Nat.mod_lt (W + Sv) (wB_pos n)
        have hSn : Sv < wB ^ n := Nat.lt_of_lt_of_le hu1 (Nat.pow_le_pow_right (by decide) (by omega))
        have hc1 : (W + Sv) / wB ^ n ≤ 1 := by
          have := Nat.div_lt_of_lt_mul (show W + Sv < wB ^ n * 2 by omega)
          omega
        generalize (W + Sv) / wB ^ n = cc at *
        generalize (W + Sv) % wB ^ n = W' at *
        have k := ih (dg - 1) (ow - cc) W' (by omega) (by
          have h6 : ow * wB ^ n = (ow - cc) * wB ^ n + cc * wB ^ n := by
            rw [← Nat.add_mul]; congr 1; omega
          have h7 : dg * Sv = (dg - 1) * Sv + Sv := by
            rw [show dg = (dg - 1) + 1 by omega, Nat.add_mul, Nat.one_mul, Nat.add_sub_cancel]
          rw [Nat.mul_comm (wB ^ n) cc] at hWS
          omega) hWSm (by omega) (by omega) (by omega) (by omega)
        have e7 : nI (dg - 1) = nI dg + (-1) := (nI_less (k := 1) (show 1 ≤ dg by omega)).symm
        have e8 : nI (2 - e) = nI (2 - (e + 1)) + 1 := by rw [nI_1]; congr 1; omega
        rw [← pk_sub (show cc ≤ ow by omega), e7, e8] at k
        exact k
  have key1 := c_Wh_subtractTimes (l := l) (D := D) (ca := ca) (m := m) (h := ad 330) (p := ad 331) (o := ad 332) (q := ad 333) (R := R) (S := Sv) (F := gd) (a := a) (n := n) Tr hrow hR Ts Vs hne1 hne2 hgB (by rw [hu]; exact hn.symm) (by rw [hu]; exact ha) (by rw [hR1v]; exact hRn)
  refine jm_run hX [(24, [0, 1, 2, 3, 4])] 40 ?_
  refine And.intro od (And.intro (Nat.le_of_ble_eq_true rfl) (And.intro (Nat.le_of_ble_eq_true rfl) ⟨0, 0, _, Nat.le_refl _, Nat.le_refl _, key0, fun v m' hq => ?_⟩))
  obtain ⟨rfl, rfl⟩ := hq
  refine And.intro od ⟨some (ad 330), rr, ?_⟩
  refine And.intro od ⟨some (ad 332), rs, ?_⟩
  have e6 : (nI gd).toInt64 = lN gd := nI_l (Nat.lt_trans hgB (by decide))
  rw [← e6] at key1
  refine And.intro Tr.1 (And.intro (Nat.le_of_ble_eq_true rfl) (And.intro (Nat.le_of_ble_eq_true rfl) ⟨0, 0, _, Nat.le_refl _, Nat.le_refl _, key1, fun v m2 hq => ?_⟩))
  obtain ⟨W, ow, hW, hWn, how, rfl, rfl⟩ := hq
  rw [hR1v] at hW
  exact loop 2 gd ow W (Nat.le_refl _) hW hWn how hk.1 hk.2 hgB
end DV2
end
section
theorem wu_pos {U : Nat} (hU : U < wB ^ 13) (h0 : 0 < U) : 1 ≤ wu U ∧ wl U (wu U - 1) = U / wB ^ (wu U - 1) ∧ 1 ≤ U / wB ^ (wu U - 1) := by
  have h1 : 1 ≤ wu U := by
    rcases Nat.eq_zero_or_pos (wu U) with q | q
    · have := (wu_zero hU).mp q; omega
    · exact q
  have h2 := wu_lt hU
  rw [show wu U = (wu U - 1) + 1 by omega] at h2
  exact ⟨h1, wl_top h2, Nat.div_pos (wu_ge hU (by omega)) (wB_pos _)⟩
/-- a power of two lifts the top limb, and no more -/
theorem wu_shift {U s : Nat} (hU : U < wB ^ 13) (h0 : 0 < U) (h1 : 2 ^ (29 - s) ≤ wl U (wu U - 1)) (h2 : wl U (wu U - 1) < 2 ^ (30 - s)) (hs : s ≤ 29) : wu (U * 2 ^ s) = wu U ∧ 1073741824 ≤ 2 * wl (U * 2 ^ s) (wu U - 1) := by
  obtain ⟨p1, p2, p3⟩ := wu_pos hU h0
  have hle := wu_le U
  generalize hu : wu U = u at *
  rw [p2] at h1 h2
  have hpow : 2 ^ (30 - s) * 2 ^ s = 1073741824 := by
    rw [← Nat.pow_add, show 30 - s + s = 30 by omega]
  have hpow2 : 2 ^ (29 - s) * 2 ^ s = 536870912 := by
    rw [← Nat.pow_add, show 29 - s + s = 29 by omega]
  have hMp := wB_pos (u - 1)
  have a1 : U < wB ^ (u - 1) * 2 ^ (30 - s) := by
    have := Nat.lt_mul_div_succ U hMp
    exact Nat.lt_of_lt_of_le this (Nat.mul_le_mul_left _ h2)
  have a2 : wB ^ (u - 1) * 2 ^ (29 - s) ≤ U := Nat.le_trans (Nat.mul_le_mul_left _ h1) (Nat.mul_div_le _ _)
  have b1 : U * 2 ^ s < wB ^ (u - 1) * 1073741824 := by
    have := Nat.mul_lt_mul_of_pos_right a1 (show 0 < 2 ^ s from Nat.pow_pos (by decide))
    rw [Nat.mul_assoc, hpow] at this
    exact this
  have b2 : wB ^ (u - 1) * 536870912 ≤ U * 2 ^ s := by
    have := Nat.mul_le_mul_right (2 ^ s) a2
    rw [Nat.mul_assoc, hpow2] at this
    exact this
  have b3 : U * 2 ^ s < wB ^ ((u - 1) + 1) := by rw [Nat.pow_succ]; exact b1
  have b4 : wl (U * 2 ^ s) (u - 1) = U * 2 ^ s / wB ^ (u - 1) := wl_top b3
  have b5 : 536870912 ≤ U * 2 ^ s / wB ^ (u - 1) := by
    rw [Nat.le_div_iff_mul_le hMp, Nat.mul_comm]; exact b2
  refine ⟨?_, by rw [b4]; omega⟩
  refine wu_top hle (by rw [show u = (u - 1) + 1 by omega]; exact b3) (Or.inr ?_)
  rw [b4]; omega
theorem wl_div0 {Q k : Nat} (h : Q % wB ^ (k + 1) = 0) : wl Q k = 0 := by
  rw [← wl_mod, h]
  unfold wl
  rw [Nat.zero_div]; rfl
section DV3
variable {l : Launch} {D : va_G} {ca : Nat → ClassId}
theorem c_Dv_divide {m : jm_M} {ad V : Nat → Nat} {ia iu : Nat} (S : SST m ad) (hV : WV m ad V) (hia : ia < 132) (hiu : iu < 132) (ha : ia ≠ 114 ∧ ia ≠ 115 ∧ ia ≠ 116) (hu : iu ≠ 114 ∧ iu ≠ 115 ∧ iu ≠ 116) (hA : V ia < wB ^ 12) (hU : V iu < wB ^ 12) : jm_C l D ca n_Dv_divide [.ref (ad 4), .ref (ad (100 + 2 * ia)), .ref (ad (100 + 2 * iu))] m 0 0 (fun v m' => v = none ∧ FRW ad m m' ∧ ∃ z, WV m' ad (va_up (va_up (va_up V 114 (V ia / V iu)) 115 (V ia % V iu)) 116 z)) := by
  refine jm_C_of (cd := cd_Dv_divide) (ini := false) (by decide +kernel) ok_Dv_divide (fun h => by cases h) (Nat.le_of_ble_eq_true rfl) ?_
  intro X0 hX
  have h1213 : wB ^ 12 * 1073741824 = wB ^ 13 := (Nat.pow_succ (n := wB) (m := 12)).symm
  have hA13 : V ia < wB ^ 13 := by omega
  have hU13 : V iu < wB ^ 13 := by omega
  have od : ∀ {m' : jm_M}, SST m' ad → jm_ok m' (ad 4) 0 := fun S => S.ok 4 (Or.inl (by decide))
  have rq : ∀ {m' : jm_M}, SST m' ad → m'.2.2.2.2 (ad 4) 0 = some (ad 328) := fun S => S.2.2.1 (4, 0, 328) (by decide)
  have rr : ∀ {m' : jm_M}, SST m' ad → m'.2.2.2.2 (ad 4) 1 = some (ad 330) := fun S => S.2.2.1 (4, 1, 330) (by decide)
  have rs : ∀ {m' : jm_M}, SST m' ad → m'.2.2.2.2 (ad 4) 2 = some (ad 332) := fun S => S.2.2.1 (4, 2, 332) (by decide)
  -- quotient.become(0)
  have F1 : FRW ad m (whS m (ad 328) (ad 329) 0) := FRW.wS (i := 114) (by decide)
  have S1 := F1.S S
  have V1 : WV (whS m (ad 328) (ad 329) 0) ad (va_up V 114 0) := WV.set (i := 114) S hV (by decide) (wB_pos 13)
  generalize hm1 : whS m (ad 328) (ad 329) 0 = m1 at F1 S1 V1
  -- rest.become(above)
  have F2 : FRW ad m (whS m1 (ad 330) (ad 331) (V ia)) := F1.tr (FRW.wS (i := 115) (by decide))
  have S2 := F2.S S
  have V2 : WV (whS m1 (ad 330) (ad 331) (V ia)) ad (va_up (va_up V 114 0) 115 (V ia)) := WV.set (i := 115) S1 V1 (by decide) hA13
  generalize hm2 : whS m1 (ad 330) (ad 331) (V ia) = m2 at F2 S2 V2
  have gU2 : va_up (va_up V 114 0) 115 (V ia) iu = V iu := by rw [va_up_ne _ _ hu.2.1, va_up_ne _ _ hu.1]
  have gA1 : va_up V 114 0 ia = V ia := va_up_ne _ _ ha.1
  have hneA : ad 331 ≠ ad (100 + 2 * ia) := S.ne (i := 331) (Or.inr (by decide)) (kin_o hia) (by omega)
  have key1 := c_Wh_become_1 (l := l) (D := D) (ca := ca) (V := 0) (S.wh 114 (by decide)) (hV 114 (by decide)).R (by decide)
  have key2 := c_Wh_become_2 (l := l) (D := D) (ca := ca) (S1.wh 115 (by decide)) (V1 115 (by decide)).R (S1.wh ia hia) (V1 ia hia) hneA
  rw [gA1] at key2
  have key3 := c_Wh_topLimb (l := l) (D := D) (ca := ca) (S2.wh iu hiu) (V2 iu hiu)
  rw [gU2] at key3
  refine jm_run hX [(77, [0, 4, 5]), (103, [0, 4])] 80 ?_
  refine And.intro (od S) ⟨some (ad 328), rq S, ?_⟩
  refine And.intro (S.wh 114 (by decide)).1 (And.intro (Nat.le_of_ble_eq_true rfl) (And.intro (Nat.le_of_ble_eq_true rfl) ⟨0, 0, _, Nat.le_refl _, Nat.le_refl _, key1, fun v m' hq => ?_⟩))
  obtain ⟨rfl, e⟩ := hq
  rw [show whS m (ad (100 + 2 * 114)) (ad (101 + 2 * 114)) 0 = m1 from hm1] at e
  have e := e.symm
  subst e
  refine And.intro (od S1) ⟨some (ad 330), rr S1, ?_⟩
  refine And.intro (S1.wh 115 (by decide)).1 (And.intro (Nat.le_of_ble_eq_true rfl) (And.intro (Nat.le_of_ble_eq_true rfl) ⟨0, 0, _, Nat.le_refl _, Nat.le_refl _, key2, fun v m' hq => ?_⟩))
  obtain ⟨rfl, e⟩ := hq
  rw [show whS m1 (ad (100 + 2 * 115)) (ad (101 + 2 * 115)) (V ia) = m2 from hm2] at e
  have e := e.symm
  subst e
  refine And.intro (S2.wh iu hiu).1 (And.intro (Nat.le_of_ble_eq_true rfl) (And.intro (Nat.le_of_ble_eq_true rfl) ⟨0, 0, _, Nat.le_refl _, Nat.le_refl _, key3, fun v m' hq => ?_⟩))
  obtain ⟨rfl, rfl⟩ := hq
  rcases Nat.eq_zero_or_pos (V iu) with hU0 | hU0
  · -- by 0
    have ez : nI (wl (V iu) (wu (V iu) - 1)) = 0 := by rw [hU0]; rfl
    refine And.intro (fun _ => ?_) (fun g => absurd ez g)
    refine ⟨Nat.le_refl _, Nat.le_refl _, trivial, rfl, F2, va_up (va_up V 114 0) 115 (V ia) 116, ?_⟩
    rw [hU0, Nat.div_zero, Nat.mod_zero]
    rw [va_up_id]
    exact V2
  obtain ⟨p1, p2, p3⟩ := wu_pos hU13 hU0
  have ht31 : wl (V iu) (wu (V iu) - 1) < 1073741824 := wl_lt _ _
  have ht0 : 0 < wl (V iu) (wu (V iu) - 1) := by rw [p2]; exact p3
  refine And.intro (fun g => ?_) (fun _ => ?_)
  · have g : nI (wl (V iu) (wu (V iu) - 1)) = 0 := g
    rw [← nI_0, nI_eq (by omega) (by omega)] at g
    omega
  refine ⟨Nat.le_of_ble_eq_true rfl, Nat.le_of_ble_eq_true rfl, 0, 0, _, Nat.le_refl _, Nat.le_refl _, c_In_nlz (m := m') ht0 (by omega), fun v m3 hq => ?_⟩
  obtain ⟨rfl, k, hk2, hk31, rfl, hk5, hk6⟩ := hq
  have es : nI k - 2 = nI (k - 2) := pk_sub (b := 2) hk2
  obtain ⟨q1, q2⟩ := wu_shift (s := k - 2) hU13 hU0 (by rw [show 29 - (k - 2) = 31 - k by omega]; exact hk5) (by rw [show 30 - (k - 2) = 32 - k by omega]; exact hk6) (by omega)
  generalize hsv : k - 2 = s at *
  have hs30 : s < 30 := by omega
  have h2s : 2 ^ s ≤ 1073741824 := by
    have := Nat.pow_le_pow_right (show 0 < 2 by decide) (show s ≤ 30 by omega)
    exact this
  have hAs : V ia * 2 ^ s < wB ^ 13 := by
    rw [← h1213]
    exact Nat.lt_of_le_of_lt (Nat.mul_le_mul_left _ h2s) (Nat.mul_lt_mul_of_pos_right hA (by decide))
  have hUs : V iu * 2 ^ s < wB ^ 13 := by
    rw [← h1213]
    exact Nat.lt_of_le_of_lt (Nat.mul_le_mul_left _ h2s) (Nat.mul_lt_mul_of_pos_right hU (by decide))
  -- shifted.become(under), shifted.shiftUp(s), rest.shiftUp(s)
  have F4 : FRW ad m (whS m3 (ad 332) (ad 333) (V iu)) := F2.tr (FRW.wS (i := 116) (by decide))
  have S4 := F4.S S
  have V4 : WV (whS m3 (ad 332) (ad 333) (V iu)) ad (va_up (va_up (va_up V 114 0) 115 (V ia)) 116 (V iu)) := WV.set (i := 116) S2 V2 (by decide) hU13
  have hneU : ad 333 ≠ ad (100 + 2 * iu) := S.ne (i := 333) (Or.inr (by decide)) (kin_o hiu) (by omega)
  have key4 := c_Wh_become_2 (l := l) (D := D) (ca := ca) (S2.wh 116 (by decide)) (V2 116 (by decide)).R (S2.wh iu hiu) (V2 iu hiu) hneU
  rw [gU2] at key4
  generalize hm4 : whS m3 (ad 332) (ad 333) (V iu) = m4 at F4 S4 V4
  have F5 : FRW ad m (whS m4 (ad 332) (ad 333) (V iu * 2 ^ s)) := F4.tr (FRW.wS (i := 116) (by decide))
  have S5 := F5.S S
  have V5 : WV (whS m4 (ad 332) (ad 333) (V iu * 2 ^ s)) ad (va_up (va_up (va_up (va_up V 114 0) 115 (V ia)) 116 (V iu)) 116 (V iu * 2 ^ s)) := WV.set (i := 116) S4 V4 (by decide) hUs
  rw [bx_uu] at V5
  have key5 := c_Wh_shiftUp (l := l) (D := D) (ca := ca) (s := s) (S4.wh 116 (by decide)) (V4 116 (by decide)) hs30 (by rw [va_up_self]; exact hUs)
  rw [va_up_self, ← es] at key5
  generalize hm5 : whS m4 (ad 332) (ad 333) (V iu * 2 ^ s) = m5 at F5 S5 V5
  have g115 : va_up (va_up (va_up V 114 0) 115 (V ia)) 116 (V iu * 2 ^ s) 115 = V ia := by rw [va_up_ne _ _ (by decide), va_up_self]
  have F6 : FRW ad m (whS m5 (ad 330) (ad 331) (V ia * 2 ^ s)) := F5.tr (FRW.wS (i := 115) (by decide))
  have S6 := F6.S S
  have V6 : WV (whS m5 (ad 330) (ad 331) (V ia * 2 ^ s)) ad (va_up (va_up (va_up (va_up V 114 0) 115 (V ia)) 116 (V iu * 2 ^ s)) 115 (V ia * 2 ^ s)) := WV.set (i := 115) S5 V5 (by decide) hAs
  have key6 := c_Wh_shiftUp (l := l) (D := D) (ca := ca) (s := s) (S5.wh 115 (by decide)) (V5 115 (by decide)) hs30 (by rw [g115]; exact hAs)
  rw [g115, ← es] at key6
  generalize hm6 : whS m5 (ad 330) (ad 331) (V ia * 2 ^ s) = m6 at F6 S6 V6
  refine And.intro (od S2) ⟨some (ad 332), rs S2, ?_⟩
  refine And.intro (S2.wh 116 (by decide)).1 (And.intro (Nat.le_of_ble_eq_true rfl) (And.intro (Nat.le_of_ble_eq_true rfl) ⟨0, 0, _, Nat.le_refl _, Nat.le_refl _, key4, fun v m' hq => ?_⟩))
  obtain ⟨rfl, e⟩ := hq
  rw [show whS m3 (ad (100 + 2 * 116)) (ad (101 + 2 * 116)) (V iu) = m4 from hm4] at e
  have e := e.symm
  subst e
  refine And.intro (od S4) ⟨some (ad 332), rs S4, ?_⟩
  refine And.intro (S4.wh 116 (by decide)).1 (And.intro (Nat.le_of_ble_eq_true rfl) (And.intro (Nat.le_of_ble_eq_true rfl) ⟨0, 0, _, Nat.le_refl _, Nat.le_refl _, key5, fun v m' hq => ?_⟩))
  obtain ⟨rfl, e⟩ := hq
  rw [show whS m4 (ad (100 + 2 * 116)) (ad (101 + 2 * 116)) (V iu * 2 ^ s) = m5 from hm5] at e
  have e := e.symm
  subst e
  refine And.intro (od S5) ⟨some (ad 330), rr S5, ?_⟩
  refine And.intro (S5.wh 115 (by decide)).1 (And.intro (Nat.le_of_ble_eq_true rfl) (And.intro (Nat.le_of_ble_eq_true rfl) ⟨0, 0, _, Nat.le_refl _, Nat.le_refl _, key6, fun v m' hq => ?_⟩))
  obtain ⟨rfl, e⟩ := hq
  rw [show whS m5 (ad (100 + 2 * 115)) (ad (101 + 2 * 115)) (V ia * 2 ^ s) = m6 from hm6] at e
  have e := e.symm
  subst e
  -- what they are
  have eV6 : va_up (va_up (va_up (va_up V 114 0) 115 (V ia)) 116 (V iu * 2 ^ s)) 115 (V ia * 2 ^ s) = va_up (va_up (va_up V 114 0) 116 (V iu * 2 ^ s)) 115 (V ia * 2 ^ s) := by
    rw [va_up_comm _ _ _ (show (115 : Nat) ≠ 116 by decide), bx_uu]
  rw [eV6] at V6
  generalize hA2 : V ia * 2 ^ s = A2 at *
  generalize hS2v : V iu * 2 ^ s = S2v at *
  have hS2pos : 0 < S2v := by rw [← hS2v]; exact Nat.mul_pos hU0 (Nat.pow_pos (by decide))
  have hV115 := V6 115 (by decide)
  rw [va_up_self] at hV115
  have hV116 := V6 116 (by decide)
  rw [va_up_ne _ _ (by decide), va_up_self] at hV116
  have huA := wu_le A2
  have huS := wu_le S2v
  have q1' : 1 ≤ wu S2v := by rw [q1]; exact p1
  rw [← q1] at q2
  -- the end
  have fin : ∀ (mk : jm_M) (R : Nat), SST mk ad → FRW ad m mk → WVx mk ad 115 (va_up (va_up V 114 (A2 / S2v)) 116 S2v) → mk.2.2.1 (ad 331) = wr (A2 % S2v) → mk.2.2.1 (ad 330) 1 = nI (wu A2) → X0 103 [(0, .ref (ad 4)), (4, .int (nI s))] [] mk 0 0 := by
    intro mk R Sk Fk Vk hrowk husk
    have hdm : A2 / S2v = V ia / V iu := by rw [← hA2, ← hS2v, Nat.mul_div_mul_right _ _ (Nat.pow_pos (by decide))]
    have hmm : A2 % S2v / 2 ^ s = V ia % V iu := by rw [← hA2, ← hS2v, Nat.mul_mod_mul_right, Nat.mul_div_cancel _ (Nat.pow_pos (by decide))]
    have hlt : A2 % S2v < wB ^ wu A2 := Nat.lt_of_le_of_lt (Nat.mod_le _ _) (wu_lt hAs)
    have key := c_Wh_shiftDown (l := l) (D := D) (ca := ca) (s := s) (Sk.wh 115 (by decide)) hrowk husk huA hlt hs30
    rw [hmm] at key
    refine jm_run hX [] 20 ?_
    refine And.intro (od Sk) ⟨some (ad 330), rr Sk, ?_⟩
    refine And.intro (Sk.wh 115 (by decide)).1 (And.intro (Nat.le_of_ble_eq_true rfl) (And.intro (Nat.le_of_ble_eq_true rfl) ⟨0, 0, _, Nat.le_refl _, Nat.le_refl _, key, fun v m' hq => ?_⟩))
    obtain ⟨rfl, rfl⟩ := hq
    refine ⟨Nat.le_refl _, Nat.le_refl _, trivial, rfl, Fk.tr (FRW.wS (i := 115) (by decide)), S2v, ?_⟩
    have := WVx.fix (X := V ia % V iu) Sk Vk (by decide) (Nat.lt_of_le_of_lt (Nat.mod_le _ _) hA13)
    rw [hdm, va_up_comm _ _ _ (show (116 : Nat) ≠ 115 by decide)] at this
    exact this
  have loop : ∀ (k Q R : Nat) (mk : jm_M), k + wu S2v ≤ wu A2 + 1 → SST mk ad → FRW ad m mk → WVx mk ad 115 (va_up (va_up V 114 Q) 116 S2v) → mk.2.2.1 (ad 331) = wr R → mk.2.2.1 (ad 330) 1 = nI (wu A2) → R + Q * S2v = A2 → R < S2v * wB ^ k → Q % wB ^ k = 0 → X0 77 [(0, .ref (ad 4)), (4, .int (nI s)), (5, .int (nI k + (-1)))] [] mk 0 0 := by
    intro k
    induction k with
    | zero =>
      intro Q R mk hk Sk Fk Vk hrowk husk hsum hRl hQk
      rw [Nat.pow_zero, Nat.mul_one] at hRl
      have e1 : A2 / S2v = Q := by rw [← hsum, Nat.add_mul_div_right _ _ hS2pos, Nat.div_eq_of_lt hRl, Nat.zero_add]
      have e2 : A2 % S2v = R := by rw [← hsum, Nat.add_mul_mod_self_right, Nat.mod_eq_of_lt hRl]
      refine jm_run hX [(103, [0, 4])] 10 ?_
      refine And.intro (fun _ => fin mk R Sk Fk (by rw [e1]; exact Vk) (by rw [e2]; exact hrowk) husk) (fun g => absurd (by decide) g)
    | succ k ih =>
      intro Q R mk hk Sk Fk Vk hrowk husk hsum hRl hQk
      have e4 : nI (k + 1) + (-1) = nI k := pk_m1 k
      rw [e4]
      have hRA : R ≤ A2 := by omega
      have hR13 : R < wB ^ 13 := by omega
      have gS : va_up (va_up V 114 Q) 116 S2v 116 = S2v := va_up_self _ _ _
      have gQ : va_up (va_up V 114 Q) 116 S2v 114 = Q := by rw [va_up_ne _ _ (by decide), va_up_self]
      have hR1 : R / wB ^ k < S2v * wB := by
        refine Nat.div_lt_of_lt_mul ?_
        rw [Nat.mul_comm, Nat.mul_assoc, Nat.mul_comm wB, ← Nat.pow_succ]
        exact hRl
      have hR' : R % wB ^ k + R / wB ^ k % S2v * wB ^ k + (R / wB ^ k / S2v * wB ^ k) * S2v = R := by
        have a1 := Nat.div_add_mod R (wB ^ k)
        have a2 := Nat.div_add_mod (R / wB ^ k) S2v
        have a3 : wB ^ k * (R / wB ^ k) = (S2v * (R / wB ^ k / S2v) + R / wB ^ k % S2v) * wB ^ k := by rw [a2, Nat.mul_comm]
        rw [Nat.add_mul] at a3
        have a4 : R / wB ^ k / S2v * wB ^ k * S2v = S2v * (R / wB ^ k / S2v) * wB ^ k := by
          rw [Nat.mul_comm, Nat.mul_assoc]
        omega
      have hd : R / wB ^ k / S2v < wB := Nat.div_lt_of_lt_mul hR1
      have key := c_Dv_nextDigit (l := l) (D := D) (ca := ca) (a := k) Sk Vk hrowk hR13 (by rw [gS]; exact q1') (by rw [gS]; exact q2) (by rw [gS]; omega) (by rw [gS]; exact hR1)
      rw [gS] at key
      have F7 : FRW ad m (uA mk (ad 331) (wr (R % wB ^ k + R / wB ^ k % S2v * wB ^ k))) := Fk.tr (FRW.uA (i := 115) (by decide))
      have S7 := F7.S S
      have V7 := WVx.row (g := wr (R % wB ^ k + R / wB ^ k % S2v * wB ^ k)) Sk Vk (by decide)
      have hrow7 : (uA mk (ad 331) (wr (R % wB ^ k + R / wB ^ k % S2v * wB ^ k))).2.2.1 (ad 331) = wr (R % wB ^ k + R / wB ^ k % S2v * wB ^ k) := va_up_self _ _ _
      have hus7 : (uA mk (ad 331) (wr (R % wB ^ k + R / wB ^ k % S2v * wB ^ k))).2.2.1 (ad 330) 1 = nI (wu A2) := by
        show va_up mk.2.2.1 (ad 331) _ (ad 330) 1 = _
        rw [va_up_ne _ _ (S.ne (i := 330) (j := 331) (Or.inr (by decide)) (Or.inr (by decide)) (by decide))]
        exact husk
      have V7' : WVx (uA mk (ad 331) (wr (R % wB ^ k + R / wB ^ k % S2v * wB ^ k))) ad 115 (va_up (va_up V 114 Q) 116 S2v) := V7
      generalize uA mk (ad 331) (wr (R % wB ^ k + R / wB ^ k % S2v * wB ^ k)) = m7 at F7 S7 V7' hrow7 hus7 key
      have V114 := V7' 114 (by decide) (by decide)
      rw [gQ] at V114
      have hk13 : k < 13 := by omega
      have hwl : wl Q k = 0 := wl_div0 hQk
      have key7 := c_Wh_setLimb (l := l) (D := D) (ca := ca) (a := k) (d := R / wB ^ k / S2v) (S7.wh 114 (by decide)) V114 hk13 hwl hd
      have hQ13 := (wl_put V114.1 hk13 hwl hd).1
      have F8 : FRW ad m (whS m7 (ad 328) (ad 329) (Q + R / wB ^ k / S2v * wB ^ k)) := F7.tr (FRW.wS (i := 114) (by decide))
      have S8 := F8.S S
      have V8 := WVx.set (i := 114) S7 V7' (by decide) hQ13
      rw [va_up_comm _ _ _ (show (116 : Nat) ≠ 114 by decide), bx_uu] at V8
      have hrow8 : (whS m7 (ad 328) (ad 329) (Q + R / wB ^ k / S2v * wB ^ k)).2.2.1 (ad 331) = wr (R % wB ^ k + R / wB ^ k % S2v * wB ^ k) := by
        show va_up (va_up m7.2.2.1 (ad 329) _) (ad 328) _ (ad 331) = _
        rw [va_up_ne _ _ (S.ne (i := 331) (j := 328) (Or.inr (by decide)) (Or.inr (by decide)) (by decide)), va_up_ne _ _ (S.ne (i := 331) (j := 329) (Or.inr (by decide)) (Or.inr (by decide)) (by decide))]
        exact hrow7
      have hus8 : (whS m7 (ad 328) (ad 329) (Q + R / wB ^ k / S2v * wB ^ k)).2.2.1 (ad 330) 1 = nI (wu A2) := by
        show va_up (va_up m7.2.2.1 (ad 329) _) (ad 328) _ (ad 330) 1 = _
        rw [va_up_ne _ _ (S.ne (i := 330) (j := 328) (Or.inr (by decide)) (Or.inr (by decide)) (by decide)), va_up_ne _ _ (S.ne (i := 330) (j := 329) (Or.inr (by decide)) (Or.inr (by decide)) (by decide))]
        exact hus7
      have kk := ih (Q + R / wB ^ k / S2v * wB ^ k) (R % wB ^ k + R / wB ^ k % S2v * wB ^ k) _ (by omega) S8 F8 V8 hrow8 hus8 (by rw [Nat.add_mul]; omega) (by
        have h1 : R % wB ^ k < wB ^ k := Nat.mod_lt _ (wB_pos k)
        have h2 : R / wB ^ k % S2v < S2v := Nat.mod_lt _ hS2pos
        have h3 : (R / wB ^ k % S2v + 1) * wB ^ k ≤ S2v * wB ^ k := Nat.mul_le_mul_right _ h2
        rw [Nat.add_mul, Nat.one_mul] at h3
        omega) (by
        rw [Nat.add_mul_mod_self_right]
        have e : wB ^ (k + 1) = wB ^ k * wB := Nat.pow_succ ..
        have := Nat.mod_mul_right_mod Q (wB ^ k) wB
        rw [← e, hQk, Nat.zero_mod] at this
        exact this.symm)
      refine jm_run hX [(77, [0, 4, 5]), (103, [0, 4])] 40 ?_
      refine And.intro (fun g => absurd g (nI_pos (by omega))) (fun _ => ?_)
      refine And.intro (od Sk) ⟨some (ad 328), rq Sk, ?_⟩
      refine And.intro (od Sk) (And.intro (Nat.le_of_ble_eq_true rfl) (And.intro (Nat.le_of_ble_eq_true rfl) ⟨0, 0, _, Nat.le_refl _, Nat.le_refl _, key, fun v m' hq => ?_⟩))
      obtain ⟨rfl, rfl⟩ := hq
      refine And.intro (S7.wh 114 (by decide)).1 (And.intro (Nat.le_of_ble_eq_true rfl) (And.intro (Nat.le_of_ble_eq_true rfl) ⟨0, 0, _, Nat.le_refl _, Nat.le_refl _, key7, fun v m' hq => ?_⟩))
      obtain ⟨rfl, rfl⟩ := hq
      exact kk
  refine And.intro (od S6) ⟨some (ad 330), rr S6, And.intro (S6.wh 115 (by decide)).1 ?_⟩
  refine And.intro (od S6) ⟨some (ad 332), rs S6, And.intro (S6.wh 116 (by decide)).1 ?_⟩
  have V6x : WVx m6 ad 115 (va_up (va_up V 114 0) 116 S2v) := fun i hi hix => by
    have := V6 i hi
    rw [va_up_ne _ _ hix] at this
    exact this
  have eat : m6.2.2.1 (ad 330) 1 - m6.2.2.1 (ad 332) 1 = nI (wu A2) - nI (wu S2v) := by
    rw [show m6.2.2.1 (ad 330) 1 = nI (wu A2) from hV115.2.2, show m6.2.2.1 (ad 332) 1 = nI (wu S2v) from hV116.2.2]
  rcases Nat.lt_or_ge (wu A2) (wu S2v) with hlt | hge
  · -- less than the divisor: no digit
    have hAS : A2 < S2v := by
      have h1 := wu_lt hAs
      have h2 := wu_ge hUs hlt
      omega
    have kf := fin m6 A2 S6 F6 (by rw [Nat.div_eq_of_lt hAS]; exact V6x) (by rw [Nat.mod_eq_of_lt hAS]; exact hV115.2.1) hV115.2.2
    have k77 : X0 77 [(0, .ref (ad 4)), (4, .int (nI s)), (5, .int (nI (wu A2) - nI (wu S2v)))] [] m6 0 0 := by
      refine jm_run hX [(103, [0, 4])] 10 ?_
      refine And.intro (fun _ => kf) (fun g => ?_)
      exact absurd (pk_sneg (by omega) hlt) g
    rw [← eat, ← es] at k77
    exact k77
  · have k77 := loop (wu A2 - wu S2v + 1) 0 A2 m6 (by omega) S6 F6 V6x hV115.2.1 hV115.2.2 (by rw [Nat.zero_mul]; rfl) (by
      have h1 := wu_lt hAs
      have h2 := wu_ge hUs (show wu S2v - 1 < wu S2v by omega)
      have h3 : wB ^ (wu S2v - 1) * wB ^ (wu A2 - wu S2v + 1) ≤ S2v * wB ^ (wu A2 - wu S2v + 1) := Nat.mul_le_mul_right _ h2
      rw [← Nat.pow_add, show wu S2v - 1 + (wu A2 - wu S2v + 1) = wu A2 by omega] at h3
      omega) (Nat.zero_mod _)
    rw [pk_m1, ← pk_sub hge, ← eat, ← es] at k77
    exact k77
end DV3
end
section
/-! Parts of a fraction. -/
def prem (A U : Nat) : Nat → Nat
  | 0 => A % U
  | j + 1 => prem A U j * 1000000000 % U
def ppart (A U : Nat) : Nat → Nat
  | 0 => A / U
  | j + 1 => prem A U j * 1000000000 / U
theorem prem_lt {A U : Nat} (hU : 0 < U) : ∀ j, prem A U j < U
  | 0 => Nat.mod_lt _ hU
  | _ + 1 => Nat.mod_lt _ hU
/-- the same numbers but for those of Division -/
def sameV (V V' : Nat → Nat) : Prop := ∀ i, i < 132 → i ≠ 114 → i ≠ 115 → i ≠ 116 → i ≠ 117 → V' i = V i
theorem sameV.tr {V1 V2 V3 : Nat → Nat} (h : sameV V1 V2) (g : sameV V2 V3) : sameV V1 V3 := fun i a b c d e => (g i a b c d e).trans (h i a b c d e)
section DV4
variable {l : Launch} {D : va_G} {ca : Nat → ClassId}
theorem c_Dv_partOf {m : jm_M} {ad V : Nat → Nat} {ia iu pt : Nat} (S : SST m ad) (hV : WV m ad V) (hia : ia < 132) (hiu : iu < 132) (ha : ia ≠ 114 ∧ ia ≠ 115 ∧ ia ≠ 116) (hu : iu ≠ 114 ∧ iu ≠ 115 ∧ iu ≠ 116 ∧ iu ≠ 117) (hA : V ia < wB ^ 12) (hU : V iu < wB ^ 11) (hU0 : 0 < V iu) (hpt : pt ≤ 6) : jm_C l D ca n_Dv_partOf [.ref (ad 4), .ref (ad (100 + 2 * ia)), .ref (ad (100 + 2 * iu)), .int (nI pt)] m 0 0 (fun v m' => v = some (.long (lN (ppart (V ia) (V iu) pt))) ∧ FRW ad m m' ∧ ∃ V', WV m' ad V' ∧ sameV V V') := by
  refine jm_C_of (cd := cd_Dv_partOf) (ini := false) (by decide +kernel) ok_Dv_partOf (fun h => by cases h) (Nat.le_of_ble_eq_true rfl) ?_
  intro X0 hX
  have h1112 : wB ^ 11 * 1073741824 = wB ^ 12 := (Nat.pow_succ (n := wB) (m := 11)).symm
  have hU12 : V iu < wB ^ 12 := by omega
  have h1213 : wB ^ 12 * 1073741824 = wB ^ 13 := (Nat.pow_succ (n := wB) (m := 12)).symm
  have od : ∀ {m' : jm_M}, SST m' ad → jm_ok m' (ad 4) 0 := fun S => S.ok 4 (Or.inl (by decide))
  have rq : ∀ {m' : jm_M}, SST m' ad → m'.2.2.2.2 (ad 4) 0 = some (ad 328) := fun S => S.2.2.1 (4, 0, 328) (by decide)
  have rr : ∀ {m' : jm_M}, SST m' ad → m'.2.2.2.2 (ad 4) 1 = some (ad 330) := fun S => S.2.2.1 (4, 1, 330) (by decide)
  have rx : ∀ {m' : jm_M}, SST m' ad → m'.2.2.2.2 (ad 4) 3 = some (ad 334) := fun S => S.2.2.1 (4, 3, 334) (by decide)
  have loop : ∀ (d j : Nat) (mk : jm_M) (Vk : Nat → Nat), j + d = pt → SST mk ad → FRW ad m mk → WV mk ad Vk → sameV V Vk → Vk 114 = ppart (V ia) (V iu) j → Vk 115 = prem (V ia) (V iu) j → X0 9 [(0, .ref (ad 4)), (2, .ref (ad (100 + 2 * iu))), (3, .int (nI pt)), (4, .int (nI j))] [] mk 0 0 := by
    intro d
    induction d with
    | zero =>
      intro j mk Vk hj Sk Fk WVk hs h114 h115
      have key := c_Wh_lowestBits (l := l) (D := D) (ca := ca) (Sk.wh 114 (by decide)) (WVk 114 (by decide))
      refine jm_run hX [] 20 ?_
      refine And.intro (fun _ => ?_) (fun g => absurd (nI_le (show pt ≤ j by omega) (by omega)) g)
      refine And.intro (od Sk) ⟨some (ad 328), rq Sk, ?_⟩
      refine And.intro (Sk.wh 114 (by decide)).1 (And.intro (Nat.le_of_ble_eq_true rfl) (And.intro (Nat.le_of_ble_eq_true rfl) ⟨0, 0, _, Nat.le_refl _, Nat.le_refl _, key, fun v m' hq => ?_⟩))
      obtain ⟨rfl, rfl⟩ := hq
      refine ⟨Nat.le_refl _, Nat.le_refl _, trivial, ?_, Fk, Vk, WVk, hs⟩
      rw [h114, show j = pt by omega]
    | succ d ih =>
      intro j mk Vk hj Sk Fk WVk hs h114 h115
      have hprem := prem_lt (A := V ia) hU0 j
      have hnext : prem (V ia) (V iu) j * 1000000000 < wB ^ 12 := by
        rw [← h1112]
        have h1 : prem (V ia) (V iu) j * 1000000000 ≤ V iu * 1000000000 := Nat.mul_le_mul_right _ (Nat.le_of_lt hprem)
        omega
      -- next.become(0)
      have key1 := c_Wh_become_1 (l := l) (D := D) (ca := ca) (V := 0) (Sk.wh 117 (by decide)) (WVk 117 (by decide)).R (by decide)
      have F1 : FRW ad m (whS mk (ad 334) (ad 335) 0) := Fk.tr (FRW.wS (i := 117) (by decide))
      have S1 := F1.S S
      have V1 : WV (whS mk (ad 334) (ad 335) 0) ad (va_up Vk 117 0) := WV.set (i := 117) Sk WVk (by decide) (wB_pos 13)
      generalize hm1 : whS mk (ad 334) (ad 335) 0 = m1 at F1 S1 V1
      -- next.addTimes(rest, 10^9)
      have g117 : va_up Vk 117 0 117 = 0 := va_up_self _ _ _
      have g115 : va_up Vk 117 0 115 = prem (V ia) (V iu) j := by rw [va_up_ne _ _ (by decide)]; exact h115
      have hn1 : ad 335 ≠ ad 331 := S.ne (i := 335) (j := 331) (Or.inr (by decide)) (Or.inr (by decide)) (by decide)
      have ezn : 0 + 1000000000 * prem (V ia) (V iu) j = prem (V ia) (V iu) j * 1000000000 := by omega
      have key2 := c_Wh_addTimes (l := l) (D := D) (ca := ca) (F := 1000000000) (S1.wh 117 (by decide)) (V1 117 (by decide)) (S1.wh 115 (by decide)) (V1 115 (by decide)) hn1 (by decide) (by rw [g117, g115, ezn]; omega)
      rw [g117, g115, ezn] at key2
      have F2 : FRW ad m (whS m1 (ad 334) (ad 335) (prem (V ia) (V iu) j * 1000000000)) := F1.tr (FRW.wS (i := 117) (by decide))
      have S2 := F2.S S
      have V2 : WV (whS m1 (ad 334) (ad 335) (prem (V ia) (V iu) j * 1000000000)) ad (va_up (va_up Vk 117 0) 117 (prem (V ia) (V iu) j * 1000000000)) := WV.set (i := 117) S1 V1 (by decide) (by omega)
      rw [bx_uu] at V2
      generalize hm2 : whS m1 (ad 334) (ad 335) (prem (V ia) (V iu) j * 1000000000) = m2 at F2 S2 V2
      -- divide(next, under)
      have gU : va_up Vk 117 (prem (V ia) (V iu) j * 1000000000) iu = V iu := by rw [va_up_ne _ _ hu.2.2.2]; exact hs iu hiu hu.1 hu.2.1 hu.2.2.1 hu.2.2.2
      have gX : va_up Vk 117 (prem (V ia) (V iu) j * 1000000000) 117 = prem (V ia) (V iu) j * 1000000000 := va_up_self _ _ _
      have key3 := c_Dv_divide (l := l) (D := D) (ca := ca) (ia := 117) (iu := iu) S2 V2 (by decide) hiu ⟨by decide, by decide, by decide⟩ ⟨hu.1, hu.2.1, hu.2.2.1⟩ (by rw [gX]; exact hnext) (by rw [gU]; exact hU12)
      rw [gX, gU] at key3
      refine jm_run hX [(9, [0, 2, 3, 4])] 40 ?_
      refine And.intro (fun g => absurd g (nI_ge (show j < pt by omega) (by omega))) (fun _ => ?_)
      refine And.intro (od Sk) ⟨some (ad 334), rx Sk, ?_⟩
      refine And.intro (Sk.wh 117 (by decide)).1 (And.intro (Nat.le_of_ble_eq_true rfl) (And.intro (Nat.le_of_ble_eq_true rfl) ⟨0, 0, _, Nat.le_refl _, Nat.le_refl _, key1, fun v m' hq => ?_⟩))
      obtain ⟨rfl, e⟩ := hq
      rw [show whS mk (ad (100 + 2 * 117)) (ad (101 + 2 * 117)) 0 = m1 from hm1] at e
      have e := e.symm
      subst e
      refine And.intro (od S1) ⟨some (ad 334), rx S1, ?_⟩
      refine And.intro (od S1) ⟨some (ad 330), rr S1, ?_⟩
      refine And.intro (S1.wh 117 (by decide)).1 (And.intro (Nat.le_of_ble_eq_true rfl) (And.intro (Nat.le_of_ble_eq_true rfl) ⟨0, 0, _, Nat.le_refl _, Nat.le_refl _, key2, fun v m' hq => ?_⟩))
      obtain ⟨rfl, e⟩ := hq
      rw [show whS m1 (ad (100 + 2 * 117)) (ad (101 + 2 * 117)) (prem (V ia) (V iu) j * 1000000000) = m2 from hm2] at e
      have e := e.symm
      subst e
      refine And.intro (od S2) ⟨some (ad 334), rx S2, ?_⟩
      refine And.intro (od S2) (And.intro (Nat.le_of_ble_eq_true rfl) (And.intro (Nat.le_of_ble_eq_true rfl) ⟨0, 0, _, Nat.le_refl _, Nat.le_refl _, key3, fun v m3 hq => ?_⟩))
      obtain ⟨rfl, F3, z, V3⟩ := hq
      have k := ih (j + 1) m3 _ (by omega) (F3.S S2) (F2.tr F3) V3 (hs.tr (fun i hi a b c d => by
        rw [va_up_ne _ _ c, va_up_ne _ _ b, va_up_ne _ _ a, va_up_ne _ _ d])) (by
        rw [va_up_ne _ _ (by decide), va_up_ne _ _ (by decide), va_up_self]; rfl) (by
        rw [va_up_ne _ _ (by decide), va_up_self]; rfl)
      rw [← nI_1] at k
      exact k
  have key0 := c_Dv_divide (l := l) (D := D) (ca := ca) (ia := ia) (iu := iu) S hV hia hiu ha ⟨hu.1, hu.2.1, hu.2.2.1⟩ hA hU12
  refine jm_run hX [(9, [0, 2, 3, 4])] 40 ?_
  refine And.intro (od S) (And.intro (Nat.le_of_ble_eq_true rfl) (And.intro (Nat.le_of_ble_eq_true rfl) ⟨0, 0, _, Nat.le_refl _, Nat.le_refl _, key0, fun v m' hq => ?_⟩))
  obtain ⟨rfl, F3, z, V3⟩ := hq
  exact loop pt 0 m' _ (by omega) (F3.S S) F3 V3 (fun i hi a b c d => by
    rw [va_up_ne _ _ c, va_up_ne _ _ b, va_up_ne _ _ a]) (by
    rw [va_up_ne _ _ (by decide), va_up_ne _ _ (by decide), va_up_self]; rfl) (by
    rw [va_up_ne _ _ (by decide), va_up_self]; rfl)
/-- a part of - A / U -/
def npart (A U pt : Nat) : Int64 := if A % U = 0 then (if pt = 0 then - lN (A / U) else 0) else if pt = 0 then - lN (A / U) - 1 else lN (ppart (U - A % U) U pt)
theorem c_Dv_partOfNegative {m : jm_M} {ad V : Nat → Nat} {ia iu pt : Nat} (S : SST m ad) (hV : WV m ad V) (hia : ia < 132) (hiu : iu < 132) (ha : ia ≠ 114 ∧ ia ≠ 115 ∧ ia ≠ 116) (hu : iu ≠ 114 ∧ iu ≠ 115 ∧ iu ≠ 116 ∧ iu ≠ 117) (hA : V ia < wB ^ 12) (hU : V iu < wB ^ 11) (hU0 : 0 < V iu) (hpt : pt ≤ 6) : jm_C l D ca n_Dv_partOfNegative [.ref (ad 4), .ref (ad (100 + 2 * ia)), .ref (ad (100 + 2 * iu)), .int (nI pt)] m 0 0 (fun v m' => v = some (.long (npart (V ia) (V iu) pt)) ∧ FRW ad m m' ∧ ∃ V', WV m' ad V' ∧ sameV V V') := by
  refine jm_C_of (cd := cd_Dv_partOfNegative) (ini := false) (by decide +kernel) ok_Dv_partOfNegative (fun h => by cases h) (Nat.le_of_ble_eq_true rfl) ?_
  intro X0 hX
  have h1112 : wB ^ 11 * 1073741824 = wB ^ 12 := (Nat.pow_succ (n := wB) (m := 11)).symm
  have hU12 : V iu < wB ^ 12 := by omega
  have h1213 : wB ^ 12 * 1073741824 = wB ^ 13 := (Nat.pow_succ (n := wB) (m := 12)).symm
  have od : ∀ {m' : jm_M}, SST m' ad → jm_ok m' (ad 4) 0 := fun S => S.ok 4 (Or.inl (by decide))
  have rq : ∀ {m' : jm_M}, SST m' ad → m'.2.2.2.2 (ad 4) 0 = some (ad 328) := fun S => S.2.2.1 (4, 0, 328) (by decide)
  have rr : ∀ {m' : jm_M}, SST m' ad → m'.2.2.2.2 (ad 4) 1 = some (ad 330) := fun S => S.2.2.1 (4, 1, 330) (by decide)
  have rx : ∀ {m' : jm_M}, SST m' ad → m'.2.2.2.2 (ad 4) 3 = some (ad 334) := fun S => S.2.2.1 (4, 3, 334) (by decide)
  have key0 := c_Dv_divide (l := l) (D := D) (ca := ca) (ia := ia) (iu := iu) S hV hia hiu ha ⟨hu.1, hu.2.1, hu.2.2.1⟩ hA hU12
  have hpt0 : nI pt = 0 ↔ pt = 0 := by rw [← nI_0, nI_eq (by omega) (by omega)]
  refine jm_run hX [] 60 ?_
  refine And.intro (od S) (And.intro (Nat.le_of_ble_eq_true rfl) (And.intro (Nat.le_of_ble_eq_true rfl) ⟨0, 0, _, Nat.le_refl _, Nat.le_refl _, key0, fun v m1 hq => ?_⟩))
  obtain ⟨rfl, F1, z, V1⟩ := hq
  have S1 := F1.S S
  have g114 : va_up (va_up (va_up V 114 (V ia / V iu)) 115 (V ia % V iu)) 116 z 114 = V ia / V iu := by rw [va_up_ne _ _ (by decide), va_up_ne _ _ (by decide), va_up_self]
  have g115 : va_up (va_up (va_up V 114 (V ia / V iu)) 115 (V ia % V iu)) 116 z 115 = V ia % V iu := by rw [va_up_ne _ _ (by decide), va_up_self]
  have gU : va_up (va_up (va_up V 114 (V ia / V iu)) 115 (V ia % V iu)) 116 z iu = V iu := by rw [va_up_ne _ _ hu.2.2.1, va_up_ne _ _ hu.2.1, va_up_ne _ _ hu.1]
  have hs1 : sameV V (va_up (va_up (va_up V 114 (V ia / V iu)) 115 (V ia % V iu)) 116 z) := fun i hi a b c d => by
    rw [va_up_ne _ _ c, va_up_ne _ _ b, va_up_ne _ _ a]
  generalize va_up (va_up (va_up V 114 (V ia / V iu)) 115 (V ia % V iu)) 116 z = W1 at *
  have key1 := c_Wh_isZero (l := l) (D := D) (ca := ca) (S1.wh 115 (by decide)) (V1 115 (by decide))
  have key2 := c_Wh_lowestBits (l := l) (D := D) (ca := ca) (S1.wh 114 (by decide)) (V1 114 (by decide))
  rw [g115] at key1
  rw [g114] at key2
  refine And.intro (od S1) ⟨some (ad 330), rr S1, ?_⟩
  refine And.intro (S1.wh 115 (by decide)).1 (And.intro (Nat.le_of_ble_eq_true rfl) (And.intro (Nat.le_of_ble_eq_true rfl) ⟨0, 0, _, Nat.le_refl _, Nat.le_refl _, key1, fun v m' hq => ?_⟩))
  obtain ⟨e, rfl⟩ := hq
  have e := e.symm
  subst e
  by_cases hr0 : V ia % V iu = 0
  · rw [if_pos hr0]
    refine And.intro (fun g => absurd g (by decide)) (fun _ => ?_)
    by_cases hp0 : pt = 0
    · refine And.intro (fun _ => ?_) (fun g => absurd (hpt0.mpr hp0) g)
      refine And.intro (od S1) ⟨some (ad 328), rq S1, ?_⟩
      refine And.intro (S1.wh 114 (by decide)).1 (And.intro (Nat.le_of_ble_eq_true rfl) (And.intro (Nat.le_of_ble_eq_true rfl) ⟨0, 0, _, Nat.le_refl _, Nat.le_refl _, key2, fun v m' hq => ?_⟩))
      obtain ⟨e, rfl⟩ := hq
      have e := e.symm
      subst e
      refine ⟨Nat.le_refl _, Nat.le_refl _, trivial, ?_, F1, W1, V1, hs1⟩
      unfold npart
      rw [if_pos hr0, if_pos hp0]
    · refine And.intro (fun g => absurd (hpt0.mp g) hp0) (fun _ => ?_)
      refine ⟨Nat.le_refl _, Nat.le_refl _, trivial, ?_, F1, W1, V1, hs1⟩
      unfold npart
      rw [if_pos hr0, if_neg hp0]
  · rw [if_neg hr0]
    refine And.intro (fun _ => ?_) (fun g => absurd rfl g)
    by_cases hp0 : pt = 0
    · refine And.intro (fun _ => ?_) (fun g => absurd (hpt0.mpr hp0) g)
      refine And.intro (od S1) ⟨some (ad 328), rq S1, ?_⟩
      refine And.intro (S1.wh 114 (by decide)).1 (And.intro (Nat.le_of_ble_eq_true rfl) (And.intro (Nat.le_of_ble_eq_true rfl) ⟨0, 0, _, Nat.le_refl _, Nat.le_refl _, key2, fun v m' hq => ?_⟩))
      obtain ⟨e, rfl⟩ := hq
      have e := e.symm
      subst e
      refine ⟨Nat.le_refl _, Nat.le_refl _, trivial, ?_, F1, W1, V1, hs1⟩
      unfold npart
      rw [if_neg hr0, if_pos hp0]
    · refine And.intro (fun g => absurd (hpt0.mp g) hp0) (fun _ => ?_)
      have hrU := Nat.mod_lt (V ia) hU0
      -- next.become(under)
      have hnU : ad 335 ≠ ad (100 + 2 * iu) := S.ne (i := 335) (Or.inr (by decide)) (kin_o hiu) (by omega)
      have key3 := c_Wh_become_2 (l := l) (D := D) (ca := ca) (S1.wh 117 (by decide)) (V1 117 (by decide)).R (S1.wh iu hiu) (V1 iu hiu) hnU
      rw [gU] at key3
      have F2 : FRW ad m (whS m1 (ad 334) (ad 335) (V iu)) := F1.tr (FRW.wS (i := 117) (by decide))
      have S2 := F2.S S
      have V2 : WV (whS m1 (ad 334) (ad 335) (V iu)) ad (va_up W1 117 (V iu)) := WV.set (i := 117) S1 V1 (by decide) (by omega)
      generalize hm2 : whS m1 (ad 334) (ad 335) (V iu) = m2 at F2 S2 V2
      -- next.subtract(rest)
      have hn1 : ad 335 ≠ ad 331 := S.ne (i := 335) (j := 331) (Or.inr (by decide)) (Or.inr (by decide)) (by decide)
      have h117 : va_up W1 117 (V iu) 117 = V iu := va_up_self _ _ _
      have h115 : va_up W1 117 (V iu) 115 = V ia % V iu := by rw [va_up_ne _ _ (by decide)]; exact g115
      have key4 := c_Wh_subtract (l := l) (D := D) (ca := ca) (S2.wh 117 (by decide)) (V2 117 (by decide)) (S2.wh 115 (by decide)) (V2 115 (by decide)) hn1 (by rw [h117, h115]; omega)
      rw [h117, h115] at key4
      have F3 : FRW ad m (whS m2 (ad 334) (ad 335) (V iu - V ia % V iu)) := F2.tr (FRW.wS (i := 117) (by decide))
      have S3 := F3.S S
      have V3 : WV (whS m2 (ad 334) (ad 335) (V iu - V ia % V iu)) ad (va_up (va_up W1 117 (V iu)) 117 (V iu - V ia % V iu)) := WV.set (i := 117) S2 V2 (by decide) (by omega)
      rw [bx_uu] at V3
      generalize hm3 : whS m2 (ad 334) (ad 335) (V iu - V ia % V iu) = m3 at F3 S3 V3
      have k117 : va_up W1 117 (V iu - V ia % V iu) 117 = V iu - V ia % V iu := va_up_self _ _ _
      have kU : va_up W1 117 (V iu - V ia % V iu) iu = V iu := by rw [va_up_ne _ _ hu.2.2.2]; exact gU
      have key5 := c_Dv_partOf (l := l) (D := D) (ca := ca) (ia := 117) (iu := iu) (pt := pt) S3 V3 (by decide) hiu ⟨by decide, by decide, by decide⟩ hu (by rw [k117]; omega) (by rw [kU]; exact hU) (by rw [kU]; exact hU0) hpt
      rw [k117, kU] at key5
      refine And.intro (od S1) ⟨some (ad 334), rx S1, ?_⟩
      refine And.intro (S1.wh 117 (by decide)).1 (And.intro (Nat.le_of_ble_eq_true rfl) (And.intro (Nat.le_of_ble_eq_true rfl) ⟨0, 0, _, Nat.le_refl _, Nat.le_refl _, key3, fun v m' hq => ?_⟩))
      obtain ⟨rfl, e⟩ := hq
      rw [show whS m1 (ad (100 + 2 * 117)) (ad (101 + 2 * 117)) (V iu) = m2 from hm2] at e
      have e := e.symm
      subst e
      refine And.intro (od S2) ⟨some (ad 334), rx S2, ?_⟩
      refine And.intro (od S2) ⟨some (ad 330), rr S2, ?_⟩
      refine And.intro (S2.wh 117 (by decide)).1 (And.intro (Nat.le_of_ble_eq_true rfl) (And.intro (Nat.le_of_ble_eq_true rfl) ⟨0, 0, _, Nat.le_refl _, Nat.le_refl _, key4, fun v m' hq => ?_⟩))
      obtain ⟨rfl, e⟩ := hq
      rw [show whS m2 (ad (100 + 2 * 117)) (ad (101 + 2 * 117)) (V iu - V ia % V iu) = m3 from hm3] at e
      have e := e.symm
      subst e
      refine And.intro (od S3) ⟨some (ad 334), rx S3, ?_⟩
      refine And.intro (od S3) (And.intro (Nat.le_of_ble_eq_true rfl) (And.intro (Nat.le_of_ble_eq_true rfl) ⟨0, 0, _, Nat.le_refl _, Nat.le_refl _, key5, fun v m4 hq => ?_⟩))
      obtain ⟨rfl, F4, V', WV4, hs4⟩ := hq
      refine ⟨Nat.le_refl _, Nat.le_refl _, trivial, ?_, F3.tr F4, V', WV4, (hs1.tr (fun i hi a b c d => va_up_ne _ _ d)).tr hs4⟩
      unfold npart
      rw [if_neg hr0, if_neg hp0]
end DV4
end
section
/-! Line: what was told. ((kinds, machines, ports), outs, joins, shares in units, crushed, becomes, feeds) -/
abbrev LD : Type := (Nat × Nat × Nat) × (Nat → Nat) × (Nat → Int32) × (Nat → Nat) × (Nat → Nat) × (Nat → Nat) × (Nat → Nat)
def LnV (m : jm_M) (ad : Nat → Nat) (d : LD) : Prop :=
  m.2.2.1 (ad 1) 0 = nI d.1.1 ∧ m.2.2.1 (ad 1) 1 = nI d.1.2.1 ∧ m.2.2.1 (ad 1) 2 = nI d.1.2.2 ∧ m.2.2.1 (ad 5) = (fun i => nI (d.2.1 i)) ∧ m.2.2.1 (ad 6) = d.2.2.1 ∧ m.2.2.1 (ad 7) = (fun i => nI (d.2.2.2.1 i)) ∧ m.2.2.1 (ad 8) = (fun i => nI (d.2.2.2.2.1 i)) ∧ m.2.2.1 (ad 9) = (fun i => nI (d.2.2.2.2.2.1 i)) ∧ m.2.2.2.1 (ad 10) = (fun i => lN (d.2.2.2.2.2.2 i))
/-- where an out goes: a machine, a port, nothing -/
def jOK (M P : Nat) (t : Int32) : Prop := (0 ≤ t.toInt ∧ t.toInt < (M : Int)) ∨ t.toInt = -1 ∨ (t.toInt ≤ -2 ∧ -2 - t.toInt < (P : Int))
def LOK (d : LD) : Prop :=
  (1 ≤ d.1.1 ∧ d.1.1 ≤ 3) ∧ d.1.2.1 ≤ 3 ∧ d.1.2.2 ≤ 3 ∧ (∀ j, j < d.1.2.1 → 1 ≤ d.2.1 j ∧ d.2.1 j ≤ 3) ∧ (∀ i, i < 9 → jOK d.1.2.1 d.1.2.2 (d.2.2.1 i)) ∧
  (∀ r, r < 9 → ∀ o, o < 3 → d.2.2.2.1 (3 * r + o) ≤ 27720) ∧ (∀ r, r < 9 → d.2.2.2.2.1 r ≤ 27720) ∧ (∀ r, r < 9 → d.2.2.2.2.2.1 r < d.1.1) ∧ (∀ r, r < 9 → d.2.2.2.2.2.2 r ≤ 1000000)
theorem ilt0 (x : Int32) : x < 0 ↔ x.toInt < 0 := by
  rw [Int32.lt_iff_toInt_lt]; exact Iff.rfl
theorem ige0 (x : Int32) : 0 ≤ x ↔ 0 ≤ x.toInt := by
  rw [Int32.le_iff_toInt_le]; exact Iff.rfl
theorem ileN {n : Nat} (h : n < 2 ^ 31) (x : Int32) : nI n ≤ x ↔ (n : Int) ≤ x.toInt := by
  rw [Int32.le_iff_toInt_le, nI_toInt h]
theorem iNle {n : Nat} (h : n < 2 ^ 31) (x : Int32) : x ≤ nI n ↔ x.toInt ≤ (n : Int) := by
  rw [Int32.le_iff_toInt_le, nI_toInt h]
theorem iltN {n : Nat} (h : n < 2 ^ 31) (x : Int32) : x < nI n ↔ x.toInt < (n : Int) := by
  rw [Int32.lt_iff_toInt_lt, nI_toInt h]
theorem iNlt {n : Nat} (h : n < 2 ^ 31) (x : Int32) : nI n < x ↔ (n : Int) < x.toInt := by
  rw [Int32.lt_iff_toInt_lt, nI_toInt h]
theorem ieqN {n : Nat} (h : n < 2 ^ 31) (x : Int32) : x = nI n ↔ x.toInt = (n : Int) := by
  rw [← Int32.toInt_inj, nI_toInt h]
/-- an int that is a number -/
theorem i_of {x : Int32} (h : 0 ≤ x.toInt) : x = nI x.toInt.toNat := by
  have : x.toInt < 2 ^ 31 := x.toInt_lt
  rw [ieqN (by omega)]; omega
section LN
variable {l : Launch} {D : va_G} {ca : Nat → ClassId}
theorem c_Ln_hasMachine {m : jm_M} {ad : Nat → Nat} {d : LD} (S : SST m ad) (L : LnV m ad d) (hM : d.1.2.1 < 2 ^ 31) (x : Int32) : jm_C l D ca n_Ln_hasMachine [.ref (ad 1), .int x] m 0 0 (fun v m' => m' = m ∧ v = some (.int (if 0 ≤ x.toInt ∧ x.toInt < (d.1.2.1 : Int) then 1 else 0))) := by
  refine jm_C_of (cd := cd_Ln_hasMachine) (ini := false) (by decide +kernel) ok_Ln_hasMachine (fun h => by cases h) (Nat.le_of_ble_eq_true rfl) ?_
  intro X hX
  have o1 : jm_ok m (ad 1) 2 := S.ok 1 (Or.inl (by decide))
  refine jm_run hX [] 20 ?_
  refine And.intro (fun g => ?_) (fun g => ?_)
  · rw [ilt0] at g
    exact ⟨Nat.le_refl _, Nat.le_refl _, Or.inl rfl, rfl, by rw [if_neg (by omega)]⟩
  · rw [ilt0] at g
    refine And.intro o1 (And.intro (fun g2 => ?_) (fun g2 => ?_))
    · have g2 : m.2.2.1 (ad 1) 1 ≤ x := g2
      rw [L.2.1, ileN hM] at g2
      exact ⟨Nat.le_refl _, Nat.le_refl _, Or.inl rfl, rfl, by rw [if_neg (by omega)]⟩
    · have g2 : ¬ m.2.2.1 (ad 1) 1 ≤ x := g2
      rw [L.2.1, ileN hM] at g2
      exact ⟨Nat.le_refl _, Nat.le_refl _, Or.inr rfl, rfl, by rw [if_pos (by omega)]⟩
theorem c_Ln_hasPort {m : jm_M} {ad : Nat → Nat} {d : LD} (S : SST m ad) (L : LnV m ad d) (hM : d.1.2.2 < 2 ^ 31) (x : Int32) : jm_C l D ca n_Ln_hasPort [.ref (ad 1), .int x] m 0 0 (fun v m' => m' = m ∧ v = some (.int (if 0 ≤ x.toInt ∧ x.toInt < (d.1.2.2 : Int) then 1 else 0))) := by
  refine jm_C_of (cd := cd_Ln_hasPort) (ini := false) (by decide +kernel) ok_Ln_hasPort (fun h => by cases h) (Nat.le_of_ble_eq_true rfl) ?_
  intro X hX
  have o1 : jm_ok m (ad 1) 2 := S.ok 1 (Or.inl (by decide))
  refine jm_run hX [] 20 ?_
  refine And.intro (fun g => ?_) (fun g => ?_)
  · rw [ilt0] at g
    exact ⟨Nat.le_refl _, Nat.le_refl _, Or.inl rfl, rfl, by rw [if_neg (by omega)]⟩
  · rw [ilt0] at g
    refine And.intro o1 (And.intro (fun g2 => ?_) (fun g2 => ?_))
    · have g2 : m.2.2.1 (ad 1) 2 ≤ x := g2
      rw [L.2.2.1, ileN hM] at g2
      exact ⟨Nat.le_refl _, Nat.le_refl _, Or.inl rfl, rfl, by rw [if_neg (by omega)]⟩
    · have g2 : ¬ m.2.2.1 (ad 1) 2 ≤ x := g2
      rw [L.2.2.1, ileN hM] at g2
      exact ⟨Nat.le_refl _, Nat.le_refl _, Or.inr rfl, rfl, by rw [if_pos (by omega)]⟩
theorem c_Ln_hasKind {m : jm_M} {ad : Nat → Nat} {d : LD} (S : SST m ad) (L : LnV m ad d) (hM : d.1.1 < 2 ^ 31) (x : Int32) : jm_C l D ca n_Ln_hasKind [.ref (ad 1), .int x] m 0 0 (fun v m' => m' = m ∧ v = some (.int (if 0 ≤ x.toInt ∧ x.toInt < (d.1.1 : Int) then 1 else 0))) := by
  refine jm_C_of (cd := cd_Ln_hasKind) (ini := false) (by decide +kernel) ok_Ln_hasKind (fun h => by cases h) (Nat.le_of_ble_eq_true rfl) ?_
  intro X hX
  have o1 : jm_ok m (ad 1) 2 := S.ok 1 (Or.inl (by decide))
  refine jm_run hX [] 20 ?_
  refine And.intro (fun g => ?_) (fun g => ?_)
  · rw [ilt0] at g
    exact ⟨Nat.le_refl _, Nat.le_refl _, Or.inl rfl, rfl, by rw [if_neg (by omega)]⟩
  · rw [ilt0] at g
    refine And.intro o1 (And.intro (fun g2 => ?_) (fun g2 => ?_))
    · have g2 : m.2.2.1 (ad 1) 0 ≤ x := g2
      rw [L.1, ileN hM] at g2
      exact ⟨Nat.le_refl _, Nat.le_refl _, Or.inl rfl, rfl, by rw [if_neg (by omega)]⟩
    · have g2 : ¬ m.2.2.1 (ad 1) 0 ≤ x := g2
      rw [L.1, ileN hM] at g2
      exact ⟨Nat.le_refl _, Nat.le_refl _, Or.inr rfl, rfl, by rw [if_pos (by omega)]⟩
theorem c_Ln_hasRow {m : jm_M} {ad : Nat → Nat} {d : LD} (S : SST m ad) (L : LnV m ad d) (hO : LOK d) (x y : Int32) : jm_C l D ca n_Ln_hasRow [.ref (ad 1), .int x, .int y] m 0 0 (fun v m' => m' = m ∧ v = some (.int (if (0 ≤ x.toInt ∧ x.toInt < (d.1.2.1 : Int)) ∧ 0 ≤ y.toInt ∧ y.toInt < (d.1.1 : Int) then 1 else 0))) := by
  refine jm_C_of (cd := cd_Ln_hasRow) (ini := false) (by decide +kernel) ok_Ln_hasRow (fun h => by cases h) (Nat.le_of_ble_eq_true rfl) ?_
  intro X hX
  have o1 : jm_ok m (ad 1) 2 := S.ok 1 (Or.inl (by decide))
  have hK := hO.1
  have hM := hO.2.1
  refine jm_run hX [] 20 ?_
  refine And.intro o1 (And.intro (Nat.le_of_ble_eq_true rfl) (And.intro (Nat.le_of_ble_eq_true rfl) ⟨0, 0, _, Nat.le_refl _, Nat.le_refl _, c_Ln_hasMachine S L (by omega) x, fun v m' hq => ?_⟩))
  obtain ⟨rfl, rfl⟩ := hq
  by_cases h1 : 0 ≤ x.toInt ∧ x.toInt < (d.1.2.1 : Int)
  · rw [if_pos h1]
    refine And.intro (fun g => absurd g (by decide)) (fun _ => ?_)
    refine And.intro o1 (And.intro (Nat.le_of_ble_eq_true rfl) (And.intro (Nat.le_of_ble_eq_true rfl) ⟨0, 0, _, Nat.le_refl _, Nat.le_refl _, c_Ln_hasKind S L (by omega) y, fun v m2 hq => ?_⟩))
    obtain ⟨rfl, rfl⟩ := hq
    by_cases h2 : 0 ≤ y.toInt ∧ y.toInt < (d.1.1 : Int)
    · rw [if_pos h2]
      refine And.intro (fun g => absurd g (by decide)) (fun _ => ?_)
      exact ⟨Nat.le_refl _, Nat.le_refl _, Or.inr rfl, rfl, by rw [if_pos ⟨h1, h2⟩]⟩
    · rw [if_neg h2]
      refine And.intro (fun _ => ?_) (fun g => absurd rfl g)
      exact ⟨Nat.le_refl _, Nat.le_refl _, Or.inl rfl, rfl, by rw [if_neg (fun z => h2 z.2)]⟩
  · rw [if_neg h1]
    refine And.intro (fun _ => ?_) (fun g => absurd rfl g)
    exact ⟨Nat.le_refl _, Nat.le_refl _, Or.inl rfl, rfl, by rw [if_neg (fun z => h1 z.1)]⟩
theorem c_Ln_hasOut {m : jm_M} {ad : Nat → Nat} {d : LD} (S : SST m ad) (L : LnV m ad d) (hO : LOK d) (x y : Int32) : jm_C l D ca n_Ln_hasOut [.ref (ad 1), .int x, .int y] m 0 0 (fun v m' => m' = m ∧ v = some (.int (if (0 ≤ x.toInt ∧ x.toInt < (d.1.2.1 : Int)) ∧ 0 ≤ y.toInt ∧ y.toInt < (d.2.1 x.toInt.toNat : Int) then 1 else 0))) := by
  refine jm_C_of (cd := cd_Ln_hasOut) (ini := false) (by decide +kernel) ok_Ln_hasOut (fun h => by cases h) (Nat.le_of_ble_eq_true rfl) ?_
  intro X hX
  have o1 : jm_ok m (ad 1) 2 := S.ok 1 (Or.inl (by decide))
  have o5 : jm_ok m (ad 5) 50 := S.ok 5 (Or.inl (by decide))
  have r5 : m.2.2.2.2 (ad 1) 3 = some (ad 5) := S.2.2.1 (1, 3, 5) (by decide)
  have l5 : (m.2.1 (ad 5)).2 = 3 := S.len 5 (Or.inl (by decide))
  have hM := hO.2.1
  refine jm_run hX [] 30 ?_
  refine And.intro o1 (And.intro (Nat.le_of_ble_eq_true rfl) (And.intro (Nat.le_of_ble_eq_true rfl) ⟨0, 0, _, Nat.le_refl _, Nat.le_refl _, c_Ln_hasMachine S L (by omega) x, fun v m' hq => ?_⟩))
  obtain ⟨rfl, rfl⟩ := hq
  by_cases h1 : 0 ≤ x.toInt ∧ x.toInt < (d.1.2.1 : Int)
  · rw [if_pos h1]
    refine And.intro (fun g => absurd g (by decide)) (fun _ => ?_)
    refine And.intro (fun g => ?_) (fun g => ?_)
    · rw [ilt0] at g
      exact ⟨Nat.le_refl _, Nat.le_refl _, Or.inl rfl, rfl, by rw [if_neg (by omega)]⟩
    rw [ilt0] at g
    have ex := i_of h1.1
    have hou := hO.2.2.2.1 x.toInt.toNat (by omega)
    refine And.intro o1 ⟨some (ad 5), r5, And.intro o5 (And.intro ?_ ?_)⟩
    · show vp_in x (m'.2.1 (ad 5)).2
      rw [ex]; exact vin_of l5 (by omega) (by decide)
    have ev : m'.2.2.1 (ad 5) x.toNatClampNeg = nI (d.2.1 x.toInt.toNat) := by
      rw [L.2.2.2.1]; rfl
    refine And.intro (fun g2 => ?_) (fun g2 => ?_)
    · have g2 : m'.2.2.1 (ad 5) x.toNatClampNeg ≤ y := g2
      rw [ev, ileN (by omega)] at g2
      exact ⟨Nat.le_refl _, Nat.le_refl _, Or.inl rfl, rfl, by rw [if_neg (by omega)]⟩
    · have g2 : ¬ m'.2.2.1 (ad 5) x.toNatClampNeg ≤ y := g2
      rw [ev, ileN (by omega)] at g2
      exact ⟨Nat.le_refl _, Nat.le_refl _, Or.inr rfl, rfl, by rw [if_pos ⟨h1, by omega⟩]⟩
  · rw [if_neg h1]
    refine And.intro (fun _ => ?_) (fun g => absurd rfl g)
    exact ⟨Nat.le_refl _, Nat.le_refl _, Or.inl rfl, rfl, by rw [if_neg (fun z => h1 z.1)]⟩
theorem c_Ln_lastOut {m : jm_M} {ad : Nat → Nat} {d : LD} {j : Nat} (S : SST m ad) (L : LnV m ad d) (hj : j < 3) (hou : 1 ≤ d.2.1 j) : jm_C l D ca n_Ln_lastOut [.ref (ad 1), .int (nI j)] m 0 0 (fun v m' => m' = m ∧ v = some (.int (nI (d.2.1 j - 1)))) := by
  refine jm_C_of (cd := cd_Ln_lastOut) (ini := false) (by decide +kernel) ok_Ln_lastOut (fun h => by cases h) (Nat.le_of_ble_eq_true rfl) ?_
  intro X hX
  have o1 : jm_ok m (ad 1) 2 := S.ok 1 (Or.inl (by decide))
  have o5 : jm_ok m (ad 5) 50 := S.ok 5 (Or.inl (by decide))
  have r5 : m.2.2.2.2 (ad 1) 3 = some (ad 5) := S.2.2.1 (1, 3, 5) (by decide)
  have l5 : (m.2.1 (ad 5)).2 = 3 := S.len 5 (Or.inl (by decide))
  refine jm_run hX [] 30 ?_
  refine And.intro o1 ⟨some (ad 5), r5, And.intro o5 (And.intro (vin_of l5 hj (by decide)) ?_)⟩
  refine ⟨Nat.le_refl _, Nat.le_refl _, trivial, rfl, ?_⟩
  show some (Value.int (m.2.2.1 (ad 5) (nI j).toNatClampNeg - 1)) = _
  rw [nI_c (by omega), L.2.2.2.1]
  show some (Value.int (nI (d.2.1 j) - nI 1)) = _
  rw [pk_sub hou]
theorem c_Ln_hasSharedOut {m : jm_M} {ad : Nat → Nat} {d : LD} (S : SST m ad) (L : LnV m ad d) (hO : LOK d) (x z y : Int32) : jm_C l D ca n_Ln_hasSharedOut [.ref (ad 1), .int x, .int z, .int y] m 0 0 (fun v m' => m' = m ∧ v = some (.int (if (0 ≤ x.toInt ∧ x.toInt < (d.1.2.1 : Int)) ∧ (0 ≤ z.toInt ∧ z.toInt < (d.1.1 : Int)) ∧ 0 ≤ y.toInt ∧ y.toInt + 1 < (d.2.1 x.toInt.toNat : Int) then 1 else 0))) := by
  refine jm_C_of (cd := cd_Ln_hasSharedOut) (ini := false) (by decide +kernel) ok_Ln_hasSharedOut (fun h => by cases h) (Nat.le_of_ble_eq_true rfl) ?_
  intro X hX
  have o1 : jm_ok m (ad 1) 2 := S.ok 1 (Or.inl (by decide))
  have hK := hO.1
  have hM := hO.2.1
  refine jm_run hX [] 30 ?_
  refine And.intro o1 (And.intro (Nat.le_of_ble_eq_true rfl) (And.intro (Nat.le_of_ble_eq_true rfl) ⟨0, 0, _, Nat.le_refl _, Nat.le_refl _, c_Ln_hasOut S L hO x y, fun v m' hq => ?_⟩))
  obtain ⟨rfl, rfl⟩ := hq
  by_cases h1 : (0 ≤ x.toInt ∧ x.toInt < (d.1.2.1 : Int)) ∧ 0 ≤ y.toInt ∧ y.toInt < (d.2.1 x.toInt.toNat : Int)
  · rw [if_pos h1]
    refine And.intro (fun g => absurd g (by decide)) (fun _ => ?_)
    refine And.intro o1 (And.intro (Nat.le_of_ble_eq_true rfl) (And.intro (Nat.le_of_ble_eq_true rfl) ⟨0, 0, _, Nat.le_refl _, Nat.le_refl _, c_Ln_hasKind S L (by omega) z, fun v m2 hq => ?_⟩))
    obtain ⟨rfl, rfl⟩ := hq
    by_cases h2 : 0 ≤ z.toInt ∧ z.toInt < (d.1.1 : Int)
    · rw [if_pos h2]
      refine And.intro (fun g => absurd g (by decide)) (fun _ => ?_)
      have ex := i_of h1.1.1
      have hou := hO.2.2.2.1 x.toInt.toNat (by omega)
      have key := c_Ln_lastOut (l := l) (D := D) (ca := ca) (j := x.toInt.toNat) S L (by omega) hou.1
      rw [← ex] at key
      refine And.intro o1 (And.intro (Nat.le_of_ble_eq_true rfl) (And.intro (Nat.le_of_ble_eq_true rfl) ⟨0, 0, _, Nat.le_refl _, Nat.le_refl _, key, fun v m3 hq => ?_⟩))
      obtain ⟨rfl, rfl⟩ := hq
      refine And.intro (fun g => ?_) (fun g => ?_)
      · have g : y = nI (d.2.1 x.toInt.toNat - 1) := g
        rw [ieqN (by omega)] at g
        exact ⟨Nat.le_refl _, Nat.le_refl _, Or.inl rfl, rfl, by rw [if_neg (by omega)]⟩
      · have g : ¬ y = nI (d.2.1 x.toInt.toNat - 1) := g
        rw [ieqN (by omega)] at g
        exact ⟨Nat.le_refl _, Nat.le_refl _, Or.inr rfl, rfl, by rw [if_pos ⟨h1.1, h2, by omega⟩]⟩
    · rw [if_neg h2]
      refine And.intro (fun _ => ?_) (fun g => absurd rfl g)
      exact ⟨Nat.le_refl _, Nat.le_refl _, Or.inl rfl, rfl, by rw [if_neg (fun z => h2 z.2.1)]⟩
  · rw [if_neg h1]
    refine And.intro (fun _ => ?_) (fun g => absurd rfl g)
    exact ⟨Nat.le_refl _, Nat.le_refl _, Or.inl rfl, rfl, by rw [if_neg (by omega)]⟩
theorem c_Ln_hasTarget {m : jm_M} {ad : Nat → Nat} {d : LD} (S : SST m ad) (L : LnV m ad d) (hO : LOK d) (t : Int32) : jm_C l D ca n_Ln_hasTarget [.ref (ad 1), .int t] m 0 0 (fun v m' => m' = m ∧ ((v = some (.int 1) ∧ jOK d.1.2.1 d.1.2.2 t) ∨ (v = some (.int 0) ∧ ¬ jOK d.1.2.1 d.1.2.2 t))) := by
  refine jm_C_of (cd := cd_Ln_hasTarget) (ini := false) (by decide +kernel) ok_Ln_hasTarget (fun h => by cases h) (Nat.le_of_ble_eq_true rfl) ?_
  intro X hX
  have o1 : jm_ok m (ad 1) 2 := S.ok 1 (Or.inl (by decide))
  have hM := hO.2.1
  have hP := hO.2.2.1
  unfold jOK at hX
  refine jm_run hX [] 30 ?_
  refine And.intro (fun g => ?_) (fun g => ?_)
  · rw [ilt0] at g
    have hm1 : (-1 : Int32).toInt = -1 := by decide
    refine And.intro (fun g2 => ?_) (fun g2 => ?_)
    · have g2 : t = -1 := g2
      rw [← Int32.toInt_inj, hm1] at g2
      exact ⟨Nat.le_refl _, Nat.le_refl _, Or.inr rfl, rfl, Or.inl ⟨rfl, by omega⟩⟩
    · have g2 : ¬ t = -1 := g2
      rw [← Int32.toInt_inj, hm1] at g2
      have e : ((-2 : Int32) - t).toInt = -2 - t.toInt := by
        have h2 : (-2 : Int32).toInt = -2 := by decide
        have h3 : -2 ^ 31 ≤ t.toInt := t.le_toInt
        rw [Int32.toInt_sub, h2]
        exact Int.bmod_eq_of_le (by omega) (by omega)
      refine And.intro o1 (And.intro (Nat.le_of_ble_eq_true rfl) (And.intro (Nat.le_of_ble_eq_true rfl) ⟨0, 0, _, Nat.le_refl _, Nat.le_refl _, c_Ln_hasPort S L (by omega) ((-2 : Int32) - t), fun v m' hq => ?_⟩))
      obtain ⟨rfl, rfl⟩ := hq
      rw [e]
      by_cases h5 : 0 ≤ -2 - t.toInt ∧ -2 - t.toInt < (d.1.2.2 : Int)
      · rw [if_pos h5]
        refine And.intro (fun g => absurd g (by decide)) (fun _ => ?_)
        exact ⟨Nat.le_refl _, Nat.le_refl _, Or.inr rfl, rfl, Or.inl ⟨rfl, by omega⟩⟩
      · rw [if_neg h5]
        refine And.intro (fun _ => ?_) (fun g => absurd rfl g)
        exact ⟨Nat.le_refl _, Nat.le_refl _, Or.inl rfl, rfl, Or.inr ⟨rfl, by omega⟩⟩
  · rw [ilt0] at g
    refine And.intro o1 (And.intro (fun g2 => ?_) (fun g2 => ?_))
    · have g2 : m.2.2.1 (ad 1) 1 ≤ t := g2
      rw [L.2.1, ileN (by omega)] at g2
      exact ⟨Nat.le_refl _, Nat.le_refl _, Or.inl rfl, rfl, Or.inr ⟨rfl, by omega⟩⟩
    · have g2 : ¬ m.2.2.1 (ad 1) 1 ≤ t := g2
      rw [L.2.1, ileN (by omega)] at g2
      exact ⟨Nat.le_refl _, Nat.le_refl _, Or.inr rfl, rfl, Or.inl ⟨rfl, by omega⟩⟩
theorem c_Ln_row {m : jm_M} {ad : Nat → Nat} {d : LD} {j k : Nat} (S : SST m ad) (L : LnV m ad d) : jm_C l D ca n_Ln_row [.ref (ad 1), .int (nI j), .int (nI k)] m 0 0 (fun v m' => m' = m ∧ v = some (.int (nI (j * d.1.1 + k)))) := by
  refine jm_C_of (cd := cd_Ln_row) (ini := false) (by decide +kernel) ok_Ln_row (fun h => by cases h) (Nat.le_of_ble_eq_true rfl) ?_
  intro X hX
  have o1 : jm_ok m (ad 1) 2 := S.ok 1 (Or.inl (by decide))
  refine jm_run hX [] 30 ?_
  refine And.intro o1 ⟨Nat.le_refl _, Nat.le_refl _, trivial, rfl, ?_⟩
  show some (Value.int (nI j * m.2.2.1 (ad 1) 0 + nI k)) = _
  rw [L.1, pk_mul, nI_add]
theorem c_Ln_shareOf {m : jm_M} {ad : Nat → Nat} {d : LD} {j k o : Nat} (S : SST m ad) (L : LnV m ad d) (hr : j * d.1.1 + k < 9) (ho : o < 3) : jm_C l D ca n_Ln_shareOf [.ref (ad 1), .int (nI j), .int (nI k), .int (nI o)] m 0 0 (fun v m' => m' = m ∧ v = some (.int (nI (d.2.2.2.1 (3 * (j * d.1.1 + k) + o))))) := by
  refine jm_C_of (cd := cd_Ln_shareOf) (ini := false) (by decide +kernel) ok_Ln_shareOf (fun h => by cases h) (Nat.le_of_ble_eq_true rfl) ?_
  intro X hX
  have o1 : jm_ok m (ad 1) 2 := S.ok 1 (Or.inl (by decide))
  have o7 : jm_ok m (ad 7) 50 := S.ok 7 (Or.inl (by decide))
  have r7 : m.2.2.2.2 (ad 1) 5 = some (ad 7) := S.2.2.1 (1, 5, 7) (by decide)
  have l7 : (m.2.1 (ad 7)).2 = 27 := S.len 7 (Or.inl (by decide))
  refine jm_run hX [] 30 ?_
  refine And.intro o1 ⟨some (ad 7), r7, ?_⟩
  refine And.intro o1 (And.intro (Nat.le_of_ble_eq_true rfl) (And.intro (Nat.le_of_ble_eq_true rfl) ⟨0, 0, _, Nat.le_refl _, Nat.le_refl _, c_Ln_row S L, fun v m' hq => ?_⟩))
  obtain ⟨rfl, rfl⟩ := hq
  have e : nI (j * d.1.1 + k) * 3 + nI o = nI (3 * (j * d.1.1 + k) + o) := by
    have e3 : (3 : Int32) = nI 3 := rfl
    rw [e3, pk_mul, nI_add, Nat.mul_comm]
  refine And.intro o7 (And.intro ?_ ?_)
  · show vp_in (nI (j * d.1.1 + k) * 3 + nI o) (m'.2.1 (ad 7)).2
    rw [e]; exact vin_of l7 (by omega) (by decide)
  refine ⟨Nat.le_refl _, Nat.le_refl _, trivial, rfl, ?_⟩
  show some (Value.int (m'.2.2.1 (ad 7) (nI (j * d.1.1 + k) * 3 + nI o).toNatClampNeg)) = _
  rw [e, nI_c (by omega), L.2.2.2.2.2.1]
theorem c_Ln_target {m : jm_M} {ad : Nat → Nat} {d : LD} {j o : Nat} (S : SST m ad) (L : LnV m ad d) (hj : j < 3) (ho : o < 3) : jm_C l D ca n_Ln_target [.ref (ad 1), .int (nI j), .int (nI o)] m 0 0 (fun v m' => m' = m ∧ v = some (.int (d.2.2.1 (3 * j + o)))) := by
  refine jm_C_of (cd := cd_Ln_target) (ini := false) (by decide +kernel) ok_Ln_target (fun h => by cases h) (Nat.le_of_ble_eq_true rfl) ?_
  intro X hX
  have o1 : jm_ok m (ad 1) 2 := S.ok 1 (Or.inl (by decide))
  have o6 : jm_ok m (ad 6) 50 := S.ok 6 (Or.inl (by decide))
  have r6 : m.2.2.2.2 (ad 1) 4 = some (ad 6) := S.2.2.1 (1, 4, 6) (by decide)
  have l6 : (m.2.1 (ad 6)).2 = 9 := S.len 6 (Or.inl (by decide))
  have e : nI j * 3 + nI o = nI (3 * j + o) := by
    have e3 : (3 : Int32) = nI 3 := rfl
    rw [e3, pk_mul, nI_add, Nat.mul_comm]
  refine jm_run hX [] 30 ?_
  refine And.intro o1 ⟨some (ad 6), r6, And.intro o6 (And.intro ?_ ?_)⟩
  · show vp_in (nI j * 3 + nI o) (m.2.1 (ad 6)).2
    rw [e]; exact vin_of l6 (by omega) (by decide)
  refine ⟨Nat.le_refl _, Nat.le_refl _, trivial, rfl, ?_⟩
  show some (Value.int (m.2.2.1 (ad 6) (nI j * 3 + nI o).toNatClampNeg)) = _
  rw [e, nI_c (by omega), L.2.2.2.2.1]
end LN
end
section
/-! What gets away, in pure words: as the class goes through the rows, in its order. -/
def bI (b : Bool) : Int32 := if b then 1 else 0
def lvas (d : LD) (st : Nat → Bool) (j k : Nat) : Nat → Bool
  | 0 => false
  | o + 1 => lvas d st j k o || (decide (0 < d.2.2.2.1 (3 * (j * d.1.1 + k) + o)) && (decide ((d.2.2.1 (3 * j + o)).toInt < 0) || st ((d.2.2.1 (3 * j + o)).toInt.toNat * d.1.1 + k)))
def spr1a (d : LD) (st : Nat → Bool) (j k : Nat) : Nat → Bool := if d.2.2.2.2.1 (j * d.1.1 + k) < 27720 ∧ lvas d st j k (d.2.1 j) = true then va_up st (j * d.1.1 + k) true else st
def spr1 (d : LD) (st : Nat → Bool) (j k : Nat) : Nat → Bool := if 0 < d.2.2.2.2.1 (j * d.1.1 + k) ∧ lvas d (spr1a d st j k) j (d.2.2.2.2.2.1 (j * d.1.1 + k)) (d.2.1 j) = true then va_up (spr1a d st j k) (j * d.1.1 + k) true else spr1a d st j k
def sprK (d : LD) (st : Nat → Bool) (j : Nat) : Nat → Nat → Bool
  | 0 => st
  | k + 1 => spr1 d (sprK d st j k) j k
def sprM (d : LD) (st : Nat → Bool) : Nat → Nat → Bool
  | 0 => st
  | j + 1 => sprK d (sprM d st j) j d.1.1
def rnds (d : LD) : Nat → Nat → Bool
  | 0 => fun _ => false
  | n + 1 => sprM d (rnds d n) d.1.2.1
/-- some kind of machine j does not get away -/
def stk (d : LD) (j : Nat) : Prop := ∃ k, k < d.1.1 ∧ rnds d 9 (j * d.1.1 + k) = false
/-- the answer of firstStuck -/
def fsOK (d : LD) (v : Int32) : Prop := (∃ j, j < d.1.2.1 ∧ v = nI j ∧ stk d j ∧ ∀ i, i < j → ¬ stk d i) ∨ (v = -1 ∧ ∀ i, i < d.1.2.1 → ¬ stk d i)
abbrev gaR (st : Nat → Bool) : Nat → Int32 := fun i => bI (st i)
theorem gaR_up (st : Nat → Bool) (r : Nat) : va_up (gaR st) r 1 = gaR (va_up st r true) := by
  funext i
  by_cases h : i = r
  · subst h; rw [va_up_self]; show 1 = bI (va_up st i true i); rw [va_up_self]; rfl
  · rw [va_up_ne _ _ h]; show bI (st i) = bI (va_up st r true i); rw [va_up_ne _ _ h]
theorem LnV.ga {m : jm_M} {ad : Nat → Nat} {d : LD} (S : SST m ad) (L : LnV m ad d) (g : Nat → Int32) : LnV (uA m (ad 14) g) ad d := by
  have hn : ∀ k, k < 14 → (uA m (ad 14) g).2.2.1 (ad k) = m.2.2.1 (ad k) := fun k hk => va_up_ne _ _ (S.ne (i := k) (j := 14) (Or.inl (by omega)) (Or.inl (by decide)) (by omega))
  obtain ⟨h1, h2, h3, h4, h5, h6, h7, h8, h9⟩ := L
  refine ⟨?_, ?_, ?_, ?_, ?_, ?_, ?_, ?_, h9⟩
  · rw [hn 1 (by decide)]; exact h1
  · rw [hn 1 (by decide)]; exact h2
  · rw [hn 1 (by decide)]; exact h3
  · rw [hn 5 (by decide)]; exact h4
  · rw [hn 6 (by decide)]; exact h5
  · rw [hn 7 (by decide)]; exact h6
  · rw [hn 8 (by decide)]; exact h7
  · rw [hn 9 (by decide)]; exact h8
theorem row_lt {K M j k : Nat} (hK : K ≤ 3) (hM : M ≤ 3) (hj : j < M) (hk : k < K) : j * K + k < 9 := by
  have : j * K ≤ 2 * 3 := Nat.mul_le_mul (by omega) hK
  rcases Nat.lt_or_ge j 2 with q | q
  · have : j * K ≤ 1 * 3 := Nat.mul_le_mul (by omega) hK
    omega
  · have e : j = 2 := by omega
    subst e
    omega
section LN2
variable {l : Launch} {D : va_G} {ca : Nat → ClassId}
theorem c_Ln_leavesAs {m : jm_M} {ad : Nat → Nat} {d : LD} {st : Nat → Bool} {j k : Nat} (S : SST m ad) (L : LnV m ad d) (hO : LOK d) (hg : m.2.2.1 (ad 14) = gaR st) (hj : j < d.1.2.1) (hk : k < d.1.1) : jm_C l D ca n_Ln_leavesAs [.ref (ad 1), .int (nI j), .int (nI k)] m 0 0 (fun v m' => m' = m ∧ v = some (.int (bI (lvas d st j k (d.2.1 j))))) := by
  refine jm_C_of (cd := cd_Ln_leavesAs) (ini := false) (by decide +kernel) ok_Ln_leavesAs (fun h => by cases h) (Nat.le_of_ble_eq_true rfl) ?_
  intro X hX
  have o1 : jm_ok m (ad 1) 2 := S.ok 1 (Or.inl (by decide))
  have o5 : jm_ok m (ad 5) 50 := S.ok 5 (Or.inl (by decide))
  have r5 : m.2.2.2.2 (ad 1) 3 = some (ad 5) := S.2.2.1 (1, 3, 5) (by decide)
  have l5 : (m.2.1 (ad 5)).2 = 3 := S.len 5 (Or.inl (by decide))
  have o14 : jm_ok m (ad 14) 52 := S.ok 14 (Or.inl (by decide))
  have r14 : m.2.2.2.2 (ad 1) 12 = some (ad 14) := S.2.2.1 (1, 12, 14) (by decide)
  have l14 : (m.2.1 (ad 14)).2 = 9 := S.len 14 (Or.inl (by decide))
  have hK := hO.1
  have hM := hO.2.1
  have hou := hO.2.2.2.1 j hj
  have hrow := row_lt hK.2 hM hj hk
  have eou : m.2.2.1 (ad 5) (nI j).toNatClampNeg = nI (d.2.1 j) := by rw [nI_c (by omega), L.2.2.2.1]
  have loop : ∀ (e o : Nat), o + e = d.2.1 j → lvas d st j k o = false → X 2 [(0, .ref (ad 1)), (1, .int (nI j)), (2, .int (nI k)), (3, .int (nI o))] [] m 0 0 := by
    intro e
    induction e with
    | zero =>
      intro o ho hf
      refine jm_run hX [] 20 ?_
      refine And.intro o1 ⟨some (ad 5), r5, And.intro o5 (And.intro (vin_of l5 (by omega) (by decide)) ?_)⟩
      refine And.intro (fun _ => ?_) (fun g => ?_)
      · refine ⟨Nat.le_refl _, Nat.le_refl _, Or.inl rfl, rfl, ?_⟩
        rw [show d.2.1 j = o by omega, hf]; rfl
      · have g : ¬ m.2.2.1 (ad 5) (nI j).toNatClampNeg ≤ nI o := g
        rw [eou] at g
        exact absurd (nI_le (by omega) (by omega)) g
    | succ e ih =>
      intro o ho hf
      have hfin : ∀ b, lvas d st j k (o + 1) = b → b = true → lvas d st j k (d.2.1 j) = true := by
        intro b hb hbt
        subst hbt
        have mono : ∀ n, lvas d st j k (o + 1 + n) = true := by
          intro n
          induction n with
          | zero => exact hb
          | succ n ihn =>
            show (lvas d st j k (o + 1 + n) || _) = true
            rw [ihn]; rfl
        have := mono e
        rw [show o + 1 + e = d.2.1 j by omega] at this
        exact this
      have hs27 := hO.2.2.2.2.2.1 _ hrow o (by omega)
      have hjo := hO.2.2.2.2.1 (3 * j + o) (by omega)
      have key1 := c_Ln_target (l := l) (D := D) (ca := ca) (j := j) (o := o) S L (by omega) (by omega)
      have key2 := c_Ln_shareOf (l := l) (D := D) (ca := ca) (j := j) (k := k) (o := o) S L hrow (by omega)
      have hun : lvas d st j k (o + 1) = (decide (0 < d.2.2.2.1 (3 * (j * d.1.1 + k) + o)) && (decide ((d.2.2.1 (3 * j + o)).toInt < 0) || st ((d.2.2.1 (3 * j + o)).toInt.toNat * d.1.1 + k))) := by
        show (lvas d st j k o || _) = _
        rw [hf, Bool.false_or]
      have kn : lvas d st j k (o + 1) = false → X 2 [(0, .ref (ad 1)), (1, .int (nI j)), (2, .int (nI k)), (3, .int (nI o + 1))] [] m 0 0 := fun h => by
        rw [nI_1]; exact ih (o + 1) (by omega) h
      generalize hsh : d.2.2.2.1 (3 * (j * d.1.1 + k) + o) = sv at *
      generalize hto : d.2.2.1 (3 * j + o) = tv at *
      refine jm_run hX [(2, [0, 1, 2, 3])] 40 ?_
      refine And.intro o1 ⟨some (ad 5), r5, And.intro o5 (And.intro (vin_of l5 (by omega) (by decide)) ?_)⟩
      refine And.intro (fun g => ?_) (fun _ => ?_)
      · have g : m.2.2.1 (ad 5) (nI j).toNatClampNeg ≤ nI o := g
        rw [eou] at g
        exact absurd g (nI_ge (by omega) (by omega))
      refine And.intro o1 (And.intro (Nat.le_of_ble_eq_true rfl) (And.intro (Nat.le_of_ble_eq_true rfl) ⟨0, 0, _, Nat.le_refl _, Nat.le_refl _, key1, fun v m' hq => ?_⟩))
      obtain ⟨ee, rfl⟩ := hq
      have ee := ee.symm
      subst ee
      refine And.intro o1 (And.intro (Nat.le_of_ble_eq_true rfl) (And.intro (Nat.le_of_ble_eq_true rfl) ⟨0, 0, _, Nat.le_refl _, Nat.le_refl _, key2, fun v m' hq => ?_⟩))
      obtain ⟨ee, rfl⟩ := hq
      have ee := ee.symm
      subst ee
      refine And.intro (fun g => ?_) (fun g => ?_)
      · have g : nI sv ≤ 0 := g
        have hs0 : sv = 0 := by
          rcases Nat.eq_zero_or_pos sv with q | q
          · exact q
          · exact absurd g (nI_nle q (by omega))
        refine kn ?_
        rw [hun, hs0]; rfl
      · have g : ¬ nI sv ≤ 0 := g
        have hs0 : 0 < sv := by
          rcases Nat.eq_zero_or_pos sv with q | q
          · rw [q] at g; exact absurd (by decide) g
          · exact q
        have hd1 : decide (0 < sv) = true := decide_eq_true hs0
        refine And.intro (fun g2 => ?_) (fun g2 => ?_)
        · rw [ilt0] at g2
          refine ⟨Nat.le_refl _, Nat.le_refl _, Or.inr rfl, rfl, ?_⟩
          rw [hfin _ hun (by rw [hd1, decide_eq_true g2]; rfl)]; rfl
        · rw [ilt0] at g2
          have et : tv = nI tv.toInt.toNat := i_of (by omega)
          have hto3 : tv.toInt.toNat < d.1.2.1 := by
            rcases hjo with q | q | q <;> omega
          have hrow2 := row_lt hK.2 hM hto3 hk
          have key3 := c_Ln_row (l := l) (D := D) (ca := ca) (j := tv.toInt.toNat) (k := k) S L
          rw [← et] at key3
          refine And.intro o1 ⟨some (ad 14), r14, ?_⟩
          refine And.intro o1 (And.intro (Nat.le_of_ble_eq_true rfl) (And.intro (Nat.le_of_ble_eq_true rfl) ⟨0, 0, _, Nat.le_refl _, Nat.le_refl _, key3, fun v m' hq => ?_⟩))
          obtain ⟨ee, rfl⟩ := hq
          have ee := ee.symm
          subst ee
          refine And.intro o14 (And.intro (vin_of l14 hrow2 (by decide)) ?_)
          have ev : m.2.2.1 (ad 14) (nI (tv.toInt.toNat * d.1.1 + k)).toNatClampNeg = bI (st (tv.toInt.toNat * d.1.1 + k)) := by
            rw [nI_c (by omega), hg]
          have hd2 : decide (tv.toInt < 0) = false := decide_eq_false g2
          refine And.intro (fun g3 => ?_) (fun g3 => ?_)
          · have g3 : m.2.2.1 (ad 14) (nI (tv.toInt.toNat * d.1.1 + k)).toNatClampNeg = 0 := g3
            rw [ev] at g3
            refine kn ?_
            rw [hun, hd1, hd2]
            cases hst : st (tv.toInt.toNat * d.1.1 + k) with
            | true => rw [hst] at g3; exact absurd g3 (by decide)
            | false => rfl
          · have g3 : ¬ m.2.2.1 (ad 14) (nI (tv.toInt.toNat * d.1.1 + k)).toNatClampNeg = 0 := g3
            rw [ev] at g3
            refine ⟨Nat.le_refl _, Nat.le_refl _, Or.inr rfl, rfl, ?_⟩
            rw [hfin _ hun (by
              rw [hd1, hd2]
              cases hst : st (tv.toInt.toNat * d.1.1 + k) with
              | true => rfl
              | false => rw [hst] at g3; exact absurd rfl g3)]
            rfl
  refine jm_run hX [(2, [0, 1, 2, 3])] 10 ?_
  exact loop (d.2.1 j) 0 (by omega) rfl
theorem c_Ln_spread {m : jm_M} {ad : Nat → Nat} {d : LD} {st : Nat → Bool} (S : SST m ad) (L : LnV m ad d) (hO : LOK d) : jm_C l D ca n_Ln_spreadGetsAway [.ref (ad 1)] (uA m (ad 14) (gaR st)) 0 0 (fun v m' => v = none ∧ m' = uA m (ad 14) (gaR (sprM d st d.1.2.1))) := by
  refine jm_C_of (cd := cd_Ln_spreadGetsAway) (ini := false) (by decide +kernel) ok_Ln_spreadGetsAway (fun h => by cases h) (Nat.le_of_ble_eq_true rfl) ?_
  intro X hX
  have o1 : jm_ok m (ad 1) 2 := S.ok 1 (Or.inl (by decide))
  have o8 : jm_ok m (ad 8) 50 := S.ok 8 (Or.inl (by decide))
  have r8 : m.2.2.2.2 (ad 1) 6 = some (ad 8) := S.2.2.1 (1, 6, 8) (by decide)
  have l8 : (m.2.1 (ad 8)).2 = 9 := S.len 8 (Or.inl (by decide))
  have o9 : jm_ok m (ad 9) 50 := S.ok 9 (Or.inl (by decide))
  have r9 : m.2.2.2.2 (ad 1) 7 = some (ad 9) := S.2.2.1 (1, 7, 9) (by decide)
  have l9 : (m.2.1 (ad 9)).2 = 9 := S.len 9 (Or.inl (by decide))
  have o14 : jm_ok m (ad 14) 52 := S.ok 14 (Or.inl (by decide))
  have r14 : m.2.2.2.2 (ad 1) 12 = some (ad 14) := S.2.2.1 (1, 12, 14) (by decide)
  have l14 : (m.2.1 (ad 14)).2 = 9 := S.len 14 (Or.inl (by decide))
  have hK := hO.1
  have hM := hO.2.1
  have outer : ∀ (e j : Nat), j + e = d.1.2.1 → X 2 [(0, .ref (ad 1)), (1, .int (nI j))] [] (uA m (ad 14) (gaR (sprM d st j))) 0 0 := by
    intro e
    induction e with
    | zero =>
      intro j hj
      have Lg := L.ga S (gaR (sprM d st j))
      refine jm_run hX [] 20 ?_
      refine And.intro o1 (And.intro (fun _ => ?_) (fun g => ?_))
      · refine ⟨Nat.le_refl _, Nat.le_refl _, trivial, rfl, ?_⟩
        rw [show d.1.2.1 = j by omega]
      · have g : ¬ (uA m (ad 14) (gaR (sprM d st j))).2.2.1 (ad 1) 1 ≤ nI j := g
        rw [Lg.2.1] at g
        exact absurd (nI_le (by omega) (by omega)) g
    | succ e ihe =>
      intro j hj
      have hj3 : j < d.1.2.1 := by omega
      generalize hst0 : sprM d st j = st0
      have hnext : sprM d st (j + 1) = sprK d st0 j d.1.1 := by rw [← hst0]; rfl
      have inner : ∀ (f k : Nat), k + f = d.1.1 → X 12 [(0, .ref (ad 1)), (1, .int (nI j)), (2, .int (nI k))] [] (uA m (ad 14) (gaR (sprK d st0 j k))) 0 0 := by
        intro f
        induction f with
        | zero =>
          intro k hk
          have Lg := L.ga S (gaR (sprK d st0 j k))
          refine jm_run hX [(2, [0, 1])] 20 ?_
          refine And.intro o1 (And.intro (fun _ => ?_) (fun g => ?_))
          · have kk := ihe (j + 1) (by omega)
            rw [hnext, ← nI_1, show d.1.1 = k by omega] at kk
            exact kk
          · have g : ¬ (uA m (ad 14) (gaR (sprK d st0 j k))).2.2.1 (ad 1) 0 ≤ nI k := g
            rw [Lg.1] at g
            exact absurd (nI_le (by omega) (by omega)) g
        | succ f ihf =>
          intro k hk
          have hk3 : k < d.1.1 := by omega
          have hrow := row_lt hK.2 hM hj3 hk3
          generalize hst1 : sprK d st0 j k = st1
          have hn1 : sprK d st0 j (k + 1) = spr1 d st1 j k := by rw [← hst1]; rfl
          have kk := ihf (k + 1) (by omega)
          rw [hn1, ← nI_1] at kk
          have Sg : ∀ g, SST (uA m (ad 14) g) ad := fun g => S
          have ec : ∀ g, (uA m (ad 14) g).2.2.1 (ad 8) (nI (j * d.1.1 + k)).toNatClampNeg = nI (d.2.2.2.2.1 (j * d.1.1 + k)) := fun g => by
            rw [nI_c (by omega), (L.ga S g).2.2.2.2.2.2.1]
          have eb : ∀ g, (uA m (ad 14) g).2.2.1 (ad 9) (nI (j * d.1.1 + k)).toNatClampNeg = nI (d.2.2.2.2.2.1 (j * d.1.1 + k)) := fun g => by
            rw [nI_c (by omega), (L.ga S g).2.2.2.2.2.2.2.1]
          have hcr := hO.2.2.2.2.2.2.1 _ hrow
          have hbe := hO.2.2.2.2.2.2.2.1 _ hrow
          -- behind the first question
          have second : X 55 [(0, .ref (ad 1)), (1, .int (nI j)), (2, .int (nI k)), (3, .int (nI (j * d.1.1 + k)))] [] (uA m (ad 14) (gaR (spr1a d st1 j k))) 0 0 := by
            generalize hst2 : spr1a d st1 j k = st2
            have hs2 : spr1 d st1 j k = if 0 < d.2.2.2.2.1 (j * d.1.1 + k) ∧ lvas d st2 j (d.2.2.2.2.2.1 (j * d.1.1 + k)) (d.2.1 j) = true then va_up st2 (j * d.1.1 + k) true else st2 := by
              unfold spr1; rw [hst2]
            have key := c_Ln_leavesAs (l := l) (D := D) (ca := ca) (m := uA m (ad 14) (gaR st2)) (st := st2) (j := j) (k := d.2.2.2.2.2.1 (j * d.1.1 + k)) (Sg _) (L.ga S _) hO (va_up_self _ _ _) hj3 hbe
            rw [← eb (gaR st2)] at key
            refine jm_run hX [(12, [0, 1, 2])] 40 ?_
            refine And.intro o1 ⟨some (ad 8), r8, And.intro o8 (And.intro (vin_of l8 hrow (by decide)) ?_)⟩
            refine And.intro (fun g => ?_) (fun g => ?_)
            · have g : (uA m (ad 14) (gaR st2)).2.2.1 (ad 8) (nI (j * d.1.1 + k)).toNatClampNeg ≤ 0 := g
              rw [ec] at g
              have hc0 : ¬ 0 < d.2.2.2.2.1 (j * d.1.1 + k) := fun q => nI_nle q (by omega) g
              rw [hs2, if_neg (fun z => hc0 z.1)] at kk
              exact kk
            · have g : ¬ (uA m (ad 14) (gaR st2)).2.2.1 (ad 8) (nI (j * d.1.1 + k)).toNatClampNeg ≤ 0 := g
              rw [ec] at g
              have hc0 : 0 < d.2.2.2.2.1 (j * d.1.1 + k) := by
                rcases Nat.eq_zero_or_pos (d.2.2.2.2.1 (j * d.1.1 + k)) with q | q
                · rw [q] at g; exact absurd (by decide) g
                · exact q
              refine And.intro o1 ⟨some (ad 9), r9, And.intro o9 (And.intro (vin_of l9 hrow (by decide)) ?_)⟩
              refine And.intro o1 (And.intro (Nat.le_of_ble_eq_true rfl) (And.intro (Nat.le_of_ble_eq_true rfl) ⟨0, 0, _, Nat.le_refl _, Nat.le_refl _, key, fun v m' hq => ?_⟩))
              obtain ⟨rfl, rfl⟩ := hq
              cases hlv : lvas d st2 j (d.2.2.2.2.2.1 (j * d.1.1 + k)) (d.2.1 j) with
              | false =>
                refine And.intro (fun _ => ?_) (fun g => absurd rfl g)
                rw [hs2, if_neg (fun z => by rw [hlv] at z; exact absurd z.2 (by decide))] at kk
                exact kk
              | true =>
                refine And.intro (fun g => absurd g (by decide)) (fun _ => ?_)
                refine And.intro o1 ⟨some (ad 14), r14, ?_⟩
                refine And.intro o14 (And.intro (vin_of l14 hrow (by decide)) (And.intro (Or.inr rfl) ?_))
                rw [hs2, if_pos ⟨hc0, hlv⟩, ← gaR_up, ← uI_uA] at kk
                have kk2 : X 12 [(0, .ref (ad 1)), (1, .int (nI j)), (2, .int (nI k + 1))] [] (uI (uA m (ad 14) (gaR st2)) (ad 14) (nI (j * d.1.1 + k)).toNatClampNeg 1) 0 0 := by
                  rw [nI_c (by omega)]; exact kk
                exact kk2
          have hs1 : spr1a d st1 j k = if d.2.2.2.2.1 (j * d.1.1 + k) < 27720 ∧ lvas d st1 j k (d.2.1 j) = true then va_up st1 (j * d.1.1 + k) true else st1 := rfl
          have key := c_Ln_leavesAs (l := l) (D := D) (ca := ca) (m := uA m (ad 14) (gaR st1)) (st := st1) (j := j) (k := k) (Sg _) (L.ga S _) hO (va_up_self _ _ _) hj3 hk3
          have Lg := L.ga S (gaR st1)
          refine jm_run hX [(55, [0, 1, 2, 3])] 40 ?_
          refine And.intro o1 (And.intro (fun g => ?_) (fun _ => ?_))
          · have g : (uA m (ad 14) (gaR st1)).2.2.1 (ad 1) 0 ≤ nI k := g
            rw [Lg.1] at g
            exact absurd g (nI_ge hk3 (by omega))
          refine And.intro o1 (And.intro (Nat.le_of_ble_eq_true rfl) (And.intro (Nat.le_of_ble_eq_true rfl) ⟨0, 0, _, Nat.le_refl _, Nat.le_refl _, c_Ln_row (m := uA m (ad 14) (gaR st1)) (Sg _) Lg, fun v m' hq => ?_⟩))
          obtain ⟨rfl, rfl⟩ := hq
          refine And.intro o1 ⟨some (ad 8), r8, And.intro o8 (And.intro (vin_of l8 hrow (by decide)) ?_)⟩
          refine And.intro (fun g => ?_) (fun g => ?_)
          · have g : (27720 : Int32) ≤ (uA m (ad 14) (gaR st1)).2.2.1 (ad 8) (nI (j * d.1.1 + k)).toNatClampNeg := g
            rw [ec] at g
            have hc : ¬ d.2.2.2.2.1 (j * d.1.1 + k) < 27720 := fun q => nI_ge q (by decide) g
            rw [hs1, if_neg (fun z => hc z.1)] at second
            exact second
          · have g : ¬ (27720 : Int32) ≤ (uA m (ad 14) (gaR st1)).2.2.1 (ad 8) (nI (j * d.1.1 + k)).toNatClampNeg := g
            rw [ec] at g
            have hc : d.2.2.2.2.1 (j * d.1.1 + k) < 27720 := by
              rcases Nat.lt_or_ge (d.2.2.2.2.1 (j * d.1.1 + k)) 27720 with q | q
              · exact q
              · exact absurd (nI_le q (by omega)) g
            refine And.intro o1 (And.intro (Nat.le_of_ble_eq_true rfl) (And.intro (Nat.le_of_ble_eq_true rfl) ⟨0, 0, _, Nat.le_refl _, Nat.le_refl _, key, fun v m' hq => ?_⟩))
            obtain ⟨rfl, rfl⟩ := hq
            cases hlv : lvas d st1 j k (d.2.1 j) with
            | false =>
              refine And.intro (fun _ => ?_) (fun g => absurd rfl g)
              rw [hs1, if_neg (fun z => by rw [hlv] at z; exact absurd z.2 (by decide))] at second
              exact second
            | true =>
              refine And.intro (fun g => absurd g (by decide)) (fun _ => ?_)
              refine And.intro o1 ⟨some (ad 14), r14, ?_⟩
              refine And.intro o14 (And.intro (vin_of l14 hrow (by decide)) (And.intro (Or.inr rfl) ?_))
              rw [hs1, if_pos ⟨hc, hlv⟩, ← gaR_up, ← uI_uA] at second
              have k2 : X 55 [(0, .ref (ad 1)), (1, .int (nI j)), (2, .int (nI k)), (3, .int (nI (j * d.1.1 + k)))] [] (uI (uA m (ad 14) (gaR st1)) (ad 14) (nI (j * d.1.1 + k)).toNatClampNeg 1) 0 0 := by
                rw [nI_c (by omega)]; exact second
              exact k2
      have Lg := L.ga S (gaR st0)
      refine jm_run hX [(12, [0, 1, 2])] 20 ?_
      refine And.intro o1 (And.intro (fun g => ?_) (fun _ => ?_))
      · have g : (uA m (ad 14) (gaR st0)).2.2.1 (ad 1) 1 ≤ nI j := g
        rw [Lg.2.1] at g
        exact absurd g (nI_ge hj3 (by omega))
      exact inner d.1.1 0 (by omega)
  refine jm_run hX [(2, [0, 1])] 10 ?_
  exact outer d.1.2.1 0 (by omega)
end LN2
end
section
theorem spr1_hi {d : LD} {st : Nat → Bool} {j k i : Nat} (h : i ≠ j * d.1.1 + k) : spr1 d st j k i = st i := by
  have h1 : spr1a d st j k i = st i := by
    unfold spr1a
    split
    · exact va_up_ne _ _ h
    · rfl
  unfold spr1
  split
  · rw [va_up_ne _ _ h, h1]
  · exact h1
theorem rnds_hi {d : LD} (hO : LOK d) {i : Nat} (hi : 9 ≤ i) : ∀ n, rnds d n i = false
  | 0 => rfl
  | n + 1 => by
    have hk : ∀ (st : Nat → Bool) (j : Nat), j < d.1.2.1 → ∀ k, k ≤ d.1.1 → sprK d st j k i = st i := by
      intro st j hj k
      induction k with
      | zero => intro _; rfl
      | succ k ih =>
        intro hk
        show spr1 d (sprK d st j k) j k i = st i
        have := row_lt hO.1.2 hO.2.1 hj (show k < d.1.1 by omega)
        rw [spr1_hi (by omega), ih (by omega)]
    have hm : ∀ j, j ≤ d.1.2.1 → sprM d (rnds d n) j i = rnds d n i := by
      intro j
      induction j with
      | zero => intro _; rfl
      | succ j ih =>
        intro hj
        show sprK d (sprM d (rnds d n) j) j d.1.1 i = _
        rw [hk _ j (by omega) _ (Nat.le_refl _), ih (by omega)]
    show sprM d (rnds d n) d.1.2.1 i = false
    rw [hm _ (Nat.le_refl _)]
    exact rnds_hi hO hi n
/-- beyond its length there is nothing in getsAway -/
def GA (m : jm_M) (ad : Nat → Nat) : Prop := ∀ i, 9 ≤ i → m.2.2.1 (ad 14) i = 0
section LN3
variable {l : Launch} {D : va_G} {ca : Nat → ClassId}
theorem c_Ln_firstStuck {m : jm_M} {ad : Nat → Nat} {d : LD} (S : SST m ad) (L : LnV m ad d) (hO : LOK d) (hG : GA m ad) : jm_C l D ca n_Ln_firstStuck [.ref (ad 1)] m 0 0 (fun v m' => m' = uA m (ad 14) (gaR (rnds d 9)) ∧ ∃ r, v = some (.int r) ∧ fsOK d r) := by
  refine jm_C_of (cd := cd_Ln_firstStuck) (ini := false) (by decide +kernel) ok_Ln_firstStuck (fun h => by cases h) (Nat.le_of_ble_eq_true rfl) ?_
  intro X hX
  have o1 : jm_ok m (ad 1) 2 := S.ok 1 (Or.inl (by decide))
  have o14 : jm_ok m (ad 14) 52 := S.ok 14 (Or.inl (by decide))
  have r14 : m.2.2.2.2 (ad 1) 12 = some (ad 14) := S.2.2.1 (1, 12, 14) (by decide)
  have l14 : (m.2.1 (ad 14)).2 = 9 := S.len 14 (Or.inl (by decide))
  have hK := hO.1
  have hM := hO.2.1
  have Sg : ∀ g, SST (uA m (ad 14) g) ad := fun g => S
  have Lg := L.ga S (gaR (rnds d 9))
  -- the last loop
  have last : ∀ (e j : Nat), j + e = d.1.2.1 → (∀ i, i < j → ¬ stk d i) → X 41 [(0, .ref (ad 1)), (1, .int (nI j))] [] (uA m (ad 14) (gaR (rnds d 9))) 0 0 := by
    intro e
    induction e with
    | zero =>
      intro j hj hn
      refine jm_run hX [] 20 ?_
      refine And.intro o1 (And.intro (fun _ => ?_) (fun g => ?_))
      · exact ⟨Nat.le_refl _, Nat.le_refl _, trivial, rfl, -1, rfl, Or.inr ⟨rfl, fun i hi => hn i (by omega)⟩⟩
      · have g : ¬ (uA m (ad 14) (gaR (rnds d 9))).2.2.1 (ad 1) 1 ≤ nI j := g
        rw [Lg.2.1] at g
        exact absurd (nI_le (by omega) (by omega)) g
    | succ e ihe =>
      intro j hj hn
      have hj3 : j < d.1.2.1 := by omega
      have inner : ∀ (f k : Nat), k + f = d.1.1 → (∀ i, i < k → rnds d 9 (j * d.1.1 + i) = true) → X 51 [(0, .ref (ad 1)), (1, .int (nI j)), (2, .int (nI k))] [] (uA m (ad 14) (gaR (rnds d 9))) 0 0 := by
        intro f
        induction f with
        | zero =>
          intro k hk ht
          refine jm_run hX [(41, [0, 1])] 20 ?_
          refine And.intro o1 (And.intro (fun _ => ?_) (fun g => ?_))
          · have kk := ihe (j + 1) (by omega) (fun i hi => by
              rcases Nat.lt_or_ge i j with q | q
              · exact hn i q
              · rw [show i = j by omega]
                rintro ⟨k', hk', hf⟩
                rw [ht k' (by omega)] at hf
                exact absurd hf (by decide))
            rw [← nI_1] at kk
            exact kk
          · have g : ¬ (uA m (ad 14) (gaR (rnds d 9))).2.2.1 (ad 1) 0 ≤ nI k := g
            rw [Lg.1] at g
            exact absurd (nI_le (by omega) (by omega)) g
        | succ f ihf =>
          intro k hk ht
          have hk3 : k < d.1.1 := by omega
          have hrow := row_lt hK.2 hM hj3 hk3
          have ev : (uA m (ad 14) (gaR (rnds d 9))).2.2.1 (ad 14) (nI (j * d.1.1 + k)).toNatClampNeg = bI (rnds d 9 (j * d.1.1 + k)) := by
            rw [nI_c (by omega)]
            show va_up m.2.2.1 (ad 14) _ (ad 14) _ = _
            rw [va_up_self]
          refine jm_run hX [(51, [0, 1, 2])] 40 ?_
          refine And.intro o1 (And.intro (fun g => ?_) (fun _ => ?_))
          · have g : (uA m (ad 14) (gaR (rnds d 9))).2.2.1 (ad 1) 0 ≤ nI k := g
            rw [Lg.1] at g
            exact absurd g (nI_ge hk3 (by omega))
          refine And.intro o1 ⟨some (ad 14), r14, ?_⟩
          refine And.intro o1 (And.intro (Nat.le_of_ble_eq_true rfl) (And.intro (Nat.le_of_ble_eq_true rfl) ⟨0, 0, _, Nat.le_refl _, Nat.le_refl _, c_Ln_row (m := uA m (ad 14) (gaR (rnds d 9))) (Sg _) Lg, fun v m' hq => ?_⟩))
          obtain ⟨rfl, rfl⟩ := hq
          refine And.intro o14 (And.intro (vin_of l14 hrow (by decide)) ?_)
          refine And.intro (fun g => ?_) (fun g => ?_)
          · have g : (uA m (ad 14) (gaR (rnds d 9))).2.2.1 (ad 14) (nI (j * d.1.1 + k)).toNatClampNeg = 0 := g
            rw [ev] at g
            refine ⟨Nat.le_refl _, Nat.le_refl _, trivial, rfl, nI j, rfl, Or.inl ⟨j, hj3, rfl, ⟨k, hk3, ?_⟩, hn⟩⟩
            cases hst : rnds d 9 (j * d.1.1 + k) with
            | true => rw [hst] at g; exact absurd g (by decide)
            | false => rfl
          · have g : ¬ (uA m (ad 14) (gaR (rnds d 9))).2.2.1 (ad 14) (nI (j * d.1.1 + k)).toNatClampNeg = 0 := g
            rw [ev] at g
            have kk := ihf (k + 1) (by omega) (fun i hi => by
              rcases Nat.lt_or_ge i k with q | q
              · exact ht i q
              · rw [show i = k by omega]
                cases hst : rnds d 9 (j * d.1.1 + k) with
                | true => rfl
                | false => rw [hst] at g; exact absurd rfl g)
            rw [← nI_1] at kk
            exact kk
      refine jm_run hX [(51, [0, 1, 2])] 20 ?_
      refine And.intro o1 (And.intro (fun g => ?_) (fun _ => ?_))
      · have g : (uA m (ad 14) (gaR (rnds d 9))).2.2.1 (ad 1) 1 ≤ nI j := g
        rw [Lg.2.1] at g
        exact absurd g (nI_ge hj3 (by omega))
      exact inner d.1.1 0 (by omega) (fun i hi => absurd hi (by omega))
  -- the rounds
  have rounds : ∀ (e n : Nat), n + e = 9 → X 23 [(0, .ref (ad 1)), (1, .int (nI n))] [] (uA m (ad 14) (gaR (rnds d n))) 0 0 := by
    intro e
    induction e with
    | zero =>
      intro n hn
      refine jm_run hX [(41, [0, 1])] 20 ?_
      refine And.intro (fun _ => ?_) (fun g => ?_)
      · rw [show n = 9 by omega]
        exact last d.1.2.1 0 (by omega) (fun i hi => absurd hi (by omega))
      · exact absurd (nI_le (show 9 ≤ n by omega) (by omega)) g
    | succ e ih =>
      intro n hn
      refine jm_run hX [(23, [0, 1])] 20 ?_
      refine And.intro (fun g => absurd g (nI_ge (show n < 9 by omega) (by decide))) (fun _ => ?_)
      refine And.intro o1 (And.intro (Nat.le_of_ble_eq_true rfl) (And.intro (Nat.le_of_ble_eq_true rfl) ⟨0, 0, _, Nat.le_refl _, Nat.le_refl _, c_Ln_spread (st := rnds d n) S L hO, fun v m' hq => ?_⟩))
      obtain ⟨rfl, rfl⟩ := hq
      have kk := ih (n + 1) (by omega)
      rw [← nI_1] at kk
      exact kk
  -- the first loop
  have first : ∀ (e i : Nat) (g : Nat → Int32), i + e = 9 → (∀ r, r < i → g r = 0) → (∀ r, 9 ≤ r → g r = 0) → X 2 [(0, .ref (ad 1)), (1, .int (nI i))] [] (uA m (ad 14) g) 0 0 := by
    intro e
    induction e with
    | zero =>
      intro i g hi h1 h2
      have eg : g = gaR (rnds d 0) := by
        funext r
        show g r = 0
        rcases Nat.lt_or_ge r 9 with q | q
        · exact h1 r (by omega)
        · exact h2 r q
      rw [eg]
      refine jm_run hX [(23, [0, 1])] 20 ?_
      refine And.intro (fun _ => rounds 9 0 (by omega)) (fun g2 => ?_)
      exact absurd (nI_le (show 9 ≤ i by omega) (by omega)) g2
    | succ e ih =>
      intro i g hi h1 h2
      have kk := ih (i + 1) (va_up g i 0) (by omega) (fun r hr => by
        by_cases q : r = i
        · subst q; exact va_up_self _ _ _
        · rw [va_up_ne _ _ q]; exact h1 r (by omega)) (fun r hr => by rw [va_up_ne _ _ (by omega)]; exact h2 r hr)
      rw [← uI_uA, ← nI_1] at kk
      refine jm_run hX [(2, [0, 1])] 20 ?_
      refine And.intro (fun g2 => absurd g2 (nI_ge (show i < 9 by omega) (by decide))) (fun _ => ?_)
      refine And.intro o1 ⟨some (ad 14), r14, ?_⟩
      refine And.intro o14 (And.intro (vin_of l14 (by omega) (by decide)) (And.intro (Or.inl rfl) ?_))
      have k2 : X 2 [(0, .ref (ad 1)), (1, .int (nI i + 1))] [] (uI (uA m (ad 14) g) (ad 14) (nI i).toNatClampNeg 0) 0 0 := by
        rw [nI_c (by omega)]; exact kk
      exact k2
  have k0 := first 9 0 (m.2.2.1 (ad 14)) (by omega) (fun r hr => absurd hr (by omega)) hG
  rw [uA_id] at k0
  refine jm_run hX [(2, [0, 1])] 10 ?_
  exact k0
end LN3
end
section
/-- only the things with these numbers have changed -/
def FRs (ad : Nat → Nat) (p : Nat → Prop) (m m' : jm_M) : Prop := m'.1 = m.1 ∧ m'.2.1 = m.2.1 ∧ m'.2.2.2.2 = m.2.2.2.2 ∧ ∀ b, (∀ k, kin k → p k → b ≠ ad k) → m'.2.2.1 b = m.2.2.1 b ∧ m'.2.2.2.1 b = m.2.2.2.1 b
theorem FRs.rf {ad : Nat → Nat} {p : Nat → Prop} {m : jm_M} : FRs ad p m m := ⟨rfl, rfl, rfl, fun _ _ => ⟨rfl, rfl⟩⟩
theorem FRs.tr {ad : Nat → Nat} {p : Nat → Prop} {m1 m2 m3 : jm_M} (h : FRs ad p m1 m2) (g : FRs ad p m2 m3) : FRs ad p m1 m3 :=
  ⟨g.1.trans h.1, g.2.1.trans h.2.1, g.2.2.1.trans h.2.2.1, fun b hb => ⟨(g.2.2.2 b hb).1.trans (h.2.2.2 b hb).1, (g.2.2.2 b hb).2.trans (h.2.2.2 b hb).2⟩⟩
theorem FRs.mo {ad : Nat → Nat} {p q : Nat → Prop} {m m' : jm_M} (hpq : ∀ k, p k → q k) (h : FRs ad p m m') : FRs ad q m m' :=
  ⟨h.1, h.2.1, h.2.2.1, fun b hb => h.2.2.2 b (fun k hk hp => hb k hk (hpq k hp))⟩
theorem FRs.S {ad : Nat → Nat} {p : Nat → Prop} {m m' : jm_M} (h : FRs ad p m m') (S : SST m ad) : SST m' ad := by
  obtain ⟨h1, h2, h3, h5⟩ := h
  unfold SST at S ⊢
  rw [h1, h2, h3]
  exact S
theorem FRs.uA {ad : Nat → Nat} {p : Nat → Prop} {m : jm_M} {i : Nat} {g : Nat → Int32} (hi : kin i) (hp : p i) : FRs ad p m (uA m (ad i) g) :=
  ⟨rfl, rfl, rfl, fun b hb => ⟨va_up_ne _ _ (hb i hi hp), rfl⟩⟩
theorem FRs.uI {ad : Nat → Nat} {p : Nat → Prop} {m : jm_M} {i k : Nat} {x : Int32} (hi : kin i) (hp : p i) : FRs ad p m (uI m (ad i) k x) := FRs.uA hi hp
theorem FRs.uJ {ad : Nat → Nat} {p : Nat → Prop} {m : jm_M} {i k : Nat} {x : Int64} (hi : kin i) (hp : p i) : FRs ad p m (uJ m (ad i) k x) :=
  ⟨rfl, rfl, rfl, fun b hb => ⟨rfl, va_up_ne _ _ (hb i hi hp)⟩⟩
theorem FRs.W {ad : Nat → Nat} {p : Nat → Prop} {m m' : jm_M} (hp : ∀ k, 100 ≤ k → k < 364 → p k) (h : FRW ad m m') : FRs ad p m m' :=
  ⟨h.1, h.2.1, h.2.2.1, fun b hb => ⟨h.2.2.2.2 b (fun k h1 h2 => hb k (Or.inr ⟨h1, h2⟩) (hp k h1 h2)), by rw [h.2.2.2.1]⟩⟩
theorem FRs.at {ad : Nat → Nat} {p : Nat → Prop} {m m' : jm_M} (h : FRs ad p m m') (S : SST m ad) {k : Nat} (hk : kin k) (hp : ¬ p k) : m'.2.2.1 (ad k) = m.2.2.1 (ad k) ∧ m'.2.2.2.1 (ad k) = m.2.2.2.1 (ad k) :=
  h.2.2.2 (ad k) (fun i hi hpi e => by
    have := S.2.1 k i hk hi e
    subst this
    exact hp hpi)
theorem FRs.L {ad : Nat → Nat} {p : Nat → Prop} {m m' : jm_M} {d : LD} (h : FRs ad p m m') (S : SST m ad) (hp : ∀ k, k < 15 → p k → k = 0 ∨ k = 2 ∨ k = 3 ∨ k = 4 ∨ 10 < k) (L : LnV m ad d) : LnV m' ad d := by
  obtain ⟨h1, h2, h3, h4, h5, h6, h7, h8, h9⟩ := L
  have hn : ∀ k, k < 11 → k = 1 ∨ 5 ≤ k → m'.2.2.1 (ad k) = m.2.2.1 (ad k) ∧ m'.2.2.2.1 (ad k) = m.2.2.2.1 (ad k) := fun k hk h1 => h.at S (Or.inl (by omega)) (fun q => by have := hp k (by omega) q; omega)
  refine ⟨?_, ?_, ?_, ?_, ?_, ?_, ?_, ?_, ?_⟩
  · rw [(hn 1 (by omega) (by omega)).1]; exact h1
  · rw [(hn 1 (by omega) (by omega)).1]; exact h2
  · rw [(hn 1 (by omega) (by omega)).1]; exact h3
  · rw [(hn 5 (by omega) (by omega)).1]; exact h4
  · rw [(hn 6 (by omega) (by omega)).1]; exact h5
  · rw [(hn 7 (by omega) (by omega)).1]; exact h6
  · rw [(hn 8 (by omega) (by omega)).1]; exact h7
  · rw [(hn 9 (by omega) (by omega)).1]; exact h8
  · rw [(hn 10 (by omega) (by omega)).2]; exact h9
theorem nIf_up (f : Nat → Nat) (x v : Nat) : va_up (fun i => nI (f i)) x (nI v) = fun i => nI (va_up f x v i) := by
  funext i
  by_cases h : i = x
  · subst h; rw [va_up_self, va_up_self]
  · rw [va_up_ne _ _ h, va_up_ne _ _ h]
/-! What is told, in pure words. -/
def dPort (d : LD) : LD := ((d.1.1, d.1.2.1, d.1.2.2 + 1), d.2)
def shM (sh : Nat → Nat) (r0 n : Nat) : Nat → Nat → Nat
  | 0 => sh
  | k + 1 => va_up (shM sh r0 n k) (3 * (r0 + k) + n - 1) 27720
def dMach (d : LD) (n : Nat) : LD := ((d.1.1, d.1.2.1 + 1, d.1.2.2), va_up d.2.1 d.1.2.1 n, d.2.2.1, shM d.2.2.2.1 (d.1.2.1 * d.1.1) n d.1.1, d.2.2.2.2)
def dShare (d : LD) (j k o u : Nat) : LD := (d.1, d.2.1, d.2.2.1, va_up (va_up d.2.2.2.1 (3 * (j * d.1.1 + k) + o) u) (3 * (j * d.1.1 + k) + (d.2.1 j - 1)) (d.2.2.2.1 (3 * (j * d.1.1 + k) + (d.2.1 j - 1)) + d.2.2.2.1 (3 * (j * d.1.1 + k) + o) - u), d.2.2.2.2)
section LN4
variable {l : Launch} {D : va_G} {ca : Nat → ClassId}
theorem c_Ln_addPort {m : jm_M} {ad : Nat → Nat} {d : LD} (S : SST m ad) (L : LnV m ad d) : jm_C l D ca n_Ln_addPort [.ref (ad 1)] m 0 0 (fun v m' => v = some (.int (nI d.1.2.2)) ∧ FRs ad (fun k => k = 1) m m' ∧ LnV m' ad (dPort d)) := by
  refine jm_C_of (cd := cd_Ln_addPort) (ini := false) (by decide +kernel) ok_Ln_addPort (fun h => by cases h) (Nat.le_of_ble_eq_true rfl) ?_
  intro X hX
  have o1 : jm_ok m (ad 1) 2 := S.ok 1 (Or.inl (by decide))
  refine jm_run hX [] 30 ?_
  refine And.intro rfl (And.intro o1 (And.intro o1 (And.intro o1 ?_)))
  refine ⟨Nat.le_refl _, Nat.le_refl _, trivial, ?_, FRs.uI (Or.inl (by decide)) rfl, ?_⟩
  · show some (Value.int (va_up m.2.2.1 (ad 1) (va_up (m.2.2.1 (ad 1)) 2 (m.2.2.1 (ad 1) 2 + 1)) (ad 1) 2 - 1)) = _
    rw [va_up_self, va_up_self, L.2.2.1, nI_1]
    show some (Value.int (nI (d.1.2.2 + 1) - nI 1)) = _
    rw [pk_sub (by omega), Nat.add_sub_cancel]
  · obtain ⟨h1, h2, h3, h4, h5, h6, h7, h8, h9⟩ := L
    have hn : ∀ k, k < 15 → k ≠ 1 → ∀ g, (uA m (ad 1) g).2.2.1 (ad k) = m.2.2.1 (ad k) := fun k hk hk1 g => va_up_ne _ _ (S.ne (Or.inl (by omega)) (Or.inl (by decide)) hk1)
    refine ⟨?_, ?_, ?_, ?_, ?_, ?_, ?_, ?_, h9⟩
    · show va_up m.2.2.1 (ad 1) (va_up (m.2.2.1 (ad 1)) 2 _) (ad 1) 0 = _
      rw [va_up_self, va_up_ne _ _ (by decide)]; exact h1
    · show va_up m.2.2.1 (ad 1) (va_up (m.2.2.1 (ad 1)) 2 _) (ad 1) 1 = _
      rw [va_up_self, va_up_ne _ _ (by decide)]; exact h2
    · show va_up m.2.2.1 (ad 1) (va_up (m.2.2.1 (ad 1)) 2 _) (ad 1) 2 = _
      rw [va_up_self, va_up_self, h3, nI_1]; rfl
    · rw [show (uI m (ad 1) 2 (m.2.2.1 (ad 1) 2 + 1)) = uA m (ad 1) _ from rfl, hn 5 (by decide) (by decide)]; exact h4
    · rw [show (uI m (ad 1) 2 (m.2.2.1 (ad 1) 2 + 1)) = uA m (ad 1) _ from rfl, hn 6 (by decide) (by decide)]; exact h5
    · rw [show (uI m (ad 1) 2 (m.2.2.1 (ad 1) 2 + 1)) = uA m (ad 1) _ from rfl, hn 7 (by decide) (by decide)]; exact h6
    · rw [show (uI m (ad 1) 2 (m.2.2.1 (ad 1) 2 + 1)) = uA m (ad 1) _ from rfl, hn 8 (by decide) (by decide)]; exact h7
    · rw [show (uI m (ad 1) 2 (m.2.2.1 (ad 1) 2 + 1)) = uA m (ad 1) _ from rfl, hn 9 (by decide) (by decide)]; exact h8
theorem c_Ln_addMachine {m : jm_M} {ad : Nat → Nat} {d : LD} {n : Nat} (S : SST m ad) (L : LnV m ad d) (hO : LOK d) (hM : d.1.2.1 < 3) (hn : 1 ≤ n ∧ n ≤ 3) : jm_C l D ca n_Ln_addMachine [.ref (ad 1), .int (nI n)] m 0 0 (fun v m' => v = some (.int (nI d.1.2.1)) ∧ FRs ad (fun k => k = 1 ∨ k = 5 ∨ k = 7) m m' ∧ LnV m' ad (dMach d n)) := by
  refine jm_C_of (cd := cd_Ln_addMachine) (ini := false) (by decide +kernel) ok_Ln_addMachine (fun h => by cases h) (Nat.le_of_ble_eq_true rfl) ?_
  intro X hX
  have o1 : jm_ok m (ad 1) 2 := S.ok 1 (Or.inl (by decide))
  have o5 : jm_ok m (ad 5) 50 := S.ok 5 (Or.inl (by decide))
  have r5 : m.2.2.2.2 (ad 1) 3 = some (ad 5) := S.2.2.1 (1, 3, 5) (by decide)
  have l5 : (m.2.1 (ad 5)).2 = 3 := S.len 5 (Or.inl (by decide))
  have o7 : jm_ok m (ad 7) 50 := S.ok 7 (Or.inl (by decide))
  have r7 : m.2.2.2.2 (ad 1) 5 = some (ad 7) := S.2.2.1 (1, 5, 7) (by decide)
  have l7 : (m.2.1 (ad 7)).2 = 27 := S.len 7 (Or.inl (by decide))
  have hK := hO.1
  have hne : ∀ {i j : Nat}, i < 15 → j < 15 → i ≠ j → ad i ≠ ad j := fun hi hj e => S.ne (Or.inl (by omega)) (Or.inl (by omega)) e
  let mk : Nat → jm_M := fun k => uA (uA m (ad 5) (fun i => nI (va_up d.2.1 d.1.2.1 n i))) (ad 7) (fun i => nI (shM d.2.2.2.1 (d.1.2.1 * d.1.1) n k i))
  have m1 : ∀ k, (mk k).2.2.1 (ad 1) = m.2.2.1 (ad 1) := fun k => by
    show va_up (va_up m.2.2.1 (ad 5) _) (ad 7) _ (ad 1) = _
    rw [va_up_ne _ _ (hne (by decide) (by decide) (by decide)), va_up_ne _ _ (hne (by decide) (by decide) (by decide))]
  have Lk : ∀ k, LnV (mk k) ad (d.1, va_up d.2.1 d.1.2.1 n, d.2.2.1, shM d.2.2.2.1 (d.1.2.1 * d.1.1) n k, d.2.2.2.2) := by
    intro k
    obtain ⟨h1, h2, h3, h4, h5, h6, h7, h8, h9⟩ := L
    refine ⟨?_, ?_, ?_, ?_, ?_, ?_, ?_, ?_, h9⟩
    · rw [m1]; exact h1
    · rw [m1]; exact h2
    · rw [m1]; exact h3
    · show va_up (va_up m.2.2.1 (ad 5) _) (ad 7) _ (ad 5) = _
      rw [va_up_ne _ _ (hne (by decide) (by decide) (by decide)), va_up_self]
    · show va_up (va_up m.2.2.1 (ad 5) _) (ad 7) _ (ad 6) = _
      rw [va_up_ne _ _ (hne (by decide) (by decide) (by decide)), va_up_ne _ _ (hne (by decide) (by decide) (by decide))]; exact h5
    · show va_up (va_up m.2.2.1 (ad 5) _) (ad 7) _ (ad 7) = _
      rw [va_up_self]
    · show va_up (va_up m.2.2.1 (ad 5) _) (ad 7) _ (ad 8) = _
      rw [va_up_ne _ _ (hne (by decide) (by decide) (by decide)), va_up_ne _ _ (hne (by decide) (by decide) (by decide))]; exact h7
    · show va_up (va_up m.2.2.1 (ad 5) _) (ad 7) _ (ad 9) = _
      rw [va_up_ne _ _ (hne (by decide) (by decide) (by decide)), va_up_ne _ _ (hne (by decide) (by decide) (by decide))]; exact h8
  have Sk : ∀ k, SST (mk k) ad := fun k => S
  have loop : ∀ (e k : Nat), k + e = d.1.1 → X 14 [(0, .ref (ad 1)), (1, .int (nI n)), (2, .int (nI d.1.2.1)), (3, .int (nI k))] [] (mk k) 0 0 := by
    intro e
    induction e with
    | zero =>
      intro k hk
      refine jm_run hX [] 40 ?_
      refine And.intro o1 (And.intro (fun _ => ?_) (fun g => ?_))
      · refine And.intro rfl (And.intro o1 (And.intro o1 ?_))
        have e1 : (mk k).2.2.1 (ad 1) 1 = nI d.1.2.1 := (Lk k).2.1
        refine ⟨Nat.le_refl _, Nat.le_refl _, trivial, rfl, ((FRs.uA (m := m) (i := 5) (Or.inl (by decide)) (Or.inr (Or.inl rfl))).tr (FRs.uA (i := 7) (Or.inl (by decide)) (Or.inr (Or.inr rfl)))).tr (FRs.uI (i := 1) (Or.inl (by decide)) (Or.inl rfl)), ?_⟩
        obtain ⟨h1, h2, h3, h4, h5, h6, h7, h8, h9⟩ := Lk k
        have hn1 : ∀ k', k' < 15 → k' ≠ 1 → ∀ g, (uA (mk k) (ad 1) g).2.2.1 (ad k') = (mk k).2.2.1 (ad k') := fun k' hk' hk1 g => va_up_ne _ _ (hne hk' (by decide) hk1)
        have ek : k = d.1.1 := by omega
        refine ⟨?_, ?_, ?_, ?_, ?_, ?_, ?_, ?_, h9⟩
        · show va_up (mk k).2.2.1 (ad 1) (va_up ((mk k).2.2.1 (ad 1)) 1 _) (ad 1) 0 = _
          rw [va_up_self, va_up_ne _ _ (by decide)]; exact h1
        · show va_up (mk k).2.2.1 (ad 1) (va_up ((mk k).2.2.1 (ad 1)) 1 ((mk k).2.2.1 (ad 1) 1 + 1)) (ad 1) 1 = _
          rw [va_up_self, va_up_self, e1, nI_1]; rfl
        · show va_up (mk k).2.2.1 (ad 1) (va_up ((mk k).2.2.1 (ad 1)) 1 _) (ad 1) 2 = _
          rw [va_up_self, va_up_ne _ _ (by decide)]; exact h3
        · exact (hn1 5 (by decide) (by decide) _).trans h4
        · exact (hn1 6 (by decide) (by decide) _).trans h5
        · exact (hn1 7 (by decide) (by decide) _).trans (h6.trans (by subst ek; rfl))
        · exact (hn1 8 (by decide) (by decide) _).trans h7
        · exact (hn1 9 (by decide) (by decide) _).trans h8
      · have g : ¬ (mk k).2.2.1 (ad 1) 0 ≤ nI k := g
        rw [(Lk k).1] at g
        exact absurd (nI_le (show d.1.1 ≤ k by omega) (by omega)) g
    | succ e ih =>
      intro k hk
      have hrow := row_lt (M := 3) hK.2 (by omega) hM (show k < d.1.1 by omega)
      have kk := ih (k + 1) (by omega)
      have e3 : nI (d.1.2.1 * d.1.1 + k) * 3 + nI n - 1 = nI (3 * (d.1.2.1 * d.1.1 + k) + n - 1) := by
        have e3 : (3 : Int32) = nI 3 := rfl
        have e1 : (1 : Int32) = nI 1 := rfl
        rw [e3, e1, pk_mul, nI_add, pk_sub (by omega), Nat.mul_comm]
      refine jm_run hX [(14, [0, 1, 2, 3])] 40 ?_
      refine And.intro o1 (And.intro (fun g => ?_) (fun _ => ?_))
      · have g : (mk k).2.2.1 (ad 1) 0 ≤ nI k := g
        rw [show (mk k).2.2.1 (ad 1) 0 = nI d.1.1 from (Lk k).1] at g
        exact absurd g (nI_ge (show k < d.1.1 by omega) (by omega))
      refine And.intro o1 ⟨some (ad 7), r7, ?_⟩
      refine And.intro o1 (And.intro (Nat.le_of_ble_eq_true rfl) (And.intro (Nat.le_of_ble_eq_true rfl) ⟨0, 0, _, Nat.le_refl _, Nat.le_refl _, c_Ln_row (m := mk k) (Sk k) (Lk k), fun v m' hq => ?_⟩))
      obtain ⟨rfl, rfl⟩ := hq
      refine And.intro o7 (And.intro ?_ ?_)
      · show vp_in (nI (d.1.2.1 * d.1.1 + k) * 3 + nI n - 1) (m.2.1 (ad 7)).2
        rw [e3]; exact vin_of l7 (by omega) (by decide)
      have em : mk (k + 1) = uI (mk k) (ad 7) (3 * (d.1.2.1 * d.1.1 + k) + n - 1) 27720 := by
        show _ = uI (uA _ (ad 7) _) (ad 7) _ _
        rw [uI_uA, show (27720 : Int32) = nI 27720 from rfl, nIf_up]
        rfl
      rw [em, ← nI_1] at kk
      have k2 : X 14 [(0, .ref (ad 1)), (1, .int (nI n)), (2, .int (nI d.1.2.1)), (3, .int (nI k + 1))] [] (uI (mk k) (ad 7) (nI (d.1.2.1 * d.1.1 + k) * 3 + nI n - 1).toNatClampNeg 27720) 0 0 := by
        rw [e3, nI_c (by omega)]; exact kk
      exact k2
  have k0 := loop d.1.1 0 (by omega)
  have em : mk 0 = uI m (ad 5) d.1.2.1 (nI n) := by
    show uA (uA m (ad 5) _) (ad 7) (fun i => nI (d.2.2.2.1 i)) = uA m (ad 5) (va_up (m.2.2.1 (ad 5)) d.1.2.1 (nI n))
    rw [L.2.2.2.1, nIf_up]
    refine uA_id' ?_
    show va_up m.2.2.1 (ad 5) _ (ad 7) = _
    rw [va_up_ne _ _ (hne (by decide) (by decide) (by decide))]; exact L.2.2.2.2.2.1
  rw [em] at k0
  refine jm_run hX [(14, [0, 1, 2, 3])] 20 ?_
  refine And.intro o1 (And.intro o1 ⟨some (ad 5), r5, And.intro o5 (And.intro ?_ ?_)⟩)
  · show vp_in (m.2.2.1 (ad 1) 1) (m.2.1 (ad 5)).2
    rw [L.2.1]; exact vin_of l5 hM (by decide)
  have k2 : X 14 [(0, .ref (ad 1)), (1, .int (nI n)), (2, .int (m.2.2.1 (ad 1) 1)), (3, .int (nI 0))] [] (uI m (ad 5) (m.2.2.1 (ad 1) 1).toNatClampNeg (nI n)) 0 0 := by
    rw [L.2.1, nI_c (by omega)]; exact k0
  exact k2
theorem c_Ln_setShare {m : jm_M} {ad : Nat → Nat} {d : LD} {j k o u : Nat} (S : SST m ad) (L : LnV m ad d) (hO : LOK d) (hj : j < d.1.2.1) (hk : k < d.1.1) (ho : o + 1 < d.2.1 j) (hu : u ≤ 27720) : jm_C l D ca n_Ln_setShare [.ref (ad 1), .int (nI j), .int (nI k), .int (nI o), .int (nI u)] m 0 0 (fun v m' => (u ≤ d.2.2.2.1 (3 * (j * d.1.1 + k) + (d.2.1 j - 1)) + d.2.2.2.1 (3 * (j * d.1.1 + k) + o) ∧ v = some (.int 1) ∧ FRs ad (fun k => k = 7) m m' ∧ LnV m' ad (dShare d j k o u)) ∨ (¬ u ≤ d.2.2.2.1 (3 * (j * d.1.1 + k) + (d.2.1 j - 1)) + d.2.2.2.1 (3 * (j * d.1.1 + k) + o) ∧ v = some (.int 0) ∧ m' = m)) := by
  refine jm_C_of (cd := cd_Ln_setShare) (ini := false) (by decide +kernel) ok_Ln_setShare (fun h => by cases h) (Nat.le_of_ble_eq_true rfl) ?_
  intro X hX
  have o1 : jm_ok m (ad 1) 2 := S.ok 1 (Or.inl (by decide))
  have o7 : jm_ok m (ad 7) 50 := S.ok 7 (Or.inl (by decide))
  have r7 : m.2.2.2.2 (ad 1) 5 = some (ad 7) := S.2.2.1 (1, 5, 7) (by decide)
  have l7 : (m.2.1 (ad 7)).2 = 27 := S.len 7 (Or.inl (by decide))
  have hK := hO.1
  have hM := hO.2.1
  have hou := hO.2.2.2.1 j hj
  have hrow := row_lt hK.2 hM hj hk
  have hs1 := hO.2.2.2.2.2.1 _ hrow o (by omega)
  have hs2 := hO.2.2.2.2.2.1 _ hrow (d.2.1 j - 1) (by omega)
  have ef : nI (j * d.1.1 + k) * 3 = nI (3 * (j * d.1.1 + k)) := by
    have e3 : (3 : Int32) = nI 3 := rfl
    rw [e3, pk_mul, Nat.mul_comm]
  have el : nI (j * d.1.1 + k) * 3 + nI (d.2.1 j - 1) = nI (3 * (j * d.1.1 + k) + (d.2.1 j - 1)) := by rw [ef, nI_add]
  have eo : nI (j * d.1.1 + k) * 3 + nI o = nI (3 * (j * d.1.1 + k) + o) := by rw [ef, nI_add]
  have er : m.2.2.1 (ad 7) (nI (j * d.1.1 + k) * 3 + nI (d.2.1 j - 1)).toNatClampNeg + m.2.2.1 (ad 7) (nI (j * d.1.1 + k) * 3 + nI o).toNatClampNeg = nI (d.2.2.2.1 (3 * (j * d.1.1 + k) + (d.2.1 j - 1)) + d.2.2.2.1 (3 * (j * d.1.1 + k) + o)) := by
    rw [el, eo, nI_c (by omega), nI_c (by omega), L.2.2.2.2.2.1, nI_add]
  refine jm_run hX [] 60 ?_
  refine And.intro o1 (And.intro (Nat.le_of_ble_eq_true rfl) (And.intro (Nat.le_of_ble_eq_true rfl) ⟨0, 0, _, Nat.le_refl _, Nat.le_refl _, c_Ln_row S L, fun v m' hq => ?_⟩))
  obtain ⟨rfl, rfl⟩ := hq
  refine And.intro o1 (And.intro (Nat.le_of_ble_eq_true rfl) (And.intro (Nat.le_of_ble_eq_true rfl) ⟨0, 0, _, Nat.le_refl _, Nat.le_refl _, c_Ln_lastOut S L (by omega) hou.1, fun v m' hq => ?_⟩))
  obtain ⟨rfl, rfl⟩ := hq
  refine And.intro o1 ⟨some (ad 7), r7, And.intro o7 (And.intro ?_ ?_)⟩
  · show vp_in (nI (j * d.1.1 + k) * 3 + nI (d.2.1 j - 1)) (m'.2.1 (ad 7)).2
    rw [el]; exact vin_of l7 (by omega) (by decide)
  refine And.intro o1 ⟨some (ad 7), r7, And.intro o7 (And.intro ?_ ?_)⟩
  · show vp_in (nI (j * d.1.1 + k) * 3 + nI o) (m'.2.1 (ad 7)).2
    rw [eo]; exact vin_of l7 (by omega) (by decide)
  have ege : (0 : Int32) ≤ m'.2.2.1 (ad 7) (nI (j * d.1.1 + k) * 3 + nI (d.2.1 j - 1)).toNatClampNeg + m'.2.2.1 (ad 7) (nI (j * d.1.1 + k) * 3 + nI o).toNatClampNeg - nI u ↔ u ≤ d.2.2.2.1 (3 * (j * d.1.1 + k) + (d.2.1 j - 1)) + d.2.2.2.1 (3 * (j * d.1.1 + k) + o) := by
    rw [er, ige0, Int32.toInt_sub, nI_toInt (by omega), nI_toInt (by omega), Int.bmod_eq_of_le (by omega) (by omega)]
    omega
  refine And.intro (fun g => ?_) (fun g => ?_)
  · have g := ege.mp g
    refine And.intro o1 ⟨some (ad 7), r7, And.intro o7 (And.intro ?_ ?_)⟩
    · show vp_in (nI (j * d.1.1 + k) * 3 + nI o) (m'.2.1 (ad 7)).2
      rw [eo]; exact vin_of l7 (by omega) (by decide)
    refine And.intro o1 ⟨some (ad 7), r7, And.intro o7 (And.intro ?_ ?_)⟩
    · show vp_in (nI (j * d.1.1 + k) * 3 + nI (d.2.1 j - 1)) (m'.2.1 (ad 7)).2
      rw [el]; exact vin_of l7 (by omega) (by decide)
    refine ⟨Nat.le_refl _, Nat.le_refl _, Or.inr rfl, Or.inl ⟨g, ?_⟩⟩
    have em : uI (uI m' (ad 7) (nI (j * d.1.1 + k) * 3 + nI o).toNatClampNeg (nI u)) (ad 7) (nI (j * d.1.1 + k) * 3 + nI (d.2.1 j - 1)).toNatClampNeg (m'.2.2.1 (ad 7) (nI (j * d.1.1 + k) * 3 + nI (d.2.1 j - 1)).toNatClampNeg + m'.2.2.1 (ad 7) (nI (j * d.1.1 + k) * 3 + nI o).toNatClampNeg - nI u) = uA m' (ad 7) (fun i => nI ((dShare d j k o u).2.2.2.1 i)) := by
      rw [er, pk_sub g, el, eo, nI_c (by omega), nI_c (by omega)]
      show uI (uA m' (ad 7) _) (ad 7) _ _ = _
      rw [uI_uA, L.2.2.2.2.2.1, nIf_up, nIf_up]
      rfl
    refine ⟨rfl, ?_, ?_⟩
    · exact (FRs.uI (p := fun k => k = 7) (i := 7) (Or.inl (by decide)) rfl).tr (FRs.uI (i := 7) (Or.inl (by decide)) rfl)
    · refine Eq.mp (congrArg (fun z => LnV z ad (dShare d j k o u)) em.symm) ?_
      obtain ⟨h1, h2, h3, h4, h5, h6, h7, h8, h9⟩ := L
      have hn1 : ∀ k', k' < 15 → k' ≠ 7 → ∀ g, (uA m' (ad 7) g).2.2.1 (ad k') = m'.2.2.1 (ad k') := fun k' hk' hk1 g => va_up_ne _ _ (S.ne (Or.inl (by omega)) (Or.inl (by decide)) hk1)
      refine ⟨?_, ?_, ?_, ?_, ?_, va_up_self _ _ _, ?_, ?_, h9⟩
      · rw [hn1 1 (by decide) (by decide)]; exact h1
      · rw [hn1 1 (by decide) (by decide)]; exact h2
      · rw [hn1 1 (by decide) (by decide)]; exact h3
      · rw [hn1 5 (by decide) (by decide)]; exact h4
      · rw [hn1 6 (by decide) (by decide)]; exact h5
      · rw [hn1 8 (by decide) (by decide)]; exact h7
      · rw [hn1 9 (by decide) (by decide)]; exact h8
  · have g : ¬ u ≤ d.2.2.2.1 (3 * (j * d.1.1 + k) + (d.2.1 j - 1)) + d.2.2.2.1 (3 * (j * d.1.1 + k) + o) := fun q => g (ege.mpr q)
    exact ⟨Nat.le_refl _, Nat.le_refl _, Or.inl rfl, Or.inr ⟨g, rfl, rfl⟩⟩
end LN4
end
section
/-! Flow: its rows of ints, by the numbers of the things: 15 scale, 17 .. moves, 27 .. leaves, 37 .. turns. -/
def fk (t : Nat) : Prop := t = 15 ∨ (17 ≤ t ∧ t < 26) ∨ (27 ≤ t ∧ t < 36) ∨ (37 ≤ t ∧ t < 40)
theorem fk.kin {t : Nat} (h : fk t) : kin t := Or.inl (by unfold fk at h; omega)
def FlV (m : jm_M) (ad : Nat → Nat) (F : Nat → Nat → Nat) : Prop := ∀ t, fk t → ∀ c, c < 9 → m.2.2.1 (ad t) c = nI (F t c)
theorem FlV.put {m : jm_M} {ad : Nat → Nat} {F G : Nat → Nat → Nat} {t c x : Nat} (S : SST m ad) (h : FlV m ad F) (ht : fk t) (hG1 : G t c = x) (hG2 : ∀ t' c', fk t' → c' < 9 → (t' ≠ t ∨ c' ≠ c) → G t' c' = F t' c') : FlV (uI m (ad t) c (nI x)) ad G := by
  intro t' ht' c' hc'
  show va_up m.2.2.1 (ad t) (va_up (m.2.2.1 (ad t)) c (nI x)) (ad t') c' = _
  by_cases e : t' = t
  · subst e
    rw [va_up_self]
    by_cases e2 : c' = c
    · subst e2; rw [va_up_self, hG1]
    · rw [va_up_ne _ _ e2, hG2 t' c' ht' hc' (Or.inr e2)]
      exact h t' ht c' hc'
  · rw [va_up_ne _ _ (S.ne ht'.kin ht.kin e), hG2 t' c' ht' hc' (Or.inl e)]
    exact h t' ht' c' hc'
theorem FlV.cg {m : jm_M} {ad : Nat → Nat} {F G : Nat → Nat → Nat} (h : FlV m ad F) (hG : ∀ t c, fk t → c < 9 → G t c = F t c) : FlV m ad G := fun t ht c hc => by rw [hG t c ht hc]; exact h t ht c hc
theorem FlV.get {m : jm_M} {ad : Nat → Nat} {F : Nat → Nat → Nat} {t c x : Nat} (h : FlV m ad F) (ht : fk t) (hc : c < 9) (e : F t c = x) : m.2.2.1 (ad t) c = nI x := by rw [← e]; exact h t ht c hc
theorem ite_iff {α : Type} {A B : Prop} [Decidable A] [Decidable B] {x y : α} (h : A ↔ B) : (if A then x else y) = if B then x else y := by
  by_cases ha : A
  · rw [if_pos ha, if_pos (h.mp ha)]
  · rw [if_neg ha, if_neg (fun q => ha (h.mpr q))]
theorem fkok {m : jm_M} {ad : Nat → Nat} (S : SST m ad) {t : Nat} (h : fk t) : jm_ok m (ad t) 50 ∧ (m.2.1 (ad t)).2 = 9 := by
  have hk : kd t = (50, 9) := by
    unfold fk at h
    have : ∀ t : Nat, t < 40 → (t = 15 ∨ (17 ≤ t ∧ t < 26) ∨ (27 ≤ t ∧ t < 36) ∨ (37 ≤ t ∧ t < 40)) → kd t = (50, 9) := by decide
    exact this t (by omega) h
  have h1 := S.ok t h.kin
  have h2 := S.len t h.kin
  rw [hk] at h1 h2
  exact ⟨h1, h2⟩
theorem fk_m {i : Nat} (h : i < 9) : fk (17 + i) := Or.inr (Or.inl (by omega))
theorem fk_l {i : Nat} (h : i < 9) : fk (27 + i) := Or.inr (Or.inr (Or.inl (by omega)))
theorem fk_t {i : Nat} (h : i < 3) : fk (37 + i) := Or.inr (Or.inr (Or.inr (by omega)))
/-! Euclid's steps -/
def eud : Nat → Nat → Nat → Nat
  | 0, a, _ => a
  | n + 1, a, b => if b = 0 then a else eud n b (a % b)
theorem eud_gcd : ∀ (k a b n : Nat), b < 2 ^ k → 2 * k ≤ n → eud n a b = Nat.gcd a b
  | 0, a, b, n, hb, _ => by
    have : b = 0 := by simpa using hb
    subst this
    rw [Nat.gcd_zero_right]
    cases n <;> simp [eud]
  | k + 1, a, b, n, hb, hn => by
    obtain ⟨n, rfl⟩ : ∃ n', n = n' + 2 := ⟨n - 2, by omega⟩
    by_cases h0 : b = 0
    · subst h0; rw [Nat.gcd_zero_right]; simp [eud]
    · have e1 : eud (n + 2) a b = eud (n + 1) b (a % b) := by rw [eud, if_neg h0]
      have g1 : Nat.gcd a b = Nat.gcd b (a % b) := by rw [Nat.gcd_comm a b, Nat.gcd_rec b a, Nat.gcd_comm]
      rw [e1, g1]
      by_cases h1 : a % b = 0
      · rw [h1, Nat.gcd_zero_right]; simp [eud]
      · have e2 : eud (n + 1) b (a % b) = eud n (a % b) (b % (a % b)) := by rw [eud, if_neg h1]
        have g2 : Nat.gcd b (a % b) = Nat.gcd (a % b) (b % (a % b)) := by rw [Nat.gcd_comm b, Nat.gcd_rec (a % b) b, Nat.gcd_comm]
        rw [e2, g2]
        have hr : a % b < b := Nat.mod_lt _ (by omega)
        have hs : b % (a % b) < a % b := Nat.mod_lt _ (by omega)
        have hd := Nat.div_add_mod b (a % b)
        have hq : 1 ≤ b / (a % b) := (Nat.one_le_div_iff (by omega)).mpr (by omega)
        have : a % b ≤ a % b * (b / (a % b)) := Nat.le_mul_of_pos_right _ hq
        refine eud_gcd k _ _ n ?_ (by omega)
        rw [Nat.pow_succ] at hb
        omega
section FL1
variable {l : Launch} {D : va_G} {ca : Nat → ClassId}
theorem c_Fl_cell {m : jm_M} {ad : Nat → Nat} {r c : Nat} (S : SST m ad) (h : 12 * r + c < 108) : jm_C l D ca n_Fl_cell [.ref (ad 2), .int (nI r), .int (nI c)] m 0 0 (fun v m' => m' = m ∧ v = some (.ref (ad (100 + 2 * (12 * r + c))))) := by
  refine jm_C_of (cd := cd_Fl_cell) (ini := false) (by decide +kernel) ok_Fl_cell (fun h => by cases h) (Nat.le_of_ble_eq_true rfl) ?_
  intro X hX
  have o2 : jm_ok m (ad 2) 1 := S.ok 2 (Or.inl (by decide))
  have o40 : jm_ok m (ad 40) 53 := S.ok 40 (Or.inl (by decide))
  have r40 : m.2.2.2.2 (ad 2) 8 = some (ad 40) := S.2.2.1 (2, 8, 40) (by decide)
  have l40 : (m.2.1 (ad 40)).2 = 108 := S.len 40 (Or.inl (by decide))
  have e : nI r * 12 + nI c = nI (12 * r + c) := by
    have e3 : (12 : Int32) = nI 12 := rfl
    rw [e3, pk_mul, nI_add, Nat.mul_comm]
  refine jm_run hX [] 20 ?_
  refine And.intro o2 ⟨some (ad 40), r40, And.intro o40 (And.intro ?_ ⟨some (ad (100 + 2 * (12 * r + c))), ?_, ?_⟩)⟩
  · show vp_in (nI r * 12 + nI c) (m.2.1 (ad 40)).2
    rw [e]; exact vin_of l40 h (by decide)
  · show m.2.2.2.2 (ad 40) (nI r * 12 + nI c).toNatClampNeg = _
    rw [e, nI_c (by omega)]
    exact S.2.2.2.2.2.2.2.1 _ h
  exact ⟨Nat.le_refl _, Nat.le_refl _, trivial, rfl, rfl⟩
theorem c_Fl_commonDivisor {m : jm_M} {a b : Nat} (ha : a < 2 ^ 31) (hb : b < 2 ^ 31) : jm_C l D ca n_Fl_commonDivisor [.int (nI a), .int (nI b)] m 0 0 (fun v m' => m' = m ∧ v = some (.int (nI (Nat.gcd a b)))) := by
  refine jm_C_of (cd := cd_Fl_commonDivisor) (ini := false) (by decide +kernel) ok_Fl_commonDivisor (fun h => by cases h) (Nat.le_of_ble_eq_true rfl) ?_
  intro X hX
  have loop : ∀ (e s x y : Nat), s + e = 64 → x < 2 ^ 31 → y < 2 ^ 31 → eud e x y = Nat.gcd a b → X 7 [(2, .int (nI x)), (3, .int (nI y)), (4, .int (nI s))] [] m 0 0 := by
    intro e
    induction e with
    | zero =>
      intro s x y hs hx hy he
      refine jm_run hX [] 20 ?_
      refine And.intro (fun _ => ?_) (fun g => ?_)
      · have he : x = Nat.gcd a b := he
        exact ⟨Nat.le_refl _, Nat.le_refl _, trivial, rfl, by rw [he]⟩
      · exact absurd (nI_le (show 64 ≤ s by omega) (by omega)) g
    | succ e ih =>
      intro s x y hs hx hy he
      refine jm_run hX [(7, [2, 3, 4])] 20 ?_
      refine And.intro (fun g => absurd g (nI_ge (show s < 64 by omega) (by decide))) (fun _ => ?_)
      rcases Nat.eq_zero_or_pos y with q | q
      · subst q
        refine And.intro (fun _ => ?_) (fun g => absurd nI_0 g)
        have he : x = Nat.gcd a b := by rw [eud, if_pos rfl] at he; exact he
        exact ⟨Nat.le_refl _, Nat.le_refl _, trivial, rfl, by rw [he]⟩
      · refine And.intro (fun g => absurd g (nI_ne0 q hy)) (fun _ => ?_)
        rw [eud, if_neg (by omega)] at he
        have hr := Nat.mod_lt x q
        have kk := ih (s + 1) y (x % y) (by omega) hy (by omega) he
        rw [← nI_1, ← pk_rem hx q hy] at kk
        exact And.intro (nI_ne0 q hy) kk
  refine jm_run hX [(7, [2, 3, 4])] 20 ?_
  exact loop 64 0 a b (by omega) ha hb (eud_gcd 31 a b 64 hb (by decide))
/-- a column of Flow's rows divided -/
theorem c_Fl_divideColumn {m0 : jm_M} {ad : Nat → Nat} {F : Nat → Nat → Nat} {f g : Nat} (S : SST m0 ad) (hF : FlV m0 ad F) (hf : f < 9) (hg1 : 1 ≤ g) (hg : g < 2 ^ 31) (hF31 : ∀ t, fk t → F t f < 2 ^ 31) : jm_C l D ca n_Fl_divideColumn [.ref (ad 2), .int (nI f), .int (nI g)] m0 0 0 (fun v m' => v = none ∧ FRs ad fk m0 m' ∧ FlV m' ad (fun t c => if c = f then F t c / g else F t c)) := by
  refine jm_C_of (cd := cd_Fl_divideColumn) (ini := false) (by decide +kernel) ok_Fl_divideColumn (fun h => by cases h) (Nat.le_of_ble_eq_true rfl) ?_
  intro X hX
  have ecf : (nI f).toNatClampNeg = f := nI_c (by omega)
  have third : ∀ (e i : Nat) (m : jm_M), i + e = 3 → FRs ad fk m0 m → FlV m ad (fun t c => if c = f ∧ t < 37 + i then F t c / g else F t c) → X 56 [(0, .ref (ad 2)), (1, .int (nI f)), (2, .int (nI g)), (3, .int (nI i))] [] m 0 0 := by
    intro e
    induction e with
    | zero =>
      intro i m hi hR hV
      refine jm_run hX [] 20 ?_
      refine And.intro (fun _ => ?_) (fun g => absurd (nI_le (show 3 ≤ i by omega) (by omega)) g)
      refine ⟨Nat.le_refl _, Nat.le_refl _, trivial, rfl, hR, hV.cg (fun t c ht hc => ite_iff ?_)⟩
      unfold fk at ht
      omega
    | succ e ih =>
      intro i m hi hR hV
      have Sm := hR.S S
      have ht : fk (37 + i) := fk_t (by omega)
      have o2 : jm_ok m (ad 2) 1 := Sm.ok 2 (Or.inl (by decide))
      have o36 : jm_ok m (ad 36) 54 := Sm.ok 36 (Or.inl (by decide))
      have r36 : m.2.2.2.2 (ad 2) 7 = some (ad 36) := Sm.2.2.1 (2, 7, 36) (by decide)
      have l36 : (m.2.1 (ad 36)).2 = 3 := Sm.len 36 (Or.inl (by decide))
      have q := fkok Sm ht
      have ev : m.2.2.1 (ad (37 + i)) (nI f).toNatClampNeg / nI g = nI (F (37 + i) f / g) := by
        rw [ecf, hV.get ht hf (if_neg (by omega)), pk_div (hF31 _ ht) hg1 hg]
      have kk := ih (i + 1) (uI m (ad (37 + i)) f (nI (F (37 + i) f / g))) (by omega) (hR.tr (FRs.uI ht.kin ht)) (hV.put Sm ht (if_pos ⟨rfl, by omega⟩) (fun t' c' h1 h2 h3 => ite_iff (by omega)))
      rw [← nI_1, ← ev] at kk
      refine jm_run hX [(56, [0, 1, 2, 3])] 20 ?_
      refine And.intro (fun g => absurd g (nI_ge (show i < 3 by omega) (by decide))) (fun _ => ?_)
      refine And.intro o2 ⟨some (ad 36), r36, And.intro o36 (And.intro (vin_of l36 (by omega) (by decide)) ⟨some (ad (37 + i)), ?_, ?_⟩)⟩
      · rw [nI_c (by omega)]; exact Sm.2.2.2.2.2.2.1 i (by omega)
      refine And.intro rfl (And.intro rfl (And.intro q.1 (And.intro (vin_of q.2 hf (by decide)) ?_)))
      refine And.intro (nI_ne0 hg1 hg) (And.intro q.1 (And.intro (vin_of q.2 hf (by decide)) ?_))
      have k2 : X 56 [(0, .ref (ad 2)), (1, .int (nI f)), (2, .int (nI g)), (3, .int (nI i + 1))] [] (uI m (ad (37 + i)) (nI f).toNatClampNeg (m.2.2.1 (ad (37 + i)) (nI f).toNatClampNeg / nI g)) 0 0 := by
        rw [ecf] at kk ⊢; exact kk
      exact k2
  have second : ∀ (e i : Nat) (m : jm_M), i + e = 9 → FRs ad fk m0 m → FlV m ad (fun t c => if c = f ∧ (t = 15 ∨ (17 ≤ t ∧ t < 17 + i) ∨ (27 ≤ t ∧ t < 27 + i)) then F t c / g else F t c) → X 18 [(0, .ref (ad 2)), (1, .int (nI f)), (2, .int (nI g)), (3, .int (nI i))] [] m 0 0 := by
    intro e
    induction e with
    | zero =>
      intro i m hi hR hV
      refine jm_run hX [(56, [0, 1, 2, 3])] 20 ?_
      refine And.intro (fun _ => ?_) (fun g => absurd (nI_le (show 9 ≤ i by omega) (by omega)) g)
      refine third 3 0 m (by omega) hR (hV.cg (fun t c ht hc => ite_iff ?_))
      unfold fk at ht
      omega
    | succ e ih =>
      intro i m hi hR hV
      have Sm := hR.S S
      have ht : fk (17 + i) := fk_m (by omega)
      have ht2 : fk (27 + i) := fk_l (by omega)
      have o2 : jm_ok m (ad 2) 1 := Sm.ok 2 (Or.inl (by decide))
      have o16 : jm_ok m (ad 16) 54 := Sm.ok 16 (Or.inl (by decide))
      have r16 : m.2.2.2.2 (ad 2) 5 = some (ad 16) := Sm.2.2.1 (2, 5, 16) (by decide)
      have l16 : (m.2.1 (ad 16)).2 = 9 := Sm.len 16 (Or.inl (by decide))
      have o26 : jm_ok m (ad 26) 54 := Sm.ok 26 (Or.inl (by decide))
      have r26 : m.2.2.2.2 (ad 2) 6 = some (ad 26) := Sm.2.2.1 (2, 6, 26) (by decide)
      have l26 : (m.2.1 (ad 26)).2 = 9 := Sm.len 26 (Or.inl (by decide))
      have q := fkok Sm ht
      have q2 := fkok Sm ht2
      have ev : m.2.2.1 (ad (17 + i)) f / nI g = nI (F (17 + i) f / g) := by
        rw [hV.get ht hf (if_neg (by omega)), pk_div (hF31 _ ht) hg1 hg]
      have hV1 : FlV (uI m (ad (17 + i)) f (nI (F (17 + i) f / g))) ad (fun t c => if c = f ∧ (t = 15 ∨ (17 ≤ t ∧ t < 17 + (i + 1)) ∨ (27 ≤ t ∧ t < 27 + i)) then F t c / g else F t c) := hV.put Sm ht (if_pos ⟨rfl, by omega⟩) (fun t' c' h1 h2 h3 => ite_iff (by omega))
      have hR1 : FRs ad fk m0 (uI m (ad (17 + i)) f (nI (F (17 + i) f / g))) := hR.tr (FRs.uI ht.kin ht)
      rw [← ev] at hV1 hR1
      generalize hm1 : uI m (ad (17 + i)) f (m.2.2.1 (ad (17 + i)) f / nI g) = m1 at hV1 hR1
      have ev2 : m1.2.2.1 (ad (27 + i)) f / nI g = nI (F (27 + i) f / g) := by
        rw [hV1.get ht2 hf (if_neg (by omega)), pk_div (hF31 _ ht2) hg1 hg]
      have kk := ih (i + 1) (uI m1 (ad (27 + i)) f (nI (F (27 + i) f / g))) (by omega) (hR1.tr (FRs.uI ht2.kin ht2)) (hV1.put (hR1.S S) ht2 (if_pos ⟨rfl, by omega⟩) (fun t' c' h1 h2 h3 => ite_iff (by omega)))
      rw [← nI_1, ← ev2, ← hm1] at kk
      refine jm_run hX [(18, [0, 1, 2, 3])] 40 ?_
      refine And.intro (fun g => absurd g (nI_ge (show i < 9 by omega) (by decide))) (fun _ => ?_)
      refine And.intro o2 ⟨some (ad 16), r16, And.intro o16 (And.intro (vin_of l16 (by omega) (by decide)) ⟨some (ad (17 + i)), ?_, ?_⟩)⟩
      · rw [nI_c (by omega)]; exact Sm.2.2.2.2.1 i (by omega)
      refine And.intro rfl (And.intro rfl (And.intro q.1 (And.intro (vin_of q.2 hf (by decide)) ?_)))
      refine And.intro (nI_ne0 hg1 hg) (And.intro q.1 (And.intro (vin_of q.2 hf (by decide)) ?_))
      refine And.intro o2 ⟨some (ad 26), r26, And.intro o26 (And.intro (vin_of l26 (by omega) (by decide)) ⟨some (ad (27 + i)), ?_, ?_⟩)⟩
      · show m.2.2.2.2 (ad 26) (nI i).toNatClampNeg = _
        rw [nI_c (by omega)]; exact Sm.2.2.2.2.2.1 i (by omega)
      refine And.intro rfl (And.intro rfl (And.intro q2.1 (And.intro (vin_of q2.2 hf (by decide)) ?_)))
      refine And.intro (nI_ne0 hg1 hg) (And.intro q2.1 (And.intro (vin_of q2.2 hf (by decide)) ?_))
      rw [← ecf] at kk
      rw [ecf] at kk
      have k2 : X 18 [(0, .ref (ad 2)), (1, .int (nI f)), (2, .int (nI g)), (3, .int (nI i + 1))] [] (uI (uI m (ad (17 + i)) (nI f).toNatClampNeg (m.2.2.1 (ad (17 + i)) (nI f).toNatClampNeg / nI g)) (ad (27 + i)) (nI f).toNatClampNeg ((uI m (ad (17 + i)) (nI f).toNatClampNeg (m.2.2.1 (ad (17 + i)) (nI f).toNatClampNeg / nI g)).2.2.1 (ad (27 + i)) (nI f).toNatClampNeg / nI g)) 0 0 := by
        rw [ecf]; exact kk
      exact k2
  refine jm_run hX [(18, [0, 1, 2, 3])] 30 ?_
  have o2 : jm_ok m0 (ad 2) 1 := S.ok 2 (Or.inl (by decide))
  have r15 : m0.2.2.2.2 (ad 2) 4 = some (ad 15) := S.2.2.1 (2, 4, 15) (by decide)
  have ht : fk 15 := Or.inl rfl
  have q := fkok S ht
  refine And.intro (fun h => ?_) (fun h => ?_)
  · refine And.intro o2 ⟨some (ad 15), r15, ?_⟩
    refine And.intro rfl (And.intro rfl (And.intro q.1 (And.intro (vin_of q.2 hf (by decide)) ?_)))
    refine And.intro (nI_ne0 hg1 hg) (And.intro q.1 (And.intro (vin_of q.2 hf (by decide)) ?_))
    have ev : m0.2.2.1 (ad 15) f / nI g = nI (F 15 f / g) := by
      rw [hF _ ht f hf, pk_div (hF31 _ ht) hg1 hg]
    have kk := second 9 0 (uI m0 (ad 15) f (nI (F 15 f / g))) (by omega) (FRs.uI ht.kin ht) (hF.put S ht (if_pos ⟨rfl, by omega⟩) (fun t' c' h1 h2 h3 => if_neg (by omega)))
    rw [← ev] at kk
    have k2 : X 18 [(0, .ref (ad 2)), (1, .int (nI f)), (2, .int (nI g)), (3, .int (nI 0))] [] (uI m0 (ad 15) (nI f).toNatClampNeg (m0.2.2.1 (ad 15) (nI f).toNatClampNeg / nI g)) 0 0 := by
      rw [ecf]; exact kk
    exact k2
  · have h1 : g = 1 := by
      rcases Nat.lt_or_ge 1 g with q | q
      · exact absurd (nI_lt q hg) h
      · omega
    refine ⟨Nat.le_refl _, Nat.le_refl _, trivial, rfl, FRs.rf, hF.cg (fun t c ht hc => ?_)⟩
    subst h1
    split
    · exact Nat.div_one _
    · rfl
end FL1
end
section
section FL2
variable {l : Launch} {D : va_G} {ca : Nat → ClassId}
/-- a column is divided by what divides all of it -/
theorem c_Fl_shrinkColumn {m : jm_M} {ad : Nat → Nat} {F : Nat → Nat → Nat} {f : Nat} (S : SST m ad) (hF : FlV m ad F) (hf : f < 9) (h1 : 1 ≤ F 15 f) (hF31 : ∀ t, fk t → F t f < 2 ^ 31) : jm_C l D ca n_Fl_shrinkColumn [.ref (ad 2), .int (nI f)] m 0 0 (fun v m' => v = none ∧ FRs ad fk m m' ∧ ∃ g, 1 ≤ g ∧ (∀ t, fk t → g ∣ F t f) ∧ (∀ w, (∀ t, fk t → w ∣ F t f) → w ∣ g) ∧ FlV m' ad (fun t c => if c = f then F t c / g else F t c)) := by
  refine jm_C_of (cd := cd_Fl_shrinkColumn) (ini := false) (by decide +kernel) ok_Fl_shrinkColumn (fun h => by cases h) (Nat.le_of_ble_eq_true rfl) ?_
  intro X hX
  have ecf : (nI f).toNatClampNeg = f := nI_c (by omega)
  have o2 : jm_ok m (ad 2) 1 := S.ok 2 (Or.inl (by decide))
  have o16 : jm_ok m (ad 16) 54 := S.ok 16 (Or.inl (by decide))
  have r16 : m.2.2.2.2 (ad 2) 5 = some (ad 16) := S.2.2.1 (2, 5, 16) (by decide)
  have l16 : (m.2.1 (ad 16)).2 = 9 := S.len 16 (Or.inl (by decide))
  have o26 : jm_ok m (ad 26) 54 := S.ok 26 (Or.inl (by decide))
  have r26 : m.2.2.2.2 (ad 2) 6 = some (ad 26) := S.2.2.1 (2, 6, 26) (by decide)
  have l26 : (m.2.1 (ad 26)).2 = 9 := S.len 26 (Or.inl (by decide))
  have o36 : jm_ok m (ad 36) 54 := S.ok 36 (Or.inl (by decide))
  have r36 : m.2.2.2.2 (ad 2) 7 = some (ad 36) := S.2.2.1 (2, 7, 36) (by decide)
  have l36 : (m.2.1 (ad 36)).2 = 3 := S.len 36 (Or.inl (by decide))
  have stepg : ∀ (g t : Nat), fk t → 1 ≤ g → g < 2 ^ 31 → 1 ≤ Nat.gcd g (F t f) ∧ Nat.gcd g (F t f) < 2 ^ 31 := by
    intro g t ht hg1 hg
    have := Nat.gcd_pos_of_pos_left (F t f) hg1
    have := Nat.le_of_dvd hg1 (Nat.gcd_dvd_left g (F t f))
    omega
  have third : ∀ (e i g : Nat), i + e = 3 → 1 ≤ g → g < 2 ^ 31 → (∀ t, fk t → t < 37 + i → g ∣ F t f) → (∀ w, (∀ t, fk t → w ∣ F t f) → w ∣ g) → X 49 [(0, .ref (ad 2)), (1, .int (nI f)), (2, .int (nI g)), (3, .int (nI i))] [] m 0 0 := by
    intro e
    induction e with
    | zero =>
      intro i g hi hg1 hg hd hw
      refine jm_run hX [] 20 ?_
      refine And.intro (fun _ => ?_) (fun g => absurd (nI_le (show 3 ≤ i by omega) (by omega)) g)
      refine And.intro o2 (And.intro (Nat.le_of_ble_eq_true rfl) (And.intro (Nat.le_of_ble_eq_true rfl) ⟨0, 0, _, Nat.le_refl _, Nat.le_refl _, c_Fl_divideColumn S hF hf hg1 hg hF31, fun v m' hq => ?_⟩))
      obtain ⟨rfl, h2, h3⟩ := hq
      exact ⟨Nat.le_refl _, Nat.le_refl _, trivial, rfl, h2, g, hg1, fun t ht => hd t ht (by unfold fk at ht; omega), hw, h3⟩
    | succ e ih =>
      intro i g hi hg1 hg hd hw
      have ht : fk (37 + i) := fk_t (by omega)
      have q := fkok S ht
      have sg := stepg g _ ht hg1 hg
      have kk := ih (i + 1) (Nat.gcd g (F (37 + i) f)) (by omega) sg.1 sg.2 (fun t ht' hlt => by
        by_cases e : t = 37 + i
        · subst e; exact Nat.gcd_dvd_right _ _
        · exact Nat.dvd_trans (Nat.gcd_dvd_left _ _) (hd t ht' (by omega))) (fun w h => Nat.dvd_gcd (hw w h) (h _ ht))
      rw [← nI_1] at kk
      have key := c_Fl_commonDivisor (l := l) (D := D) (ca := ca) (m := m) hg (hF31 _ ht)
      rw [← hF _ ht f hf] at key
      refine jm_run hX [(49, [0, 1, 2, 3])] 20 ?_
      refine And.intro (fun g => absurd g (nI_ge (show i < 3 by omega) (by decide))) (fun _ => ?_)
      refine And.intro o2 ⟨some (ad 36), r36, And.intro o36 (And.intro (vin_of l36 (by omega) (by decide)) ⟨some (ad (37 + i)), ?_, ?_⟩)⟩
      · rw [nI_c (by omega)]; exact S.2.2.2.2.2.2.1 i (by omega)
      refine And.intro q.1 (And.intro (vin_of q.2 hf (by decide)) ?_)
      refine ⟨Nat.le_of_ble_eq_true rfl, Nat.le_of_ble_eq_true rfl, 0, 0, _, Nat.le_refl _, Nat.le_refl _, (by rw [ecf]; exact key), fun v m' hq => ?_⟩
      obtain ⟨rfl, rfl⟩ := hq
      exact kk
  have second : ∀ (e i g : Nat), i + e = 9 → 1 ≤ g → g < 2 ^ 31 → (∀ t, fk t → t = 15 ∨ (17 ≤ t ∧ t < 17 + i) ∨ (27 ≤ t ∧ t < 27 + i) → g ∣ F t f) → (∀ w, (∀ t, fk t → w ∣ F t f) → w ∣ g) → X 9 [(0, .ref (ad 2)), (1, .int (nI f)), (2, .int (nI g)), (3, .int (nI i))] [] m 0 0 := by
    intro e
    induction e with
    | zero =>
      intro i g hi hg1 hg hd hw
      refine jm_run hX [(49, [0, 1, 2, 3])] 20 ?_
      refine And.intro (fun _ => ?_) (fun g => absurd (nI_le (show 9 ≤ i by omega) (by omega)) g)
      exact third 3 0 g (by omega) hg1 hg (fun t ht hlt => hd t ht (by unfold fk at ht; omega)) hw
    | succ e ih =>
      intro i g hi hg1 hg hd hw
      have ht : fk (17 + i) := fk_m (by omega)
      have ht2 : fk (27 + i) := fk_l (by omega)
      have q := fkok S ht
      have q2 := fkok S ht2
      have sg := stepg g _ ht hg1 hg
      have sg2 := stepg _ _ ht2 sg.1 sg.2
      have kk := ih (i + 1) (Nat.gcd (Nat.gcd g (F (17 + i) f)) (F (27 + i) f)) (by omega) sg2.1 sg2.2 (fun t ht' hlt => by
        by_cases e : t = 27 + i
        · subst e; exact Nat.gcd_dvd_right _ _
        · refine Nat.dvd_trans (Nat.gcd_dvd_left _ _) ?_
          by_cases e : t = 17 + i
          · subst e; exact Nat.gcd_dvd_right _ _
          · exact Nat.dvd_trans (Nat.gcd_dvd_left _ _) (hd t ht' (by omega))) (fun w h => Nat.dvd_gcd (Nat.dvd_gcd (hw w h) (h _ ht)) (h _ ht2))
      rw [← nI_1] at kk
      have key := c_Fl_commonDivisor (l := l) (D := D) (ca := ca) (m := m) hg (hF31 _ ht)
      rw [← hF _ ht f hf] at key
      have key2 := c_Fl_commonDivisor (l := l) (D := D) (ca := ca) (m := m) sg.2 (hF31 _ ht2)
      rw [← hF _ ht2 f hf] at key2
      refine jm_run hX [(9, [0, 1, 2, 3])] 40 ?_
      refine And.intro (fun g => absurd g (nI_ge (show i < 9 by omega) (by decide))) (fun _ => ?_)
      refine And.intro o2 ⟨some (ad 16), r16, And.intro o16 (And.intro (vin_of l16 (by omega) (by decide)) ⟨some (ad (17 + i)), ?_, ?_⟩)⟩
      · rw [nI_c (by omega)]; exact S.2.2.2.2.1 i (by omega)
      refine And.intro q.1 (And.intro (vin_of q.2 hf (by decide)) ?_)
      refine ⟨Nat.le_of_ble_eq_true rfl, Nat.le_of_ble_eq_true rfl, 0, 0, _, Nat.le_refl _, Nat.le_refl _, (by rw [ecf]; exact key), fun v m' hq => ?_⟩
      obtain ⟨rfl, rfl⟩ := hq
      refine And.intro o2 ⟨some (ad 26), r26, And.intro o26 (And.intro (vin_of l26 (by omega) (by decide)) ⟨some (ad (27 + i)), ?_, ?_⟩)⟩
      · rw [nI_c (by omega)]; exact S.2.2.2.2.2.1 i (by omega)
      refine And.intro q2.1 (And.intro (vin_of q2.2 hf (by decide)) ?_)
      refine ⟨Nat.le_of_ble_eq_true rfl, Nat.le_of_ble_eq_true rfl, 0, 0, _, Nat.le_refl _, Nat.le_refl _, (by rw [ecf]; exact key2), fun v m' hq => ?_⟩
      obtain ⟨rfl, rfl⟩ := hq
      exact kk
  have r15 : m.2.2.2.2 (ad 2) 4 = some (ad 15) := S.2.2.1 (2, 4, 15) (by decide)
  have ht : fk 15 := Or.inl rfl
  have q := fkok S ht
  have kk := second 9 0 (F 15 f) (by omega) h1 (hF31 _ ht) (fun t ht hlt => by
    have : t = 15 := by omega
    subst this; exact Nat.dvd_refl _) (fun w h => h _ ht)
  rw [← hF _ ht f hf] at kk
  refine jm_run hX [(9, [0, 1, 2, 3])] 20 ?_
  refine And.intro o2 ⟨some (ad 15), r15, And.intro q.1 (And.intro (vin_of q.2 hf (by decide)) ?_)⟩
  have k2 : X 9 [(0, .ref (ad 2)), (1, .int (nI f)), (2, .int (m.2.2.1 (ad 15) (nI f).toNatClampNeg)), (3, .int (nI 0))] [] m 0 0 := by
    rw [ecf]; exact kk
  exact k2
end FL2
end
section
/-! Where a kind of an out goes: a row of moves, a row of leaves, or 0. -/
def tgt (d : LD) (j k o : Nat) : Nat := if 0 ≤ (d.2.2.1 (3 * j + o)).toInt then 17 + ((d.2.2.1 (3 * j + o)).toInt.toNat * d.1.1 + k) else if (d.2.2.1 (3 * j + o)).toInt ≤ -2 then 27 + ((-2 - (d.2.2.1 (3 * j + o)).toInt).toNat * d.1.1 + k) else 0
def snd (d : LD) (j k u : Nat) (C : Nat → Nat) : Nat → Nat → Nat
  | 0 => va_up C (37 + k) (C (37 + k) + u * 27720)
  | o + 1 => va_up (snd d j k u C o) (tgt d j k o) (snd d j k u C o (tgt d j k o) + u * d.2.2.2.1 (3 * (j * d.1.1 + k) + o))
def colF (F : Nat → Nat → Nat) (f : Nat) (C : Nat → Nat) : Nat → Nat → Nat := fun t c => if c = f then C t else F t c
theorem colF_put {m : jm_M} {ad : Nat → Nat} {F : Nat → Nat → Nat} {f t : Nat} {C : Nat → Nat} {x : Nat} (S : SST m ad) (h : FlV m ad (colF F f C)) (ht : fk t) : FlV (uI m (ad t) f (nI x)) ad (colF F f (va_up C t x)) := by
  refine h.put S ht ?_ ?_
  · show (if f = f then va_up C t x t else F t f) = x
    rw [if_pos rfl, va_up_self]
  · intro t' c' _ _ h3
    show (if c' = f then va_up C t x t' else F t' c') = if c' = f then C t' else F t' c'
    by_cases e : c' = f
    · rw [if_pos e, if_pos e, va_up_ne _ _ (by omega)]
    · rw [if_neg e, if_neg e]
theorem colF_get {m : jm_M} {ad : Nat → Nat} {F : Nat → Nat → Nat} {f t : Nat} {C : Nat → Nat} (h : FlV m ad (colF F f C)) (ht : fk t) (hf : f < 9) : m.2.2.1 (ad t) f = nI (C t) := h.get ht hf (if_pos rfl)
theorem colF_cg {m : jm_M} {ad : Nat → Nat} {F : Nat → Nat → Nat} {f : Nat} {C C' : Nat → Nat} (h : FlV m ad (colF F f C)) (e : ∀ t, fk t → C' t = C t) : FlV m ad (colF F f C') := by
  refine h.cg (fun t c ht hc => ?_)
  show (if c = f then C' t else F t c) = if c = f then C t else F t c
  rw [e t ht]
theorem m2_toInt {tv : Int32} (h : tv.toInt ≤ -2) : ((-2 : Int32) - tv).toInt = -2 - tv.toInt := by
  have h2 : (-2 : Int32).toInt = -2 := by decide
  have h3 : -2 ^ 31 ≤ tv.toInt := tv.le_toInt
  rw [Int32.toInt_sub, h2]
  exact Int.bmod_eq_of_le (by omega) (by omega)
theorem m2_of {tv : Int32} (h : tv.toInt ≤ -2) : (-2 : Int32) - tv = nI (-2 - tv.toInt).toNat := by
  have e := m2_toInt h
  have h0 : 0 ≤ ((-2 : Int32) - tv).toInt := by rw [e]; omega
  have := i_of h0
  rw [e] at this
  exact this
section FL3
variable {l : Launch} {D : va_G} {ca : Nat → ClassId}
theorem c_Fl_sendAs {m0 : jm_M} {ad : Nat → Nat} {d : LD} {F : Nat → Nat → Nat} {C : Nat → Nat} {j k f u : Nat} (S : SST m0 ad) (L : LnV m0 ad d) (hO : LOK d) (hF : FlV m0 ad (colF F f C)) (hf : f < 9) (hj : j < d.1.2.1) (hk : k < d.1.1) : jm_C l D ca n_Fl_sendAs [.ref (ad 2), .int (nI j), .int (nI k), .int (nI f), .int (nI u)] m0 0 0 (fun v m' => v = none ∧ FRs ad fk m0 m' ∧ FlV m' ad (colF F f (snd d j k u C (d.2.1 j)))) := by
  refine jm_C_of (cd := cd_Fl_sendAs) (ini := false) (by decide +kernel) ok_Fl_sendAs (fun h => by cases h) (Nat.le_of_ble_eq_true rfl) ?_
  intro X hX
  have ecf : (nI f).toNatClampNeg = f := nI_c (by omega)
  have hK := hO.1
  have hM := hO.2.1
  have hP := hO.2.2.1
  have hou := hO.2.2.2.1 j hj
  have hrow := row_lt hK.2 hM hj hk
  have loop : ∀ (e o : Nat) (m : jm_M), o + e = d.2.1 j → FRs ad fk m0 m → FlV m ad (colF F f (snd d j k u C o)) → X 20 [(0, .ref (ad 2)), (1, .int (nI j)), (2, .int (nI k)), (3, .int (nI f)), (4, .int (nI u)), (5, .int (nI o))] [] m 0 0 := by
    intro e
    induction e with
    | zero =>
      intro o m ho hR hV
      have Sm := hR.S S
      have Lm := hR.L S (fun k hk h => by unfold fk at h; omega) L
      have o1 : jm_ok m (ad 1) 2 := Sm.ok 1 (Or.inl (by decide))
      have o2 : jm_ok m (ad 2) 1 := Sm.ok 2 (Or.inl (by decide))
      have r1 : m.2.2.2.2 (ad 2) 2 = some (ad 1) := Sm.2.2.1 (2, 2, 1) (by decide)
      have o5 : jm_ok m (ad 5) 50 := Sm.ok 5 (Or.inl (by decide))
      have r5 : m.2.2.2.2 (ad 1) 3 = some (ad 5) := Sm.2.2.1 (1, 3, 5) (by decide)
      have l5 : (m.2.1 (ad 5)).2 = 3 := Sm.len 5 (Or.inl (by decide))
      refine jm_run hX [] 20 ?_
      refine And.intro o2 ⟨some (ad 1), r1, And.intro o1 ⟨some (ad 5), r5, And.intro o5 (And.intro (vin_of l5 (by omega) (by decide)) (And.intro (fun _ => ?_) (fun g => ?_)))⟩⟩
      · rw [show o = d.2.1 j by omega] at hV
        exact ⟨Nat.le_refl _, Nat.le_refl _, trivial, rfl, hR, hV⟩
      · have g : ¬ m.2.2.1 (ad 5) (nI j).toNatClampNeg ≤ nI o := g
        rw [nI_c (by omega), Lm.2.2.2.1] at g
        exact absurd (nI_le (by omega) (by omega)) g
    | succ e ih =>
      intro o m ho hR hV
      have Sm := hR.S S
      have Lm := hR.L S (fun k hk h => by unfold fk at h; omega) L
      have o1 : jm_ok m (ad 1) 2 := Sm.ok 1 (Or.inl (by decide))
      have o2 : jm_ok m (ad 2) 1 := Sm.ok 2 (Or.inl (by decide))
      have r1 : m.2.2.2.2 (ad 2) 2 = some (ad 1) := Sm.2.2.1 (2, 2, 1) (by decide)
      have o5 : jm_ok m (ad 5) 50 := Sm.ok 5 (Or.inl (by decide))
      have r5 : m.2.2.2.2 (ad 1) 3 = some (ad 5) := Sm.2.2.1 (1, 3, 5) (by decide)
      have l5 : (m.2.1 (ad 5)).2 = 3 := Sm.len 5 (Or.inl (by decide))
      have hjo := hO.2.2.2.2.1 (3 * j + o) (by omega)
      have key1 := c_Ln_shareOf (l := l) (D := D) (ca := ca) (j := j) (k := k) (o := o) Sm Lm hrow (by omega)
      have key2 := c_Ln_target (l := l) (D := D) (ca := ca) (j := j) (o := o) Sm Lm (by omega) (by omega)
      have hun : snd d j k u C (o + 1) = va_up (snd d j k u C o) (tgt d j k o) (snd d j k u C o (tgt d j k o) + u * d.2.2.2.1 (3 * (j * d.1.1 + k) + o)) := rfl
      have htg : tgt d j k o = if 0 ≤ (d.2.2.1 (3 * j + o)).toInt then 17 + ((d.2.2.1 (3 * j + o)).toInt.toNat * d.1.1 + k) else if (d.2.2.1 (3 * j + o)).toInt ≤ -2 then 27 + ((-2 - (d.2.2.1 (3 * j + o)).toInt).toNat * d.1.1 + k) else 0 := rfl
      -- behind the question where it goes
      have join : ∀ m1 : jm_M, FRs ad fk m0 m1 → FlV m1 ad (colF F f (snd d j k u C (o + 1))) → X 124 [(0, .ref (ad 2)), (1, .int (nI j)), (2, .int (nI k)), (3, .int (nI f)), (4, .int (nI u)), (5, .int (nI o))] [] m1 0 0 := by
        intro m1 hR1 hV1
        have kk := ih (o + 1) m1 (by omega) hR1 hV1
        rw [← nI_1] at kk
        refine jm_run hX [(20, [0, 1, 2, 3, 4, 5])] 10 ?_
        exact kk
      generalize hsh : d.2.2.2.1 (3 * (j * d.1.1 + k) + o) = sv at *
      generalize hto : d.2.2.1 (3 * j + o) = tv at *
      refine jm_run hX [(124, [0, 1, 2, 3, 4, 5])] 60 ?_
      refine And.intro o2 ⟨some (ad 1), r1, And.intro o1 ⟨some (ad 5), r5, And.intro o5 (And.intro (vin_of l5 (by omega) (by decide)) (And.intro (fun g => ?_) (fun _ => ?_)))⟩⟩
      · have g : m.2.2.1 (ad 5) (nI j).toNatClampNeg ≤ nI o := g
        rw [nI_c (by omega), Lm.2.2.2.1] at g
        exact absurd g (nI_ge (by omega) (by omega))
      refine And.intro o2 ⟨some (ad 1), r1, ?_⟩
      refine And.intro o1 (And.intro (Nat.le_of_ble_eq_true rfl) (And.intro (Nat.le_of_ble_eq_true rfl) ⟨0, 0, _, Nat.le_refl _, Nat.le_refl _, key1, fun v m' hq => ?_⟩))
      obtain ⟨ee, rfl⟩ := hq
      have ee := ee.symm
      subst ee
      refine And.intro o2 ⟨some (ad 1), r1, ?_⟩
      refine And.intro o1 (And.intro (Nat.le_of_ble_eq_true rfl) (And.intro (Nat.le_of_ble_eq_true rfl) ⟨0, 0, _, Nat.le_refl _, Nat.le_refl _, key2, fun v m' hq => ?_⟩))
      obtain ⟨ee, rfl⟩ := hq
      have ee := ee.symm
      subst ee
      refine And.intro (fun g => ?_) (fun g => ?_)
      · -- to a port, or nothing
        rw [ilt0] at g
        refine And.intro (fun g2 => ?_) (fun g2 => ?_)
        · have g2 : (-2 : Int32) < tv := g2
          rw [Int32.lt_iff_toInt_lt, show (-2 : Int32).toInt = -2 by decide] at g2
          refine join m hR (colF_cg hV (fun t ht => ?_))
          rw [hun, htg, if_neg (by omega), if_neg (by omega), va_up_ne _ _ (by unfold fk at ht; omega)]
        · have g2 : ¬ (-2 : Int32) < tv := g2
          rw [Int32.lt_iff_toInt_lt, show (-2 : Int32).toInt = -2 by decide] at g2
          have e2 : (-2 : Int32) - tv = nI (-2 - tv.toInt).toNat := m2_of (by omega)
          have hp3 : (-2 - tv.toInt).toNat < d.1.2.2 := by rcases hjo with q | q | q <;> omega
          have hr2 := row_lt hK.2 hP hp3 hk
          have key3 := c_Ln_row (l := l) (D := D) (ca := ca) (j := (-2 - tv.toInt).toNat) (k := k) Sm Lm
          rw [← e2] at key3
          rw [if_neg (by omega), if_pos (by omega)] at htg
          generalize hrr : (-2 - tv.toInt).toNat * d.1.1 + k = rr at *
          have ht : fk (27 + rr) := fk_l hr2
          have q := fkok Sm ht
          have o26 : jm_ok m (ad 26) 54 := Sm.ok 26 (Or.inl (by decide))
          have r26 : m.2.2.2.2 (ad 2) 6 = some (ad 26) := Sm.2.2.1 (2, 6, 26) (by decide)
          have l26 : (m.2.1 (ad 26)).2 = 9 := Sm.len 26 (Or.inl (by decide))
          refine And.intro o2 ⟨some (ad 26), r26, And.intro o2 ⟨some (ad 1), r1, ?_⟩⟩
          refine And.intro o1 (And.intro (Nat.le_of_ble_eq_true rfl) (And.intro (Nat.le_of_ble_eq_true rfl) ⟨0, 0, _, Nat.le_refl _, Nat.le_refl _, key3, fun v m' hq => ?_⟩))
          obtain ⟨ee, rfl⟩ := hq
          have ee := ee.symm
          subst ee
          refine And.intro o26 (And.intro (vin_of l26 hr2 (by decide)) ⟨some (ad (27 + rr)), ?_, ?_⟩)
          · rw [nI_c (by omega)]; exact Sm.2.2.2.2.2.1 rr hr2
          refine And.intro rfl (And.intro rfl (And.intro q.1 (And.intro (vin_of q.2 hf (by decide)) (And.intro q.1 (And.intro (vin_of q.2 hf (by decide)) ?_)))))
          have ev : m.2.2.1 (ad (27 + rr)) f + nI u * nI sv = nI (snd d j k u C o (27 + rr) + u * sv) := by
            rw [colF_get hV ht hf, pk_mul, nI_add]
          rw [htg] at hun
          have kk := join _ (hR.tr (FRs.uI ht.kin ht)) (by rw [hun]; exact colF_put (x := snd d j k u C o (27 + rr) + u * sv) Sm hV ht)
          rw [← ev] at kk
          have k2 : X 124 [(0, .ref (ad 2)), (1, .int (nI j)), (2, .int (nI k)), (3, .int (nI f)), (4, .int (nI u)), (5, .int (nI o))] [] (uI m (ad (27 + rr)) (nI f).toNatClampNeg (m.2.2.1 (ad (27 + rr)) (nI f).toNatClampNeg + nI u * nI sv)) 0 0 := by
            rw [ecf]; exact kk
          exact k2
      · -- to a machine
        rw [ilt0] at g
        have et : tv = nI tv.toInt.toNat := i_of (by omega)
        have hp3 : tv.toInt.toNat < d.1.2.1 := by rcases hjo with q | q | q <;> omega
        have hr2 := row_lt hK.2 hM hp3 hk
        have key3 := c_Ln_row (l := l) (D := D) (ca := ca) (j := tv.toInt.toNat) (k := k) Sm Lm
        rw [← et] at key3
        rw [if_pos (by omega)] at htg
        generalize hrr : tv.toInt.toNat * d.1.1 + k = rr at *
        have ht : fk (17 + rr) := fk_m hr2
        have q := fkok Sm ht
        have o16 : jm_ok m (ad 16) 54 := Sm.ok 16 (Or.inl (by decide))
        have r16 : m.2.2.2.2 (ad 2) 5 = some (ad 16) := Sm.2.2.1 (2, 5, 16) (by decide)
        have l16 : (m.2.1 (ad 16)).2 = 9 := Sm.len 16 (Or.inl (by decide))
        refine And.intro o2 ⟨some (ad 16), r16, And.intro o2 ⟨some (ad 1), r1, ?_⟩⟩
        refine And.intro o1 (And.intro (Nat.le_of_ble_eq_true rfl) (And.intro (Nat.le_of_ble_eq_true rfl) ⟨0, 0, _, Nat.le_refl _, Nat.le_refl _, key3, fun v m' hq => ?_⟩))
        obtain ⟨ee, rfl⟩ := hq
        have ee := ee.symm
        subst ee
        refine And.intro o16 (And.intro (vin_of l16 hr2 (by decide)) ⟨some (ad (17 + rr)), ?_, ?_⟩)
        · rw [nI_c (by omega)]; exact Sm.2.2.2.2.1 rr hr2
        refine And.intro rfl (And.intro rfl (And.intro q.1 (And.intro (vin_of q.2 hf (by decide)) (And.intro q.1 (And.intro (vin_of q.2 hf (by decide)) ?_)))))
        have ev : m.2.2.1 (ad (17 + rr)) f + nI u * nI sv = nI (snd d j k u C o (17 + rr) + u * sv) := by
          rw [colF_get hV ht hf, pk_mul, nI_add]
        rw [htg] at hun
        have kk := join _ (hR.tr (FRs.uI ht.kin ht)) (by rw [hun]; exact colF_put (x := snd d j k u C o (17 + rr) + u * sv) Sm hV ht)
        rw [← ev] at kk
        have k2 : X 124 [(0, .ref (ad 2)), (1, .int (nI j)), (2, .int (nI k)), (3, .int (nI f)), (4, .int (nI u)), (5, .int (nI o))] [] (uI m (ad (17 + rr)) (nI f).toNatClampNeg (m.2.2.1 (ad (17 + rr)) (nI f).toNatClampNeg + nI u * nI sv)) 0 0 := by
          rw [ecf]; exact kk
        exact k2
  have o2 : jm_ok m0 (ad 2) 1 := S.ok 2 (Or.inl (by decide))
  have o36 : jm_ok m0 (ad 36) 54 := S.ok 36 (Or.inl (by decide))
  have r36 : m0.2.2.2.2 (ad 2) 7 = some (ad 36) := S.2.2.1 (2, 7, 36) (by decide)
  have l36 : (m0.2.1 (ad 36)).2 = 3 := S.len 36 (Or.inl (by decide))
  have ht : fk (37 + k) := fk_t (by omega)
  have q := fkok S ht
  have ev : m0.2.2.1 (ad (37 + k)) f + nI u * nI 27720 = nI (C (37 + k) + u * 27720) := by
    rw [colF_get hF ht hf, pk_mul, nI_add]
  have kk := loop (d.2.1 j) 0 _ (by omega) (FRs.uI ht.kin ht) (colF_put (x := C (37 + k) + u * 27720) S hF ht)
  rw [← ev] at kk
  refine jm_run hX [(20, [0, 1, 2, 3, 4, 5])] 20 ?_
  refine And.intro o2 ⟨some (ad 36), r36, And.intro o36 (And.intro (vin_of l36 (by omega) (by decide)) ⟨some (ad (37 + k)), ?_, ?_⟩)⟩
  · rw [nI_c (by omega)]; exact S.2.2.2.2.2.2.1 k (by omega)
  refine And.intro rfl (And.intro rfl (And.intro q.1 (And.intro (vin_of q.2 hf (by decide)) (And.intro q.1 (And.intro (vin_of q.2 hf (by decide)) ?_)))))
  have k2 : X 20 [(0, .ref (ad 2)), (1, .int (nI j)), (2, .int (nI k)), (3, .int (nI f)), (4, .int (nI u)), (5, .int (nI 0))] [] (uI m0 (ad (37 + k)) (nI f).toNatClampNeg (m0.2.2.1 (ad (37 + k)) (nI f).toNatClampNeg + nI u * nI 27720)) 0 0 := by
    rw [ecf]; exact kk
  exact k2
end FL3
end
section
theorem jm_C_mo {l : Launch} {D : va_G} {ca : Nat → ClassId} {k : Nat} {args : List Value} {m : jm_M} {a b : Nat} {Q Q' : Option Value → jm_M → Prop} (h : jm_C l D ca k args m a b Q) (hq : ∀ v m', Q v m' → Q' v m') : jm_C l D ca k args m a b Q' := by
  intro sz p e h1 h2 h3 s mi ar below hf hS hP hK
  obtain ⟨n, o, x1, x2, x3, ⟨⟨⟨v, m', y1, y2, y3⟩, y4⟩, x5⟩⟩ := h sz p e h1 h2 h3 s mi ar below hf hS hP hK
  exact ⟨n, o, x1, x2, x3, ⟨⟨v, m', y1, hq v m' y2, y3⟩, y4⟩, x5⟩
theorem lN_wB {x : Nat} (h : x < 2 ^ 63) : x < wB ^ 13 := Nat.lt_of_lt_of_le h (by decide)
section WW
variable {l : Launch} {D : va_G} {ca : Nat → ClassId}
theorem w_set {m : jm_M} {ad V : Nat → Nat} {i X : Nat} (S : SST m ad) (hV : WV m ad V) (hi : i < 132) (hX : X < wB ^ 13) : FRW ad m (whS m (ad (100 + 2 * i)) (ad (101 + 2 * i)) X) ∧ WV (whS m (ad (100 + 2 * i)) (ad (101 + 2 * i)) X) ad (va_up V i X) := ⟨FRW.wS hi, WV.set S hV hi hX⟩
theorem w_b1 {m : jm_M} {ad V : Nat → Nat} {i x : Nat} (S : SST m ad) (hV : WV m ad V) (hi : i < 132) (hx : x < 2 ^ 63) : jm_C l D ca n_Wh_become_1 [.ref (ad (100 + 2 * i)), .long (lN x)] m 0 0 (fun v m' => v = none ∧ FRW ad m m' ∧ WV m' ad (va_up V i x)) :=
  jm_C_mo (c_Wh_become_1 (S.wh i hi) (hV i hi).R hx) (fun v m' hq => by
    obtain ⟨rfl, rfl⟩ := hq
    exact ⟨rfl, w_set S hV hi (lN_wB hx)⟩)
theorem w_b2 {m : jm_M} {ad V : Nat → Nat} {i j : Nat} (S : SST m ad) (hV : WV m ad V) (hi : i < 132) (hj : j < 132) : jm_C l D ca n_Wh_become_2 [.ref (ad (100 + 2 * i)), .ref (ad (100 + 2 * j))] m 0 0 (fun v m' => v = none ∧ FRW ad m m' ∧ WV m' ad (va_up V i (V j))) :=
  jm_C_mo (c_Wh_become_2 (S.wh i hi) (hV i hi).R (S.wh j hj) (hV j hj) (S.ne (kin_p hi) (kin_o hj) (by omega))) (fun v m' hq => by
    obtain ⟨rfl, rfl⟩ := hq
    exact ⟨rfl, w_set S hV hi (hV j hj).1⟩)
theorem w_add {m : jm_M} {ad V : Nat → Nat} {i j F : Nat} (S : SST m ad) (hV : WV m ad V) (hi : i < 132) (hj : j < 132) (hij : i ≠ j) (hF : F < 1073741824) (hZ : V i + F * V j < wB ^ 13) : jm_C l D ca n_Wh_addTimes [.ref (ad (100 + 2 * i)), .ref (ad (100 + 2 * j)), .long (lN F)] m 0 0 (fun v m' => v = none ∧ FRW ad m m' ∧ WV m' ad (va_up V i (V i + F * V j))) :=
  jm_C_mo (c_Wh_addTimes (S.wh i hi) (hV i hi) (S.wh j hj) (hV j hj) (S.ne (kin_p hi) (kin_p hj) (by omega)) hF hZ) (fun v m' hq => by
    obtain ⟨rfl, rfl⟩ := hq
    exact ⟨rfl, w_set S hV hi hZ⟩)
theorem w_sub {m : jm_M} {ad V : Nat → Nat} {i j : Nat} (S : SST m ad) (hV : WV m ad V) (hi : i < 132) (hj : j < 132) (hij : i ≠ j) (hZ : V j ≤ V i) : jm_C l D ca n_Wh_subtract [.ref (ad (100 + 2 * i)), .ref (ad (100 + 2 * j))] m 0 0 (fun v m' => v = none ∧ FRW ad m m' ∧ WV m' ad (va_up V i (V i - V j))) :=
  jm_C_mo (c_Wh_subtract (S.wh i hi) (hV i hi) (S.wh j hj) (hV j hj) (S.ne (kin_p hi) (kin_p hj) (by omega)) hZ) (fun v m' hq => by
    obtain ⟨rfl, rfl⟩ := hq
    exact ⟨rfl, w_set S hV hi (Nat.lt_of_le_of_lt (Nat.sub_le _ _) (hV i hi).1)⟩)
theorem w_mul {m : jm_M} {ad V : Nat → Nat} {i j k : Nat} (S : SST m ad) (hV : WV m ad V) (hi : i < 132) (hj : j < 132) (hk : k < 132) (hij : i ≠ j) (hik : i ≠ k) (hZ : V j * V k < wB ^ 13) : jm_C l D ca n_Wh_becomeProduct [.ref (ad (100 + 2 * i)), .ref (ad (100 + 2 * j)), .ref (ad (100 + 2 * k))] m 0 0 (fun v m' => v = none ∧ FRW ad m m' ∧ WV m' ad (va_up V i (V j * V k))) :=
  jm_C_mo (c_Wh_becomeProduct (S.wh i hi) (hV i hi).R (S.wh j hj) (hV j hj) (S.wh k hk) (hV k hk) (S.ne (kin_p hi) (kin_p hj) (by omega)) (S.ne (kin_p hi) (kin_p hk) (by omega)) (S.ne (kin_p hi) (kin_o hj) (by omega)) (S.ne (kin_p hi) (kin_o hk) (by omega)) hZ) (fun v m' hq => by
    obtain ⟨rfl, rfl⟩ := hq
    exact ⟨rfl, w_set S hV hi hZ⟩)
theorem w_zero {m : jm_M} {ad V : Nat → Nat} {i : Nat} (S : SST m ad) (hV : WV m ad V) (hi : i < 132) : jm_C l D ca n_Wh_isZero [.ref (ad (100 + 2 * i))] m 0 0 (fun v m' => m' = m ∧ v = some (.int (if V i = 0 then 1 else 0))) := c_Wh_isZero (S.wh i hi) (hV i hi)
theorem w_cmp {m : jm_M} {ad V : Nat → Nat} {i j : Nat} (S : SST m ad) (hV : WV m ad V) (hi : i < 132) (hj : j < 132) : jm_C l D ca n_Wh_compareWith [.ref (ad (100 + 2 * i)), .ref (ad (100 + 2 * j))] m 0 0 (fun v m' => m' = m ∧ v = some (.int (cmpI (V i) (V j)))) := c_Wh_compareWith (S.wh i hi) (hV i hi) (S.wh j hj) (hV j hj)
end WW
theorem FRW.L {ad : Nat → Nat} {m m' : jm_M} {d : LD} (h : FRW ad m m') (S : SST m ad) (L : LnV m ad d) : LnV m' ad d := (FRs.W (p := fun k => 100 ≤ k) (fun k h1 _ => h1) h).L S (fun k hk h1 => by omega) L
theorem FRW.F {ad : Nat → Nat} {m m' : jm_M} {F : Nat → Nat → Nat} (h : FRW ad m m') (S : SST m ad) (hF : FlV m ad F) : FlV m' ad F := fun t ht c hc => by
  rw [((FRs.W (p := fun k => 100 ≤ k) (fun k h1 _ => h1) h).at S ht.kin (by unfold fk at ht; omega)).1]
  exact hF t ht c hc
theorem FRW.I {ad : Nat → Nat} {m m' : jm_M} (h : FRW ad m m') (S : SST m ad) {k : Nat} (hk : k < 43) : m'.2.2.1 (ad k) = m.2.2.1 (ad k) := ((FRs.W (p := fun k => 100 ≤ k) (fun k h1 _ => h1) h).at S (Or.inl hk) (by omega)).1
theorem FRs.V {ad V : Nat → Nat} {p : Nat → Prop} {m m' : jm_M} (h : FRs ad p m m') (S : SST m ad) (hp : ∀ k, p k → k < 100) (hV : WV m ad V) : WV m' ad V := fun i hi => by
  have h1 := (h.at S (kin_o hi) (fun q => by have := hp _ q; omega)).1
  have h2 := (h.at S (kin_p hi) (fun q => by have := hp _ q; omega)).1
  have hv := hV i hi
  exact ⟨hv.1, by rw [h2]; exact hv.2.1, by rw [h1]; exact hv.2.2⟩
end
section
/-! A column as it is read: what one gram of a row's scale sends where. -/
def C0 : Nat → Nat := fun t => if t = 15 then 768398400 else 0
def colD (d : LD) (j k : Nat) : Nat → Nat := snd d j (d.2.2.2.2.2.1 (j * d.1.1 + k)) (d.2.2.2.2.1 (j * d.1.1 + k)) (snd d j k (27720 - d.2.2.2.2.1 (j * d.1.1 + k)) C0 (d.2.1 j)) (d.2.1 j)
/-- no column outgrows an int -/
def LB (d : LD) : Prop := ∀ j k, j < d.1.2.1 → k < d.1.1 → ∀ t, fk t → colD d j k t ≤ 768398400
theorem snd_15 (d : LD) (j k u : Nat) (C : Nat → Nat) : ∀ o, snd d j k u C o 15 = C 15
  | 0 => va_up_ne _ _ (by omega)
  | o + 1 => by
    show va_up (snd d j k u C o) (tgt d j k o) _ 15 = _
    rw [va_up_ne _ _ (by unfold tgt; split <;> (try split) <;> omega), snd_15 d j k u C o]
theorem colD_15 (d : LD) (j k : Nat) : colD d j k 15 = 768398400 := by
  unfold colD
  rw [snd_15, snd_15]; rfl
/-- a column that was read: its numbers, divided by all that divides them -/
def RC (d : LD) (j k : Nat) (C : Nat → Nat) : Prop := ∃ g, 1 ≤ g ∧ (∀ t, fk t → g * C t = colD d j k t) ∧ ∀ w, (∀ t, fk t → w ∣ colD d j k t) → w ∣ g
section FL4
variable {l : Launch} {D : va_G} {ca : Nat → ClassId}
set_option maxRecDepth 4000 in
theorem c_Fl_readColumn {m0 : jm_M} {ad : Nat → Nat} {d : LD} {F : Nat → Nat → Nat} {j k : Nat} (S : SST m0 ad) (L : LnV m0 ad d) (hO : LOK d) (hB : LB d) (hF : FlV m0 ad F) (hj : j < d.1.2.1) (hk : k < d.1.1) : jm_C l D ca n_Fl_readColumn [.ref (ad 2), .int (nI j), .int (nI k)] m0 0 0 (fun v m' => v = none ∧ FRs ad fk m0 m' ∧ ∃ C, RC d j k C ∧ FlV m' ad (colF F (j * d.1.1 + k) C)) := by
  refine jm_C_of (cd := cd_Fl_readColumn) (ini := false) (by decide +kernel) ok_Fl_readColumn (fun h => by cases h) (Nat.le_of_ble_eq_true rfl) ?_
  intro X hX
  have hK := hO.1
  have hM := hO.2.1
  have hf := row_lt hK.2 hM hj hk
  have hcr := hO.2.2.2.2.2.2.1 _ hf
  have hbe := hO.2.2.2.2.2.2.2.1 _ hf
  have hBc := hB j k hj hk
  have hcD : colD d j k = snd d j (d.2.2.2.2.2.1 (j * d.1.1 + k)) (d.2.2.2.2.1 (j * d.1.1 + k)) (snd d j k (27720 - d.2.2.2.2.1 (j * d.1.1 + k)) C0 (d.2.1 j)) (d.2.1 j) := rfl
  have h15 := colD_15 d j k
  have key0 := c_Ln_row (l := l) (D := D) (ca := ca) (j := j) (k := k) S L
  have hLp : ∀ k, k < 15 → fk k → k = 0 ∨ k = 2 ∨ k = 3 ∨ k = 4 ∨ 10 < k := fun k hk h => by unfold fk at h; omega
  have hRC : RC d j k = fun C => ∃ g, 1 ≤ g ∧ (∀ t, fk t → g * C t = colD d j k t) ∧ ∀ w, (∀ t, fk t → w ∣ colD d j k t) → w ∣ g := rfl
  have Lcr : ∀ m, LnV m ad d → m.2.2.1 (ad 8) (j * d.1.1 + k) = nI (d.2.2.2.2.1 (j * d.1.1 + k)) := fun m Lm => by rw [Lm.2.2.2.2.2.2.1]
  have Lbe : ∀ m, LnV m ad d → m.2.2.1 (ad 9) (j * d.1.1 + k) = nI (d.2.2.2.2.2.1 (j * d.1.1 + k)) := fun m Lm => by rw [Lm.2.2.2.2.2.2.2.1]
  generalize hcre : d.2.2.2.2.1 (j * d.1.1 + k) = cr at *
  generalize hbee : d.2.2.2.2.2.1 (j * d.1.1 + k) = be at *
  generalize hfe : j * d.1.1 + k = f at *
  generalize hcDe : colD d j k = cD at *
  have ecf : (nI f).toNatClampNeg = f := nI_c (by omega)
  have o2 : ∀ {m' : jm_M}, SST m' ad → jm_ok m' (ad 2) 1 := fun S => S.ok 2 (Or.inl (by decide))
  have o1 : ∀ {m' : jm_M}, SST m' ad → jm_ok m' (ad 1) 2 := fun S => S.ok 1 (Or.inl (by decide))
  have r1 : ∀ {m' : jm_M}, SST m' ad → m'.2.2.2.2 (ad 2) 2 = some (ad 1) := fun S => S.2.2.1 (2, 2, 1) (by decide)
  have o8 : ∀ {m' : jm_M}, SST m' ad → jm_ok m' (ad 8) 50 := fun S => S.ok 8 (Or.inl (by decide))
  have r8 : ∀ {m' : jm_M}, SST m' ad → m'.2.2.2.2 (ad 1) 6 = some (ad 8) := fun S => S.2.2.1 (1, 6, 8) (by decide)
  have l8 : ∀ {m' : jm_M}, SST m' ad → (m'.2.1 (ad 8)).2 = 9 := fun S => S.len 8 (Or.inl (by decide))
  have o9 : ∀ {m' : jm_M}, SST m' ad → jm_ok m' (ad 9) 50 := fun S => S.ok 9 (Or.inl (by decide))
  have r9 : ∀ {m' : jm_M}, SST m' ad → m'.2.2.2.2 (ad 1) 7 = some (ad 9) := fun S => S.2.2.1 (1, 7, 9) (by decide)
  have l9 : ∀ {m' : jm_M}, SST m' ad → (m'.2.1 (ad 9)).2 = 9 := fun S => S.len 9 (Or.inl (by decide))
  have sends : ∀ (m : jm_M), FRs ad fk m0 m → FlV m ad (colF F f C0) → X 79 [(0, .ref (ad 2)), (1, .int (nI j)), (2, .int (nI k)), (3, .int (nI f))] [] m 0 0 := by
    intro m hR hV
    have Sm := hR.S S
    have Lm := hR.L S hLp L
    have key1 := c_Fl_sendAs (l := l) (D := D) (ca := ca) (j := j) (k := k) (f := f) (u := 27720 - cr) Sm Lm hO hV hf hj hk
    rw [← pk_sub hcr, ← Lcr m Lm, ← ecf] at key1
    rw [ecf] at key1
    refine jm_run hX [] 60 ?_
    refine And.intro (o2 Sm) ⟨some (ad 1), (r1 Sm), And.intro (o1 Sm) ⟨some (ad 8), r8 Sm, And.intro (o8 Sm) (And.intro (vin_of (l8 Sm) hf (by decide)) ?_)⟩⟩
    refine And.intro (o2 Sm) (And.intro (Nat.le_of_ble_eq_true rfl) (And.intro (Nat.le_of_ble_eq_true rfl) ⟨0, 0, _, Nat.le_refl _, Nat.le_refl _, (by rw [ecf]; exact key1), fun v m1 hq => ?_⟩))
    obtain ⟨rfl, hR1, hV1⟩ := hq
    have hR1 := hR.tr hR1
    have S1 := hR1.S S
    have L1 := hR1.L S hLp L
    have key2 := c_Fl_sendAs (l := l) (D := D) (ca := ca) (j := j) (k := be) (f := f) (u := cr) S1 L1 hO hV1 hf hj hbe
    rw [← Lcr m1 L1, ← Lbe m1 L1] at key2
    refine And.intro (o2 S1) ⟨some (ad 1), (r1 S1), And.intro (o1 S1) ⟨some (ad 9), r9 S1, And.intro (o9 S1) (And.intro (vin_of (l9 S1) hf (by decide)) ?_)⟩⟩
    refine And.intro (o2 S1) ⟨some (ad 1), (r1 S1), And.intro (o1 S1) ⟨some (ad 8), r8 S1, And.intro (o8 S1) (And.intro (vin_of (l8 S1) hf (by decide)) ?_)⟩⟩
    refine And.intro (o2 S1) (And.intro (Nat.le_of_ble_eq_true rfl) (And.intro (Nat.le_of_ble_eq_true rfl) ⟨0, 0, _, Nat.le_refl _, Nat.le_refl _, (by rw [ecf]; exact key2), fun v m2 hq => ?_⟩))
    obtain ⟨rfl, hR2, hV2⟩ := hq
    have hR2 := hR1.tr hR2
    have S2 := hR2.S S
    rw [← hcD] at hV2
    have ecD : ∀ t, colF F f cD t f = cD t := fun t => if_pos rfl
    have key3 := c_Fl_shrinkColumn (l := l) (D := D) (ca := ca) (f := f) S2 hV2 hf (by rw [ecD, h15]; decide) (fun t ht => by rw [ecD]; have := hBc t ht; omega)
    refine And.intro (o2 S2) (And.intro (Nat.le_of_ble_eq_true rfl) (And.intro (Nat.le_of_ble_eq_true rfl) ⟨0, 0, _, Nat.le_refl _, Nat.le_refl _, key3, fun v m3 hq => ?_⟩))
    obtain ⟨rfl, hR3, g, hg1, hgd, hgw, hV3⟩ := hq
    refine ⟨Nat.le_refl _, Nat.le_refl _, trivial, rfl, hR2.tr hR3, fun t => cD t / g, ?_, hV3.cg (fun t c ht hc => ?_)⟩
    · rw [hRC]
      refine ⟨g, hg1, fun t ht => ?_, fun w hw => hgw w (fun t ht => by rw [ecD]; exact hw t ht)⟩
      have := hgd t ht
      rw [ecD] at this
      exact Nat.mul_div_cancel' this
    · show (if c = f then cD t / g else F t c) = if c = f then (if c = f then cD t else F t c) / g else (if c = f then cD t else F t c)
      by_cases e : c = f
      · rw [if_pos e, if_pos e, if_pos e]
      · rw [if_neg e, if_neg e, if_neg e]
  -- from the scale on
  have last : ∀ (m : jm_M), FRs ad fk m0 m → FlV m ad (colF F f (fun t => if t = 15 then F t f else 0)) → X 71 [(0, .ref (ad 2)), (1, .int (nI j)), (2, .int (nI k)), (3, .int (nI f))] [] m 0 0 := by
    intro m hR hV
    have Sm := hR.S S
    have r15 : m.2.2.2.2 (ad 2) 4 = some (ad 15) := Sm.2.2.1 (2, 4, 15) (by decide)
    have ht : fk 15 := Or.inl rfl
    have q := fkok Sm ht
    have kk := sends (uI m (ad 15) f (nI 768398400)) (hR.tr (FRs.uI ht.kin ht)) (colF_cg (colF_put (x := 768398400) Sm hV ht) (fun t ht => by
      by_cases e : t = 15
      · subst e; rw [va_up_self]; rfl
      · rw [va_up_ne _ _ e, if_neg e]; unfold C0; rw [if_neg e]))
    refine jm_run hX [(79, [0, 1, 2, 3])] 60 ?_
    refine And.intro (o2 Sm) ⟨some (ad 15), r15, And.intro q.1 (And.intro (vin_of q.2 hf (by decide)) ?_)⟩
    have k2 : X 79 [(0, .ref (ad 2)), (1, .int (nI j)), (2, .int (nI k)), (3, .int (nI f))] [] (uI m (ad 15) (nI f).toNatClampNeg (nI 768398400)) 0 0 := by
      rw [ecf]; exact kk
    exact k2
  have second : ∀ (e i : Nat) (m : jm_M), i + e = 3 → FRs ad fk m0 m → FlV m ad (colF F f (fun t => if 17 ≤ t ∧ t < 37 + i then 0 else F t f)) → X 49 [(0, .ref (ad 2)), (1, .int (nI j)), (2, .int (nI k)), (3, .int (nI f)), (4, .int (nI i))] [] m 0 0 := by
    intro e
    induction e with
    | zero =>
      intro i m hi hR hV
      refine jm_run hX [(71, [0, 1, 2, 3])] 20 ?_
      refine And.intro (fun _ => ?_) (fun g => absurd (nI_le (show 3 ≤ i by omega) (by omega)) g)
      refine last m hR (colF_cg hV (fun t ht => ?_))
      unfold fk at ht
      by_cases e : t = 15
      · rw [if_pos e, if_neg (by omega)]
      · rw [if_neg e, if_pos (by omega)]
    | succ e ih =>
      intro i m hi hR hV
      have Sm := hR.S S
      have ht : fk (37 + i) := fk_t (by omega)
      have o36 : jm_ok m (ad 36) 54 := Sm.ok 36 (Or.inl (by decide))
      have r36 : m.2.2.2.2 (ad 2) 7 = some (ad 36) := Sm.2.2.1 (2, 7, 36) (by decide)
      have l36 : (m.2.1 (ad 36)).2 = 3 := Sm.len 36 (Or.inl (by decide))
      have q := fkok Sm ht
      have kk := ih (i + 1) (uI m (ad (37 + i)) f (nI 0)) (by omega) (hR.tr (FRs.uI ht.kin ht)) (colF_cg (colF_put (x := 0) Sm hV ht) (fun t ht => by
        by_cases e : t = 37 + i
        · subst e; rw [va_up_self, if_pos (by omega)]
        · rw [va_up_ne _ _ e]; exact ite_iff (by omega)))
      rw [← nI_1] at kk
      refine jm_run hX [(49, [0, 1, 2, 3, 4])] 20 ?_
      refine And.intro (fun g => absurd g (nI_ge (show i < 3 by omega) (by decide))) (fun _ => ?_)
      refine And.intro (o2 Sm) ⟨some (ad 36), r36, And.intro o36 (And.intro (vin_of l36 (by omega) (by decide)) ⟨some (ad (37 + i)), ?_, ?_⟩)⟩
      · rw [nI_c (by omega)]; exact Sm.2.2.2.2.2.2.1 i (by omega)
      refine And.intro q.1 (And.intro (vin_of q.2 hf (by decide)) ?_)
      have k2 : X 49 [(0, .ref (ad 2)), (1, .int (nI j)), (2, .int (nI k)), (3, .int (nI f)), (4, .int (nI i + 1))] [] (uI m (ad (37 + i)) (nI f).toNatClampNeg (nI 0)) 0 0 := by
        rw [ecf]; exact kk
      exact k2
  have first : ∀ (e i : Nat) (m : jm_M), i + e = 9 → FRs ad fk m0 m → FlV m ad (colF F f (fun t => if (17 ≤ t ∧ t < 17 + i) ∨ (27 ≤ t ∧ t < 27 + i) then 0 else F t f)) → X 13 [(0, .ref (ad 2)), (1, .int (nI j)), (2, .int (nI k)), (3, .int (nI f)), (4, .int (nI i))] [] m 0 0 := by
    intro e
    induction e with
    | zero =>
      intro i m hi hR hV
      refine jm_run hX [(49, [0, 1, 2, 3, 4])] 20 ?_
      refine And.intro (fun _ => ?_) (fun g => absurd (nI_le (show 9 ≤ i by omega) (by omega)) g)
      refine second 3 0 m (by omega) hR (colF_cg hV (fun t ht => ?_))
      unfold fk at ht
      exact ite_iff (by omega)
    | succ e ih =>
      intro i m hi hR hV
      have Sm := hR.S S
      have ht : fk (17 + i) := fk_m (by omega)
      have ht2 : fk (27 + i) := fk_l (by omega)
      have o16 : jm_ok m (ad 16) 54 := Sm.ok 16 (Or.inl (by decide))
      have r16 : m.2.2.2.2 (ad 2) 5 = some (ad 16) := Sm.2.2.1 (2, 5, 16) (by decide)
      have l16 : (m.2.1 (ad 16)).2 = 9 := Sm.len 16 (Or.inl (by decide))
      have o26 : jm_ok m (ad 26) 54 := Sm.ok 26 (Or.inl (by decide))
      have r26 : m.2.2.2.2 (ad 2) 6 = some (ad 26) := Sm.2.2.1 (2, 6, 26) (by decide)
      have l26 : (m.2.1 (ad 26)).2 = 9 := Sm.len 26 (Or.inl (by decide))
      have q := fkok Sm ht
      have q2 := fkok Sm ht2
      have hR1 : FRs ad fk m0 (uI m (ad (17 + i)) f (nI 0)) := hR.tr (FRs.uI ht.kin ht)
      have hV1 := colF_put (x := 0) Sm hV ht
      have kk := ih (i + 1) (uI (uI m (ad (17 + i)) f (nI 0)) (ad (27 + i)) f (nI 0)) (by omega) (hR1.tr (FRs.uI ht2.kin ht2)) (colF_cg (colF_put (x := 0) (hR1.S S) hV1 ht2) (fun t ht => by
        by_cases e : t = 27 + i
        · subst e; rw [va_up_self, if_pos (by omega)]
        · rw [va_up_ne _ _ e]
          by_cases e : t = 17 + i
          · subst e; rw [va_up_self, if_pos (by omega)]
          · rw [va_up_ne _ _ e]; exact ite_iff (by omega)))
      rw [← nI_1] at kk
      refine jm_run hX [(13, [0, 1, 2, 3, 4])] 30 ?_
      refine And.intro (fun g => absurd g (nI_ge (show i < 9 by omega) (by decide))) (fun _ => ?_)
      refine And.intro (o2 Sm) ⟨some (ad 16), r16, And.intro o16 (And.intro (vin_of l16 (by omega) (by decide)) ⟨some (ad (17 + i)), ?_, ?_⟩)⟩
      · rw [nI_c (by omega)]; exact Sm.2.2.2.2.1 i (by omega)
      refine And.intro q.1 (And.intro (vin_of q.2 hf (by decide)) ?_)
      refine And.intro (o2 Sm) ⟨some (ad 26), r26, And.intro o26 (And.intro (vin_of l26 (by omega) (by decide)) ⟨some (ad (27 + i)), ?_, ?_⟩)⟩
      · show m.2.2.2.2 (ad 26) (nI i).toNatClampNeg = _
        rw [nI_c (by omega)]; exact Sm.2.2.2.2.2.1 i (by omega)
      refine And.intro q2.1 (And.intro (vin_of q2.2 hf (by decide)) ?_)
      have k2 : X 13 [(0, .ref (ad 2)), (1, .int (nI j)), (2, .int (nI k)), (3, .int (nI f)), (4, .int (nI i + 1))] [] (uI (uI m (ad (17 + i)) (nI f).toNatClampNeg (nI 0)) (ad (27 + i)) (nI f).toNatClampNeg (nI 0)) 0 0 := by
        rw [ecf]; exact kk
      exact k2
  refine jm_run hX [(13, [0, 1, 2, 3, 4])] 20 ?_
  refine And.intro (o2 S) ⟨some (ad 1), r1 S, ?_⟩
  refine And.intro (o1 S) (And.intro (Nat.le_of_ble_eq_true rfl) (And.intro (Nat.le_of_ble_eq_true rfl) ⟨0, 0, _, Nat.le_refl _, Nat.le_refl _, key0, fun v m' hq => ?_⟩))
  obtain ⟨ee, rfl⟩ := hq
  have ee := ee.symm
  subst ee
  refine first 9 0 m0 (by omega) FRs.rf (hF.cg (fun t c ht hc => ?_))
  show (if c = f then (if (17 ≤ t ∧ t < 17 + 0) ∨ (27 ≤ t ∧ t < 27 + 0) then 0 else F t f) else F t c) = F t c
  by_cases e : c = f
  · rw [if_pos e, if_neg (by omega), e]
  · rw [if_neg e]
end FL4
end
section
theorem row_inj {K j k j' k' : Nat} (hk : k < K) (hk' : k' < K) (h : j' * K + k' = j * K + k) : j' = j ∧ k' = k := by
  rcases Nat.lt_trichotomy j j' with q | q | q
  · have := Nat.mul_le_mul_right K (show j + 1 ≤ j' from q)
    rw [Nat.add_mul, Nat.one_mul] at this
    omega
  · subst q; omega
  · have := Nat.mul_le_mul_right K (show j' + 1 ≤ j from q)
    rw [Nat.add_mul, Nat.one_mul] at this
    omega
theorem row_of {K M r : Nat} (h : r < M * K) : ∃ j k, j < M ∧ k < K ∧ r = j * K + k := by
  have hK : 0 < K := by
    rcases Nat.eq_zero_or_pos K with q | q
    · rw [q, Nat.mul_zero] at h; omega
    · exact q
  refine ⟨r / K, r % K, (Nat.div_lt_iff_lt_mul hK).mpr h, Nat.mod_lt _ hK, ?_⟩
  rw [Nat.mul_comm]; exact (Nat.div_add_mod r K).symm
def fP (k : Nat) : Prop := k = 2 ∨ fk k ∨ 100 ≤ k
/-- all columns were read -/
def RA (d : LD) (F : Nat → Nat → Nat) (b : Nat) : Prop := ∀ j k, j < d.1.2.1 → k < d.1.1 → j * d.1.1 + k < b → RC d j k (fun t => F t (j * d.1.1 + k))
theorem RA.at {d : LD} {F : Nat → Nat → Nat} (hB : LB d) (h : RA d F (d.1.2.1 * d.1.1)) {r : Nat} (hr : r < d.1.2.1 * d.1.1) : (∀ t, fk t → F t r ≤ 768398400) ∧ (∀ t, fk t → F t r ≤ F 15 r) ∧ 1 ≤ F 15 r := by
  obtain ⟨j, k, hj, hk, rfl⟩ := row_of hr
  obtain ⟨g, hg1, hgc, _⟩ := h j k hj hk hr
  have hgc : ∀ t, fk t → g * F t (j * d.1.1 + k) = colD d j k t := hgc
  have hb := hB j k hj hk
  have h15 := hgc 15 (Or.inl rfl)
  rw [colD_15] at h15
  refine ⟨fun t ht => ?_, fun t ht => ?_, ?_⟩
  · have h1 := hgc t ht
    have h2 := hb t ht
    have h3 : F t (j * d.1.1 + k) ≤ g * F t (j * d.1.1 + k) := Nat.le_mul_of_pos_left _ hg1
    omega
  · have h1 := hgc t ht
    have h2 := hb t ht
    exact Nat.le_of_mul_le_mul_left (by rw [h1, h15]; exact h2) hg1
  · rcases Nat.eq_zero_or_pos (F 15 (j * d.1.1 + k)) with q | q
    · rw [q, Nat.mul_zero] at h15; omega
    · exact q
/-- row r of the cells as it is read -/
def rowOK (d : LD) (F : Nat → Nat → Nat) (V : Nat → Nat) (r : Nat) : Prop := (∀ c, c < d.1.2.1 * d.1.1 → V (12 * r + c) = if r = c then F 15 r - F (17 + r) r else F (17 + r) c) ∧ V (12 * r + d.1.2.1 * d.1.1) = d.2.2.2.2.2.2 r
section FL5
variable {l : Launch} {D : va_G} {ca : Nat → ClassId}
set_option maxRecDepth 4000 in
theorem c_Fl_readLine {m0 : jm_M} {ad V : Nat → Nat} {d : LD} {F : Nat → Nat → Nat} (S : SST m0 ad) (L : LnV m0 ad d) (hO : LOK d) (hB : LB d) (hF : FlV m0 ad F) (hV : WV m0 ad V) : jm_C l D ca n_Fl_readLine [.ref (ad 2)] m0 0 0 (fun v m' => v = none ∧ FRs ad fP m0 m' ∧ m'.2.2.1 (ad 2) 3 = nI (d.1.2.1 * d.1.1) ∧ ∃ F' V', FlV m' ad F' ∧ RA d F' (d.1.2.1 * d.1.1) ∧ WV m' ad V' ∧ (∀ i, 108 ≤ i → V' i = V i) ∧ ∀ r, r < d.1.2.1 * d.1.1 → rowOK d F' V' r) := by
  refine jm_C_of (cd := cd_Fl_readLine) (ini := false) (by decide +kernel) ok_Fl_readLine (fun h => by cases h) (Nat.le_of_ble_eq_true rfl) ?_
  intro X hX
  have hK := hO.1
  have hM := hO.2.1
  have hn9 : d.1.2.1 * d.1.1 ≤ 9 := Nat.mul_le_mul hM hK.2
  have o2 : ∀ {m' : jm_M}, SST m' ad → jm_ok m' (ad 2) 1 := fun S => S.ok 2 (Or.inl (by decide))
  have o1 : ∀ {m' : jm_M}, SST m' ad → jm_ok m' (ad 1) 2 := fun S => S.ok 1 (Or.inl (by decide))
  have r1 : ∀ {m' : jm_M}, SST m' ad → m'.2.2.2.2 (ad 2) 2 = some (ad 1) := fun S => S.2.2.1 (2, 2, 1) (by decide)
  have hLp : ∀ k, k < 15 → fP k → k = 0 ∨ k = 2 ∨ k = 3 ∨ k = 4 ∨ 10 < k := fun k hk h => by unfold fP fk at h; omega
  have rows : ∀ (F : Nat → Nat → Nat), RA d F (d.1.2.1 * d.1.1) → ∀ (e r : Nat) (m : jm_M) (W : Nat → Nat), r + e = d.1.2.1 * d.1.1 → FRs ad fP m0 m → m.2.2.1 (ad 2) 3 = nI (d.1.2.1 * d.1.1) → FlV m ad F → WV m ad W → (∀ i, 108 ≤ i → W i = V i) → (∀ r', r' < r → rowOK d F W r') → X 65 [(0, .ref (ad 2)), (1, .int (nI r))] [] m 0 0 := by
    intro F hA e
    induction e with
    | zero =>
      intro r m W hr hR hs hF hW hhi hro
      have Sm := hR.S S
      refine jm_run hX [] 20 ?_
      refine And.intro (o2 Sm) (And.intro (fun _ => ?_) (fun g => ?_))
      · exact ⟨Nat.le_refl _, Nat.le_refl _, trivial, rfl, hR, hs, F, W, hF, hA, hW, hhi, fun r' h => hro r' (by omega)⟩
      · have g : ¬ m.2.2.1 (ad 2) 3 ≤ nI r := g
        rw [hs] at g
        exact absurd (nI_le (by omega) (by omega)) g
    | succ e ih =>
      intro r m W hr hR hs hF hW hhi hro
      have hrn : r < d.1.2.1 * d.1.1 := by omega
      have hbd := hA.at hB hrn
      have ht : fk (17 + r) := fk_m (by omega)
      -- the rest of the row
      have rest : ∀ (m : jm_M) (W : Nat → Nat), FRs ad fP m0 m → m.2.2.1 (ad 2) 3 = nI (d.1.2.1 * d.1.1) → FlV m ad F → WV m ad W → (∀ i, 108 ≤ i → W i = V i) → (∀ r', r' < r → rowOK d F W r') → (∀ c, c < d.1.2.1 * d.1.1 → W (12 * r + c) = F (17 + r) c) → X 107 [(0, .ref (ad 2)), (1, .int (nI r))] [] m 0 0 := by
        intro m W hR hs hF hW hhi hro hc
        have Sm := hR.S S
        have r15 : m.2.2.2.2 (ad 2) 4 = some (ad 15) := Sm.2.2.1 (2, 4, 15) (by decide)
        have o16 : jm_ok m (ad 16) 54 := Sm.ok 16 (Or.inl (by decide))
        have r16 : m.2.2.2.2 (ad 2) 5 = some (ad 16) := Sm.2.2.1 (2, 5, 16) (by decide)
        have l16 : (m.2.1 (ad 16)).2 = 9 := Sm.len 16 (Or.inl (by decide))
        have q := fkok Sm ht
        have q15 := fkok Sm (Or.inl rfl : fk 15)
        have hF15 := hbd.1 15 (Or.inl rfl)
        have hFd := hbd.2.1 _ ht
        have ev : (m.2.2.1 (ad 15) (nI r).toNatClampNeg - m.2.2.1 (ad (17 + r)) (nI r).toNatClampNeg).toInt64 = lN (F 15 r - F (17 + r) r) := by
          rw [nI_c (by omega), hF.get (Or.inl rfl) (by omega) rfl, hF.get ht (by omega) rfl, pk_sub hFd, nI_l (by omega)]
        have key1 := c_Fl_cell (l := l) (D := D) (ca := ca) (r := r) (c := r) Sm (by omega)
        have key2 := w_b1 (l := l) (D := D) (ca := ca) (i := 12 * r + r) (x := F 15 r - F (17 + r) r) Sm hW (by omega) (by omega)
        rw [← ev] at key2
        refine jm_run hX [(65, [0, 1])] 40 ?_
        refine And.intro (o2 Sm) (And.intro (Nat.le_of_ble_eq_true rfl) (And.intro (Nat.le_of_ble_eq_true rfl) ⟨0, 0, _, Nat.le_refl _, Nat.le_refl _, key1, fun v m' hq => ?_⟩))
        obtain ⟨ee, rfl⟩ := hq
        have ee := ee.symm
        subst ee
        refine And.intro (o2 Sm) ⟨some (ad 15), r15, And.intro q15.1 (And.intro (vin_of q15.2 (by omega) (by decide)) ?_)⟩
        refine And.intro (o2 Sm) ⟨some (ad 16), r16, And.intro o16 (And.intro (vin_of l16 (by omega) (by decide)) ⟨some (ad (17 + r)), ?_, ?_⟩)⟩
        · rw [nI_c (by omega)]; exact Sm.2.2.2.2.1 r (by omega)
        refine And.intro q.1 (And.intro (vin_of q.2 (by omega) (by decide)) ?_)
        refine And.intro (Sm.wh (12 * r + r) (by omega)).1 (And.intro (Nat.le_of_ble_eq_true rfl) (And.intro (Nat.le_of_ble_eq_true rfl) ⟨0, 0, _, Nat.le_refl _, Nat.le_refl _, key2, fun v m1 hq => ?_⟩))
        obtain ⟨rfl, hR1, hW1⟩ := hq
        have S1 := hR1.S Sm
        have hRR1 : FRs ad fP m0 m1 := hR.tr (FRs.W (fun k h _ => Or.inr (Or.inr h)) hR1)
        have hs1 : m1.2.2.1 (ad 2) 3 = nI (d.1.2.1 * d.1.1) := by rw [hR1.I Sm (by decide)]; exact hs
        have L1 := hRR1.L S hLp L
        have o10 : jm_ok m1 (ad 10) 51 := S1.ok 10 (Or.inl (by decide))
        have r10 : m1.2.2.2.2 (ad 1) 8 = some (ad 10) := S1.2.2.1 (1, 8, 10) (by decide)
        have l10 : (m1.2.1 (ad 10)).2 = 9 := S1.len 10 (Or.inl (by decide))
        have hfe := hO.2.2.2.2.2.2.2.2 r (by omega)
        have key3 := c_Fl_cell (l := l) (D := D) (ca := ca) (r := r) (c := d.1.2.1 * d.1.1) S1 (by omega)
        have key4 := w_b1 (l := l) (D := D) (ca := ca) (i := 12 * r + d.1.2.1 * d.1.1) (x := d.2.2.2.2.2.2 r) S1 hW1 (by omega) (by omega)
        have ev2 : m1.2.2.2.1 (ad 10) (nI r).toNatClampNeg = lN (d.2.2.2.2.2.2 r) := by
          rw [nI_c (by omega), L1.2.2.2.2.2.2.2.2]
        rw [← ev2] at key4
        refine And.intro (o2 S1) ?_
        refine And.intro (o2 S1) (And.intro (Nat.le_of_ble_eq_true rfl) (And.intro (Nat.le_of_ble_eq_true rfl) ⟨0, 0, _, Nat.le_refl _, Nat.le_refl _, (by rw [hs1]; exact key3), fun v m' hq => ?_⟩))
        obtain ⟨ee, rfl⟩ := hq
        have ee := ee.symm
        subst ee
        refine And.intro (o2 S1) ⟨some (ad 1), r1 S1, And.intro (o1 S1) ⟨some (ad 10), r10, And.intro o10 (And.intro (vin_of l10 (by omega) (by decide)) ?_)⟩⟩
        refine And.intro (S1.wh (12 * r + d.1.2.1 * d.1.1) (by omega)).1 (And.intro (Nat.le_of_ble_eq_true rfl) (And.intro (Nat.le_of_ble_eq_true rfl) ⟨0, 0, _, Nat.le_refl _, Nat.le_refl _, key4, fun v m2 hq => ?_⟩))
        obtain ⟨rfl, hR2, hW2⟩ := hq
        have hRR2 : FRs ad fP m0 m2 := hRR1.tr (FRs.W (fun k h _ => Or.inr (Or.inr h)) hR2)
        have kk := ih (r + 1) m2 _ (by omega) hRR2 (by rw [hR2.I S1 (by decide)]; exact hs1) (hR2.F S1 (hR1.F Sm hF)) hW2 (fun i hi => by rw [va_up_ne _ _ (by omega), va_up_ne _ _ (by omega)]; exact hhi i hi) (fun r' hr' => by
          by_cases e : r' = r
          · subst e
            refine ⟨fun c hcn => ?_, va_up_self _ _ _⟩
            rw [va_up_ne _ _ (by omega)]
            by_cases e2 : r' = c
            · subst e2; rw [va_up_self, if_pos rfl]
            · rw [va_up_ne _ _ (by omega), if_neg e2]; exact hc c hcn
          · have ho := hro r' (by omega)
            refine ⟨fun c hcn => ?_, ?_⟩
            · rw [va_up_ne _ _ (by omega), va_up_ne _ _ (by omega)]; exact ho.1 c hcn
            · rw [va_up_ne _ _ (by omega), va_up_ne _ _ (by omega)]; exact ho.2)
        rw [← nI_1] at kk
        exact kk
      have inner : ∀ (f c : Nat) (m : jm_M) (W : Nat → Nat), c + f = d.1.2.1 * d.1.1 → FRs ad fP m0 m → m.2.2.1 (ad 2) 3 = nI (d.1.2.1 * d.1.1) → FlV m ad F → WV m ad W → (∀ i, 108 ≤ i → W i = V i) → (∀ r', r' < r → rowOK d F W r') → (∀ c', c' < c → W (12 * r + c') = F (17 + r) c') → X 75 [(0, .ref (ad 2)), (1, .int (nI r)), (2, .int (nI c))] [] m 0 0 := by
        intro f
        induction f with
        | zero =>
          intro c m W hc hR hs hF hW hhi hro hcc
          have Sm := hR.S S
          refine jm_run hX [(107, [0, 1])] 20 ?_
          refine And.intro (o2 Sm) (And.intro (fun _ => ?_) (fun g => ?_))
          · exact rest m W hR hs hF hW hhi hro (fun c' h => hcc c' (by omega))
          · have g : ¬ m.2.2.1 (ad 2) 3 ≤ nI c := g
            rw [hs] at g
            exact absurd (nI_le (by omega) (by omega)) g
        | succ f ihf =>
          intro c m W hc hR hs hF hW hhi hro hcc
          have Sm := hR.S S
          have o16 : jm_ok m (ad 16) 54 := Sm.ok 16 (Or.inl (by decide))
          have r16 : m.2.2.2.2 (ad 2) 5 = some (ad 16) := Sm.2.2.1 (2, 5, 16) (by decide)
          have l16 : (m.2.1 (ad 16)).2 = 9 := Sm.len 16 (Or.inl (by decide))
          have q := fkok Sm ht
          have hFb := (hA.at hB (r := c) (by omega)).1 _ ht
          have ev : (m.2.2.1 (ad (17 + r)) (nI c).toNatClampNeg).toInt64 = lN (F (17 + r) c) := by
            rw [nI_c (by omega), hF.get ht (by omega) rfl, nI_l (by omega)]
          have key1 := c_Fl_cell (l := l) (D := D) (ca := ca) (r := r) (c := c) Sm (by omega)
          have key2 := w_b1 (l := l) (D := D) (ca := ca) (i := 12 * r + c) (x := F (17 + r) c) Sm hW (by omega) (by omega)
          rw [← ev] at key2
          refine jm_run hX [(75, [0, 1, 2])] 40 ?_
          refine And.intro (o2 Sm) (And.intro (fun g => ?_) (fun _ => ?_))
          · have g : m.2.2.1 (ad 2) 3 ≤ nI c := g
            rw [hs] at g
            exact absurd g (nI_ge (by omega) (by omega))
          refine And.intro (o2 Sm) (And.intro (Nat.le_of_ble_eq_true rfl) (And.intro (Nat.le_of_ble_eq_true rfl) ⟨0, 0, _, Nat.le_refl _, Nat.le_refl _, key1, fun v m' hq => ?_⟩))
          obtain ⟨ee, rfl⟩ := hq
          have ee := ee.symm
          subst ee
          refine And.intro (o2 Sm) ⟨some (ad 16), r16, And.intro o16 (And.intro (vin_of l16 (by omega) (by decide)) ⟨some (ad (17 + r)), ?_, ?_⟩)⟩
          · rw [nI_c (by omega)]; exact Sm.2.2.2.2.1 r (by omega)
          refine And.intro q.1 (And.intro (vin_of q.2 (by omega) (by decide)) ?_)
          refine And.intro (Sm.wh (12 * r + c) (by omega)).1 (And.intro (Nat.le_of_ble_eq_true rfl) (And.intro (Nat.le_of_ble_eq_true rfl) ⟨0, 0, _, Nat.le_refl _, Nat.le_refl _, key2, fun v m1 hq => ?_⟩))
          obtain ⟨rfl, hR1, hW1⟩ := hq
          have kk := ihf (c + 1) m1 _ (by omega) (hR.tr (FRs.W (fun k h _ => Or.inr (Or.inr h)) hR1)) (by rw [hR1.I Sm (by decide)]; exact hs) (hR1.F Sm hF) hW1 (fun i hi => by rw [va_up_ne _ _ (by omega)]; exact hhi i hi) (fun r' hr' => by
            have ho := hro r' hr'
            refine ⟨fun c hcn => ?_, ?_⟩
            · rw [va_up_ne _ _ (by omega)]; exact ho.1 c hcn
            · rw [va_up_ne _ _ (by omega)]; exact ho.2) (fun c' hc' => by
            by_cases e : c' = c
            · subst e; exact va_up_self _ _ _
            · rw [va_up_ne _ _ (by omega)]; exact hcc c' (by omega))
          rw [← nI_1] at kk
          exact kk
      have Sm := hR.S S
      refine jm_run hX [(75, [0, 1, 2])] 20 ?_
      refine And.intro (o2 Sm) (And.intro (fun g => ?_) (fun _ => ?_))
      · have g : m.2.2.1 (ad 2) 3 ≤ nI r := g
        rw [hs] at g
        exact absurd g (nI_ge (by omega) (by omega))
      exact inner (d.1.2.1 * d.1.1) 0 m W (by omega) hR hs hF hW hhi hro (fun c' h => absurd h (by omega))
  -- the columns
  have outer : ∀ (e j : Nat) (m : jm_M) (F : Nat → Nat → Nat), j + e = d.1.2.1 → FRs ad fP m0 m → m.2.2.1 (ad 2) 3 = nI (d.1.2.1 * d.1.1) → FlV m ad F → WV m ad V → RA d F (j * d.1.1) → X 21 [(0, .ref (ad 2)), (1, .int (nI j))] [] m 0 0 := by
    intro e
    induction e with
    | zero =>
      intro j m F hj hR hs hF hW hA
      have Sm := hR.S S
      have Lm := hR.L S hLp L
      refine jm_run hX [(65, [0, 1])] 20 ?_
      refine And.intro (o2 Sm) ⟨some (ad 1), r1 Sm, And.intro (o1 Sm) (And.intro (fun _ => ?_) (fun g => ?_))⟩
      · rw [show j = d.1.2.1 by omega] at hA
        exact rows F hA (d.1.2.1 * d.1.1) 0 m V (by omega) hR hs hF hW (fun _ _ => rfl) (fun r' h => absurd h (by omega))
      · have g : ¬ m.2.2.1 (ad 1) 1 ≤ nI j := g
        rw [Lm.2.1] at g
        exact absurd (nI_le (by omega) (by omega)) g
    | succ e ihe =>
      intro j m F hj hR hs hF hW hA
      have hj3 : j < d.1.2.1 := by omega
      have inner : ∀ (f k : Nat) (m : jm_M) (F : Nat → Nat → Nat), k + f = d.1.1 → FRs ad fP m0 m → m.2.2.1 (ad 2) 3 = nI (d.1.2.1 * d.1.1) → FlV m ad F → WV m ad V → RA d F (j * d.1.1 + k) → X 34 [(0, .ref (ad 2)), (1, .int (nI j)), (2, .int (nI k))] [] m 0 0 := by
        intro f
        induction f with
        | zero =>
          intro k m F hk hR hs hF hW hA
          have Sm := hR.S S
          have Lm := hR.L S hLp L
          have kk := ihe (j + 1) m F (by omega) hR hs hF hW (by rw [Nat.add_mul, Nat.one_mul]; rw [show k = d.1.1 by omega] at hA; exact hA)
          rw [← nI_1] at kk
          refine jm_run hX [(21, [0, 1])] 20 ?_
          refine And.intro (o2 Sm) ⟨some (ad 1), r1 Sm, And.intro (o1 Sm) (And.intro (fun _ => kk) (fun g => ?_))⟩
          have g : ¬ m.2.2.1 (ad 1) 0 ≤ nI k := g
          rw [Lm.1] at g
          exact absurd (nI_le (by omega) (by omega)) g
        | succ f ihf =>
          intro k m F hk hR hs hF hW hA
          have hk3 : k < d.1.1 := by omega
          have Sm := hR.S S
          have Lm := hR.L S hLp L
          have key := c_Fl_readColumn (l := l) (D := D) (ca := ca) Sm Lm hO hB hF hj3 hk3
          refine jm_run hX [(34, [0, 1, 2])] 20 ?_
          refine And.intro (o2 Sm) ⟨some (ad 1), r1 Sm, And.intro (o1 Sm) (And.intro (fun g => ?_) (fun _ => ?_))⟩
          · have g : m.2.2.1 (ad 1) 0 ≤ nI k := g
            rw [Lm.1] at g
            exact absurd g (nI_ge (by omega) (by omega))
          refine And.intro (o2 Sm) (And.intro (Nat.le_of_ble_eq_true rfl) (And.intro (Nat.le_of_ble_eq_true rfl) ⟨0, 0, _, Nat.le_refl _, Nat.le_refl _, key, fun v m1 hq => ?_⟩))
          obtain ⟨rfl, hR1, C, hC, hF1⟩ := hq
          have kk := ihf (k + 1) m1 _ (by omega) (hR.tr (hR1.mo (fun k h => Or.inr (Or.inl h)))) (by rw [(hR1.at Sm (k := 2) (Or.inl (by decide)) (by unfold fk; omega)).1]; exact hs) hF1 (hR1.V Sm (fun k h => by unfold fk at h; omega) hW) (fun j' k' hj' hk' hlt => by
            by_cases e : j' * d.1.1 + k' = j * d.1.1 + k
            · obtain ⟨rfl, rfl⟩ := row_inj hk3 hk' e
              have e2 : (fun t => colF F (j' * d.1.1 + k') C t (j' * d.1.1 + k')) = C := by
                funext t; exact if_pos rfl
              rw [e2]; exact hC
            · have e2 : (fun t => colF F (j * d.1.1 + k) C t (j' * d.1.1 + k')) = fun t => F t (j' * d.1.1 + k') := by
                funext t; exact if_neg e
              rw [e2]; exact hA j' k' hj' hk' (by omega))
          rw [← nI_1] at kk
          exact kk
      have Sm := hR.S S
      have Lm := hR.L S hLp L
      refine jm_run hX [(34, [0, 1, 2])] 20 ?_
      refine And.intro (o2 Sm) ⟨some (ad 1), r1 Sm, And.intro (o1 Sm) (And.intro (fun g => ?_) (fun _ => ?_))⟩
      · have g : m.2.2.1 (ad 1) 1 ≤ nI j := g
        rw [Lm.2.1] at g
        exact absurd g (nI_ge (by omega) (by omega))
      exact inner d.1.1 0 m F (by omega) hR hs hF hW hA
  have hR1 : FRs ad fP m0 (uI m0 (ad 2) 3 (nI (d.1.2.1 * d.1.1))) := FRs.uI (i := 2) (Or.inl (by decide)) (Or.inl rfl)
  have hR2 : FRs ad (fun k => k = 2) m0 (uI m0 (ad 2) 3 (nI (d.1.2.1 * d.1.1))) := FRs.uI (i := 2) (Or.inl (by decide)) rfl
  have kk := outer d.1.2.1 0 _ F (by omega) hR1 (by show va_up m0.2.2.1 (ad 2) (va_up (m0.2.2.1 (ad 2)) 3 _) (ad 2) 3 = _; rw [va_up_self, va_up_self]) (fun t ht c hc => by rw [(hR2.at S ht.kin (by unfold fk at ht; omega)).1]; exact hF t ht c hc) (hR2.V S (fun k h => by omega) hV) (fun j k hj hk h => absurd h (by omega))
  rw [← pk_mul, ← L.2.1, ← L.1] at kk
  refine jm_run hX [(21, [0, 1])] 20 ?_
  refine And.intro (o2 S) ⟨some (ad 1), r1 S, And.intro (o1 S) (And.intro (o2 S) ⟨some (ad 1), r1 S, And.intro (o1 S) (And.intro (o2 S) kk)⟩)⟩
end FL5
end
section
/-! Determinants by the last row, over chosen columns; Cramer's numbers; Bareiss' steps are exact. -/
def ds_S (f : Nat → Int) : Nat → Int
  | 0 => 0
  | n + 1 => ds_S f n + f n
theorem ds_S_congr {f g : Nat → Int} : ∀ {n : Nat}, (∀ i, i < n → f i = g i) → ds_S f n = ds_S g n
  | 0, _ => rfl
  | n + 1, h => by
    show ds_S f n + f n = ds_S g n + g n
    rw [ds_S_congr (fun i hi => h i (by omega)), h n (by omega)]
theorem ds_S_add (f g : Nat → Int) : ∀ n : Nat, ds_S (fun i => f i + g i) n = ds_S f n + ds_S g n
  | 0 => rfl
  | n + 1 => by
    show ds_S (fun i => f i + g i) n + (f n + g n) = (ds_S f n + f n) + (ds_S g n + g n)
    rw [ds_S_add f g n]; omega
theorem ds_S_mul (c : Int) (f : Nat → Int) : ∀ n : Nat, ds_S (fun i => c * f i) n = c * ds_S f n
  | 0 => by simp [ds_S]
  | n + 1 => by
    show ds_S (fun i => c * f i) n + c * f n = c * (ds_S f n + f n)
    rw [ds_S_mul c f n, Int.mul_add]
theorem ds_S_neg (f : Nat → Int) (n : Nat) : ds_S (fun i => - f i) n = - ds_S f n := by
  have := ds_S_mul (-1) f n
  rw [ds_S_congr (g := fun i => -1 * f i) (fun i _ => by omega), this]; omega
theorem ds_S_sub (f g : Nat → Int) (n : Nat) : ds_S (fun i => f i - g i) n = ds_S f n - ds_S g n := by
  rw [ds_S_congr (g := fun i => f i + (- g i)) (fun i _ => by omega), ds_S_add, ds_S_neg]; omega
theorem ds_S_zero {f : Nat → Int} {n : Nat} (h : ∀ i, i < n → f i = 0) : ds_S f n = 0 := by
  rw [ds_S_congr (g := fun _ => 0 * 0) (fun i hi => by rw [h i hi]; rfl), ds_S_mul]; omega
theorem ds_S_tri (h : Nat → Nat → Int) : ∀ n : Nat, ds_S (fun s => ds_S (fun t => h s t) n) (n + 1) = ds_S (fun j => ds_S (fun i => h i j + h (j + 1) i) (j + 1)) n
  | 0 => by simp [ds_S]
  | n + 1 => by
    have e1 : ds_S (fun s => ds_S (fun t => h s t) (n + 1)) (n + 2) = ds_S (fun s => ds_S (fun t => h s t) n + h s n) (n + 1) + ds_S (fun t => h (n + 1) t) (n + 1) := rfl
    have e2 : ds_S (fun j => ds_S (fun i => h i j + h (j + 1) i) (j + 1)) (n + 1) = ds_S (fun j => ds_S (fun i => h i j + h (j + 1) i) (j + 1)) n + ds_S (fun i => h i n + h (n + 1) i) (n + 1) := rfl
    have e3 : ds_S (fun t => h (n + 1) t) (n + 1) = ds_S (h (n + 1)) (n + 1) := rfl
    rw [e1, e2, ds_S_add, ds_S_add, ds_S_tri h n, e3]; omega
/-- columns without the one at place s -/
def ds_E (J : Nat → Nat) (s : Nat) : Nat → Nat := fun t => if t < s then J t else J (t + 1)
theorem ds_E_dE (J : Nat → Nat) {s t : Nat} (h : s ≤ t) : ds_E (ds_E J s) t = ds_E (ds_E J (t + 1)) s := by
  funext u
  unfold ds_E
  by_cases h1 : u < s
  · rw [if_pos (show u < t by omega), if_pos h1, if_pos h1, if_pos (show u < t + 1 by omega)]
  · by_cases h2 : u < t
    · rw [if_pos h2, if_neg h1, if_neg h1, if_pos (show u + 1 < t + 1 by omega)]
    · rw [if_neg h2, if_neg (show ¬ u + 1 < s by omega), if_neg h1, if_neg (show ¬ u + 1 < t + 1 by omega)]
def ds_G (n : Nat) : Int := if n % 2 = 0 then 1 else -1
theorem ds_G_s (n : Nat) : ds_G (n + 1) = - ds_G n := by
  unfold ds_G
  by_cases h : n % 2 = 0
  · rw [if_pos h, if_neg (by omega)]
  · rw [if_neg h, if_pos (by omega)]; rfl
theorem ds_G_2 (n : Nat) : ds_G (n + n) = 1 := by
  unfold ds_G
  rw [if_pos (by omega)]
theorem ds_G_sq (n : Nat) : ds_G n * ds_G n = 1 := by
  unfold ds_G
  by_cases h : n % 2 = 0
  · rw [if_pos h]; rfl
  · rw [if_neg h]; rfl
/-- rows 0 .. k - 1, columns J 0 .. J (k - 1) -/
def ds_D (a : Nat → Nat → Int) : Nat → (Nat → Nat) → Int
  | 0, _ => 1
  | k + 1, J => ds_S (fun s => ds_G (k + s) * a k (J s) * ds_D a k (ds_E J s)) (k + 1)
/-- the same with another last row r -/
def ds_F (a : Nat → Nat → Int) (k : Nat) (r : Nat → Int) (J : Nat → Nat) : Int := ds_S (fun s => ds_G (k + s) * r (J s) * ds_D a k (ds_E J s)) (k + 1)
theorem ds_D_s (a : Nat → Nat → Int) (k : Nat) (J : Nat → Nat) : ds_D a (k + 1) J = ds_F a k (a k) J := rfl
theorem ds_D_congr (a : Nat → Nat → Int) : ∀ (k : Nat) {J J' : Nat → Nat}, (∀ t, t < k → J t = J' t) → ds_D a k J = ds_D a k J'
  | 0, _, _, _ => rfl
  | k + 1, J, J', h => by
    refine ds_S_congr fun s hs => ?_
    rw [h s hs, ds_D_congr a k (J := ds_E J s) (J' := ds_E J' s) fun t ht => ?_]
    unfold ds_E
    by_cases h1 : t < s
    · rw [if_pos h1, if_pos h1, h t (by omega)]
    · rw [if_neg h1, if_neg h1, h (t + 1) (by omega)]
theorem ds_F_congr (a : Nat → Nat → Int) (k : Nat) (r : Nat → Int) {J J' : Nat → Nat} (h : ∀ t, t < k + 1 → J t = J' t) : ds_F a k r J = ds_F a k r J' := by
  refine ds_S_congr fun s hs => ?_
  rw [h s hs, ds_D_congr a k (J := ds_E J s) (J' := ds_E J' s) fun t ht => ?_]
  unfold ds_E
  by_cases h1 : t < s
  · rw [if_pos h1, if_pos h1, h t (by omega)]
  · rw [if_neg h1, if_neg h1, h (t + 1) (by omega)]
/-- two rows by turns -/
def ds_H (a : Nat → Nat → Int) (k : Nat) (r q : Nat → Int) (J : Nat → Nat) (s t : Nat) : Int := ds_G (k + 1 + s) * r (J s) * (ds_G (k + t) * q (ds_E J s t) * ds_D a k (ds_E (ds_E J s) t))
theorem ds_H_anti (a : Nat → Nat → Int) (k : Nat) (r q : Nat → Int) (J : Nat → Nat) {i j : Nat} (h : i ≤ j) : ds_H a k r q J i j = - ds_H a k q r J (j + 1) i := by
  unfold ds_H
  rw [ds_E_dE J h]
  have e1 : ds_E J i j = J (j + 1) := by unfold ds_E; rw [if_neg (by omega)]
  have e2 : ds_E J (j + 1) i = J i := by unfold ds_E; rw [if_pos (by omega)]
  rw [e1, e2, show k + 1 + i = (k + i) + 1 by omega, show k + 1 + (j + 1) = (k + j) + 1 + 1 by omega, ds_G_s, ds_G_s, ds_G_s]
  generalize ds_G (k + i) = x
  generalize ds_G (k + j) = y
  generalize r (J i) = u
  generalize q (J (j + 1)) = v
  generalize ds_D a k (ds_E (ds_E J (j + 1)) i) = w
  grind
def ds_GG (a : Nat → Nat → Int) (k : Nat) (r q : Nat → Int) (J : Nat → Nat) : Int := ds_S (fun s => ds_S (fun t => ds_H a k r q J s t) (k + 1)) (k + 2)
theorem ds_GG_eq (a : Nat → Nat → Int) (k : Nat) (r q : Nat → Int) (J : Nat → Nat) : ds_GG a k r q J = ds_S (fun s => ds_G (k + 1 + s) * r (J s) * ds_F a k q (ds_E J s)) (k + 2) := by
  refine ds_S_congr fun s _ => ?_
  show ds_S (fun t => ds_H a k r q J s t) (k + 1) = _
  unfold ds_F
  rw [← ds_S_mul]
  rfl
theorem ds_GG_anti (a : Nat → Nat → Int) (k : Nat) (r q : Nat → Int) (J : Nat → Nat) : ds_GG a k r q J = - ds_GG a k q r J := by
  unfold ds_GG
  rw [ds_S_tri, ds_S_tri, ← ds_S_neg]
  refine ds_S_congr fun j _ => ?_
  show _ = - ds_S _ _
  rw [← ds_S_neg]
  refine ds_S_congr fun i hi => ?_
  have h1 := ds_H_anti a k r q J (i := i) (j := j) (by omega)
  have h2 := ds_H_anti a k q r J (i := i) (j := j) (by omega)
  omega
theorem ds_F_alien (a : Nat → Nat → Int) : ∀ (k i : Nat) (J : Nat → Nat), i < k → ds_F a k (a i) J = 0
  | 0, _, _, h => absurd h (by omega)
  | k + 1, i, J, h => by
    have e : ds_F a (k + 1) (a i) J = ds_GG a k (a i) (a k) J := by rw [ds_GG_eq]; rfl
    rw [e]
    by_cases hk : i = k
    · subst hk
      have := ds_GG_anti a i (a i) (a i) J
      omega
    · rw [ds_GG_anti, ds_GG_eq, ds_S_zero fun s _ => by rw [ds_F_alien a k i _ (by omega), Int.mul_zero]]
      rfl
/-- columns 0 .. k - 1, then j -/
def ds_J (k j : Nat) : Nat → Nat := fun t => if t < k then t else j
def ds_d (a : Nat → Nat → Int) (k : Nat) : Int := ds_D a k (fun t => t)
def ds_C (a : Nat → Nat → Int) (k t j : Nat) : Int := ds_G (k + t + 1) * ds_D a k (ds_E (ds_J k j) t)
def ds_m (a : Nat → Nat → Int) (k i j : Nat) : Int := ds_F a k (a i) (ds_J k j)
theorem ds_m_eq (a : Nat → Nat → Int) (k i j : Nat) : ds_m a k i j = a i j * ds_d a k - ds_S (fun s => a i s * ds_C a k s j) k := by
  show ds_S (fun s => ds_G (k + s) * a i (ds_J k j s) * ds_D a k (ds_E (ds_J k j) s)) k + ds_G (k + k) * a i (ds_J k j k) * ds_D a k (ds_E (ds_J k j) k) = _
  have e1 : ds_J k j k = j := by unfold ds_J; rw [if_neg (by omega)]
  have e2 : ds_D a k (ds_E (ds_J k j) k) = ds_d a k := by
    refine ds_D_congr a k fun t ht => ?_
    unfold ds_E ds_J
    rw [if_pos ht, if_pos ht]
  have e3 : ds_S (fun s => ds_G (k + s) * a i (ds_J k j s) * ds_D a k (ds_E (ds_J k j) s)) k = - ds_S (fun s => a i s * ds_C a k s j) k := by
    rw [← ds_S_neg]
    refine ds_S_congr fun s hs => ?_
    have : ds_J k j s = s := by unfold ds_J; rw [if_pos hs]
    unfold ds_C
    rw [this, ds_G_s]
    generalize ds_G (k + s) = x
    generalize a i s = u
    generalize ds_D a k (ds_E (ds_J k j) s) = v
    grind
  rw [e1, e2, e3, ds_G_2]
  generalize ds_S (fun s => a i s * ds_C a k s j) k = z
  generalize a i j = u
  generalize ds_d a k = v
  grind
/-- Cramer: the numbers ds_C solve the first k rows -/
theorem ds_C_solves (a : Nat → Nat → Int) (k i j : Nat) (h : i < k) : ds_S (fun s => a i s * ds_C a k s j) k = a i j * ds_d a k := by
  have h1 := ds_F_alien a k i (ds_J k j) h
  have h2 := ds_m_eq a k i j
  unfold ds_m at h2
  omega
theorem ds_d_s (a : Nat → Nat → Int) (k : Nat) : ds_d a (k + 1) = ds_m a k k k := by
  unfold ds_d ds_m
  rw [ds_D_s]
  refine ds_F_congr a k _ fun t ht => ?_
  unfold ds_J
  by_cases h : t < k
  · rw [if_pos h]
  · rw [if_neg h]; omega
theorem ds_C_new (a : Nat → Nat → Int) (k j : Nat) : ds_C a (k + 1) k j = ds_m a k k j := by
  unfold ds_C ds_m
  rw [show k + 1 + k + 1 = (k + 1) + (k + 1) by omega, ds_G_2, Int.one_mul, ds_D_s]
  refine ds_F_congr a k _ fun t ht => ?_
  unfold ds_E ds_J
  by_cases h : t < k
  · rw [if_pos h, if_pos (by omega), if_pos h]
  · rw [if_neg h, if_neg (by omega), if_neg h]
/-- the first k columns of the first k rows are one to one, where no pivot is 0 -/
theorem ds_d_inj (a : Nat → Nat → Int) : ∀ (k : Nat) (x : Nat → Int), (∀ i, 1 ≤ i → i ≤ k → ds_d a i ≠ 0) → (∀ i, i < k → ds_S (fun t => a i t * x t) k = 0) → ∀ t, t < k → x t = 0
  | 0, _, _, _, t, ht => absurd ht (by omega)
  | k + 1, x, hd, h, t, ht => by
    have hdk : ds_d a k ≠ 0 := by
      rcases Nat.eq_zero_or_pos k with q | q
      · subst q
        show (1 : Int) ≠ 0
        decide
      · exact hd k q (by omega)
    have key : ∀ t, t < k → ds_d a k * x t + x k * ds_C a k t k = 0 := by
      refine ds_d_inj a k (fun t => ds_d a k * x t + x k * ds_C a k t k) (fun i h1 h2 => hd i h1 (by omega)) fun i hi => ?_
      have e1 : ds_S (fun t => a i t * (ds_d a k * x t + x k * ds_C a k t k)) k = ds_d a k * ds_S (fun t => a i t * x t) k + x k * ds_S (fun t => a i t * ds_C a k t k) k := by
        rw [← ds_S_mul, ← ds_S_mul, ← ds_S_add]
        refine ds_S_congr fun s _ => ?_
        generalize a i s = u
        generalize ds_d a k = v
        generalize x s = w
        generalize x k = y
        generalize ds_C a k s k = z
        grind
      have e2 : ds_S (fun t => a i t * x t) k + a i k * x k = 0 := h i (by omega)
      rw [e1, ds_C_solves a k i k hi]
      generalize ds_S (fun t => a i t * x t) k = u at e2 ⊢
      generalize ds_d a k = v
      generalize a i k = w at e2 ⊢
      generalize x k = y at e2 ⊢
      have : u = - (w * y) := by omega
      subst this
      grind
    have e3 : ds_S (fun t => a k t * x t) k + a k k * x k = 0 := h k (by omega)
    have e4 : ds_d a k * ds_S (fun t => a k t * x t) k = - (x k * ds_S (fun t => a k t * ds_C a k t k) k) := by
      rw [← ds_S_mul, ← ds_S_mul, ← ds_S_neg]
      refine ds_S_congr fun s hs => ?_
      have := key s hs
      generalize a k s = u
      generalize ds_d a k = v at this ⊢
      generalize x s = w at this ⊢
      generalize x k = y at this ⊢
      generalize ds_C a k s k = z at this ⊢
      have h1 : v * w = - (y * z) := by omega
      grind
    have e5 : x k * ds_d a (k + 1) = 0 := by
      rw [ds_d_s, ds_m_eq]
      generalize ds_S (fun s => a k s * ds_C a k s k) k = u at e4 ⊢
      generalize ds_S (fun t => a k t * x t) k = w at e3 e4
      generalize a k k = y at e3 ⊢
      generalize ds_d a k = v at e4 ⊢
      generalize x k = z at e3 e4 ⊢
      have : w = - (y * z) := by omega
      subst this
      grind
    have hk : x k = 0 := by
      rcases Int.mul_eq_zero.mp e5 with q | q
      · exact q
      · exact absurd q (hd (k + 1) (by omega) (by omega))
    by_cases htk : t < k
    · have := key t htk
      rw [hk, Int.zero_mul, Int.add_zero] at this
      rcases Int.mul_eq_zero.mp this with q | q
      · exact absurd q hdk
      · exact q
    · have : t = k := by omega
      rw [this, hk]
/-- Bareiss' step in the rows above the pivot -/
theorem ds_C_step (a : Nat → Nat → Int) (k j t : Nat) (hd : ∀ i, 1 ≤ i → i ≤ k → ds_d a i ≠ 0) (ht : t < k) : ds_d a k * ds_C a (k + 1) t j = ds_d a (k + 1) * ds_C a k t j - ds_C a k t k * ds_m a k k j := by
  have key := ds_d_inj a k (fun t => ds_d a k * ds_C a (k + 1) t j - (ds_d a (k + 1) * ds_C a k t j - ds_C a k t k * ds_m a k k j)) hd (fun i hi => by
    have e1 : ds_S (fun t => a i t * (ds_d a k * ds_C a (k + 1) t j - (ds_d a (k + 1) * ds_C a k t j - ds_C a k t k * ds_m a k k j))) k = ds_d a k * ds_S (fun t => a i t * ds_C a (k + 1) t j) k - (ds_d a (k + 1) * ds_S (fun t => a i t * ds_C a k t j) k - ds_m a k k j * ds_S (fun t => a i t * ds_C a k t k) k) := by
      rw [← ds_S_mul, ← ds_S_mul, ← ds_S_mul, ← ds_S_sub, ← ds_S_sub]
      refine ds_S_congr fun s _ => ?_
      generalize a i s = u
      generalize ds_d a k = v
      generalize ds_C a (k + 1) s j = w
      generalize ds_d a (k + 1) = y
      generalize ds_C a k s j = z
      generalize ds_C a k s k = p
      generalize ds_m a k k j = q
      grind
    have e2 : ds_S (fun s => a i s * ds_C a (k + 1) s j) k + a i k * ds_C a (k + 1) k j = a i j * ds_d a (k + 1) := ds_C_solves a (k + 1) i j (by omega)
    rw [ds_C_new] at e2
    rw [e1, ds_C_solves a k i j hi, ds_C_solves a k i k hi]
    generalize ds_S (fun t => a i t * ds_C a (k + 1) t j) k = u at e2 ⊢
    generalize ds_d a k = v
    generalize ds_d a (k + 1) = y at e2 ⊢
    generalize ds_m a k k j = q at e2 ⊢
    generalize a i k = w at e2 ⊢
    generalize a i j = z at e2 ⊢
    have : u = z * y - w * q := by omega
    subst this
    grind) t ht
  omega
/-- and in those below it -/
theorem ds_m_step (a : Nat → Nat → Int) (k i j : Nat) (hd : ∀ i, 1 ≤ i → i ≤ k → ds_d a i ≠ 0) : ds_d a k * ds_m a (k + 1) i j = ds_d a (k + 1) * ds_m a k i j - ds_m a k i k * ds_m a k k j := by
  rw [ds_m_eq a (k + 1) i j, ds_m_eq a k i j, ds_m_eq a k i k]
  have e0 : ds_S (fun s => a i s * ds_C a (k + 1) s j) (k + 1) = ds_S (fun s => a i s * ds_C a (k + 1) s j) k + a i k * ds_C a (k + 1) k j := rfl
  rw [e0, ds_C_new]
  have e1 : ds_d a k * ds_S (fun s => a i s * ds_C a (k + 1) s j) k = ds_d a (k + 1) * ds_S (fun s => a i s * ds_C a k s j) k - ds_m a k k j * ds_S (fun s => a i s * ds_C a k s k) k := by
    rw [← ds_S_mul, ← ds_S_mul, ← ds_S_mul, ← ds_S_sub]
    refine ds_S_congr fun s hs => ?_
    have := ds_C_step a k j s hd hs
    generalize a i s = u
    generalize ds_d a k = v at this ⊢
    generalize ds_C a (k + 1) s j = w at this ⊢
    generalize ds_d a (k + 1) = y at this ⊢
    generalize ds_C a k s j = z at this ⊢
    generalize ds_C a k s k = p at this ⊢
    generalize ds_m a k k j = q at this ⊢
    grind
  generalize ds_S (fun s => a i s * ds_C a (k + 1) s j) k = u at e1 ⊢
  generalize ds_S (fun s => a i s * ds_C a k s j) k = u2 at e1 ⊢
  generalize ds_S (fun s => a i s * ds_C a k s k) k = u3 at e1 ⊢
  generalize ds_d a k = v at e1 ⊢
  generalize ds_d a (k + 1) = y at e1 ⊢
  generalize ds_m a k k j = q at e1 ⊢
  generalize a i j = z
  generalize a i k = w
  grind
end
section
/-! Matrices whose columns leak: off the diagonal nothing above 0, column sums not below 0, no trap. Every pivot is above 0, and signs stay. -/
theorem ds_inp {d x : Int} (hd : 0 < d) (h : d * x ≤ 0) : x ≤ 0 := by
  rcases (show 0 < x ∨ x ≤ 0 by omega) with q | q
  · have := Int.mul_pos hd q
    omega
  · exact q
theorem ds_inn {d x : Int} (hd : 0 < d) (h : 0 ≤ d * x) : 0 ≤ x := by
  have := ds_inp (d := d) (x := -x) hd (by rw [Int.mul_neg]; omega)
  omega
theorem ds_ip {d x : Int} (hd : 0 < d) (h : 0 < d * x) : 0 < x := by
  rcases (show 0 < x ∨ x ≤ 0 by omega) with q | q
  · exact q
  · have := Int.mul_nonneg (Int.le_of_lt hd) (show 0 ≤ -x by omega)
    rw [Int.mul_neg] at this
    omega
theorem ds_in {d x : Int} (hd : 0 < d) (h : d * x < 0) : x < 0 := by
  have := ds_ip (d := d) (x := -x) hd (by rw [Int.mul_neg]; omega)
  omega
theorem ds_imm {x y : Int} (hx : x ≤ 0) (hy : y ≤ 0) : 0 ≤ x * y := by
  have := Int.mul_nonneg (show 0 ≤ -x by omega) (show 0 ≤ -y by omega)
  rw [Int.neg_mul_neg] at this
  exact this
theorem ds_imp {x y : Int} (hx : x ≤ 0) (hy : 0 ≤ y) : x * y ≤ 0 := by
  have := Int.mul_nonneg (show 0 ≤ -x by omega) hy
  rw [Int.neg_mul] at this
  omega
theorem ds_imms {x y : Int} (hx : x < 0) (hy : y < 0) : 0 < x * y := by
  have := Int.mul_pos (show 0 < -x by omega) (show 0 < -y by omega)
  rw [Int.neg_mul_neg] at this
  exact this
theorem ds_imps {x y : Int} (hx : x < 0) (hy : 0 < y) : x * y < 0 := by
  have := Int.mul_pos (show 0 < -x by omega) hy
  rw [Int.neg_mul] at this
  omega
theorem ds_S_np {f : Nat → Int} : ∀ {n : Nat}, (∀ i, i < n → f i ≤ 0) → ds_S f n ≤ 0
  | 0, _ => Int.le_refl 0
  | n + 1, h => by
    have h1 := ds_S_np (f := f) (n := n) (fun i hi => h i (by omega))
    have h2 := h n (by omega)
    show ds_S f n + f n ≤ 0
    omega
theorem ds_S_nn {f : Nat → Int} {n : Nat} (h : ∀ i, i < n → 0 ≤ f i) : 0 ≤ ds_S f n := by
  have := ds_S_np (f := fun i => - f i) (n := n) (fun i hi => by have := h i hi; omega)
  rw [ds_S_neg] at this
  omega
theorem ds_S_split (f : Nat → Int) (k : Nat) : ∀ {n : Nat}, k < n → ds_S f n = f k + ds_S (fun i => if i = k then 0 else f i) n
  | 0, h => absurd h (by omega)
  | n + 1, h => by
    show ds_S f n + f n = f k + (ds_S (fun i => if i = k then 0 else f i) n + (if n = k then 0 else f n))
    by_cases hk : n = k
    · subst hk
      rw [if_pos rfl, ds_S_congr (f := fun i => if i = n then 0 else f i) (g := f) (fun i hi => if_neg (by omega))]
      omega
    · rw [if_neg hk, ds_S_split f k (n := n) (by omega)]
      omega
theorem ds_S_le1 {f : Nat → Int} {n k : Nat} (hk : k < n) (h : ∀ i, i < n → i ≠ k → f i ≤ 0) : ds_S f n ≤ f k := by
  rw [ds_S_split f k hk]
  have := ds_S_np (f := fun i => if i = k then 0 else f i) (n := n) (fun i hi => by
    by_cases q : i = k
    · rw [if_pos q]; exact Int.le_refl 0
    · rw [if_neg q]; exact h i hi q)
  omega
theorem ds_S_le2 {f : Nat → Int} {n k j : Nat} (hk : k < n) (hj : j < n) (hjk : j ≠ k) (h : ∀ i, i < n → i ≠ k → f i ≤ 0) : ds_S f n ≤ f k + f j := by
  rw [ds_S_split f k hk]
  have := ds_S_le1 (f := fun i => if i = k then 0 else f i) (n := n) (k := j) hj (fun i hi _ => by
    show (if i = k then 0 else f i) ≤ 0
    by_cases q : i = k
    · rw [if_pos q]; exact Int.le_refl 0
    · rw [if_neg q]; exact h i hi q)
  rw [if_neg hjk] at this
  omega
def mx_Lk (a : Nat → Nat → Int) (n k j : Nat) : Int := ds_S (fun i => ds_m a k i j) n
theorem ds_m_low (a : Nat → Nat → Int) (k i j : Nat) (h : i < k) : ds_m a k i j = 0 := ds_F_alien a k i (ds_J k j) h
theorem mx_Lk_step (a : Nat → Nat → Int) (n k j : Nat) (hd : ∀ i, 1 ≤ i → i ≤ k → ds_d a i ≠ 0) : ds_d a k * mx_Lk a n (k + 1) j = ds_d a (k + 1) * mx_Lk a n k j - mx_Lk a n k k * ds_m a k k j := by
  unfold mx_Lk
  rw [← ds_S_mul, ← ds_S_mul, Int.mul_comm (ds_S (fun i => ds_m a k i k) n) (ds_m a k k j), ← ds_S_mul, ← ds_S_sub]
  refine ds_S_congr fun i _ => ?_
  rw [ds_m_step a k i j hd, Int.mul_comm (ds_m a k k j)]
/-- what holds before the pivot k -/
def mx_Inv (a : Nat → Nat → Int) (n k : Nat) : Prop :=
  (∀ i, i ≤ k → 0 < ds_d a i) ∧ (∀ i j, k ≤ i → i < n → k ≤ j → j < n → i ≠ j → ds_m a k i j ≤ 0) ∧ (∀ j, k ≤ j → j < n → 0 ≤ mx_Lk a n k j) ∧
  (∀ S : Nat → Prop, (∃ j, k ≤ j ∧ j < n ∧ S j) → ∃ j, k ≤ j ∧ j < n ∧ S j ∧ (0 < mx_Lk a n k j ∨ ∃ i, k ≤ i ∧ i < n ∧ ¬ S i ∧ ds_m a k i j < 0))
def mx_Good (a : Nat → Nat → Int) (n : Nat) : Prop :=
  (∀ i j, i < n → j < n → i ≠ j → a i j ≤ 0) ∧ (∀ j, j < n → 0 ≤ ds_S (fun i => a i j) n) ∧
  (∀ S : Nat → Prop, (∃ j, j < n ∧ S j) → ∃ j, j < n ∧ S j ∧ (0 < ds_S (fun i => a i j) n ∨ ∃ i, i < n ∧ ¬ S i ∧ a i j < 0))
theorem ds_m_0 (a : Nat → Nat → Int) (i j : Nat) : ds_m a 0 i j = a i j := by
  rw [ds_m_eq]
  show a i j * 1 - 0 = a i j
  omega
theorem mx_Lk_0 (a : Nat → Nat → Int) (n j : Nat) : mx_Lk a n 0 j = ds_S (fun i => a i j) n := ds_S_congr fun i _ => ds_m_0 a i j
theorem mx_Inv_0 {a : Nat → Nat → Int} {n : Nat} (h : mx_Good a n) : mx_Inv a n 0 := by
  obtain ⟨h1, h2, h3⟩ := h
  refine ⟨fun i hi => ?_, fun i j _ hi _ hj hne => ?_, fun j _ hj => ?_, fun S hS => ?_⟩
  · rw [show i = 0 by omega]
    show (0 : Int) < 1
    decide
  · rw [ds_m_0]; exact h1 i j hi hj hne
  · rw [mx_Lk_0]; exact h2 j hj
  · obtain ⟨j, -, hj, hs⟩ := hS
    obtain ⟨j, hj, hs, q⟩ := h3 S ⟨j, hj, hs⟩
    refine ⟨j, by omega, hj, hs, ?_⟩
    rw [mx_Lk_0]
    rcases q with q | ⟨i, hi, hn, q⟩
    · exact Or.inl q
    · exact Or.inr ⟨i, by omega, hi, hn, by rw [ds_m_0]; exact q⟩
theorem mx_Inv_pivot {a : Nat → Nat → Int} {n k : Nat} (h : mx_Inv a n k) (hk : k < n) : 0 < ds_d a (k + 1) := by
  obtain ⟨h1, h2, h3, h4⟩ := h
  rw [ds_d_s]
  have hoff : ∀ i, i < n → i ≠ k → ds_m a k i k ≤ 0 := fun i hi hne => by
    rcases Nat.lt_or_ge i k with q | q
    · rw [ds_m_low a k i k q]; exact Int.le_refl 0
    · exact h2 i k q hi (Nat.le_refl k) hk hne
  obtain ⟨j, hj1, hj2, hj3, q⟩ := h4 (fun x => x = k) ⟨k, Nat.le_refl k, hk, rfl⟩
  subst hj3
  rcases q with q | ⟨i, hi1, hi2, hi3, q⟩
  · have := ds_S_le1 (f := fun i => ds_m a j i j) hk hoff
    unfold mx_Lk at q
    omega
  · have := ds_S_le2 (f := fun i => ds_m a j i j) hk hi2 (fun e => hi3 e) hoff
    have h5 := h3 j hj1 hj2
    unfold mx_Lk at h5
    omega
theorem mx_Inv_ne {a : Nat → Nat → Int} {n k : Nat} (h : mx_Inv a n k) : ∀ i, 1 ≤ i → i ≤ k → ds_d a i ≠ 0 := fun i _ h2 => by
  have := h.1 i h2
  omega
theorem mx_Inv_s {a : Nat → Nat → Int} {n k : Nat} (h : mx_Inv a n k) (hk : k < n) : mx_Inv a n (k + 1) := by
  have hp := mx_Inv_pivot h hk
  have hne := mx_Inv_ne h
  obtain ⟨h1, h2, h3, h4⟩ := h
  have hdk := h1 k (Nat.le_refl k)
  have hlk := h3 k (Nat.le_refl k) hk
  have hmkk : ds_m a k k k = ds_d a (k + 1) := (ds_d_s a k).symm
  have hc : ∀ j, k ≤ j → j < n → k ≠ j → ds_m a k k j ≤ 0 := fun j q1 q2 q3 => h2 k j (Nat.le_refl k) hk q1 q2 q3
  have hr : ∀ i, k ≤ i → i < n → i ≠ k → ds_m a k i k ≤ 0 := fun i q1 q2 q3 => h2 i k q1 q2 (Nat.le_refl k) hk q3
  -- a link that was there is there still; a link through k becomes one
  have keep : ∀ i j, k + 1 ≤ i → i < n → k + 1 ≤ j → j < n → i ≠ j → ds_m a k i j < 0 → ds_m a (k + 1) i j < 0 := fun i j a1 a2 a3 a4 a5 q => by
    refine ds_in hdk ?_
    rw [ds_m_step a k i j hne]
    have e1 := ds_imps q hp
    have e2 := ds_imm (hr i (by omega) a2 (by omega)) (hc j (by omega) a4 (by omega))
    rw [Int.mul_comm] at e1
    omega
  have thru : ∀ i j, k + 1 ≤ i → i < n → k + 1 ≤ j → j < n → i ≠ j → ds_m a k i k < 0 → ds_m a k k j < 0 → ds_m a (k + 1) i j < 0 := fun i j a1 a2 a3 a4 a5 q1 q2 => by
    refine ds_in hdk ?_
    rw [ds_m_step a k i j hne]
    have e1 := ds_imms q1 q2
    have e2 := ds_imp (h2 i j (by omega) a2 (by omega) a4 a5) (Int.le_of_lt hp)
    rw [Int.mul_comm] at e2
    omega
  have leak : ∀ j, k + 1 ≤ j → j < n → 0 < mx_Lk a n k j → 0 < mx_Lk a n (k + 1) j := fun j a3 a4 q => by
    refine ds_ip hdk ?_
    rw [mx_Lk_step a n k j hne]
    have e1 := Int.mul_pos hp q
    have e2 := ds_imp (hc j (by omega) a4 (by omega)) hlk
    rw [Int.mul_comm] at e2
    omega
  have leakt : ∀ j, k + 1 ≤ j → j < n → 0 < mx_Lk a n k k → ds_m a k k j < 0 → 0 < mx_Lk a n (k + 1) j := fun j a3 a4 q1 q2 => by
    refine ds_ip hdk ?_
    rw [mx_Lk_step a n k j hne]
    have e1 := ds_imps q2 q1
    have e2 := Int.mul_nonneg (Int.le_of_lt hp) (h3 j (by omega) a4)
    rw [Int.mul_comm] at e1
    omega
  refine ⟨fun i hi => ?_, fun i j a1 a2 a3 a4 a5 => ?_, fun j a1 a2 => ?_, fun S hS => ?_⟩
  · rcases Nat.lt_or_ge k i with q | q
    · rw [show i = k + 1 by omega]; exact hp
    · exact h1 i q
  · refine ds_inp hdk ?_
    rw [ds_m_step a k i j hne]
    have e1 := ds_imm (hr i (by omega) a2 (by omega)) (hc j (by omega) a4 (by omega))
    have e2 := ds_imp (h2 i j (by omega) a2 (by omega) a4 a5) (Int.le_of_lt hp)
    rw [Int.mul_comm] at e2
    omega
  · refine ds_inn hdk ?_
    rw [mx_Lk_step a n k j hne]
    have e1 := Int.mul_nonneg (Int.le_of_lt hp) (h3 j (by omega) a2)
    have e2 := ds_imp (hc j (by omega) a2 (by omega)) hlk
    rw [Int.mul_comm] at e2
    omega
  · -- the set without k
    obtain ⟨j0, b1, b2, b3⟩ := hS
    obtain ⟨j, c1, c2, c3, q⟩ := h4 (fun x => S x ∧ k + 1 ≤ x) ⟨j0, by omega, b2, b3, b1⟩
    rcases q with q | ⟨i, i1, i2, i3, q⟩
    · exact ⟨j, c3.2, c2, c3.1, Or.inl (leak j c3.2 c2 q)⟩
    · by_cases hik : i = k
      · subst hik
        -- j goes to k: see where S and k together get out
        obtain ⟨j', d1, d2, d3, q'⟩ := h4 (fun x => (S x ∧ i + 1 ≤ x) ∨ x = i) ⟨i, Nat.le_refl i, hk, Or.inr rfl⟩
        rcases d3 with d3 | d3
        · rcases q' with q' | ⟨i', e1, e2, e3, q'⟩
          · exact ⟨j', d3.2, d2, d3.1, Or.inl (leak j' d3.2 d2 q')⟩
          · have hne' : i' ≠ i := fun e => e3 (Or.inr e)
            have hns : ¬ S i' := fun e => e3 (Or.inl ⟨e, by omega⟩)
            exact ⟨j', d3.2, d2, d3.1, Or.inr ⟨i', by omega, e2, hns, keep i' j' (by omega) e2 d3.2 d2 (fun e => hns (e ▸ d3.1)) q'⟩⟩
        · subst d3
          rcases q' with q' | ⟨i', e1, e2, e3, q'⟩
          · exact ⟨j, c3.2, c2, c3.1, Or.inl (leakt j c3.2 c2 q' q)⟩
          · have hne' : i' ≠ j' := fun e => e3 (Or.inr e)
            have hns : ¬ S i' := fun e => e3 (Or.inl ⟨e, by omega⟩)
            exact ⟨j, c3.2, c2, c3.1, Or.inr ⟨i', by omega, e2, hns, thru i' j (by omega) e2 c3.2 c2 (fun e => hns (e ▸ c3.1)) q' q⟩⟩
      · have hns : ¬ S i := fun e => i3 ⟨e, by omega⟩
        exact ⟨j, c3.2, c2, c3.1, Or.inr ⟨i, by omega, i2, hns, keep i j (by omega) i2 c3.2 c2 (fun e => hns (e ▸ c3.1)) q⟩⟩
theorem mx_Inv_all {a : Nat → Nat → Int} {n : Nat} (h : mx_Good a n) : ∀ k, k ≤ n → mx_Inv a n k
  | 0, _ => mx_Inv_0 h
  | k + 1, hk => mx_Inv_s (mx_Inv_all h k (by omega)) (by omega)
/-- the rows above the pivot: columns of the matrix -/
theorem mx_C_np {a : Nat → Nat → Int} {n : Nat} (h : mx_Good a n) : ∀ k, k ≤ n → ∀ t j, t < k → k ≤ j → j < n → ds_C a k t j ≤ 0
  | 0, _, t, _, ht, _, _ => absurd ht (by omega)
  | k + 1, hk, t, j, ht, hj, hn => by
    have hI := mx_Inv_all h k (by omega)
    have hp := mx_Inv_pivot hI (by omega)
    rcases Nat.lt_or_ge t k with q | q
    · refine ds_inp (hI.1 k (Nat.le_refl k)) ?_
      rw [ds_C_step a k j t (mx_Inv_ne hI) q]
      have e1 := ds_imm (mx_C_np h k (by omega) t k q (Nat.le_refl k) (by omega)) (hI.2.1 k j (Nat.le_refl k) (by omega) (by omega) hn (by omega))
      have e2 := ds_imp (mx_C_np h k (by omega) t j q (by omega) hn) (Int.le_of_lt hp)
      rw [Int.mul_comm] at e2
      omega
    · rw [show t = k by omega, ds_C_new]
      exact hI.2.1 k j (Nat.le_refl k) (by omega) (by omega) hn (by omega)
/-- a right side of numbers not below 0 -/
theorem mx_Rhs {a : Nat → Nat → Int} {n j : Nat} (h : mx_Good a n) (hj : ∀ i, i < n → 0 ≤ a i j) : ∀ k, k ≤ n → (∀ i, i < n → 0 ≤ ds_m a k i j) ∧ ∀ t, t < k → 0 ≤ ds_C a k t j
  | 0, _ => ⟨fun i hi => by rw [ds_m_0]; exact hj i hi, fun t ht => absurd ht (by omega)⟩
  | k + 1, hk => by
    have hI := mx_Inv_all h k (by omega)
    have hp := mx_Inv_pivot hI (by omega)
    obtain ⟨m1, c1⟩ := mx_Rhs h hj k (by omega)
    refine ⟨fun i hi => ?_, fun t ht => ?_⟩
    · rcases Nat.lt_or_ge i (k + 1) with q | q
      · rw [ds_m_low a (k + 1) i j q]; exact Int.le_refl 0
      · refine ds_inn (hI.1 k (Nat.le_refl k)) ?_
        rw [ds_m_step a k i j (mx_Inv_ne hI)]
        have e1 := Int.mul_nonneg (Int.le_of_lt hp) (m1 i hi)
        have e2 := ds_imp (hI.2.1 i k (by omega) hi (Nat.le_refl k) (by omega) (by omega)) (m1 k (by omega))
        omega
    · rcases Nat.lt_or_ge t k with q | q
      · refine ds_inn (hI.1 k (Nat.le_refl k)) ?_
        rw [ds_C_step a k j t (mx_Inv_ne hI) q]
        have e1 := Int.mul_nonneg (Int.le_of_lt hp) (c1 t q)
        have e2 := ds_imp (mx_C_np h k (by omega) t k q (Nat.le_refl k) (by omega)) (m1 k (by omega))
        omega
      · rw [show t = k by omega, ds_C_new]
        exact m1 k (by omega)
/-- the size of a determinant: at most the product of the columns' sums -/
def ds_nS (f : Nat → Nat) : Nat → Nat
  | 0 => 0
  | n + 1 => ds_nS f n + f n
def ds_nP (f : Nat → Nat) : Nat → Nat
  | 0 => 1
  | n + 1 => ds_nP f n * f n
theorem ds_nP_congr {f g : Nat → Nat} : ∀ {n : Nat}, (∀ i, i < n → f i = g i) → ds_nP f n = ds_nP g n
  | 0, _ => rfl
  | n + 1, h => by
    show ds_nP f n * f n = ds_nP g n * g n
    rw [ds_nP_congr (fun i hi => h i (by omega)), h n (by omega)]
theorem ds_nS_congr {f g : Nat → Nat} : ∀ {n : Nat}, (∀ i, i < n → f i = g i) → ds_nS f n = ds_nS g n
  | 0, _ => rfl
  | n + 1, h => by
    show ds_nS f n + f n = ds_nS g n + g n
    rw [ds_nS_congr (fun i hi => h i (by omega)), h n (by omega)]
theorem ds_nP_mono {f g : Nat → Nat} : ∀ {n : Nat}, (∀ i, i < n → f i ≤ g i) → ds_nP f n ≤ ds_nP g n
  | 0, _ => Nat.le_refl 1
  | n + 1, h => Nat.mul_le_mul (ds_nP_mono (fun i hi => h i (by omega))) (h n (by omega))
theorem ds_nS_mono {f g : Nat → Nat} : ∀ {n : Nat}, (∀ i, i < n → f i ≤ g i) → ds_nS f n ≤ ds_nS g n
  | 0, _ => Nat.le_refl 0
  | n + 1, h => Nat.add_le_add (ds_nS_mono (fun i hi => h i (by omega))) (h n (by omega))
theorem ds_nS_mul (c : Nat) (f : Nat → Nat) : ∀ n : Nat, ds_nS (fun i => f i * c) n = ds_nS f n * c
  | 0 => by simp [ds_nS]
  | n + 1 => by
    show ds_nS (fun i => f i * c) n + f n * c = (ds_nS f n + f n) * c
    rw [ds_nS_mul c f n, Nat.add_mul]
theorem ds_S_abs (f : Nat → Int) : ∀ n : Nat, (ds_S f n).natAbs ≤ ds_nS (fun i => (f i).natAbs) n
  | 0 => Nat.le_refl 0
  | n + 1 => by
    have h1 := ds_S_abs f n
    have h2 := Int.natAbs_add_le (ds_S f n) (f n)
    show (ds_S f n + f n).natAbs ≤ ds_nS (fun i => (f i).natAbs) n + (f n).natAbs
    omega
theorem ds_nP_erase (x y : Nat → Nat) : ∀ n : Nat, ds_nS (fun s => y s * ds_nP (fun t => x (ds_E (fun u => u) s t)) n) (n + 1) ≤ ds_nP (fun t => x t + y t) (n + 1)
  | 0 => by
    show 0 + y 0 * 1 ≤ 1 * (x 0 + y 0)
    omega
  | n + 1 => by
    have ih := ds_nP_erase x y n
    have e1 : ds_nS (fun s => y s * ds_nP (fun t => x (ds_E (fun u => u) s t)) (n + 1)) (n + 1) = ds_nS (fun s => y s * ds_nP (fun t => x (ds_E (fun u => u) s t)) n) (n + 1) * x (n + 1) := by
      rw [← ds_nS_mul]
      refine ds_nS_congr fun s hs => ?_
      show y s * (ds_nP (fun t => x (ds_E (fun u => u) s t)) n * x (ds_E (fun u => u) s n)) = _
      have : ds_E (fun u => u) s n = n + 1 := by unfold ds_E; rw [if_neg (by omega)]
      rw [this, Nat.mul_assoc]
    have e2 : ds_nP (fun t => x (ds_E (fun u => u) (n + 1) t)) (n + 1) = ds_nP x (n + 1) := ds_nP_congr fun t ht => by
      unfold ds_E
      rw [if_pos (by omega)]
    have e3 : ds_nP x (n + 1) ≤ ds_nP (fun t => x t + y t) (n + 1) := ds_nP_mono fun t _ => by omega
    show ds_nS (fun s => y s * ds_nP (fun t => x (ds_E (fun u => u) s t)) (n + 1)) (n + 1) + y (n + 1) * ds_nP (fun t => x (ds_E (fun u => u) (n + 1) t)) (n + 1) ≤ ds_nP (fun t => x t + y t) (n + 1) * (x (n + 1) + y (n + 1))
    rw [e1, e2, Nat.mul_add]
    refine Nat.add_le_add (Nat.mul_le_mul_right _ ih) ?_
    rw [Nat.mul_comm]
    exact Nat.mul_le_mul_right _ e3
theorem ds_D_le (a : Nat → Nat → Int) : ∀ (k : Nat) (J : Nat → Nat), (ds_D a k J).natAbs ≤ ds_nP (fun t => ds_nS (fun i => (a i (J t)).natAbs) k) k
  | 0, _ => Nat.le_refl 1
  | k + 1, J => by
    refine Nat.le_trans (ds_S_abs _ (k + 1)) ?_
    refine Nat.le_trans ?_ (ds_nP_erase (fun t => ds_nS (fun i => (a i (J t)).natAbs) k) (fun t => (a k (J t)).natAbs) k)
    refine ds_nS_mono fun s hs => ?_
    rw [Int.natAbs_mul, Int.natAbs_mul]
    have e1 : (ds_G (k + s)).natAbs = 1 := by
      unfold ds_G
      by_cases q : (k + s) % 2 = 0
      · rw [if_pos q]; rfl
      · rw [if_neg q]; rfl
    rw [e1, Nat.one_mul]
    refine Nat.mul_le_mul_left _ ?_
    refine Nat.le_trans (ds_D_le a k (ds_E J s)) (Nat.le_of_eq (ds_nP_congr fun t ht => ?_))
    show ds_nS (fun i => (a i (ds_E J s t)).natAbs) k = ds_nS (fun i => (a i (J (ds_E (fun u => u) s t))).natAbs) k
    unfold ds_E
    by_cases q : t < s
    · rw [if_pos q, if_pos q]
    · rw [if_neg q, if_neg q]
end
section
/-- the same numbers but for those that eliminateCell works with -/
def sameE (V V' : Nat → Nat) : Prop := ∀ i, i < 132 → i ≠ 109 → i ≠ 110 → i ≠ 114 → i ≠ 115 → i ≠ 116 → V' i = V i
theorem sameE.tr {V1 V2 V3 : Nat → Nat} (h : sameE V1 V2) (g : sameE V2 V3) : sameE V1 V3 := fun i a b c d e f => (g i a b c d e f).trans (h i a b c d e f)
section FL6
variable {l : Launch} {D : va_G} {ca : Nat → ClassId}
set_option maxRecDepth 4000 in
theorem c_Fl_eliminateCell {m : jm_M} {ad V : Nat → Nat} {r c p : Nat} (S : SST m ad) (hV : WV m ad V) (hr : r < 9) (hc : c < 12) (hp : p < 9) (hrp : r ≠ p) (hcp : c ≠ p) (hb0 : 0 < V 108) (hb : V 108 < wB ^ 12) (hbig : V (12 * p + p) * V (12 * r + c) + V (12 * r + p) * V (12 * p + c) < wB ^ 12) (hdg : r = c → V (12 * r + p) * V (12 * p + c) ≤ V (12 * p + p) * V (12 * r + c)) : jm_C l D ca n_Fl_eliminateCell [.ref (ad 2), .int (nI r), .int (nI c), .int (nI p)] m 0 0 (fun v m' => v = none ∧ FRW ad m m' ∧ ∃ V', WV m' ad V' ∧ sameE (va_up V (12 * r + c) ((if r = c then V (12 * p + p) * V (12 * r + c) - V (12 * r + p) * V (12 * p + c) else V (12 * p + p) * V (12 * r + c) + V (12 * r + p) * V (12 * p + c)) / V 108)) V') := by
  refine jm_C_of (cd := cd_Fl_eliminateCell) (ini := false) (by decide +kernel) ok_Fl_eliminateCell (fun h => by cases h) (Nat.le_of_ble_eq_true rfl) ?_
  intro X hX
  have h1213 : wB ^ 12 ≤ wB ^ 13 := Nat.pow_le_pow_right (by decide) (by decide)
  have hi1 : 12 * r + c < 108 := by omega
  have hi2 : 12 * r + p < 108 := by omega
  have hi3 : 12 * p + c < 108 := by omega
  have hi4 : 12 * p + p < 108 := by omega
  have n12 : 12 * r + c ≠ 12 * r + p := by omega
  have key1 := c_Fl_cell (l := l) (D := D) (ca := ca) (r := r) (c := c) S hi1
  have key2 := c_Fl_cell (l := l) (D := D) (ca := ca) (r := r) (c := p) S hi2
  have key3 := c_Fl_cell (l := l) (D := D) (ca := ca) (r := p) (c := c) S hi3
  have key4 := c_Fl_cell (l := l) (D := D) (ca := ca) (r := p) (c := p) S hi4
  generalize e1 : 12 * r + c = i1 at *
  generalize e2 : 12 * r + p = i2 at *
  generalize e3 : 12 * p + c = i3 at *
  generalize e4 : 12 * p + p = i4 at *
  have o2 : ∀ {m' : jm_M}, SST m' ad → jm_ok m' (ad 2) 1 := fun S => S.ok 2 (Or.inl (by decide))
  have o4 : ∀ {m' : jm_M}, SST m' ad → jm_ok m' (ad 4) 0 := fun S => S.ok 4 (Or.inl (by decide))
  have r4 : ∀ {m' : jm_M}, SST m' ad → m'.2.2.2.2 (ad 2) 0 = some (ad 4) := fun S => S.2.2.1 (2, 0, 4) (by decide)
  have rb : ∀ {m' : jm_M}, SST m' ad → m'.2.2.2.2 (ad 2) 1 = some (ad 316) := fun S => S.2.2.1 (2, 1, 316) (by decide)
  have rf : ∀ {m' : jm_M}, SST m' ad → m'.2.2.2.2 (ad 2) 9 = some (ad 318) := fun S => S.2.2.1 (2, 9, 318) (by decide)
  have rs : ∀ {m' : jm_M}, SST m' ad → m'.2.2.2.2 (ad 2) 10 = some (ad 320) := fun S => S.2.2.1 (2, 10, 320) (by decide)
  have rq : ∀ {m' : jm_M}, SST m' ad → m'.2.2.2.2 (ad 4) 0 = some (ad 328) := fun S => S.2.2.1 (4, 0, 328) (by decide)
  generalize hnum : (if r = c then V i4 * V i1 - V i2 * V i3 else V i4 * V i1 + V i2 * V i3) = num at hX ⊢
  have hn12 : num < wB ^ 12 := by
    rw [← hnum]
    split
    · exact Nat.lt_of_le_of_lt (Nat.sub_le _ _) (Nat.lt_of_le_of_lt (Nat.le_add_right _ _) hbig)
    · exact hbig
  have join : ∀ (m2 : jm_M) (V2 : Nat → Nat), FRW ad m m2 → WV m2 ad V2 → V2 109 = num → (∀ i, i < 132 → i ≠ 109 → i ≠ 110 → V2 i = V i) → X 106 [(0, .ref (ad 2)), (4, .ref (ad (100 + 2 * i1)))] [] m2 0 0 := by
    intro m2 V2 hR hV2 h109 hsm
    have S2 := hR.S S
    have h108 : V2 108 = V 108 := hsm 108 (by decide) (by decide) (by decide)
    have key := c_Dv_divide (l := l) (D := D) (ca := ca) (ia := 109) (iu := 108) S2 hV2 (by decide) (by decide) (by decide) (by decide) (by rw [h109]; exact hn12) (by rw [h108]; exact hb)
    refine jm_run hX [] 40 ?_
    refine And.intro (o2 S2) ⟨some (ad 4), r4 S2, And.intro (o2 S2) ⟨some (ad 318), rf S2, And.intro (o2 S2) ⟨some (ad 316), rb S2, ?_⟩⟩⟩
    refine And.intro (o4 S2) (And.intro (Nat.le_of_ble_eq_true rfl) (And.intro (Nat.le_of_ble_eq_true rfl) ⟨0, 0, _, Nat.le_refl _, Nat.le_refl _, key, fun v m3 hq => ?_⟩))
    obtain ⟨rfl, hR3, z, hV3⟩ := hq
    have S3 := hR3.S S2
    have k2 := w_b2 (l := l) (D := D) (ca := ca) (i := i1) (j := 114) S3 hV3 (by omega) (by decide)
    refine And.intro (o2 S3) ⟨some (ad 4), r4 S3, And.intro (o4 S3) ⟨some (ad 328), rq S3, ?_⟩⟩
    refine And.intro (S3.wh i1 (by omega)).1 (And.intro (Nat.le_of_ble_eq_true rfl) (And.intro (Nat.le_of_ble_eq_true rfl) ⟨0, 0, _, Nat.le_refl _, Nat.le_refl _, k2, fun v m4 hq => ?_⟩))
    obtain ⟨rfl, hR4, hV4⟩ := hq
    refine ⟨Nat.le_refl _, Nat.le_refl _, trivial, rfl, hR.tr (hR3.tr hR4), _, hV4, fun i a b c d e f => ?_⟩
    by_cases q : i = i1
    · subst q
      rw [va_up_self, va_up_self, va_up_ne _ _ (by decide), va_up_ne _ _ (by decide), va_up_self, h109, h108]
    · rw [va_up_ne _ _ q, va_up_ne _ _ q, va_up_ne _ _ f, va_up_ne _ _ e, va_up_ne _ _ d]
      exact hsm i a b c
  have main : X 49 [(0, .ref (ad 2)), (1, .int (nI r)), (2, .int (nI c)), (3, .int (nI p)), (4, .ref (ad (100 + 2 * i1))), (5, .ref (ad (100 + 2 * i2))), (6, .ref (ad (100 + 2 * i3)))] [] m 0 0 := by
    have k1 := w_mul (l := l) (D := D) (ca := ca) (i := 109) (j := i4) (k := i1) S hV (by decide) (by omega) (by omega) (by omega) (by omega) (Nat.lt_of_le_of_lt (Nat.le_add_right _ _) (Nat.lt_of_lt_of_le hbig h1213))
    refine jm_run hX [(106, [0, 4])] 60 ?_
    refine And.intro (o2 S) ⟨some (ad 318), rf S, ?_⟩
    refine And.intro (o2 S) (And.intro (Nat.le_of_ble_eq_true rfl) (And.intro (Nat.le_of_ble_eq_true rfl) ⟨0, 0, _, Nat.le_refl _, Nat.le_refl _, key4, fun v m' hq => ?_⟩))
    obtain ⟨ee, rfl⟩ := hq
    have ee := ee.symm
    subst ee
    refine And.intro (S.wh 109 (by decide)).1 (And.intro (Nat.le_of_ble_eq_true rfl) (And.intro (Nat.le_of_ble_eq_true rfl) ⟨0, 0, _, Nat.le_refl _, Nat.le_refl _, k1, fun v m1 hq => ?_⟩))
    obtain ⟨rfl, hR1, hV1⟩ := hq
    have S1 := hR1.S S
    have k2 := w_mul (l := l) (D := D) (ca := ca) (i := 110) (j := i2) (k := i3) S1 hV1 (by decide) (by omega) (by omega) (by omega) (by omega) (by
      rw [va_up_ne _ _ (show i2 ≠ 109 by omega), va_up_ne _ _ (show i3 ≠ 109 by omega)]
      exact Nat.lt_of_le_of_lt (Nat.le_add_left _ _) (Nat.lt_of_lt_of_le hbig h1213))
    rw [va_up_ne _ _ (show i2 ≠ 109 by omega), va_up_ne _ _ (show i3 ≠ 109 by omega)] at k2
    refine And.intro (o2 S1) ⟨some (ad 320), rs S1, ?_⟩
    refine And.intro (S1.wh 110 (by decide)).1 (And.intro (Nat.le_of_ble_eq_true rfl) (And.intro (Nat.le_of_ble_eq_true rfl) ⟨0, 0, _, Nat.le_refl _, Nat.le_refl _, k2, fun v m2 hq => ?_⟩))
    obtain ⟨rfl, hR2, hV2⟩ := hq
    have S2 := hR2.S S1
    have g109 : va_up (va_up V 109 (V i4 * V i1)) 110 (V i2 * V i3) 109 = V i4 * V i1 := by rw [va_up_ne _ _ (by decide), va_up_self]
    have g110 : va_up (va_up V 109 (V i4 * V i1)) 110 (V i2 * V i3) 110 = V i2 * V i3 := va_up_self _ _ _
    refine And.intro (fun g => ?_) (fun g => ?_)
    · have g : nI r = nI c := g
      have he : r = c := (nI_eq (by omega) (by omega)).mp g
      rw [if_pos he] at hnum
      have k3 := w_sub (l := l) (D := D) (ca := ca) (i := 109) (j := 110) S2 hV2 (by decide) (by decide) (by decide) (by rw [g109, g110]; exact hdg he)
      rw [g109, g110, hnum] at k3
      refine And.intro (o2 S2) ⟨some (ad 318), rf S2, And.intro (o2 S2) ⟨some (ad 320), rs S2, ?_⟩⟩
      refine And.intro (S2.wh 109 (by decide)).1 (And.intro (Nat.le_of_ble_eq_true rfl) (And.intro (Nat.le_of_ble_eq_true rfl) ⟨0, 0, _, Nat.le_refl _, Nat.le_refl _, k3, fun v m3 hq => ?_⟩))
      obtain ⟨rfl, hR3, hV3⟩ := hq
      exact join m3 _ (hR1.tr (hR2.tr hR3)) hV3 (va_up_self _ _ _) (fun i h1 h2 h3 => by rw [va_up_ne _ _ h2, va_up_ne _ _ h3, va_up_ne _ _ h2])
    · -- beside the diagonal
      have g : ¬ nI r = nI c := g
      have hne : r ≠ c := fun e => g (by rw [e])
      rw [if_neg hne] at hnum
      have k3 := w_add (l := l) (D := D) (ca := ca) (i := 109) (j := 110) (F := 1) S2 hV2 (by decide) (by decide) (by decide) (by decide) (by rw [g109, g110, Nat.one_mul]; exact Nat.lt_of_lt_of_le hbig h1213)
      rw [g109, g110, Nat.one_mul, hnum] at k3
      refine And.intro (o2 S2) ⟨some (ad 318), rf S2, And.intro (o2 S2) ⟨some (ad 320), rs S2, ?_⟩⟩
      refine And.intro (S2.wh 109 (by decide)).1 (And.intro (Nat.le_of_ble_eq_true rfl) (And.intro (Nat.le_of_ble_eq_true rfl) ⟨0, 0, _, Nat.le_refl _, Nat.le_refl _, k3, fun v m3 hq => ?_⟩))
      obtain ⟨rfl, hR3, hV3⟩ := hq
      exact join m3 _ (hR1.tr (hR2.tr hR3)) hV3 (va_up_self _ _ _) (fun i h1 h2 h3 => by rw [va_up_ne _ _ h2, va_up_ne _ _ h3, va_up_ne _ _ h2])
  -- the answer where nothing is to be done
  have none0 : V i1 = 0 → (V i2 = 0 ∨ V i3 = 0) → sameE (va_up V i1 (num / V 108)) V := by
    intro z1 z2
    have hz : num = 0 := by
      rw [← hnum, z1, Nat.mul_zero]
      rcases z2 with z | z
      · rw [z, Nat.zero_mul]; split <;> rfl
      · rw [z, Nat.mul_zero]; split <;> rfl
    intro i a b c d e f
    rw [hz, Nat.zero_div]
    by_cases q : i = i1
    · subst q; rw [va_up_self]; exact z1
    · rw [va_up_ne _ _ q]
  refine jm_run hX [(49, [0, 1, 2, 3, 4, 5, 6])] 40 ?_
  refine And.intro (o2 S) (And.intro (Nat.le_of_ble_eq_true rfl) (And.intro (Nat.le_of_ble_eq_true rfl) ⟨0, 0, _, Nat.le_refl _, Nat.le_refl _, key1, fun v m' hq => ?_⟩))
  obtain ⟨ee, rfl⟩ := hq
  have ee := ee.symm
  subst ee
  refine And.intro (o2 S) (And.intro (Nat.le_of_ble_eq_true rfl) (And.intro (Nat.le_of_ble_eq_true rfl) ⟨0, 0, _, Nat.le_refl _, Nat.le_refl _, key2, fun v m' hq => ?_⟩))
  obtain ⟨ee, rfl⟩ := hq
  have ee := ee.symm
  subst ee
  refine And.intro (o2 S) (And.intro (Nat.le_of_ble_eq_true rfl) (And.intro (Nat.le_of_ble_eq_true rfl) ⟨0, 0, _, Nat.le_refl _, Nat.le_refl _, key3, fun v m' hq => ?_⟩))
  obtain ⟨ee, rfl⟩ := hq
  have ee := ee.symm
  subst ee
  refine And.intro (S.wh i1 (by omega)).1 (And.intro (Nat.le_of_ble_eq_true rfl) (And.intro (Nat.le_of_ble_eq_true rfl) ⟨0, 0, _, Nat.le_refl _, Nat.le_refl _, w_zero S hV (by omega), fun v m' hq => ?_⟩))
  obtain ⟨ee, rfl⟩ := hq
  have ee := ee.symm
  subst ee
  by_cases z1 : V i1 = 0
  · rw [if_pos z1]
    refine And.intro (fun g => absurd g (by decide)) (fun _ => ?_)
    refine And.intro (S.wh i2 (by omega)).1 (And.intro (Nat.le_of_ble_eq_true rfl) (And.intro (Nat.le_of_ble_eq_true rfl) ⟨0, 0, _, Nat.le_refl _, Nat.le_refl _, w_zero S hV (by omega), fun v m' hq => ?_⟩))
    obtain ⟨ee, rfl⟩ := hq
    have ee := ee.symm
    subst ee
    by_cases z2 : V i2 = 0
    · rw [if_pos z2]
      refine And.intro (fun g => absurd g (by decide)) (fun _ => ?_)
      exact ⟨Nat.le_refl _, Nat.le_refl _, trivial, rfl, FRW.rf, V, hV, none0 z1 (Or.inl z2)⟩
    · rw [if_neg z2]
      refine And.intro (fun _ => ?_) (fun g => absurd rfl g)
      refine And.intro (S.wh i3 (by omega)).1 (And.intro (Nat.le_of_ble_eq_true rfl) (And.intro (Nat.le_of_ble_eq_true rfl) ⟨0, 0, _, Nat.le_refl _, Nat.le_refl _, w_zero S hV (by omega), fun v m' hq => ?_⟩))
      obtain ⟨ee, rfl⟩ := hq
      have ee := ee.symm
      subst ee
      by_cases z3 : V i3 = 0
      · rw [if_pos z3]
        refine And.intro (fun g => absurd g (by decide)) (fun _ => ?_)
        exact ⟨Nat.le_refl _, Nat.le_refl _, trivial, rfl, FRW.rf, V, hV, none0 z1 (Or.inr z3)⟩
      · rw [if_neg z3]
        exact And.intro (fun _ => main) (fun g => absurd rfl g)
  · rw [if_neg z1]
    exact And.intro (fun _ => main) (fun g => absurd rfl g)
end FL6
end
section
/-! Bareiss on the cells: beside the diagonal they stand for their negatives. -/
def bz_v (a : Nat → Nat → Int) (k i j : Nat) : Int := if i < k then ds_C a k i j else ds_m a k i j
def bz_g (n i j : Nat) : Int := if i = j ∨ n ≤ j then 1 else -1
def bz_E (a : Nat → Nat → Int) (n rs k r c : Nat) (V : Nat → Nat) : Prop :=
  (V 108 : Int) = ds_d a k ∧ (∀ i, i < n → (V (12 * i + k) : Int) = bz_g n i k * bz_v a k i k) ∧
  ∀ i, i < n → ∀ j, k < j → j < n + rs → (V (12 * i + j) : Int) = bz_g n i j * (if i ≠ k ∧ (i < r ∨ (i = r ∧ j < c)) then bz_v a (k + 1) i j else bz_v a k i j)
/-- how big all of it is -/
def bz_B (a : Nat → Nat → Int) (n rs B : Nat) : Prop := (∀ k, k ≤ n → (ds_d a k).natAbs ≤ B) ∧ ∀ k, k ≤ n → ∀ i, i < n → ∀ j, k ≤ j → j < n + rs → (bz_v a k i j).natAbs ≤ B
theorem mx_diag {a : Nat → Nat → Int} {n k r : Nat} (h : mx_Inv a n k) (hr : k ≤ r) (hn : r < n) : 0 ≤ ds_m a k r r := by
  have h3 := h.2.2.1 r hr hn
  unfold mx_Lk at h3
  have := ds_S_le1 (f := fun i => ds_m a k i r) hn (fun i hi hne => by
    rcases Nat.lt_or_ge i k with q | q
    · show ds_m a k i r ≤ 0
      rw [ds_m_low a k i r q]; exact Int.le_refl 0
    · exact h.2.1 i r q hi hr hn hne)
  omega
theorem bz_step (a : Nat → Nat → Int) {k r c : Nat} (hd : ∀ i, 1 ≤ i → i ≤ k → ds_d a i ≠ 0) (hrk : r ≠ k) : ds_d a k * bz_v a (k + 1) r c = ds_d a (k + 1) * bz_v a k r c - bz_v a k r k * ds_m a k k c := by
  unfold bz_v
  rcases Nat.lt_or_ge r k with q | q
  · rw [if_pos (by omega), if_pos q, if_pos q]
    exact ds_C_step a k c r hd q
  · rw [if_neg (by omega), if_neg (by omega), if_neg (by omega)]
    exact ds_m_step a k r c hd
theorem bz_kk (a : Nat → Nat → Int) (k : Nat) : bz_v a k k k = ds_d a (k + 1) := by
  unfold bz_v
  rw [if_neg (by omega)]; exact (ds_d_s a k).symm
theorem bz_kc (a : Nat → Nat → Int) (k c : Nat) : bz_v a k k c = ds_m a k k c := by
  unfold bz_v
  rw [if_neg (by omega)]
/-- one cell -/
theorem bz_cell {a : Nat → Nat → Int} {n rs k r c : Nat} {V : Nat → Nat} (hG : mx_Good a n) (hE : bz_E a n rs k r c V) (hk : k < n) (hr : r < n) (hrk : r ≠ k) (hc : k < c) (hcn : c < n + rs) :
    0 < V 108 ∧ (r = c → V (12 * r + k) * V (12 * k + c) ≤ V (12 * k + k) * V (12 * r + c)) ∧
    (((if r = c then V (12 * k + k) * V (12 * r + c) - V (12 * r + k) * V (12 * k + c) else V (12 * k + k) * V (12 * r + c) + V (12 * r + k) * V (12 * k + c)) / V 108 : Nat) : Int) = bz_g n r c * bz_v a (k + 1) r c := by
  obtain ⟨hb, hcol, hall⟩ := hE
  have hI := mx_Inv_all hG k (by omega)
  have hd := hI.1 k (Nat.le_refl k)
  have hne := mx_Inv_ne hI
  have hI1 := mx_Inv_all hG (k + 1) (by omega)
  have hpv := hcol k hk
  rw [bz_kk, show bz_g n k k = 1 from if_pos (Or.inl rfl), Int.one_mul] at hpv
  have htr := hcol r hr
  rw [show bz_g n r k = -1 from if_neg (by omega)] at htr
  have hx := hall r hr c hc hcn
  rw [if_neg (by omega)] at hx
  have hfc := hall k hk c hc hcn
  rw [if_neg (fun q => q.1 rfl), bz_kc] at hfc
  have hst := bz_step a (c := c) hne hrk
  have hb0 : 0 < V 108 := by omega
  rw [← hb, ← hpv] at hst
  generalize V (12 * k + k) = pv at *
  generalize V (12 * r + k) = tr at *
  generalize V (12 * r + c) = x at *
  generalize V (12 * k + c) = fc at *
  generalize V 108 = b at *
  generalize bz_v a k r k = vr at *
  generalize bz_v a k r c = vx at *
  generalize ds_m a k k c = vf at *
  have etr : vr = -(tr : Int) := by omega
  subst etr
  -- Nat divisions that come out
  have fin : ∀ N : Nat, (N : Int) = (b : Int) * (bz_g n r c * bz_v a (k + 1) r c) → ((N / b : Nat) : Int) = bz_g n r c * bz_v a (k + 1) r c := by
    intro N hN
    have h0 : 0 ≤ bz_g n r c * bz_v a (k + 1) r c := ds_inn (d := b) (by omega) (by omega)
    obtain ⟨w, hw⟩ := Int.eq_ofNat_of_zero_le h0
    rw [hw] at hN ⊢
    have : N = b * w := by
      have : (N : Int) = ((b * w : Nat) : Int) := by rw [hN]; simp
      exact Int.ofNat.inj this
    rw [this, Nat.mul_div_cancel_left _ hb0]
  by_cases e : r = c
  · subst e
    have hm := mx_diag (r := r) hI1 (by omega) hr
    rw [if_pos rfl]
    have g1 : bz_g n r r = 1 := if_pos (Or.inl rfl)
    have g2 : bz_g n k r = -1 := if_neg (by omega)
    rw [g1, Int.one_mul] at hx
    rw [g2] at hfc
    rw [g1] at fin ⊢
    have ev : bz_v a (k + 1) r r = ds_m a (k + 1) r r := if_neg (by omega)
    rw [ev] at hst fin ⊢
    have ef : vf = -(fc : Int) := by omega
    subst ef
    rw [← hx] at hst
    have h1 : (b : Int) * ds_m a (k + 1) r r = (pv * x : Nat) - (tr * fc : Nat) := by
      rw [hst]; simp [Int.neg_mul_neg]
    have h2 : 0 ≤ (b : Int) * ds_m a (k + 1) r r := Int.mul_nonneg (by omega) hm
    have hle : tr * fc ≤ pv * x := by omega
    refine ⟨hb0, fun _ => hle, fin _ ?_⟩
    rw [Int.one_mul, h1]; omega
  · rw [if_neg e]
    refine ⟨hb0, fun q => absurd q e, fin _ ?_⟩
    by_cases e2 : n ≤ c
    · have g1 : bz_g n r c = 1 := if_pos (Or.inr e2)
      have g2 : bz_g n k c = 1 := if_pos (Or.inr e2)
      rw [g1, Int.one_mul] at hx
      rw [g2, Int.one_mul] at hfc
      rw [g1, Int.one_mul, hst, ← hx, ← hfc]
      simp [Int.neg_mul]
    · have g1 : bz_g n r c = -1 := if_neg (by omega)
      have g2 : bz_g n k c = -1 := if_neg (by omega)
      rw [g1] at hx
      rw [g2] at hfc
      have ex : vx = -(x : Int) := by omega
      have ef : vf = -(fc : Int) := by omega
      subst ex
      subst ef
      have e3 : (b : Int) * (-1 * bz_v a (k + 1) r c) = - ((b : Int) * bz_v a (k + 1) r c) := by grind
      rw [g1, e3, hst]
      simp [Int.mul_neg, Int.neg_mul]
      omega
/-- behind the pivot k -/
theorem bz_next {a : Nat → Nat → Int} {n rs k c : Nat} {V V' : Nat → Nat} (hk : k < n) (hE : bz_E a n rs k n c V) (h108 : V' 108 = V (12 * k + k)) (hs : ∀ i, i < 108 → V' i = V i) (hn : n ≤ 9) (hrs : rs ≤ 3) (hk1 : k + 1 < n + rs) : bz_E a n rs (k + 1) 0 0 V' := by
  obtain ⟨hb, hcol, hall⟩ := hE
  have hpv := hcol k hk
  rw [bz_kk, show bz_g n k k = 1 from if_pos (Or.inl rfl), Int.one_mul] at hpv
  have one : ∀ i, i < n → ∀ j, k < j → j < n + rs → (V' (12 * i + j) : Int) = bz_g n i j * bz_v a (k + 1) i j := by
    intro i hi j hj hjn
    rw [hs _ (by omega), hall i hi j hj hjn]
    by_cases e : i = k
    · subst e
      rw [if_neg (fun q => q.1 rfl)]
      unfold bz_v
      rw [if_neg (by omega), if_pos (by omega), ds_C_new]
    · rw [if_pos ⟨e, Or.inl hi⟩]
  refine ⟨by rw [h108]; exact hpv, fun i hi => one i hi (k + 1) (by omega) hk1, fun i hi j hj hjn => ?_⟩
  rw [if_neg (by omega)]
  exact one i hi j (by omega) hjn
end
section
theorem bz_cg {a : Nat → Nat → Int} {n rs k r c r' c' : Nat} {V : Nat → Nat} (h : bz_E a n rs k r c V) (e : ∀ i j, i < n → k < j → j < n + rs → ((i ≠ k ∧ (i < r' ∨ (i = r' ∧ j < c'))) ↔ (i ≠ k ∧ (i < r ∨ (i = r ∧ j < c))))) : bz_E a n rs k r' c' V :=
  ⟨h.1, h.2.1, fun i hi j hj hjn => by rw [h.2.2 i hi j hj hjn, ite_iff (e i j hi hj hjn)]⟩
theorem bz_put {a : Nat → Nat → Int} {n rs k r c x : Nat} {V V' : Nat → Nat} (hn : n ≤ 9) (hrs : rs ≤ 3) (h : bz_E a n rs k r c V) (hs : sameE (va_up V (12 * r + c) x) V') (hr : r < n) (hrk : r ≠ k) (hc : k < c) (hcn : c < n + rs) (hx : (x : Int) = bz_g n r c * bz_v a (k + 1) r c) : bz_E a n rs k r (c + 1) V' := by
  have hs' : ∀ i, i < 109 → V' i = va_up V (12 * r + c) x i := fun i hi => hs i (by omega) (by omega) (by omega) (by omega) (by omega) (by omega)
  refine ⟨?_, fun i hi => ?_, fun i hi j hj hjn => ?_⟩
  · rw [hs' _ (by omega), va_up_ne _ _ (by omega)]; exact h.1
  · rw [hs' _ (by omega), va_up_ne _ _ (by omega)]; exact h.2.1 i hi
  · rw [hs' _ (by omega)]
    by_cases e : i = r ∧ j = c
    · obtain ⟨rfl, rfl⟩ := e
      rw [va_up_self, if_pos ⟨hrk, Or.inr ⟨rfl, by omega⟩⟩]; exact hx
    · rw [va_up_ne _ _ (by omega), h.2.2 i hi j hj hjn]
      exact congrArg (fun z => bz_g n i j * z) (ite_iff (by omega))
section FL7
variable {l : Launch} {D : va_G} {ca : Nat → ClassId}
set_option maxRecDepth 4000 in
theorem c_Fl_eliminate {m0 : jm_M} {ad V0 : Nat → Nat} {a : Nat → Nat → Int} {n rs B : Nat} (S : SST m0 ad) (hV0 : WV m0 ad V0) (hsz : m0.2.2.1 (ad 2) 3 = nI n) (hn : n ≤ 9) (hrs1 : 1 ≤ rs) (hrs : rs ≤ 3) (hG : mx_Good a n) (hB : bz_B a n rs B) (hBB : 2 * (B * B) < wB ^ 12) (hin : ∀ i, i < n → ∀ j, j < n + rs → (V0 (12 * i + j) : Int) = bz_g n i j * a i j) :
    jm_C l D ca n_Fl_eliminate [.ref (ad 2), .int (nI rs)] m0 0 0 (fun v m' => v = none ∧ FRW ad m0 m' ∧ ∃ V', WV m' ad V' ∧ (∀ i, 117 ≤ i → i < 132 → V' i = V0 i) ∧ (V' 108 : Int) = ds_d a n ∧ ∀ i, i < n → ∀ j, n ≤ j → j < n + rs → (V' (12 * i + j) : Int) = ds_C a n i j) := by
  refine jm_C_of (cd := cd_Fl_eliminate) (ini := false) (by decide +kernel) ok_Fl_eliminate (fun h => by cases h) (Nat.le_of_ble_eq_true rfl) ?_
  intro X hX
  have o2 : ∀ {m' : jm_M}, SST m' ad → jm_ok m' (ad 2) 1 := fun S => S.ok 2 (Or.inl (by decide))
  have rb : ∀ {m' : jm_M}, SST m' ad → m'.2.2.2.2 (ad 2) 1 = some (ad 316) := fun S => S.2.2.1 (2, 1, 316) (by decide)
  have hBlt : B < wB ^ 12 := by
    rcases Nat.eq_zero_or_pos B with q | q
    · rw [q]; exact Nat.pow_pos (by decide)
    · have : B * 1 ≤ B * B := Nat.mul_le_mul_left _ q
      omega
  have piv : ∀ (e k : Nat) (m : jm_M) (V : Nat → Nat), k + e = n → FRW ad m0 m → WV m ad V → (∀ i, 117 ≤ i → i < 132 → V i = V0 i) → bz_E a n rs k 0 0 V → X 10 [(0, .ref (ad 2)), (1, .int (nI rs)), (2, .int (nI k))] [] m 0 0 := by
    intro e
    induction e with
    | zero =>
      intro k m V hk hR hW ht hE
      have Sm := hR.S S
      have hs : m.2.2.1 (ad 2) 3 = nI n := by rw [hR.I S (by decide)]; exact hsz
      have ekn : k = n := by omega
      subst ekn
      refine jm_run hX [] 20 ?_
      refine And.intro (o2 Sm) (And.intro (fun _ => ?_) (fun g => ?_))
      · refine ⟨Nat.le_refl _, Nat.le_refl _, trivial, rfl, hR, V, hW, ht, hE.1, fun i hi j hj hjn => ?_⟩
        have ev : bz_v a k i j = ds_C a k i j := if_pos hi
        have eg : bz_g k i j = 1 := if_pos (Or.inr hj)
        rcases Nat.lt_or_ge k j with q | q
        · rw [hE.2.2 i hi j q hjn, if_neg (by omega), eg, ev, Int.one_mul]
        · have : j = k := by omega
          subst this
          rw [hE.2.1 i hi, eg, ev, Int.one_mul]
      · have g : ¬ m.2.2.1 (ad 2) 3 ≤ nI k := g
        rw [hs] at g
        exact absurd (nI_le (by omega) (by omega)) g
    | succ e ih =>
      intro k m V hk hR hW ht hE
      have hkn : k < n := by omega
      have hI := mx_Inv_all hG k (by omega)
      -- the rows
      have rows : ∀ (f r : Nat) (m : jm_M) (V : Nat → Nat), r + f = n → FRW ad m0 m → WV m ad V → (∀ i, 117 ≤ i → i < 132 → V i = V0 i) → bz_E a n rs k r (k + 1) V → X 20 [(0, .ref (ad 2)), (1, .int (nI rs)), (2, .int (nI k)), (3, .int (nI r))] [] m 0 0 := by
        intro f
        induction f with
        | zero =>
          intro r m V hr hR hW ht hE
          have Sm := hR.S S
          have hs : m.2.2.1 (ad 2) 3 = nI n := by rw [hR.I S (by decide)]; exact hsz
          have key1 := c_Fl_cell (l := l) (D := D) (ca := ca) (r := k) (c := k) Sm (by omega)
          have key2 := w_b2 (l := l) (D := D) (ca := ca) (i := 108) (j := 12 * k + k) Sm hW (by decide) (by omega)
          refine jm_run hX [(10, [0, 1, 2])] 30 ?_
          refine And.intro (o2 Sm) (And.intro (fun _ => ?_) (fun g => ?_))
          · refine And.intro (o2 Sm) ⟨some (ad 316), rb Sm, ?_⟩
            refine And.intro (o2 Sm) (And.intro (Nat.le_of_ble_eq_true rfl) (And.intro (Nat.le_of_ble_eq_true rfl) ⟨0, 0, _, Nat.le_refl _, Nat.le_refl _, key1, fun v m' hq => ?_⟩))
            obtain ⟨ee, rfl⟩ := hq
            have ee := ee.symm
            subst ee
            refine And.intro (Sm.wh 108 (by decide)).1 (And.intro (Nat.le_of_ble_eq_true rfl) (And.intro (Nat.le_of_ble_eq_true rfl) ⟨0, 0, _, Nat.le_refl _, Nat.le_refl _, key2, fun v m1 hq => ?_⟩))
            obtain ⟨rfl, hR1, hW1⟩ := hq
            have ern : r = n := by omega
            subst ern
            have kk := ih (k + 1) m1 _ (by omega) (hR.tr hR1) hW1 (fun i h1 h2 => by rw [va_up_ne _ _ (by omega)]; exact ht i h1 h2) (bz_next hkn hE (va_up_self _ _ _) (fun i hi => va_up_ne _ _ (by omega)) hn hrs (by omega))
            rw [← nI_1] at kk
            exact kk
          · have g : ¬ m.2.2.1 (ad 2) 3 ≤ nI r := g
            rw [hs] at g
            exact absurd (nI_le (by omega) (by omega)) g
        | succ f ihf =>
          intro r m V hr hR hW ht hE
          have hrn : r < n := by omega
          have Sm := hR.S S
          have hs : m.2.2.1 (ad 2) 3 = nI n := by rw [hR.I S (by decide)]; exact hsz
          have join : ∀ (m : jm_M) (V : Nat → Nat), FRW ad m0 m → WV m ad V → (∀ i, 117 ≤ i → i < 132 → V i = V0 i) → bz_E a n rs k (r + 1) (k + 1) V → X 66 [(0, .ref (ad 2)), (1, .int (nI rs)), (2, .int (nI k)), (3, .int (nI r))] [] m 0 0 := by
            intro m V hR hW ht hE
            have kk := ihf (r + 1) m V (by omega) hR hW ht hE
            rw [← nI_1] at kk
            refine jm_run hX [(20, [0, 1, 2, 3])] 10 ?_
            exact kk
          have cols : r ≠ k → ∀ (g c : Nat) (m : jm_M) (V : Nat → Nat), c + g = n + rs → k < c → FRW ad m0 m → WV m ad V → (∀ i, 117 ≤ i → i < 132 → V i = V0 i) → bz_E a n rs k r c V → X 41 [(0, .ref (ad 2)), (1, .int (nI rs)), (2, .int (nI k)), (3, .int (nI r)), (4, .int (nI c))] [] m 0 0 := by
            intro hrk g
            induction g with
            | zero =>
              intro c m V hc hkc hR hW ht hE
              have Sm := hR.S S
              have hs : m.2.2.1 (ad 2) 3 = nI n := by rw [hR.I S (by decide)]; exact hsz
              refine jm_run hX [(66, [0, 1, 2, 3])] 20 ?_
              refine And.intro (o2 Sm) (And.intro (fun _ => ?_) (fun g => ?_))
              · exact join m V hR hW ht (bz_cg hE (fun i j h1 h2 h3 => by omega))
              · have g : ¬ m.2.2.1 (ad 2) 3 + nI rs ≤ nI c := g
                rw [hs, nI_add] at g
                exact absurd (nI_le (by omega) (by omega)) g
            | succ g ihg =>
              intro c m V hc hkc hR hW ht hE
              have Sm := hR.S S
              have hs : m.2.2.1 (ad 2) 3 = nI n := by rw [hR.I S (by decide)]; exact hsz
              have hcn : c < n + rs := by omega
              obtain ⟨c1, c2, c3⟩ := bz_cell hG hE hkn hrn hrk hkc hcn
              -- sizes
              have sz : ∀ i j, i < n → k ≤ j → j < n + rs → (j = k ∨ ¬ (i ≠ k ∧ (i < r ∨ (i = r ∧ j < c)))) → V (12 * i + j) ≤ B := by
                intro i j hi hj hjn hno
                have hv := hB.2 k (by omega) i hi j hj hjn
                have e1 : (V (12 * i + j) : Int) = bz_g n i j * bz_v a k i j := by
                  rcases Nat.lt_or_ge k j with q | q
                  · rw [hE.2.2 i hi j q hjn, if_neg (by omega)]
                  · have : j = k := by omega
                    subst this
                    exact hE.2.1 i hi
                have e2 := congrArg Int.natAbs e1
                rw [Int.natAbs_mul] at e2
                have e3 : (bz_g n i j).natAbs = 1 := by unfold bz_g; split <;> rfl
                rw [e3, Nat.one_mul] at e2
                omega
              have b1 := sz k k hkn (Nat.le_refl k) (by omega) (Or.inl rfl)
              have b2 := sz r c hrn (by omega) hcn (Or.inr (by omega))
              have b3 := sz r k hrn (Nat.le_refl k) (by omega) (Or.inl rfl)
              have b4 := sz k c hkn (by omega) hcn (Or.inr (fun q => q.1 rfl))
              have b5 : V 108 ≤ B := by
                have h1 := hB.1 k (by omega)
                have h2 := congrArg Int.natAbs hE.1
                omega
              have m1 := Nat.mul_le_mul b1 b2
              have m2 := Nat.mul_le_mul b3 b4
              have key := c_Fl_eliminateCell (l := l) (D := D) (ca := ca) (r := r) (c := c) (p := k) Sm hW (by omega) (by omega) (by omega) hrk (by omega) c1 (by omega) (by omega) c2
              refine jm_run hX [(41, [0, 1, 2, 3, 4])] 20 ?_
              refine And.intro (o2 Sm) (And.intro (fun g => ?_) (fun _ => ?_))
              · have g : m.2.2.1 (ad 2) 3 + nI rs ≤ nI c := g
                rw [hs, nI_add] at g
                exact absurd g (nI_ge (by omega) (by omega))
              refine And.intro (o2 Sm) (And.intro (Nat.le_of_ble_eq_true rfl) (And.intro (Nat.le_of_ble_eq_true rfl) ⟨0, 0, _, Nat.le_refl _, Nat.le_refl _, key, fun v m3 hq => ?_⟩))
              obtain ⟨rfl, hR3, V3, hW3, hs3⟩ := hq
              have kk := ihg (c + 1) m3 V3 (by omega) (by omega) (hR.tr hR3) hW3 (fun i h1 h2 => by rw [hs3 i h2 (by omega) (by omega) (by omega) (by omega) (by omega), va_up_ne _ _ (by omega)]; exact ht i h1 h2) (bz_put hn hrs hE hs3 hrn hrk hkc hcn c3)
              rw [← nI_1] at kk
              exact kk
          refine jm_run hX [(66, [0, 1, 2, 3]), (41, [0, 1, 2, 3, 4])] 20 ?_
          refine And.intro (o2 Sm) (And.intro (fun g => ?_) (fun _ => ?_))
          · have g : m.2.2.1 (ad 2) 3 ≤ nI r := g
            rw [hs] at g
            exact absurd g (nI_ge (by omega) (by omega))
          refine And.intro (fun g => ?_) (fun g => ?_)
          · have g : nI r = nI k := g
            have e : r = k := (nI_eq (by omega) (by omega)).mp g
            exact join m V hR hW ht (bz_cg hE (fun i j h1 h2 h3 => by omega))
          · have g : ¬ nI r = nI k := g
            have hrk : r ≠ k := fun e => g (by rw [e])
            have kk := cols hrk (n + rs - (k + 1)) (k + 1) m V (by omega) (by omega) hR hW ht hE
            rw [← nI_1] at kk
            exact kk
      have Sm := hR.S S
      have hs : m.2.2.1 (ad 2) 3 = nI n := by rw [hR.I S (by decide)]; exact hsz
      refine jm_run hX [(20, [0, 1, 2, 3])] 20 ?_
      refine And.intro (o2 Sm) (And.intro (fun g => ?_) (fun _ => ?_))
      · have g : m.2.2.1 (ad 2) 3 ≤ nI k := g
        rw [hs] at g
        exact absurd g (nI_ge (by omega) (by omega))
      exact rows n 0 m V (by omega) hR hW ht (bz_cg hE (fun i j h1 h2 h3 => by omega))
  have key := w_b1 (l := l) (D := D) (ca := ca) (i := 108) (x := 1) S hV0 (by decide) (by decide)
  refine jm_run hX [(10, [0, 1, 2])] 20 ?_
  refine And.intro (o2 S) ⟨some (ad 316), rb S, ?_⟩
  refine And.intro (S.wh 108 (by decide)).1 (And.intro (Nat.le_of_ble_eq_true rfl) (And.intro (Nat.le_of_ble_eq_true rfl) ⟨0, 0, _, Nat.le_refl _, Nat.le_refl _, key, fun v m1 hq => ?_⟩))
  obtain ⟨rfl, hR1, hW1⟩ := hq
  have ev : ∀ i j, bz_v a 0 i j = a i j := fun i j => by unfold bz_v; rw [if_neg (by omega), ds_m_0]
  refine piv n 0 m1 _ (by omega) hR1 hW1 (fun i h1 h2 => va_up_ne _ _ (by omega)) ⟨by rw [va_up_self]; rfl, fun i hi => ?_, fun i hi j hj hjn => ?_⟩
  · rw [va_up_ne _ _ (by omega), ev]; exact hin i hi 0 (by omega)
  · rw [va_up_ne _ _ (by omega), if_neg (by omega), ev]; exact hin i hi j hjn
end FL7
end
section
theorem ds_nS_le {f : Nat → Nat} {i n : Nat} (h : i ≤ n) : ds_nS f i ≤ ds_nS f n := by
  induction n with
  | zero => rw [show i = 0 by omega]; exact Nat.le_refl _
  | succ n ih =>
    by_cases e : i = n + 1
    · rw [e]; exact Nat.le_refl _
    · exact Nat.le_trans (ih (by omega)) (Nat.le_add_right _ _)
theorem vuu {α : Type} (f : Nat → α) (a : Nat) (x y : α) : va_up (va_up f a x) a y = va_up f a y := by
  funext b
  by_cases h : b = a
  · subst h; rw [va_up_self, va_up_self]
  · rw [va_up_ne _ _ h, va_up_ne _ _ h, va_up_ne _ _ h]
/-- what comes to row pr of the ports -/
def amt (F : Nat → Nat → Nat) (V : Nat → Nat) (pr col n : Nat) : Nat := ds_nS (fun i => F (27 + pr) i * V (12 * i + col)) n
def ldA (F : Nat → Nat → Nat) (V : Nat → Nat) (r0 n K : Nat) : Nat := ds_nS (fun k => F 15 (r0 + k) * V (12 * (r0 + k) + n)) K
def psA (F : Nat → Nat → Nat) (V : Nat → Nat) (t r0 n K : Nat) : Nat := ds_nS (fun k => F (37 + t) (r0 + k) * V (12 * (r0 + k) + n)) K
section FL8
variable {l : Launch} {D : va_G} {ca : Nat → ClassId}
theorem c_Fl_addAtPort {m0 : jm_M} {ad V : Nat → Nat} {d : LD} {F : Nat → Nat → Nat} {p k col x n : Nat} (S : SST m0 ad) (L : LnV m0 ad d) (hF : FlV m0 ad F) (hV : WV m0 ad V) (hsz : m0.2.2.1 (ad 2) 3 = nI n) (hn : n ≤ 9) (hr : p * d.1.1 + k < 9) (hcol : col < 12) (hx : 108 ≤ x) (hx2 : x < 132) (hFb : ∀ i, i < n → F (27 + (p * d.1.1 + k)) i < 1073741824) (hb : V x + amt F V (p * d.1.1 + k) col n < wB ^ 13) : jm_C l D ca n_Fl_addAtPort [.ref (ad 2), .int (nI p), .int (nI k), .int (nI col), .ref (ad (100 + 2 * x))] m0 0 0 (fun v m' => v = none ∧ FRW ad m0 m' ∧ WV m' ad (va_up V x (V x + amt F V (p * d.1.1 + k) col n))) := by
  refine jm_C_of (cd := cd_Fl_addAtPort) (ini := false) (by decide +kernel) ok_Fl_addAtPort (fun h => by cases h) (Nat.le_of_ble_eq_true rfl) ?_
  intro X hX
  have key0 := c_Ln_row (l := l) (D := D) (ca := ca) (j := p) (k := k) S L
  generalize hpr : p * d.1.1 + k = pr at *
  have o2 : ∀ {m' : jm_M}, SST m' ad → jm_ok m' (ad 2) 1 := fun S => S.ok 2 (Or.inl (by decide))
  have o1 : jm_ok m0 (ad 1) 2 := S.ok 1 (Or.inl (by decide))
  have r1 : m0.2.2.2.2 (ad 2) 2 = some (ad 1) := S.2.2.1 (2, 2, 1) (by decide)
  have ht : fk (27 + pr) := fk_l hr
  have loop : ∀ (e i : Nat) (m : jm_M), i + e = n → FRW ad m0 m → WV m ad (va_up V x (V x + amt F V pr col i)) → X 14 [(0, .ref (ad 2)), (3, .int (nI col)), (4, .ref (ad (100 + 2 * x))), (5, .int (nI pr)), (6, .int (nI i))] [] m 0 0 := by
    intro e
    induction e with
    | zero =>
      intro i m hi hR hW
      have Sm := hR.S S
      have hs : m.2.2.1 (ad 2) 3 = nI n := by rw [hR.I S (by decide)]; exact hsz
      have ein : i = n := by omega
      subst ein
      refine jm_run hX [] 20 ?_
      refine And.intro (o2 Sm) (And.intro (fun _ => ⟨Nat.le_refl _, Nat.le_refl _, trivial, rfl, hR, hW⟩) (fun g => ?_))
      have g : ¬ m.2.2.1 (ad 2) 3 ≤ nI i := g
      rw [hs] at g
      exact absurd (nI_le (by omega) (by omega)) g
    | succ e ih =>
      intro i m hi hR hW
      have Sm := hR.S S
      have hs : m.2.2.1 (ad 2) 3 = nI n := by rw [hR.I S (by decide)]; exact hsz
      have hFm := hR.F S hF
      have o26 : jm_ok m (ad 26) 54 := Sm.ok 26 (Or.inl (by decide))
      have r26 : m.2.2.2.2 (ad 2) 6 = some (ad 26) := Sm.2.2.1 (2, 6, 26) (by decide)
      have l26 : (m.2.1 (ad 26)).2 = 9 := Sm.len 26 (Or.inl (by decide))
      have q := fkok Sm ht
      have hFi := hFb i (by omega)
      have ev : (m.2.2.1 (ad (27 + pr)) (nI i).toNatClampNeg).toInt64 = lN (F (27 + pr) i) := by
        rw [nI_c (by omega), hFm.get ht (by omega) rfl, nI_l (by omega)]
      have key1 := c_Fl_cell (l := l) (D := D) (ca := ca) (r := i) (c := col) Sm (by omega)
      have g1 : va_up V x (V x + amt F V pr col i) x = V x + amt F V pr col i := va_up_self _ _ _
      have g2 : va_up V x (V x + amt F V pr col i) (12 * i + col) = V (12 * i + col) := va_up_ne _ _ (by omega)
      have hstep : amt F V pr col i + F (27 + pr) i * V (12 * i + col) = amt F V pr col (i + 1) := rfl
      have hle : amt F V pr col (i + 1) ≤ amt F V pr col n := ds_nS_le (by omega)
      have key2 := w_add (l := l) (D := D) (ca := ca) (i := x) (j := 12 * i + col) (F := F (27 + pr) i) Sm hW hx2 (by omega) (by omega) hFi (by rw [g1, g2]; omega)
      rw [g1, g2, vuu, Nat.add_assoc, hstep, ← ev] at key2
      refine jm_run hX [(14, [0, 3, 4, 5, 6])] 30 ?_
      refine And.intro (o2 Sm) (And.intro (fun g => ?_) (fun _ => ?_))
      · have g : m.2.2.1 (ad 2) 3 ≤ nI i := g
        rw [hs] at g
        exact absurd g (nI_ge (by omega) (by omega))
      refine And.intro (o2 Sm) (And.intro (Nat.le_of_ble_eq_true rfl) (And.intro (Nat.le_of_ble_eq_true rfl) ⟨0, 0, _, Nat.le_refl _, Nat.le_refl _, key1, fun v m' hq => ?_⟩))
      obtain ⟨ee, rfl⟩ := hq
      have ee := ee.symm
      subst ee
      refine And.intro (o2 Sm) ⟨some (ad 26), r26, And.intro o26 (And.intro (vin_of l26 hr (by decide)) ⟨some (ad (27 + pr)), ?_, ?_⟩)⟩
      · rw [nI_c (by omega)]; exact Sm.2.2.2.2.2.1 pr hr
      refine And.intro q.1 (And.intro (vin_of q.2 (by omega) (by decide)) ?_)
      refine And.intro (Sm.wh x hx2).1 (And.intro (Nat.le_of_ble_eq_true rfl) (And.intro (Nat.le_of_ble_eq_true rfl) ⟨0, 0, _, Nat.le_refl _, Nat.le_refl _, key2, fun v m1 hq => ?_⟩))
      obtain ⟨rfl, hR1, hW1⟩ := hq
      have kk := ih (i + 1) m1 (by omega) (hR.tr hR1) hW1
      rw [← nI_1] at kk
      exact kk
  refine jm_run hX [(14, [0, 3, 4, 5, 6])] 20 ?_
  refine And.intro (o2 S) ⟨some (ad 1), r1, ?_⟩
  refine And.intro o1 (And.intro (Nat.le_of_ble_eq_true rfl) (And.intro (Nat.le_of_ble_eq_true rfl) ⟨0, 0, _, Nat.le_refl _, Nat.le_refl _, key0, fun v m' hq => ?_⟩))
  obtain ⟨ee, rfl⟩ := hq
  have ee := ee.symm
  subst ee
  refine loop n 0 m0 (by omega) FRW.rf ?_
  show WV m0 ad (va_up V x (V x + 0))
  rw [Nat.add_zero, va_up_id]; exact hV
theorem c_Fl_putAtPort {m0 : jm_M} {ad V : Nat → Nat} {d : LD} {F : Nat → Nat → Nat} {p k x n : Nat} (S : SST m0 ad) (L : LnV m0 ad d) (hF : FlV m0 ad F) (hV : WV m0 ad V) (hsz : m0.2.2.1 (ad 2) 3 = nI n) (hn : n ≤ 9) (hr : p * d.1.1 + k < 9) (hx : 108 ≤ x) (hx2 : x < 132) (hFb : ∀ i, i < n → F (27 + (p * d.1.1 + k)) i < 1073741824) (hb : amt F V (p * d.1.1 + k) n n < wB ^ 13) : jm_C l D ca n_Fl_putAtPort [.ref (ad 2), .int (nI p), .int (nI k), .ref (ad (100 + 2 * x))] m0 0 0 (fun v m' => v = none ∧ FRW ad m0 m' ∧ WV m' ad (va_up V x (amt F V (p * d.1.1 + k) n n))) := by
  refine jm_C_of (cd := cd_Fl_putAtPort) (ini := false) (by decide +kernel) ok_Fl_putAtPort (fun h => by cases h) (Nat.le_of_ble_eq_true rfl) ?_
  intro X hX
  have o2 : ∀ {m' : jm_M}, SST m' ad → jm_ok m' (ad 2) 1 := fun S => S.ok 2 (Or.inl (by decide))
  have key1 := w_b1 (l := l) (D := D) (ca := ca) (i := x) (x := 0) S hV hx2 (by decide)
  refine jm_run hX [] 20 ?_
  refine And.intro (S.wh x hx2).1 (And.intro (Nat.le_of_ble_eq_true rfl) (And.intro (Nat.le_of_ble_eq_true rfl) ⟨0, 0, _, Nat.le_refl _, Nat.le_refl _, key1, fun v m1 hq => ?_⟩))
  obtain ⟨rfl, hR1, hW1⟩ := hq
  have S1 := hR1.S S
  have hs1 : m1.2.2.1 (ad 2) 3 = nI n := by rw [hR1.I S (by decide)]; exact hsz
  have ea : amt F (va_up V x 0) (p * d.1.1 + k) n n = amt F V (p * d.1.1 + k) n n := ds_nS_congr (fun i hi => by rw [va_up_ne _ _ (by omega)])
  have key2 := c_Fl_addAtPort (l := l) (D := D) (ca := ca) (p := p) (k := k) (col := n) (x := x) S1 (hR1.L S L) (hR1.F S hF) hW1 hs1 hn hr (by omega) hx hx2 hFb (by rw [va_up_self, ea, Nat.zero_add]; exact hb)
  rw [va_up_self, ea, Nat.zero_add, vuu] at key2
  refine And.intro (o2 S1) ?_
  refine And.intro (o2 S1) (And.intro (Nat.le_of_ble_eq_true rfl) (And.intro (Nat.le_of_ble_eq_true rfl) ⟨0, 0, _, Nat.le_refl _, Nat.le_refl _, (by rw [hs1]; exact key2), fun v m2 hq => ?_⟩))
  obtain ⟨rfl, hR2, hW2⟩ := hq
  exact ⟨Nat.le_refl _, Nat.le_refl _, trivial, rfl, hR1.tr hR2, hW2⟩
theorem c_Fl_putLoad {m0 : jm_M} {ad V : Nat → Nat} {d : LD} {F : Nat → Nat → Nat} {j x n : Nat} (S : SST m0 ad) (L : LnV m0 ad d) (hO : LOK d) (hF : FlV m0 ad F) (hV : WV m0 ad V) (hsz : m0.2.2.1 (ad 2) 3 = nI n) (hn : n ≤ 9) (hj : j < d.1.2.1) (hx : 108 ≤ x) (hx2 : x < 132) (hFb : ∀ i, i < d.1.1 → F 15 (j * d.1.1 + i) < 1073741824) (hb : ldA F V (j * d.1.1) n d.1.1 < wB ^ 13) : jm_C l D ca n_Fl_putLoad [.ref (ad 2), .int (nI j), .ref (ad (100 + 2 * x))] m0 0 0 (fun v m' => v = none ∧ FRW ad m0 m' ∧ WV m' ad (va_up V x (ldA F V (j * d.1.1) n d.1.1))) := by
  refine jm_C_of (cd := cd_Fl_putLoad) (ini := false) (by decide +kernel) ok_Fl_putLoad (fun h => by cases h) (Nat.le_of_ble_eq_true rfl) ?_
  intro X hX
  have hK := hO.1
  have hM := hO.2.1
  have o2 : ∀ {m' : jm_M}, SST m' ad → jm_ok m' (ad 2) 1 := fun S => S.ok 2 (Or.inl (by decide))
  have o1 : ∀ {m' : jm_M}, SST m' ad → jm_ok m' (ad 1) 2 := fun S => S.ok 1 (Or.inl (by decide))
  have r1 : ∀ {m' : jm_M}, SST m' ad → m'.2.2.2.2 (ad 2) 2 = some (ad 1) := fun S => S.2.2.1 (2, 2, 1) (by decide)
  have ht : fk 15 := Or.inl rfl
  have loop : ∀ (e i : Nat) (m : jm_M), i + e = d.1.1 → FRW ad m0 m → WV m ad (va_up V x (ldA F V (j * d.1.1) n i)) → X 7 [(0, .ref (ad 2)), (1, .int (nI j)), (2, .ref (ad (100 + 2 * x))), (3, .int (nI i))] [] m 0 0 := by
    intro e
    induction e with
    | zero =>
      intro i m hi hR hW
      have Sm := hR.S S
      have Lm := hR.L S L
      have ein : i = d.1.1 := by omega
      refine jm_run hX [] 20 ?_
      refine And.intro (o2 Sm) ⟨some (ad 1), r1 Sm, And.intro (o1 Sm) (And.intro (fun _ => ⟨Nat.le_refl _, Nat.le_refl _, trivial, rfl, hR, ?_⟩) (fun g => ?_))⟩
      · rw [ein] at hW; exact hW
      have g : ¬ m.2.2.1 (ad 1) 0 ≤ nI i := g
      rw [Lm.1] at g
      exact absurd (nI_le (by omega) (by omega)) g
    | succ e ih =>
      intro i m hi hR hW
      have Sm := hR.S S
      have Lm := hR.L S L
      have hrow := row_lt hK.2 hM hj (show i < d.1.1 by omega)
      have hs : m.2.2.1 (ad 2) 3 = nI n := by rw [hR.I S (by decide)]; exact hsz
      have hFm := hR.F S hF
      have r15 : m.2.2.2.2 (ad 2) 4 = some (ad 15) := Sm.2.2.1 (2, 4, 15) (by decide)
      have q := fkok Sm ht
      have hFi := hFb i (by omega)
      have ev : (m.2.2.1 (ad 15) (nI (j * d.1.1 + i)).toNatClampNeg).toInt64 = lN (F 15 (j * d.1.1 + i)) := by
        rw [nI_c (by omega), hFm.get ht (by omega) rfl, nI_l (by omega)]
      have key0 := c_Ln_row (l := l) (D := D) (ca := ca) (j := j) (k := i) Sm Lm
      have hstep : ldA F V (j * d.1.1) n i + F 15 (j * d.1.1 + i) * V (12 * (j * d.1.1 + i) + n) = ldA F V (j * d.1.1) n (i + 1) := rfl
      generalize hrr : j * d.1.1 + i = rr at *
      have key1 := c_Fl_cell (l := l) (D := D) (ca := ca) (r := rr) (c := n) Sm (by omega)
      have g1 : va_up V x (ldA F V (j * d.1.1) n i) x = ldA F V (j * d.1.1) n i := va_up_self _ _ _
      have g2 : va_up V x (ldA F V (j * d.1.1) n i) (12 * rr + n) = V (12 * rr + n) := va_up_ne _ _ (by omega)
      have hle : ldA F V (j * d.1.1) n (i + 1) ≤ ldA F V (j * d.1.1) n d.1.1 := ds_nS_le (by omega)
      have key2 := w_add (l := l) (D := D) (ca := ca) (i := x) (j := 12 * rr + n) (F := F 15 rr) Sm hW hx2 (by omega) (by omega) hFi (by rw [g1, g2]; omega)
      rw [g1, g2, vuu, hstep, ← ev] at key2
      refine jm_run hX [(7, [0, 1, 2, 3])] 40 ?_
      refine And.intro (o2 Sm) ⟨some (ad 1), r1 Sm, And.intro (o1 Sm) (And.intro (fun g => ?_) (fun _ => ?_))⟩
      · have g : m.2.2.1 (ad 1) 0 ≤ nI i := g
        rw [Lm.1] at g
        exact absurd g (nI_ge (by omega) (by omega))
      refine And.intro (o2 Sm) ⟨some (ad 1), r1 Sm, ?_⟩
      refine And.intro (o1 Sm) (And.intro (Nat.le_of_ble_eq_true rfl) (And.intro (Nat.le_of_ble_eq_true rfl) ⟨0, 0, _, Nat.le_refl _, Nat.le_refl _, key0, fun v m' hq => ?_⟩))
      obtain ⟨ee, rfl⟩ := hq
      have ee := ee.symm
      subst ee
      refine And.intro (o2 Sm) ?_
      refine And.intro (o2 Sm) (And.intro (Nat.le_of_ble_eq_true rfl) (And.intro (Nat.le_of_ble_eq_true rfl) ⟨0, 0, _, Nat.le_refl _, Nat.le_refl _, (by rw [hs]; exact key1), fun v m' hq => ?_⟩))
      obtain ⟨ee, rfl⟩ := hq
      have ee := ee.symm
      subst ee
      refine And.intro (o2 Sm) ⟨some (ad 15), r15, And.intro q.1 (And.intro (vin_of q.2 (by omega) (by decide)) ?_)⟩
      refine And.intro (Sm.wh x hx2).1 (And.intro (Nat.le_of_ble_eq_true rfl) (And.intro (Nat.le_of_ble_eq_true rfl) ⟨0, 0, _, Nat.le_refl _, Nat.le_refl _, key2, fun v m1 hq => ?_⟩))
      obtain ⟨rfl, hR1, hW1⟩ := hq
      have kk := ih (i + 1) m1 (by omega) (hR.tr hR1) hW1
      rw [← nI_1] at kk
      exact kk
  have key1 := w_b1 (l := l) (D := D) (ca := ca) (i := x) (x := 0) S hV hx2 (by decide)
  refine jm_run hX [(7, [0, 1, 2, 3])] 20 ?_
  refine And.intro (S.wh x hx2).1 (And.intro (Nat.le_of_ble_eq_true rfl) (And.intro (Nat.le_of_ble_eq_true rfl) ⟨0, 0, _, Nat.le_refl _, Nat.le_refl _, key1, fun v m1 hq => ?_⟩))
  obtain ⟨rfl, hR1, hW1⟩ := hq
  exact loop d.1.1 0 m1 (by omega) hR1 hW1
theorem c_Fl_putPassing {m0 : jm_M} {ad V : Nat → Nat} {d : LD} {F : Nat → Nat → Nat} {j t x n : Nat} (S : SST m0 ad) (L : LnV m0 ad d) (hO : LOK d) (hF : FlV m0 ad F) (hV : WV m0 ad V) (hsz : m0.2.2.1 (ad 2) 3 = nI n) (hn : n ≤ 9) (hj : j < d.1.2.1) (ht3 : t < 3) (hx : 108 ≤ x) (hx2 : x < 132) (hFb : ∀ i, i < d.1.1 → F (37 + t) (j * d.1.1 + i) < 1073741824) (hb : psA F V t (j * d.1.1) n d.1.1 < wB ^ 13) : jm_C l D ca n_Fl_putPassing [.ref (ad 2), .int (nI j), .int (nI t), .ref (ad (100 + 2 * x))] m0 0 0 (fun v m' => v = none ∧ FRW ad m0 m' ∧ WV m' ad (va_up V x (psA F V t (j * d.1.1) n d.1.1))) := by
  refine jm_C_of (cd := cd_Fl_putPassing) (ini := false) (by decide +kernel) ok_Fl_putPassing (fun h => by cases h) (Nat.le_of_ble_eq_true rfl) ?_
  intro X hX
  have hK := hO.1
  have hM := hO.2.1
  have o2 : ∀ {m' : jm_M}, SST m' ad → jm_ok m' (ad 2) 1 := fun S => S.ok 2 (Or.inl (by decide))
  have o1 : ∀ {m' : jm_M}, SST m' ad → jm_ok m' (ad 1) 2 := fun S => S.ok 1 (Or.inl (by decide))
  have r1 : ∀ {m' : jm_M}, SST m' ad → m'.2.2.2.2 (ad 2) 2 = some (ad 1) := fun S => S.2.2.1 (2, 2, 1) (by decide)
  have ht : fk (37 + t) := fk_t ht3
  have loop : ∀ (e i : Nat) (m : jm_M), i + e = d.1.1 → FRW ad m0 m → WV m ad (va_up V x (psA F V t (j * d.1.1) n i)) → X 8 [(0, .ref (ad 2)), (1, .int (nI j)), (2, .int (nI t)), (3, .ref (ad (100 + 2 * x))), (4, .int (nI i))] [] m 0 0 := by
    intro e
    induction e with
    | zero =>
      intro i m hi hR hW
      have Sm := hR.S S
      have Lm := hR.L S L
      have ein : i = d.1.1 := by omega
      refine jm_run hX [] 20 ?_
      refine And.intro (o2 Sm) ⟨some (ad 1), r1 Sm, And.intro (o1 Sm) (And.intro (fun _ => ⟨Nat.le_refl _, Nat.le_refl _, trivial, rfl, hR, ?_⟩) (fun g => ?_))⟩
      · rw [ein] at hW; exact hW
      have g : ¬ m.2.2.1 (ad 1) 0 ≤ nI i := g
      rw [Lm.1] at g
      exact absurd (nI_le (by omega) (by omega)) g
    | succ e ih =>
      intro i m hi hR hW
      have Sm := hR.S S
      have Lm := hR.L S L
      have hrow := row_lt hK.2 hM hj (show i < d.1.1 by omega)
      have hs : m.2.2.1 (ad 2) 3 = nI n := by rw [hR.I S (by decide)]; exact hsz
      have hFm := hR.F S hF
      have o36 : jm_ok m (ad 36) 54 := Sm.ok 36 (Or.inl (by decide))
      have r36 : m.2.2.2.2 (ad 2) 7 = some (ad 36) := Sm.2.2.1 (2, 7, 36) (by decide)
      have l36 : (m.2.1 (ad 36)).2 = 3 := Sm.len 36 (Or.inl (by decide))
      have q := fkok Sm ht
      have hFi := hFb i (by omega)
      have ev : (m.2.2.1 (ad (37 + t)) (nI (j * d.1.1 + i)).toNatClampNeg).toInt64 = lN (F (37 + t) (j * d.1.1 + i)) := by
        rw [nI_c (by omega), hFm.get ht (by omega) rfl, nI_l (by omega)]
      have key0 := c_Ln_row (l := l) (D := D) (ca := ca) (j := j) (k := i) Sm Lm
      have hstep : psA F V t (j * d.1.1) n i + F (37 + t) (j * d.1.1 + i) * V (12 * (j * d.1.1 + i) + n) = psA F V t (j * d.1.1) n (i + 1) := rfl
      generalize hrr : j * d.1.1 + i = rr at *
      have key1 := c_Fl_cell (l := l) (D := D) (ca := ca) (r := rr) (c := n) Sm (by omega)
      have g1 : va_up V x (psA F V t (j * d.1.1) n i) x = psA F V t (j * d.1.1) n i := va_up_self _ _ _
      have g2 : va_up V x (psA F V t (j * d.1.1) n i) (12 * rr + n) = V (12 * rr + n) := va_up_ne _ _ (by omega)
      have hle : psA F V t (j * d.1.1) n (i + 1) ≤ psA F V t (j * d.1.1) n d.1.1 := ds_nS_le (by omega)
      have key2 := w_add (l := l) (D := D) (ca := ca) (i := x) (j := 12 * rr + n) (F := F (37 + t) rr) Sm hW hx2 (by omega) (by omega) hFi (by rw [g1, g2]; omega)
      rw [g1, g2, vuu, hstep, ← ev] at key2
      refine jm_run hX [(8, [0, 1, 2, 3, 4])] 40 ?_
      refine And.intro (o2 Sm) ⟨some (ad 1), r1 Sm, And.intro (o1 Sm) (And.intro (fun g => ?_) (fun _ => ?_))⟩
      · have g : m.2.2.1 (ad 1) 0 ≤ nI i := g
        rw [Lm.1] at g
        exact absurd g (nI_ge (by omega) (by omega))
      refine And.intro (o2 Sm) ⟨some (ad 1), r1 Sm, ?_⟩
      refine And.intro (o1 Sm) (And.intro (Nat.le_of_ble_eq_true rfl) (And.intro (Nat.le_of_ble_eq_true rfl) ⟨0, 0, _, Nat.le_refl _, Nat.le_refl _, key0, fun v m' hq => ?_⟩))
      obtain ⟨ee, rfl⟩ := hq
      have ee := ee.symm
      subst ee
      refine And.intro (o2 Sm) ?_
      refine And.intro (o2 Sm) (And.intro (Nat.le_of_ble_eq_true rfl) (And.intro (Nat.le_of_ble_eq_true rfl) ⟨0, 0, _, Nat.le_refl _, Nat.le_refl _, (by rw [hs]; exact key1), fun v m' hq => ?_⟩))
      obtain ⟨ee, rfl⟩ := hq
      have ee := ee.symm
      subst ee
      refine And.intro (o2 Sm) ⟨some (ad 36), r36, And.intro o36 (And.intro (vin_of l36 ht3 (by decide)) ⟨some (ad (37 + t)), ?_, ?_⟩)⟩
      · rw [nI_c (by omega)]; exact Sm.2.2.2.2.2.2.1 t ht3
      refine And.intro q.1 (And.intro (vin_of q.2 (by omega) (by decide)) ?_)
      refine And.intro (Sm.wh x hx2).1 (And.intro (Nat.le_of_ble_eq_true rfl) (And.intro (Nat.le_of_ble_eq_true rfl) ⟨0, 0, _, Nat.le_refl _, Nat.le_refl _, key2, fun v m1 hq => ?_⟩))
      obtain ⟨rfl, hR1, hW1⟩ := hq
      have kk := ih (i + 1) m1 (by omega) (hR.tr hR1) hW1
      rw [← nI_1] at kk
      exact kk
  have key1 := w_b1 (l := l) (D := D) (ca := ca) (i := x) (x := 0) S hV hx2 (by decide)
  refine jm_run hX [(8, [0, 1, 2, 3, 4])] 20 ?_
  refine And.intro (S.wh x hx2).1 (And.intro (Nat.le_of_ble_eq_true rfl) (And.intro (Nat.le_of_ble_eq_true rfl) ⟨0, 0, _, Nat.le_refl _, Nat.le_refl _, key1, fun v m1 hq => ?_⟩))
  obtain ⟨rfl, hR1, hW1⟩ := hq
  exact loop d.1.1 0 m1 (by omega) hR1 hW1
end FL8
end
section
def rch (d : LD) (F : Nat → Nat → Nat) (V : Nat → Nat) (to : Int32) (p col n : Nat) : Nat := if to.toInt = -2 - (p : Int) then V 108 else if 0 ≤ to.toInt then ds_nS (fun k => amt F V (p * d.1.1 + k) col n) d.1.1 else 0
theorem m2p_toInt {p : Nat} (hp : p < 2 ^ 30) : ((-2 : Int32) - nI p).toInt = -2 - (p : Int) := by
  have h2 : (-2 : Int32).toInt = -2 := by decide
  have h3 : (nI p).toInt = (p : Int) := nI_toInt (by omega)
  rw [Int32.toInt_sub, h2, h3]
  exact Int.bmod_eq_of_le (by omega) (by omega)
theorem cmp_lt {X Y : Nat} : cmpI X Y < 0 ↔ X < Y := by
  unfold cmpI
  by_cases h : X < Y
  · rw [if_pos h]; exact ⟨fun _ => h, fun _ => by decide⟩
  · rw [if_neg h]
    by_cases h2 : X = Y
    · rw [if_pos h2]; exact ⟨fun q => absurd q (by decide), fun q => absurd q h⟩
    · rw [if_neg h2]; exact ⟨fun q => absurd q (by decide), fun q => absurd q h⟩
section FL9
variable {l : Launch} {D : va_G} {ca : Nat → ClassId}
theorem c_Fl_bringsAtLeast {m0 : jm_M} {ad V : Nat → Nat} {d : LD} {F : Nat → Nat → Nat} {p k n g : Nat} (S : SST m0 ad) (L : LnV m0 ad d) (hF : FlV m0 ad F) (hV : WV m0 ad V) (hsz : m0.2.2.1 (ad 2) 3 = nI n) (hn : n ≤ 9) (hr : p * d.1.1 + k < 9) (hFb : ∀ i, i < n → F (27 + (p * d.1.1 + k)) i < 1073741824) (hb : amt F V (p * d.1.1 + k) n n < wB ^ 13) (hg : g < 1073741824) (hgb : g * V 108 < wB ^ 13) : jm_C l D ca n_Fl_bringsAtLeast [.ref (ad 2), .int (nI p), .int (nI k), .long (lN g)] m0 0 0 (fun v m' => v = some (.int (if amt F V (p * d.1.1 + k) n n < g * V 108 then 0 else 1)) ∧ FRW ad m0 m' ∧ ∃ V', WV m' ad V' ∧ ∀ i, i ≠ 109 → i ≠ 110 → V' i = V i) := by
  refine jm_C_of (cd := cd_Fl_bringsAtLeast) (ini := false) (by decide +kernel) ok_Fl_bringsAtLeast (fun h => by cases h) (Nat.le_of_ble_eq_true rfl) ?_
  intro X hX
  have o2 : ∀ {m' : jm_M}, SST m' ad → jm_ok m' (ad 2) 1 := fun S => S.ok 2 (Or.inl (by decide))
  have rb : ∀ {m' : jm_M}, SST m' ad → m'.2.2.2.2 (ad 2) 1 = some (ad 316) := fun S => S.2.2.1 (2, 1, 316) (by decide)
  have rf : ∀ {m' : jm_M}, SST m' ad → m'.2.2.2.2 (ad 2) 9 = some (ad 318) := fun S => S.2.2.1 (2, 9, 318) (by decide)
  have rs : ∀ {m' : jm_M}, SST m' ad → m'.2.2.2.2 (ad 2) 10 = some (ad 320) := fun S => S.2.2.1 (2, 10, 320) (by decide)
  have key1 := c_Fl_putAtPort (l := l) (D := D) (ca := ca) (p := p) (k := k) (x := 109) S L hF hV hsz hn hr (by decide) (by decide) hFb hb
  generalize hA : amt F V (p * d.1.1 + k) n n = A at *
  refine jm_run hX [] 40 ?_
  refine And.intro (o2 S) ⟨some (ad 318), rf S, ?_⟩
  refine And.intro (o2 S) (And.intro (Nat.le_of_ble_eq_true rfl) (And.intro (Nat.le_of_ble_eq_true rfl) ⟨0, 0, _, Nat.le_refl _, Nat.le_refl _, key1, fun v m1 hq => ?_⟩))
  obtain ⟨rfl, hR1, hW1⟩ := hq
  have S1 := hR1.S S
  have key2 := w_b1 (l := l) (D := D) (ca := ca) (i := 110) (x := 0) S1 hW1 (by decide) (by decide)
  refine And.intro (o2 S1) ⟨some (ad 320), rs S1, ?_⟩
  refine And.intro (S1.wh 110 (by decide)).1 (And.intro (Nat.le_of_ble_eq_true rfl) (And.intro (Nat.le_of_ble_eq_true rfl) ⟨0, 0, _, Nat.le_refl _, Nat.le_refl _, key2, fun v m2 hq => ?_⟩))
  obtain ⟨rfl, hR2, hW2⟩ := hq
  have S2 := hR2.S S1
  have g110 : va_up (va_up V 109 A) 110 0 110 = 0 := va_up_self _ _ _
  have g108 : va_up (va_up V 109 A) 110 0 108 = V 108 := by rw [va_up_ne _ _ (by decide), va_up_ne _ _ (by decide)]
  have key3 := w_add (l := l) (D := D) (ca := ca) (i := 110) (j := 108) (F := g) S2 hW2 (by decide) (by decide) (by decide) hg (by rw [g110, g108, Nat.zero_add]; exact hgb)
  rw [g110, g108, Nat.zero_add, vuu] at key3
  refine And.intro (o2 S2) ⟨some (ad 320), rs S2, And.intro (o2 S2) ⟨some (ad 316), rb S2, ?_⟩⟩
  refine And.intro (S2.wh 110 (by decide)).1 (And.intro (Nat.le_of_ble_eq_true rfl) (And.intro (Nat.le_of_ble_eq_true rfl) ⟨0, 0, _, Nat.le_refl _, Nat.le_refl _, key3, fun v m3 hq => ?_⟩))
  obtain ⟨rfl, hR3, hW3⟩ := hq
  have S3 := hR3.S S2
  have key4 := w_cmp (l := l) (D := D) (ca := ca) (i := 109) (j := 110) S3 hW3 (by decide) (by decide)
  rw [va_up_self, va_up_ne _ _ (show 109 ≠ 110 by decide), va_up_self] at key4
  refine And.intro (o2 S3) ⟨some (ad 318), rf S3, And.intro (o2 S3) ⟨some (ad 320), rs S3, ?_⟩⟩
  refine And.intro (S3.wh 109 (by decide)).1 (And.intro (Nat.le_of_ble_eq_true rfl) (And.intro (Nat.le_of_ble_eq_true rfl) ⟨0, 0, _, Nat.le_refl _, Nat.le_refl _, key4, fun v m4 hq => ?_⟩))
  obtain ⟨ee, rfl⟩ := hq
  have ee := ee.symm
  subst ee
  have hV' : ∃ V', WV m3 ad V' ∧ ∀ i, i ≠ 109 → i ≠ 110 → V' i = V i := ⟨_, hW3, fun i h1 h2 => by rw [va_up_ne _ _ h2, va_up_ne _ _ h1]⟩
  refine And.intro (fun q => ?_) (fun q => ?_)
  · rw [cmp_lt] at q
    exact ⟨Nat.le_refl _, Nat.le_refl _, Or.inl rfl, by rw [if_pos q], hR1.tr (hR2.tr hR3), hV'⟩
  · rw [cmp_lt] at q
    exact ⟨Nat.le_refl _, Nat.le_refl _, Or.inr rfl, by rw [if_neg q], hR1.tr (hR2.tr hR3), hV'⟩
/-- a gram at one row alone -/
theorem c_Fl_putGram {m0 : jm_M} {ad V : Nat → Nat} {d : LD} {k col n : Nat} {tv : Int32} (S : SST m0 ad) (L : LnV m0 ad d) (hO : LOK d) (hV : WV m0 ad V) (hsz : m0.2.2.1 (ad 2) 3 = nI n) (hn : n ≤ 9) (hk : k < d.1.1) (hcol : col < 12) (htv : jOK d.1.2.1 d.1.2.2 tv) : jm_C l D ca n_Fl_putGram [.ref (ad 2), .int tv, .int (nI k), .int (nI col)] m0 0 0 (fun v m' => v = none ∧ FRW ad m0 m' ∧ ∃ V', WV m' ad V' ∧ (∀ i, i < n → V' (12 * i + col) = if 0 ≤ tv.toInt ∧ i = tv.toInt.toNat * d.1.1 + k then 1 else 0) ∧ ∀ x, x < 132 → (x < 108 → x % 12 ≠ col) → V' x = V x) := by
  refine jm_C_of (cd := cd_Fl_putGram) (ini := false) (by decide +kernel) ok_Fl_putGram (fun h => by cases h) (Nat.le_of_ble_eq_true rfl) ?_
  intro X hX
  have hK := hO.1
  have hM := hO.2.1
  have o2 : ∀ {m' : jm_M}, SST m' ad → jm_ok m' (ad 2) 1 := fun S => S.ok 2 (Or.inl (by decide))
  have o1 : ∀ {m' : jm_M}, SST m' ad → jm_ok m' (ad 1) 2 := fun S => S.ok 1 (Or.inl (by decide))
  have r1 : ∀ {m' : jm_M}, SST m' ad → m'.2.2.2.2 (ad 2) 2 = some (ad 1) := fun S => S.2.2.1 (2, 2, 1) (by decide)
  have last : ∀ (m : jm_M) (W : Nat → Nat), FRW ad m0 m → WV m ad W → (∀ i, i < n → W (12 * i + col) = 0) → (∀ x, x < 132 → (x < 108 → x % 12 ≠ col) → W x = V x) → X 29 [(0, .ref (ad 2)), (1, .int tv), (2, .int (nI k)), (3, .int (nI col))] [] m 0 0 := by
    intro m W hR hW h0 hs
    have Sm := hR.S S
    have Lm := hR.L S L
    refine jm_run hX [] 30 ?_
    refine And.intro (fun g => ?_) (fun g => ?_)
    · rw [ilt0] at g
      exact ⟨Nat.le_refl _, Nat.le_refl _, trivial, rfl, hR, W, hW, fun i hi => by rw [if_neg (by omega)]; exact h0 i hi, hs⟩
    · rw [ilt0] at g
      have et : tv = nI tv.toInt.toNat := i_of (by omega)
      have hp3 : tv.toInt.toNat < d.1.2.1 := by unfold jOK at htv; rcases htv with q | q | q <;> omega
      have hr2 := row_lt hK.2 hM hp3 hk
      have key3 := c_Ln_row (l := l) (D := D) (ca := ca) (j := tv.toInt.toNat) (k := k) Sm Lm
      rw [← et] at key3
      generalize hrr : tv.toInt.toNat * d.1.1 + k = rr at *
      have key4 := c_Fl_cell (l := l) (D := D) (ca := ca) (r := rr) (c := col) Sm (by omega)
      have key5 := w_b1 (l := l) (D := D) (ca := ca) (i := 12 * rr + col) (x := 1) Sm hW (by omega) (by decide)
      refine And.intro (o2 Sm) ⟨some (ad 1), r1 Sm, ?_⟩
      refine And.intro (o1 Sm) (And.intro (Nat.le_of_ble_eq_true rfl) (And.intro (Nat.le_of_ble_eq_true rfl) ⟨0, 0, _, Nat.le_refl _, Nat.le_refl _, key3, fun v m' hq => ?_⟩))
      obtain ⟨ee, rfl⟩ := hq
      have ee := ee.symm
      subst ee
      refine And.intro (o2 Sm) (And.intro (Nat.le_of_ble_eq_true rfl) (And.intro (Nat.le_of_ble_eq_true rfl) ⟨0, 0, _, Nat.le_refl _, Nat.le_refl _, key4, fun v m' hq => ?_⟩))
      obtain ⟨ee, rfl⟩ := hq
      have ee := ee.symm
      subst ee
      refine And.intro (Sm.wh (12 * rr + col) (by omega)).1 (And.intro (Nat.le_of_ble_eq_true rfl) (And.intro (Nat.le_of_ble_eq_true rfl) ⟨0, 0, _, Nat.le_refl _, Nat.le_refl _, key5, fun v m1 hq => ?_⟩))
      obtain ⟨rfl, hR1, hW1⟩ := hq
      refine ⟨Nat.le_refl _, Nat.le_refl _, trivial, rfl, hR.tr hR1, _, hW1, fun i hi => ?_, fun x hx hxc => ?_⟩
      · by_cases e : i = rr
        · subst e; rw [va_up_self, if_pos ⟨by omega, rfl⟩]
        · rw [va_up_ne _ _ (by omega), if_neg (fun q => e q.2)]; exact h0 i hi
      · rw [va_up_ne _ _ (by omega)]; exact hs x hx hxc
  have loop : ∀ (e i : Nat) (m : jm_M) (W : Nat → Nat), i + e = n → FRW ad m0 m → WV m ad W → (∀ i', i' < i → W (12 * i' + col) = 0) → (∀ x, x < 132 → (x < 108 → x % 12 ≠ col) → W x = V x) → X 3 [(0, .ref (ad 2)), (1, .int tv), (2, .int (nI k)), (3, .int (nI col)), (4, .int (nI i))] [] m 0 0 := by
    intro e
    induction e with
    | zero =>
      intro i m W hi hR hW h0 hs
      have Sm := hR.S S
      have hsz : m.2.2.1 (ad 2) 3 = nI n := by rw [hR.I S (by decide)]; exact hsz
      refine jm_run hX [(29, [0, 1, 2, 3])] 20 ?_
      refine And.intro (o2 Sm) (And.intro (fun _ => last m W hR hW (fun i' h => h0 i' (by omega)) hs) (fun g => ?_))
      have g : ¬ m.2.2.1 (ad 2) 3 ≤ nI i := g
      rw [hsz] at g
      exact absurd (nI_le (by omega) (by omega)) g
    | succ e ih =>
      intro i m W hi hR hW h0 hs
      have Sm := hR.S S
      have hsz : m.2.2.1 (ad 2) 3 = nI n := by rw [hR.I S (by decide)]; exact hsz
      have key4 := c_Fl_cell (l := l) (D := D) (ca := ca) (r := i) (c := col) Sm (by omega)
      have key5 := w_b1 (l := l) (D := D) (ca := ca) (i := 12 * i + col) (x := 0) Sm hW (by omega) (by decide)
      refine jm_run hX [(3, [0, 1, 2, 3, 4])] 20 ?_
      refine And.intro (o2 Sm) (And.intro (fun g => ?_) (fun _ => ?_))
      · have g : m.2.2.1 (ad 2) 3 ≤ nI i := g
        rw [hsz] at g
        exact absurd g (nI_ge (by omega) (by omega))
      refine And.intro (o2 Sm) (And.intro (Nat.le_of_ble_eq_true rfl) (And.intro (Nat.le_of_ble_eq_true rfl) ⟨0, 0, _, Nat.le_refl _, Nat.le_refl _, key4, fun v m' hq => ?_⟩))
      obtain ⟨ee, rfl⟩ := hq
      have ee := ee.symm
      subst ee
      refine And.intro (Sm.wh (12 * i + col) (by omega)).1 (And.intro (Nat.le_of_ble_eq_true rfl) (And.intro (Nat.le_of_ble_eq_true rfl) ⟨0, 0, _, Nat.le_refl _, Nat.le_refl _, key5, fun v m1 hq => ?_⟩))
      obtain ⟨rfl, hR1, hW1⟩ := hq
      have kk := ih (i + 1) m1 _ (by omega) (hR.tr hR1) hW1 (fun i' hi' => by
        by_cases e : i' = i
        · subst e; exact va_up_self _ _ _
        · rw [va_up_ne _ _ (by omega)]; exact h0 i' (by omega)) (fun x hx hxc => by rw [va_up_ne _ _ (by omega)]; exact hs x hx hxc)
      rw [← nI_1] at kk
      exact kk
  refine jm_run hX [(3, [0, 1, 2, 3, 4])] 20 ?_
  exact loop n 0 m0 V (by omega) FRW.rf hV (fun i' h => absurd h (by omega)) (fun _ _ _ => rfl)
theorem c_Fl_putReached {m0 : jm_M} {ad V : Nat → Nat} {d : LD} {F : Nat → Nat → Nat} {p col x n : Nat} {tv : Int32} (S : SST m0 ad) (L : LnV m0 ad d) (hO : LOK d) (hF : FlV m0 ad F) (hV : WV m0 ad V) (hsz : m0.2.2.1 (ad 2) 3 = nI n) (hn : n ≤ 9) (hp : p < d.1.2.2) (hcol : col < 12) (hx : 109 ≤ x) (hx2 : x < 132) (hFb : ∀ r, r < 9 → ∀ i, i < n → F (27 + r) i < 1073741824) (hb : ds_nS (fun k => amt F V (p * d.1.1 + k) col n) d.1.1 < wB ^ 13) : jm_C l D ca n_Fl_putReached [.ref (ad 2), .int tv, .int (nI p), .int (nI col), .ref (ad (100 + 2 * x))] m0 0 0 (fun v m' => v = none ∧ FRW ad m0 m' ∧ WV m' ad (va_up V x (rch d F V tv p col n))) := by
  refine jm_C_of (cd := cd_Fl_putReached) (ini := false) (by decide +kernel) ok_Fl_putReached (fun h => by cases h) (Nat.le_of_ble_eq_true rfl) ?_
  intro X hX
  have hK := hO.1
  have hP := hO.2.2.1
  have o2 : ∀ {m' : jm_M}, SST m' ad → jm_ok m' (ad 2) 1 := fun S => S.ok 2 (Or.inl (by decide))
  have o1 : ∀ {m' : jm_M}, SST m' ad → jm_ok m' (ad 1) 2 := fun S => S.ok 1 (Or.inl (by decide))
  have r1 : ∀ {m' : jm_M}, SST m' ad → m'.2.2.2.2 (ad 2) 2 = some (ad 1) := fun S => S.2.2.1 (2, 2, 1) (by decide)
  have rb : ∀ {m' : jm_M}, SST m' ad → m'.2.2.2.2 (ad 2) 1 = some (ad 316) := fun S => S.2.2.1 (2, 1, 316) (by decide)
  have ep := m2p_toInt (p := p) (by omega)
  have hrc : rch d F V tv p col n = if tv.toInt = -2 - (p : Int) then V 108 else if 0 ≤ tv.toInt then ds_nS (fun k => amt F V (p * d.1.1 + k) col n) d.1.1 else 0 := rfl
  have loop : rch d F V tv p col n = ds_nS (fun k => amt F V (p * d.1.1 + k) col n) d.1.1 → ∀ (e i : Nat) (m : jm_M), i + e = d.1.1 → FRW ad m0 m → WV m ad (va_up V x (ds_nS (fun k => amt F V (p * d.1.1 + k) col n) i)) → X 33 [(0, .ref (ad 2)), (1, .int tv), (2, .int (nI p)), (3, .int (nI col)), (4, .ref (ad (100 + 2 * x))), (5, .int (nI i))] [] m 0 0 := by
    intro hre e
    induction e with
    | zero =>
      intro i m hi hR hW
      have Sm := hR.S S
      have Lm := hR.L S L
      have ein : i = d.1.1 := by omega
      refine jm_run hX [] 20 ?_
      refine And.intro (o2 Sm) ⟨some (ad 1), r1 Sm, And.intro (o1 Sm) (And.intro (fun _ => ⟨Nat.le_refl _, Nat.le_refl _, trivial, rfl, hR, ?_⟩) (fun g => ?_))⟩
      · rw [hre]; rw [ein] at hW; exact hW
      have g : ¬ m.2.2.1 (ad 1) 0 ≤ nI i := g
      rw [Lm.1] at g
      exact absurd (nI_le (by omega) (by omega)) g
    | succ e ih =>
      intro i m hi hR hW
      have Sm := hR.S S
      have Lm := hR.L S L
      have hs : m.2.2.1 (ad 2) 3 = nI n := by rw [hR.I S (by decide)]; exact hsz
      have hrow := row_lt hK.2 hP hp (show i < d.1.1 by omega)
      have ea : amt F (va_up V x (ds_nS (fun k => amt F V (p * d.1.1 + k) col n) i)) (p * d.1.1 + i) col n = amt F V (p * d.1.1 + i) col n := ds_nS_congr (fun i hi => by rw [va_up_ne _ _ (by omega)])
      have hstep : ds_nS (fun k => amt F V (p * d.1.1 + k) col n) i + amt F V (p * d.1.1 + i) col n = ds_nS (fun k => amt F V (p * d.1.1 + k) col n) (i + 1) := rfl
      have hle : ds_nS (fun k => amt F V (p * d.1.1 + k) col n) (i + 1) ≤ ds_nS (fun k => amt F V (p * d.1.1 + k) col n) d.1.1 := ds_nS_le (by omega)
      have key := c_Fl_addAtPort (l := l) (D := D) (ca := ca) (p := p) (k := i) (col := col) (x := x) Sm Lm (hR.F S hF) hW hs hn hrow hcol (by omega) hx2 (hFb _ hrow) (by rw [va_up_self, ea]; omega)
      rw [va_up_self, ea, hstep, vuu] at key
      refine jm_run hX [(33, [0, 1, 2, 3, 4, 5])] 20 ?_
      refine And.intro (o2 Sm) ⟨some (ad 1), r1 Sm, And.intro (o1 Sm) (And.intro (fun g => ?_) (fun _ => ?_))⟩
      · have g : m.2.2.1 (ad 1) 0 ≤ nI i := g
        rw [Lm.1] at g
        exact absurd g (nI_ge (by omega) (by omega))
      refine And.intro (o2 Sm) (And.intro (Nat.le_of_ble_eq_true rfl) (And.intro (Nat.le_of_ble_eq_true rfl) ⟨0, 0, _, Nat.le_refl _, Nat.le_refl _, key, fun v m1 hq => ?_⟩))
      obtain ⟨rfl, hR1, hW1⟩ := hq
      have kk := ih (i + 1) m1 (by omega) (hR.tr hR1) hW1
      rw [← nI_1] at kk
      exact kk
  have key1 := w_b1 (l := l) (D := D) (ca := ca) (i := x) (x := 0) S hV hx2 (by decide)
  refine jm_run hX [(33, [0, 1, 2, 3, 4, 5])] 40 ?_
  refine And.intro (S.wh x hx2).1 (And.intro (Nat.le_of_ble_eq_true rfl) (And.intro (Nat.le_of_ble_eq_true rfl) ⟨0, 0, _, Nat.le_refl _, Nat.le_refl _, key1, fun v m1 hq => ?_⟩))
  obtain ⟨rfl, hR1, hW1⟩ := hq
  have S1 := hR1.S S
  refine And.intro (fun g => ?_) (fun g => ?_)
  · have g : tv = (-2 : Int32) - nI p := g
    rw [← Int32.toInt_inj, ep] at g
    have key2 := w_b2 (l := l) (D := D) (ca := ca) (i := x) (j := 108) S1 hW1 hx2 (by decide)
    rw [va_up_ne _ _ (show 108 ≠ x by omega), vuu] at key2
    refine And.intro (o2 S1) ⟨some (ad 316), rb S1, ?_⟩
    refine And.intro (S1.wh x hx2).1 (And.intro (Nat.le_of_ble_eq_true rfl) (And.intro (Nat.le_of_ble_eq_true rfl) ⟨0, 0, _, Nat.le_refl _, Nat.le_refl _, key2, fun v m2 hq => ?_⟩))
    obtain ⟨rfl, hR2, hW2⟩ := hq
    exact ⟨Nat.le_refl _, Nat.le_refl _, trivial, rfl, hR1.tr hR2, by rw [hrc, if_pos g]; exact hW2⟩
  · have g : ¬ tv = (-2 : Int32) - nI p := g
    rw [← Int32.toInt_inj, ep] at g
    refine And.intro (fun g2 => ?_) (fun g2 => ?_)
    · rw [ilt0] at g2
      exact ⟨Nat.le_refl _, Nat.le_refl _, trivial, rfl, hR1, by rw [hrc, if_neg g, if_neg (by omega)]; exact hW1⟩
    · rw [ilt0] at g2
      exact loop (by rw [hrc, if_neg g, if_pos (by omega)]) d.1.1 0 m1 (by omega) hR1 hW1
end FL9
end
section
/-! Sizes of what the elimination meets. -/
theorem ds_nP_pow {f : Nat → Nat} {c : Nat} : ∀ {k : Nat}, (∀ t, t < k → f t ≤ c) → ds_nP f k ≤ c ^ k
  | 0, _ => Nat.le_refl 1
  | k + 1, h => by
    rw [Nat.pow_succ]
    exact Nat.mul_le_mul (ds_nP_pow fun t ht => h t (by omega)) (h k (by omega))
theorem ds_D_rows {a a' : Nat → Nat → Int} : ∀ (k : Nat) (J : Nat → Nat), (∀ x, x < k → a x = a' x) → ds_D a k J = ds_D a' k J
  | 0, _, _ => rfl
  | k + 1, J, h => by
    refine ds_S_congr fun s _ => ?_
    rw [h k (by omega), ds_D_rows k (ds_E J s) fun x hx => h x (by omega)]
def bz_cs (a : Nat → Nat → Int) (n j : Nat) : Nat := ds_nS (fun i => (a i j).natAbs) n
theorem ds_nS_one {g : Nat → Nat} {k i n : Nat} (h1 : k ≤ i) (h2 : i < n) : ds_nS g k + g i ≤ ds_nS g n := by
  have e1 : ds_nS g k ≤ ds_nS g i := ds_nS_le h1
  have e2 : ds_nS g (i + 1) ≤ ds_nS g n := ds_nS_le h2
  have e3 : ds_nS g (i + 1) = ds_nS g i + g i := rfl
  omega
theorem bz_G1 (n : Nat) : (ds_G n).natAbs = 1 := by unfold ds_G; split <;> rfl
theorem bz_C_le {a : Nat → Nat → Int} {n k t j c : Nat} (hc : ∀ j, j < n → bz_cs a n j ≤ c) (hk : k ≤ n) (ht : t < k) : (ds_C a k t j).natAbs ≤ c ^ (k - 1) * bz_cs a n j := by
  obtain ⟨k, rfl⟩ : ∃ q, k = q + 1 := ⟨k - 1, by omega⟩
  unfold ds_C
  rw [Int.natAbs_mul, bz_G1, Nat.one_mul]
  refine Nat.le_trans (ds_D_le a (k + 1) _) ?_
  show ds_nP _ k * _ ≤ c ^ k * _
  refine Nat.mul_le_mul (ds_nP_pow fun u hu => ?_) ?_
  · have hJ : ds_E (ds_J (k + 1) j) t u < n := by
      unfold ds_E ds_J
      by_cases q : u < t
      · rw [if_pos q, if_pos (by omega)]; omega
      · rw [if_neg q, if_pos (by omega)]; omega
    exact Nat.le_trans (ds_nS_le hk) (hc _ hJ)
  · have hJ : ds_E (ds_J (k + 1) j) t k = j := by
      unfold ds_E ds_J
      rw [if_neg (by omega), if_neg (by omega)]
    show ds_nS (fun i => (a i (ds_E (ds_J (k + 1) j) t k)).natAbs) (k + 1) ≤ _
    rw [hJ]
    exact ds_nS_le hk
theorem bz_m_le {a : Nat → Nat → Int} {n k i j c : Nat} (hc : ∀ j, j < n → bz_cs a n j ≤ c) (hk : k ≤ i) (hi : i < n) : (ds_m a k i j).natAbs ≤ c ^ k * bz_cs a n j := by
  have e : ds_m a k i j = ds_D (fun x => if x = k then a i else a x) (k + 1) (ds_J k j) := by
    show ds_S _ _ = ds_S _ _
    refine ds_S_congr fun s _ => ?_
    show _ = ds_G (k + s) * (if k = k then a i else a k) (ds_J k j s) * _
    rw [if_pos rfl, ds_D_rows k (ds_E (ds_J k j) s) (a' := a) (fun x hx => if_neg (by omega))]
  rw [e]
  refine Nat.le_trans (ds_D_le _ (k + 1) _) ?_
  have hcol : ∀ q, ds_nS (fun x => ((if x = k then a i else a x) q).natAbs) (k + 1) ≤ bz_cs a n q := by
    intro q
    show ds_nS (fun x => ((if x = k then a i else a x) q).natAbs) k + ((if k = k then a i else a k) q).natAbs ≤ _
    rw [if_pos rfl, ds_nS_congr (g := fun x => (a x q).natAbs) (fun x hx => by rw [if_neg (by omega)])]
    exact ds_nS_one (g := fun x => (a x q).natAbs) hk hi
  show ds_nP _ k * _ ≤ _
  refine Nat.mul_le_mul (ds_nP_pow fun u hu => ?_) ?_
  · have hJ : ds_J k j u < n := by unfold ds_J; rw [if_pos hu]; omega
    exact Nat.le_trans (hcol _) (hc _ hJ)
  · have hJ : ds_J k j k = j := by unfold ds_J; rw [if_neg (by omega)]
    show ds_nS (fun x => ((if x = k then a i else a x) (ds_J k j k)).natAbs) (k + 1) ≤ _
    rw [hJ]; exact hcol j
theorem bz_d_le {a : Nat → Nat → Int} {n k c : Nat} (hc : ∀ j, j < n → bz_cs a n j ≤ c) (hk : k ≤ n) : (ds_d a k).natAbs ≤ c ^ k :=
  Nat.le_trans (ds_D_le a k _) (ds_nP_pow fun u hu => Nat.le_trans (ds_nS_le hk) (hc u (by omega)))
abbrev bzBig : Nat := 166320 ^ 9 * 9000000
theorem bzBig_ok : 2 * (bzBig * bzBig) < wB ^ 12 := by decide
theorem bz_pow {k : Nat} (h : k ≤ 9) : 166320 ^ k ≤ 166320 ^ 9 := Nat.pow_le_pow_right (by decide) h
theorem bz_B_of {a : Nat → Nat → Int} {n rs : Nat} (hn : n ≤ 9) (hc : ∀ j, j < n → bz_cs a n j ≤ 166320) (hr : ∀ j, n ≤ j → j < n + rs → bz_cs a n j ≤ 9000000) : bz_B a n rs bzBig := by
  refine ⟨fun k hk => ?_, fun k hk i hi j hj hjn => ?_⟩
  · refine Nat.le_trans (bz_d_le hc hk) (Nat.le_trans (bz_pow (by omega)) (Nat.le_mul_of_pos_right _ (by decide)))
  · have hcs : bz_cs a n j ≤ 9000000 := by
      rcases Nat.lt_or_ge j n with q | q
      · exact Nat.le_trans (hc j q) (by decide)
      · exact hr j q hjn
    unfold bz_v
    by_cases q : i < k
    · rw [if_pos q]
      exact Nat.le_trans (bz_C_le hc hk q) (Nat.mul_le_mul (bz_pow (by omega)) hcs)
    · rw [if_neg q]
      exact Nat.le_trans (bz_m_le hc (by omega) hi) (Nat.mul_le_mul (bz_pow (by omega)) hcs)
/-! The matrix as it is read; right sides f. -/
def am (F : Nat → Nat → Nat) (n : Nat) (f : Nat → Nat → Nat) (i j : Nat) : Int := if j < n then (if i = j then (F 15 i : Int) - (F (17 + i) i : Int) else -(F (17 + i) j : Int)) else (f i j : Int)
/-- what is known of rows that were read, of a line that stands -/
def FG (n : Nat) (F : Nat → Nat → Nat) : Prop := (∀ f, mx_Good (am F n f) n) ∧ (∀ t, fk t → ∀ i, i < n → F t i ≤ 83160) ∧ ∀ j, j < n → ds_nS (fun i => F (17 + i) j) n ≤ F 15 j
theorem ds_nS_add (f g : Nat → Nat) : ∀ n : Nat, ds_nS (fun i => f i + g i) n = ds_nS f n + ds_nS g n
  | 0 => rfl
  | n + 1 => by
    show ds_nS (fun i => f i + g i) n + (f n + g n) = (ds_nS f n + f n) + (ds_nS g n + g n)
    rw [ds_nS_add f g n]; omega
theorem ds_nS_ite (c j : Nat) : ∀ n : Nat, ds_nS (fun i => if i = j then c else 0) n ≤ c
  | 0 => Nat.zero_le _
  | n + 1 => by
    show ds_nS (fun i => if i = j then c else 0) n + (if n = j then c else 0) ≤ c
    by_cases e : n = j
    · subst e
      rw [if_pos rfl]
      have : ds_nS (fun i => if i = n then c else 0) n = ds_nS (fun _ => 0) n := ds_nS_congr (fun i hi => if_neg (by omega))
      rw [this]
      have z : ∀ k, ds_nS (fun _ => 0) k = 0 := fun k => by
        induction k with
        | zero => rfl
        | succ k ih => show ds_nS (fun _ => 0) k + 0 = 0; omega
      rw [z]; omega
    · rw [if_neg e]; exact ds_nS_ite c j n
theorem am_cs {F : Nat → Nat → Nat} {n : Nat} {f : Nat → Nat → Nat} (h : FG n F) (hn : n ≤ 9) {j : Nat} (hj : j < n) : bz_cs (am F n f) n j ≤ 166320 := by
  have h1 := h.2.2 j hj
  have h2 := h.2.1 15 (Or.inl rfl) j hj
  have h3 : bz_cs (am F n f) n j ≤ ds_nS (fun i => F (17 + i) j + (if i = j then F 15 j else 0)) n := ds_nS_mono fun i hi => by
    unfold am
    rw [if_pos hj]
    by_cases e : i = j
    · subst e; rw [if_pos rfl, if_pos rfl]; omega
    · rw [if_neg e, if_neg e]; omega
  rw [ds_nS_add] at h3
  have h4 := ds_nS_ite (F 15 j) j n
  omega
theorem am_rhs {F : Nat → Nat → Nat} {n j : Nat} {f : Nat → Nat → Nat} (hj : n ≤ j) : bz_cs (am F n f) n j = ds_nS (fun i => f i j) n := by
  refine ds_nS_congr fun i _ => ?_
  show (am F n f i j).natAbs = f i j
  unfold am
  rw [if_neg (by omega)]
  exact Int.natAbs_natCast _
/-- solutions: not below 0, of this size -/
theorem am_C {F : Nat → Nat → Nat} {n i j R : Nat} {f : Nat → Nat → Nat} (h : FG n F) (hn : n ≤ 9) (hi : i < n) (hj : n ≤ j) (hR : ds_nS (fun i => f i j) n ≤ R) : 0 ≤ ds_C (am F n f) n i j ∧ (ds_C (am F n f) n i j).natAbs ≤ 166320 ^ 8 * R := by
  refine ⟨(mx_Rhs (h.1 f) (fun i hi => ?_) n (Nat.le_refl n)).2 i hi, ?_⟩
  · unfold am; rw [if_neg (by omega)]; omega
  · refine Nat.le_trans (bz_C_le (fun j hj => am_cs h hn hj) (Nat.le_refl n) hi) ?_
    rw [am_rhs hj]
    exact Nat.mul_le_mul (Nat.pow_le_pow_right (by decide) (by omega)) hR
theorem am_d {F : Nat → Nat → Nat} {n : Nat} {f : Nat → Nat → Nat} (h : FG n F) (hn : n ≤ 9) : 0 < ds_d (am F n f) n ∧ (ds_d (am F n f) n).natAbs ≤ 166320 ^ 9 :=
  ⟨(mx_Inv_all (h.1 f) n (Nat.le_refl n)).1 n (Nat.le_refl n), Nat.le_trans (bz_d_le (fun j hj => am_cs h hn hj) (Nat.le_refl n)) (bz_pow hn)⟩
end
section
/-! The slope in pure words. -/
def gramF (d : LD) (tv : Int32) (k i : Nat) : Nat := if 0 ≤ tv.toInt ∧ i = tv.toInt.toNat * d.1.1 + k then 1 else 0
def rhsS (d : LD) (g1 g2 : Int32) (k : Nat) : Nat → Nat → Nat := fun i j => if j = d.1.2.1 * d.1.1 then d.2.2.2.2.2.2 i else if j = d.1.2.1 * d.1.1 + 1 then gramF d g1 k i else gramF d g2 k i
def zs (F : Nat → Nat → Nat) (n : Nat) (f : Nat → Nat → Nat) (q i : Nat) : Nat := (ds_C (am F n f) n i (n + q)).toNat
def dt (F : Nat → Nat → Nat) (n : Nat) (f : Nat → Nat → Nat) : Nat := (ds_d (am F n f) n).toNat
def amz (F : Nat → Nat → Nat) (z : Nat → Nat) (pr n : Nat) : Nat := ds_nS (fun i => F (27 + pr) i * z i) n
def psz (F : Nat → Nat → Nat) (z : Nat → Nat) (t r0 K : Nat) : Nat := ds_nS (fun k => F (37 + t) (r0 + k) * z (r0 + k)) K
def ldz (F : Nat → Nat → Nat) (z : Nat → Nat) (r0 K : Nat) : Nat := ds_nS (fun k => F 15 (r0 + k) * z (r0 + k)) K
def rchz (d : LD) (F : Nat → Nat → Nat) (dd : Nat) (z : Nat → Nat) (to : Int32) (p n : Nat) : Nat := if to.toInt = -2 - (p : Int) then dd else if 0 ≤ to.toInt then ds_nS (fun k => amz F z (p * d.1.1 + k) n) d.1.1 else 0
/-- the answer out of what is reached, what passes, and the determinant -/
def sgd (fi se ps dd pt : Nat) : Int64 := if fi < se then npart ((se - fi) * ps) (dd * dd) pt else lN (ppart ((fi - se) * ps) (dd * dd) pt)
def slG (d : LD) (F : Nat → Nat → Nat) (f : Nat → Nat → Nat) (g1 g2 : Int32) (j k p pt : Nat) : Int64 :=
  sgd (rchz d F (dt F (d.1.2.1 * d.1.1) f) (zs F (d.1.2.1 * d.1.1) f 1) g1 p (d.1.2.1 * d.1.1)) (rchz d F (dt F (d.1.2.1 * d.1.1) f) (zs F (d.1.2.1 * d.1.1) f 2) g2 p (d.1.2.1 * d.1.1)) (psz F (zs F (d.1.2.1 * d.1.1) f 0) k (j * d.1.1) d.1.1) (dt F (d.1.2.1 * d.1.1) f) pt
def slp (d : LD) (F : Nat → Nat → Nat) (j k o p pt : Nat) : Int64 := slG d F (rhsS d (d.2.2.1 (3 * j + o)) (d.2.2.1 (3 * j + (d.2.1 j - 1))) k) (d.2.2.1 (3 * j + o)) (d.2.2.1 (3 * j + (d.2.1 j - 1))) j k p pt
theorem ds_nS_bd {f : Nat → Nat} {c : Nat} : ∀ {n : Nat}, (∀ i, i < n → f i ≤ c) → ds_nS f n ≤ n * c
  | 0, _ => Nat.zero_le _
  | n + 1, h => by
    have h1 := ds_nS_bd (f := f) (c := c) (n := n) (fun i hi => h i (by omega))
    have h2 := h n (by omega)
    show ds_nS f n + f n ≤ (n + 1) * c
    rw [Nat.add_mul, Nat.one_mul]; omega
theorem gram_sum (d : LD) (tv : Int32) (k n : Nat) : ds_nS (fun i => gramF d tv k i) n ≤ 1 := by
  by_cases h : 0 ≤ tv.toInt
  · have : ds_nS (fun i => gramF d tv k i) n = ds_nS (fun i => if i = tv.toInt.toNat * d.1.1 + k then 1 else 0) n := ds_nS_congr (fun i _ => by
      unfold gramF
      exact ite_iff (by omega))
    rw [this]; exact ds_nS_ite 1 _ n
  · have : ds_nS (fun i => gramF d tv k i) n ≤ n * 0 := ds_nS_bd (fun i _ => by unfold gramF; rw [if_neg (by omega)]; exact Nat.le_refl 0)
    omega
theorem amt_z {F : Nat → Nat → Nat} {V z : Nat → Nat} {pr col n : Nat} (h : ∀ i, i < n → V (12 * i + col) = z i) : amt F V pr col n = amz F z pr n := ds_nS_congr (fun i hi => by rw [h i hi])
theorem cmp_ge {X Y : Nat} : 0 ≤ cmpI X Y ↔ ¬ X < Y := by
  unfold cmpI
  by_cases h : X < Y
  · rw [if_pos h]; exact ⟨fun q => absurd q (by decide), fun q => absurd h q⟩
  · rw [if_neg h]
    by_cases h2 : X = Y
    · rw [if_pos h2]; exact ⟨fun _ => h, fun _ => by decide⟩
    · rw [if_neg h2]; exact ⟨fun _ => h, fun _ => by decide⟩
theorem bz_am_r {F : Nat → Nat → Nat} {n i q : Nat} {f : Nat → Nat → Nat} (h : n ≤ q) : bz_g n i q * am F n f i q = (f i q : Int) := by
  have e1 : bz_g n i q = 1 := if_pos (Or.inr h)
  have e2 : am F n f i q = (f i q : Int) := if_neg (by omega)
  rw [e1, e2, Int.one_mul]
theorem bz_am_d {F : Nat → Nat → Nat} {n i : Nat} {f : Nat → Nat → Nat} (h : i < n) (hF : F (17 + i) i ≤ F 15 i) : bz_g n i i * am F n f i i = ((F 15 i - F (17 + i) i : Nat) : Int) := by
  have e1 : bz_g n i i = 1 := if_pos (Or.inl rfl)
  have e2 : am F n f i i = (F 15 i : Int) - (F (17 + i) i : Int) := by unfold am; rw [if_pos h, if_pos rfl]
  rw [e1, e2, Int.one_mul]; omega
theorem bz_am_o {F : Nat → Nat → Nat} {n i q : Nat} {f : Nat → Nat → Nat} (h : q < n) (hiq : i ≠ q) : bz_g n i q * am F n f i q = (F (17 + i) q : Int) := by
  have e1 : bz_g n i q = -1 := if_neg (by omega)
  have e2 : am F n f i q = -(F (17 + i) q : Int) := by unfold am; rw [if_pos h, if_neg hiq]
  rw [e1, e2]; omega
section FLS
variable {l : Launch} {D : va_G} {ca : Nat → ClassId}
set_option maxRecDepth 8000 in
set_option maxHeartbeats 1000000 in
theorem c_Fl_slopePart {m0 : jm_M} {ad V : Nat → Nat} {d : LD} {F : Nat → Nat → Nat} {j k o p pt : Nat} (S : SST m0 ad) (L : LnV m0 ad d) (hO : LOK d) (hB : LB d) (hF : FlV m0 ad F) (hV : WV m0 ad V) (hFG : ∀ F, RA d F (d.1.2.1 * d.1.1) → FG (d.1.2.1 * d.1.1) F) (hj : j < d.1.2.1) (hk : k < d.1.1) (ho : o < d.2.1 j) (hp : p < d.1.2.2) (hpt : pt ≤ 6) : jm_C l D ca n_Fl_slopePart [.ref (ad 2), .int (nI j), .int (nI k), .int (nI o), .int (nI p), .int (nI pt)] m0 0 0 (fun v m' => ∃ F', RA d F' (d.1.2.1 * d.1.1) ∧ v = some (.long (slp d F' j k o p pt)) ∧ FRs ad fP m0 m' ∧ FlV m' ad F' ∧ ∃ V', WV m' ad V' ∧ ∀ i, 118 ≤ i → i < 132 → V' i = V i) := by
  refine jm_C_of (cd := cd_Fl_slopePart) (ini := false) (by decide +kernel) ok_Fl_slopePart (fun h => by cases h) (Nat.le_of_ble_eq_true rfl) ?_
  intro X hX
  have hK := hO.1
  have hM := hO.2.1
  have hou := hO.2.2.2.1 j hj
  have hn9 : d.1.2.1 * d.1.1 ≤ 9 := Nat.mul_le_mul hM hK.2
  have hg1 := hO.2.2.2.2.1 (3 * j + o) (by omega)
  have hg2 := hO.2.2.2.2.1 (3 * j + (d.2.1 j - 1)) (by omega)
  have hsl : ∀ F, slp d F j k o p pt = slG d F (rhsS d (d.2.2.1 (3 * j + o)) (d.2.2.1 (3 * j + (d.2.1 j - 1))) k) (d.2.2.1 (3 * j + o)) (d.2.2.1 (3 * j + (d.2.1 j - 1))) j k p pt := fun F => rfl
  have kt1 := c_Ln_target (l := l) (D := D) (ca := ca) (j := j) (o := o) S L (by omega) (by omega)
  have klo := c_Ln_lastOut (l := l) (D := D) (ca := ca) (j := j) S L (by omega) hou.1
  have kt2 := c_Ln_target (l := l) (D := D) (ca := ca) (j := j) (o := d.2.1 j - 1) S L (by omega) (by omega)
  generalize hg1e : d.2.2.1 (3 * j + o) = g1 at *
  generalize hg2e : d.2.2.1 (3 * j + (d.2.1 j - 1)) = g2 at *
  have hrhs : ∀ i q, rhsS d g1 g2 k i q = if q = d.1.2.1 * d.1.1 then d.2.2.2.2.2.2 i else if q = d.1.2.1 * d.1.1 + 1 then gramF d g1 k i else gramF d g2 k i := fun i q => rfl
  have hfeed : ds_nS (fun i => d.2.2.2.2.2.2 i) (d.1.2.1 * d.1.1) ≤ 9000000 := by
    have := ds_nS_bd (f := fun i => d.2.2.2.2.2.2 i) (c := 1000000) (n := d.1.2.1 * d.1.1) (fun i hi => hO.2.2.2.2.2.2.2.2 i (by omega))
    have : d.1.2.1 * d.1.1 * 1000000 ≤ 9 * 1000000 := Nat.mul_le_mul_right _ hn9
    omega
  generalize hrs : rhsS d g1 g2 k = f at *
  generalize hne : d.1.2.1 * d.1.1 = n at *
  have hjn : ∀ i, i < d.1.1 → j * d.1.1 + i < n := by
    intro i hi
    rw [← hne]
    have := Nat.mul_le_mul_right d.1.1 (show j + 1 ≤ d.1.2.1 from hj)
    rw [Nat.add_mul, Nat.one_mul] at this
    omega
  have o2 : ∀ {m' : jm_M}, SST m' ad → jm_ok m' (ad 2) 1 := fun S => S.ok 2 (Or.inl (by decide))
  have o1 : ∀ {m' : jm_M}, SST m' ad → jm_ok m' (ad 1) 2 := fun S => S.ok 1 (Or.inl (by decide))
  have o4 : ∀ {m' : jm_M}, SST m' ad → jm_ok m' (ad 4) 0 := fun S => S.ok 4 (Or.inl (by decide))
  have r4 : ∀ {m' : jm_M}, SST m' ad → m'.2.2.2.2 (ad 2) 0 = some (ad 4) := fun S => S.2.2.1 (2, 0, 4) (by decide)
  have r1 : ∀ {m' : jm_M}, SST m' ad → m'.2.2.2.2 (ad 2) 2 = some (ad 1) := fun S => S.2.2.1 (2, 2, 1) (by decide)
  have rb : ∀ {m' : jm_M}, SST m' ad → m'.2.2.2.2 (ad 2) 1 = some (ad 316) := fun S => S.2.2.1 (2, 1, 316) (by decide)
  have rf : ∀ {m' : jm_M}, SST m' ad → m'.2.2.2.2 (ad 2) 9 = some (ad 318) := fun S => S.2.2.1 (2, 9, 318) (by decide)
  have rs : ∀ {m' : jm_M}, SST m' ad → m'.2.2.2.2 (ad 2) 10 = some (ad 320) := fun S => S.2.2.1 (2, 10, 320) (by decide)
  have rp : ∀ {m' : jm_M}, SST m' ad → m'.2.2.2.2 (ad 2) 11 = some (ad 322) := fun S => S.2.2.1 (2, 11, 322) (by decide)
  have rpr : ∀ {m' : jm_M}, SST m' ad → m'.2.2.2.2 (ad 2) 12 = some (ad 324) := fun S => S.2.2.1 (2, 12, 324) (by decide)
  have rsq : ∀ {m' : jm_M}, SST m' ad → m'.2.2.2.2 (ad 2) 13 = some (ad 326) := fun S => S.2.2.1 (2, 13, 326) (by decide)
  have hfPW : ∀ k : Nat, 100 ≤ k → k < 364 → fP k := fun k h _ => Or.inr (Or.inr h)
  have hLp : ∀ k, k < 15 → fP k → k = 0 ∨ k = 2 ∨ k = 3 ∨ k = 4 ∨ 10 < k := fun k hk h => by unfold fP fk at h; omega
  -- the end: 'more' is number x, 'less' number y
  have fin : ∀ (F' : Nat → Nat → Nat) (m : jm_M) (W : Nat → Nat) (x y : Nat) (x8 : Int32), RA d F' n → FRs ad fP m0 m → m.2.2.1 (ad 2) 3 = nI n → FlV m ad F' → WV m ad W → (∀ i, 118 ≤ i → i < 132 → W i = V i) →
      ((x = 109 ∧ y = 110) ∨ (x = 110 ∧ y = 109)) → (x8 = 0 ∨ x8 = 1) → W y ≤ W x → W x ≤ 27 * 83160 * 166320 ^ 8 → W 108 = dt F' n f → (∀ i, i < n → W (12 * i + n) = zs F' n f 0 i) →
      slp d F' j k o p pt = (if x8 = 0 then lN (ppart ((W x - W y) * psz F' (zs F' n f 0) k (j * d.1.1) d.1.1) (dt F' n f * dt F' n f) pt) else npart ((W x - W y) * psz F' (zs F' n f 0) k (j * d.1.1) d.1.1) (dt F' n f * dt F' n f) pt) →
      X 157 [(0, .ref (ad 2)), (1, .int (nI j)), (2, .int (nI k)), (5, .int (nI pt)), (8, .int x8), (9, .ref (ad (100 + 2 * x))), (10, .ref (ad (100 + 2 * y)))] [] m 0 0 := by
    intro F' m W x y x8 hA hR hs hFl hW hhi hxy h8 hle hWx hdt hz hans
    have hG := hFG F' hA
    have Sm := hR.S S
    have hx2 : x < 132 := by omega
    have hy2 : y < 132 := by omega
    have hdd := am_d (f := f) hG hn9
    have hd0 : 0 < dt F' n f := by unfold dt; omega
    have hd9 : dt F' n f ≤ 166320 ^ 9 := by unfold dt; omega
    have hd2 : dt F' n f * dt F' n f < wB ^ 11 := Nat.lt_of_le_of_lt (Nat.mul_le_mul hd9 hd9) (by decide)
    have hps : psz F' (zs F' n f 0) k (j * d.1.1) d.1.1 ≤ 3 * (83160 * (166320 ^ 8 * 9000000)) := by
      refine Nat.le_trans (ds_nS_bd (c := 83160 * (166320 ^ 8 * 9000000)) (fun i hi => ?_)) (Nat.mul_le_mul_right _ hK.2)
      have h1 := hG.2.1 (37 + k) (fk_t (by omega)) _ (hjn i hi)
      have h2 := (am_C (f := f) (j := n + 0) (R := 9000000) hG hn9 (hjn i hi) (by omega) (by
        refine Nat.le_trans (Nat.le_of_eq (ds_nS_congr (fun i _ => ?_))) hfeed
        rw [hrhs, if_pos (by omega)])).2
      refine Nat.mul_le_mul h1 ?_
      unfold zs; omega
    have hprod : (W x - W y) * psz F' (zs F' n f 0) k (j * d.1.1) d.1.1 < wB ^ 12 :=
      Nat.lt_of_le_of_lt (Nat.mul_le_mul (Nat.le_trans (Nat.sub_le _ _) hWx) hps) (by decide)
    have h1213 : wB ^ 12 ≤ wB ^ 13 := Nat.pow_le_pow_right (by decide) (by decide)
    have h1113 : wB ^ 11 ≤ wB ^ 13 := Nat.pow_le_pow_right (by decide) (by decide)
    have key1 := w_sub (l := l) (D := D) (ca := ca) (i := x) (j := y) Sm hW hx2 hy2 (by omega) hle
    refine jm_run hX [] 80 ?_
    refine And.intro (Sm.wh x hx2).1 (And.intro (Nat.le_of_ble_eq_true rfl) (And.intro (Nat.le_of_ble_eq_true rfl) ⟨0, 0, _, Nat.le_refl _, Nat.le_refl _, key1, fun v m1 hq => ?_⟩))
    obtain ⟨rfl, hR1, hW1⟩ := hq
    have S1 := hR1.S Sm
    have hRR1 : FRs ad fP m0 m1 := hR.tr (FRs.W hfPW hR1)
    have hs1 : m1.2.2.1 (ad 2) 3 = nI n := by rw [hR1.I Sm (by decide)]; exact hs
    have L1 := hRR1.L S hLp L
    have hF1 := hR1.F Sm hFl
    have epz : psA F' (va_up W x (W x - W y)) k (j * d.1.1) n d.1.1 = psz F' (zs F' n f 0) k (j * d.1.1) d.1.1 := ds_nS_congr (fun i hi => by
      have := hjn i hi
      rw [va_up_ne _ _ (by omega), hz _ this])
    have hFb : ∀ i, i < d.1.1 → F' (37 + k) (j * d.1.1 + i) < 1073741824 := fun i hi => by
      have := hG.2.1 (37 + k) (fk_t (by omega)) _ (hjn i hi)
      omega
    have key2 := c_Fl_putPassing (l := l) (D := D) (ca := ca) (j := j) (t := k) (x := 111) S1 L1 hO hF1 hW1 hs1 hn9 hj (by omega) (by decide) (by decide) hFb (by rw [epz]; exact Nat.lt_of_le_of_lt hps (by decide))
    rw [epz] at key2
    generalize hPe : psz F' (zs F' n f 0) k (j * d.1.1) d.1.1 = ps at *
    generalize hDe : dt F' n f = dd at *
    refine And.intro (o2 S1) ⟨some (ad 322), rp S1, ?_⟩
    refine And.intro (o2 S1) (And.intro (Nat.le_of_ble_eq_true rfl) (And.intro (Nat.le_of_ble_eq_true rfl) ⟨0, 0, _, Nat.le_refl _, Nat.le_refl _, key2, fun v m2 hq => ?_⟩))
    obtain ⟨rfl, hR2, hW2⟩ := hq
    have S2 := hR2.S S1
    have gx : va_up (va_up W x (W x - W y)) 111 ps x = W x - W y := by rw [va_up_ne _ _ (by omega), va_up_self]
    have gp : va_up (va_up W x (W x - W y)) 111 ps 111 = ps := va_up_self _ _ _
    have gb : va_up (va_up W x (W x - W y)) 111 ps 108 = dd := by rw [va_up_ne _ _ (by decide), va_up_ne _ _ (by omega)]; exact hdt
    have key3 := w_mul (l := l) (D := D) (ca := ca) (i := 112) (j := x) (k := 111) S2 hW2 (by decide) hx2 (by decide) (by omega) (by decide) (by rw [gx, gp]; exact Nat.lt_of_lt_of_le hprod h1213)
    rw [gx, gp] at key3
    refine And.intro (o2 S2) ⟨some (ad 324), rpr S2, And.intro (o2 S2) ⟨some (ad 322), rp S2, ?_⟩⟩
    refine And.intro (S2.wh 112 (by decide)).1 (And.intro (Nat.le_of_ble_eq_true rfl) (And.intro (Nat.le_of_ble_eq_true rfl) ⟨0, 0, _, Nat.le_refl _, Nat.le_refl _, key3, fun v m3 hq => ?_⟩))
    obtain ⟨rfl, hR3, hW3⟩ := hq
    have S3 := hR3.S S2
    have gb3 : va_up (va_up (va_up W x (W x - W y)) 111 ps) 112 ((W x - W y) * ps) 108 = dd := by rw [va_up_ne _ _ (by decide)]; exact gb
    have key4 := w_mul (l := l) (D := D) (ca := ca) (i := 113) (j := 108) (k := 108) S3 hW3 (by decide) (by decide) (by decide) (by decide) (by decide) (by rw [gb3]; exact Nat.lt_of_lt_of_le hd2 h1113)
    rw [gb3] at key4
    refine And.intro (o2 S3) ⟨some (ad 326), rsq S3, And.intro (o2 S3) ⟨some (ad 316), rb S3, And.intro (o2 S3) ⟨some (ad 316), rb S3, ?_⟩⟩⟩
    refine And.intro (S3.wh 113 (by decide)).1 (And.intro (Nat.le_of_ble_eq_true rfl) (And.intro (Nat.le_of_ble_eq_true rfl) ⟨0, 0, _, Nat.le_refl _, Nat.le_refl _, key4, fun v m4 hq => ?_⟩))
    obtain ⟨rfl, hR4, hW4⟩ := hq
    have S4 := hR4.S S3
    generalize hV4 : va_up (va_up (va_up (va_up W x (W x - W y)) 111 ps) 112 ((W x - W y) * ps)) 113 (dd * dd) = V4 at hW4
    have g112 : V4 112 = (W x - W y) * ps := by rw [← hV4, va_up_ne _ _ (by decide), va_up_self]
    have g113 : V4 113 = dd * dd := by rw [← hV4, va_up_self]
    have ghi : ∀ i, 118 ≤ i → i < 132 → V4 i = V i := fun i h1 h2 => by
      rw [← hV4, va_up_ne _ _ (by omega), va_up_ne _ _ (by omega), va_up_ne _ _ (by omega), va_up_ne _ _ (by omega)]; exact hhi i h1 h2
    have hdd0 : 0 < dd * dd := Nat.mul_pos hd0 hd0
    have hRR4 : FRs ad fP m0 m4 := hRR1.tr (FRs.W hfPW (hR2.tr (hR3.tr hR4)))
    have hF4 := (hR2.tr (hR3.tr hR4)).F S1 hF1
    rcases h8 with h8 | h8
    · subst h8
      rw [if_pos rfl] at hans
      have key5 := c_Dv_partOf (l := l) (D := D) (ca := ca) (ia := 112) (iu := 113) S4 hW4 (by decide) (by decide) (by decide) (by decide) (by rw [g112]; exact hprod) (by rw [g113]; exact hd2) (by rw [g113]; exact hdd0) hpt
      rw [g112, g113, ← hans] at key5
      refine And.intro (fun _ => ?_) (fun g => absurd rfl g)
      refine And.intro (o2 S4) ⟨some (ad 4), r4 S4, And.intro (o2 S4) ⟨some (ad 324), rpr S4, And.intro (o2 S4) ⟨some (ad 326), rsq S4, ?_⟩⟩⟩
      refine And.intro (o4 S4) (And.intro (Nat.le_of_ble_eq_true rfl) (And.intro (Nat.le_of_ble_eq_true rfl) ⟨0, 0, _, Nat.le_refl _, Nat.le_refl _, key5, fun v m5 hq => ?_⟩))
      obtain ⟨rfl, hR5, V5, hW5, hsm⟩ := hq
      exact ⟨Nat.le_refl _, Nat.le_refl _, trivial, F', hA, rfl, hRR4.tr (FRs.W hfPW hR5), hR5.F S4 hF4, V5, hW5, fun i h1 h2 => by rw [hsm i h2 (by omega) (by omega) (by omega) (by omega)]; exact ghi i h1 h2⟩
    · subst h8
      rw [if_neg (by decide)] at hans
      have key5 := c_Dv_partOfNegative (l := l) (D := D) (ca := ca) (ia := 112) (iu := 113) S4 hW4 (by decide) (by decide) (by decide) (by decide) (by rw [g112]; exact hprod) (by rw [g113]; exact hd2) (by rw [g113]; exact hdd0) hpt
      rw [g112, g113, ← hans] at key5
      refine And.intro (fun g => absurd g (by decide)) (fun _ => ?_)
      refine And.intro (o2 S4) ⟨some (ad 4), r4 S4, And.intro (o2 S4) ⟨some (ad 324), rpr S4, And.intro (o2 S4) ⟨some (ad 326), rsq S4, ?_⟩⟩⟩
      refine And.intro (o4 S4) (And.intro (Nat.le_of_ble_eq_true rfl) (And.intro (Nat.le_of_ble_eq_true rfl) ⟨0, 0, _, Nat.le_refl _, Nat.le_refl _, key5, fun v m5 hq => ?_⟩))
      obtain ⟨rfl, hR5, V5, hW5, hsm⟩ := hq
      exact ⟨Nat.le_refl _, Nat.le_refl _, trivial, F', hA, rfl, hRR4.tr (FRs.W hfPW hR5), hR5.F S4 hF4, V5, hW5, fun i h1 h2 => by rw [hsm i h2 (by omega) (by omega) (by omega) (by omega)]; exact ghi i h1 h2⟩
  refine jm_run hX [(157, [0, 1, 2, 5, 8, 9, 10])] 100 ?_
  refine And.intro (o2 S) ⟨some (ad 1), r1 S, ?_⟩
  refine And.intro (o1 S) (And.intro (Nat.le_of_ble_eq_true rfl) (And.intro (Nat.le_of_ble_eq_true rfl) ⟨0, 0, _, Nat.le_refl _, Nat.le_refl _, kt1, fun v m' hq => ?_⟩))
  obtain ⟨ee, rfl⟩ := hq
  have ee := ee.symm
  subst ee
  refine And.intro (o2 S) ⟨some (ad 1), r1 S, And.intro (o2 S) ⟨some (ad 1), r1 S, ?_⟩⟩
  refine And.intro (o1 S) (And.intro (Nat.le_of_ble_eq_true rfl) (And.intro (Nat.le_of_ble_eq_true rfl) ⟨0, 0, _, Nat.le_refl _, Nat.le_refl _, klo, fun v m' hq => ?_⟩))
  obtain ⟨ee, rfl⟩ := hq
  have ee := ee.symm
  subst ee
  refine And.intro (o1 S) (And.intro (Nat.le_of_ble_eq_true rfl) (And.intro (Nat.le_of_ble_eq_true rfl) ⟨0, 0, _, Nat.le_refl _, Nat.le_refl _, kt2, fun v m' hq => ?_⟩))
  obtain ⟨ee, rfl⟩ := hq
  have ee := ee.symm
  subst ee
  have krl := c_Fl_readLine (l := l) (D := D) (ca := ca) S L hO hB hF hV
  refine And.intro (o2 S) (And.intro (Nat.le_of_ble_eq_true rfl) (And.intro (Nat.le_of_ble_eq_true rfl) ⟨0, 0, _, Nat.le_refl _, Nat.le_refl _, krl, fun v m1 hq => ?_⟩))
  rw [hne] at hq
  obtain ⟨rfl, hR1, hs1, F', V1, hF1, hA1, hW1, hhi1, hro1⟩ := hq
  have hG := hFG F' hA1
  have S1 := hR1.S S
  have L1 := hR1.L S hLp L
  have kg1 := c_Fl_putGram (l := l) (D := D) (ca := ca) (k := k) (col := n + 1) (tv := g1) S1 L1 hO hW1 hs1 hn9 hk (by omega) hg1
  rw [← nI_1, ← hs1] at kg1
  refine And.intro (o2 S1) ?_
  refine And.intro (o2 S1) (And.intro (Nat.le_of_ble_eq_true rfl) (And.intro (Nat.le_of_ble_eq_true rfl) ⟨0, 0, _, Nat.le_refl _, Nat.le_refl _, kg1, fun v m2 hq => ?_⟩))
  obtain ⟨rfl, hR2, V2, hW2, hg2a, hg2b⟩ := hq
  have S2 := hR2.S S1
  have hs2 : m2.2.2.1 (ad 2) 3 = nI n := by rw [hR2.I S1 (by decide)]; exact hs1
  have L2 := hR2.L S1 L1
  have kg2 := c_Fl_putGram (l := l) (D := D) (ca := ca) (k := k) (col := n + 2) (tv := g2) S2 L2 hO hW2 hs2 hn9 hk (by omega) hg2
  rw [← nI_add, ← hs2] at kg2
  refine And.intro (o2 S2) ?_
  refine And.intro (o2 S2) (And.intro (Nat.le_of_ble_eq_true rfl) (And.intro (Nat.le_of_ble_eq_true rfl) ⟨0, 0, _, Nat.le_refl _, Nat.le_refl _, kg2, fun v m3 hq => ?_⟩))
  obtain ⟨rfl, hR3, V3, hW3, hg3a, hg3b⟩ := hq
  have S3 := hR3.S S2
  have hs3 : m3.2.2.1 (ad 2) 3 = nI n := by rw [hR3.I S2 (by decide)]; exact hs2
  have hin : ∀ i, i < n → ∀ q, q < n + 3 → (V3 (12 * i + q) : Int) = bz_g n i q * am F' n f i q := by
    intro i hi q hq
    by_cases e2 : q = n + 2
    · subst e2
      rw [hg3a i hi, bz_am_r (by omega), hrhs, if_neg (show ¬ n + 2 = n by omega), if_neg (show ¬ n + 2 = n + 1 by omega)]
      rfl
    · rw [hg3b _ (by omega) (by omega)]
      by_cases e1 : q = n + 1
      · subst e1
        rw [hg2a i hi, bz_am_r (by omega), hrhs, if_neg (show ¬ n + 1 = n by omega), if_pos (show n + 1 = n + 1 from rfl)]
        rfl
      · rw [hg2b _ (by omega) (by omega)]
        have hro := hro1 i hi
        unfold rowOK at hro
        rw [hne] at hro
        by_cases e0 : q = n
        · subst e0
          rw [hro.2, bz_am_r (Nat.le_refl _), hrhs, if_pos rfl]
        · rw [hro.1 q (by omega)]
          have hb2 := (RA.at hB (by rw [hne]; exact hA1) (r := i) (by rw [hne]; exact hi)).2.1 (17 + i) (fk_m (by omega))
          by_cases e : i = q
          · subst e
            rw [if_pos rfl, bz_am_d hi hb2]
          · rw [if_neg e, bz_am_o (by omega) e]
  have hrb : ∀ q, n ≤ q → q < n + 3 → bz_cs (am F' n f) n q ≤ 9000000 := by
    intro q h1 h2
    rw [am_rhs h1]
    by_cases e0 : q = n
    · refine Nat.le_trans (Nat.le_of_eq (ds_nS_congr (fun i _ => ?_))) hfeed
      rw [hrhs, if_pos e0]
    · by_cases e1 : q = n + 1
      · refine Nat.le_trans (Nat.le_trans (Nat.le_of_eq (ds_nS_congr (fun i _ => ?_))) (gram_sum d g1 k n)) (by decide)
        rw [hrhs, if_neg e0, if_pos e1]
      · refine Nat.le_trans (Nat.le_trans (Nat.le_of_eq (ds_nS_congr (fun i _ => ?_))) (gram_sum d g2 k n)) (by decide)
        rw [hrhs, if_neg e0, if_neg e1]
  have kel := c_Fl_eliminate (l := l) (D := D) (ca := ca) (rs := 3) S3 hW3 hs3 hn9 (by decide) (by decide) (hG.1 f) (bz_B_of hn9 (fun q hq => am_cs hG hn9 hq) hrb) bzBig_ok hin
  refine And.intro (o2 S3) (And.intro (Nat.le_of_ble_eq_true rfl) (And.intro (Nat.le_of_ble_eq_true rfl) ⟨0, 0, _, Nat.le_refl _, Nat.le_refl _, kel, fun v m4 hq => ?_⟩))
  obtain ⟨rfl, hR4, V4, hW4, hhi4, hd4, hz4⟩ := hq
  have S4 := hR4.S S3
  have hs4 : m4.2.2.1 (ad 2) 3 = nI n := by rw [hR4.I S3 (by decide)]; exact hs3
  have hR14 := hR2.tr (hR3.tr hR4)
  have L4 := hR14.L S1 L1
  have hF4 := hR14.F S1 hF1
  have hd4n : V4 108 = dt F' n f := by unfold dt; omega
  have hz4n : ∀ q, q < 3 → ∀ i, i < n → V4 (12 * i + (n + q)) = zs F' n f q i := by
    intro q hq i hi
    have := hz4 i hi (n + q) (by omega) (by omega)
    unfold zs; omega
  have hz1 : ∀ q, q = 1 ∨ q = 2 → ∀ i, i < n → zs F' n f q i ≤ 166320 ^ 8 := by
    intro q hq i hi
    have h2 := (am_C (f := f) (j := n + q) (R := 1) hG hn9 hi (by omega) (by
      rcases hq with hq | hq
      · refine Nat.le_trans (Nat.le_of_eq (ds_nS_congr (fun i _ => ?_))) (gram_sum d g1 k n)
        rw [hrhs, if_neg (by omega), if_pos (by omega)]
      · refine Nat.le_trans (Nat.le_of_eq (ds_nS_congr (fun i _ => ?_))) (gram_sum d g2 k n)
        rw [hrhs, if_neg (by omega), if_neg (by omega)])).2
    unfold zs; omega
  have hpr : ∀ q, q < d.1.1 → p * d.1.1 + q < 9 := fun q hq => row_lt hK.2 hO.2.2.1 hp hq
  have hsum : ∀ q, q = 1 ∨ q = 2 → ds_nS (fun k => amz F' (zs F' n f q) (p * d.1.1 + k) n) d.1.1 ≤ 27 * 83160 * 166320 ^ 8 := by
    intro q hq
    refine Nat.le_trans (ds_nS_bd (c := 9 * (83160 * 166320 ^ 8)) (fun r hr => ?_)) (Nat.le_trans (Nat.mul_le_mul_right _ hK.2) (by decide))
    refine Nat.le_trans (ds_nS_bd (c := 83160 * 166320 ^ 8) (fun i hi => ?_)) (Nat.mul_le_mul_right _ hn9)
    exact Nat.mul_le_mul (hG.2.1 _ (fk_l (hpr r hr)) i hi) (hz1 q hq i hi)
  have hdd := am_d (f := f) hG hn9
  have hd9 : dt F' n f ≤ 27 * 83160 * 166320 ^ 8 := Nat.le_trans (show dt F' n f ≤ 166320 ^ 9 by unfold dt; omega) (by decide)
  have hrchb : ∀ q tv, q = 1 ∨ q = 2 → rchz d F' (dt F' n f) (zs F' n f q) tv p n ≤ 27 * 83160 * 166320 ^ 8 := by
    intro q tv hq
    unfold rchz
    split
    · exact hd9
    · split
      · exact hsum q hq
      · exact Nat.zero_le _
  have hFb : ∀ r, r < 9 → ∀ i, i < n → F' (27 + r) i < 1073741824 := fun r hr i hi => by
    have := hG.2.1 _ (fk_l hr) i hi
    omega
  have ert : ∀ (W : Nat → Nat) q tv, (∀ i, i < n → W (12 * i + (n + q)) = zs F' n f q i) → W 108 = dt F' n f → rch d F' W tv p (n + q) n = rchz d F' (dt F' n f) (zs F' n f q) tv p n ∧ ds_nS (fun k => amt F' W (p * d.1.1 + k) (n + q) n) d.1.1 = ds_nS (fun k => amz F' (zs F' n f q) (p * d.1.1 + k) n) d.1.1 := by
    intro W q tv h1 h2
    have e1 : ds_nS (fun k => amt F' W (p * d.1.1 + k) (n + q) n) d.1.1 = ds_nS (fun k => amz F' (zs F' n f q) (p * d.1.1 + k) n) d.1.1 := ds_nS_congr (fun r _ => amt_z h1)
    refine ⟨?_, e1⟩
    unfold rch rchz
    rw [e1, h2]
  have e41 := ert V4 1 g1 (hz4n 1 (by decide)) hd4n
  have kr1 := c_Fl_putReached (l := l) (D := D) (ca := ca) (p := p) (col := n + 1) (x := 109) (tv := g1) S4 L4 hO hF4 hW4 hs4 hn9 hp (by omega) (by decide) (by decide) hFb (by rw [e41.2]; exact Nat.lt_of_le_of_lt (hsum 1 (Or.inl rfl)) (by decide))
  rw [e41.1, ← nI_1, ← hs4] at kr1
  refine And.intro (o2 S4) (And.intro (o2 S4) ⟨some (ad 318), rf S4, ?_⟩)
  refine And.intro (o2 S4) (And.intro (Nat.le_of_ble_eq_true rfl) (And.intro (Nat.le_of_ble_eq_true rfl) ⟨0, 0, _, Nat.le_refl _, Nat.le_refl _, kr1, fun v m5 hq => ?_⟩))
  obtain ⟨rfl, hR5, hW5⟩ := hq
  have S5 := hR5.S S4
  have hs5 : m5.2.2.1 (ad 2) 3 = nI n := by rw [hR5.I S4 (by decide)]; exact hs4
  have L5 := hR5.L S4 L4
  have hF5 := hR5.F S4 hF4
  generalize hfie : rchz d F' (dt F' n f) (zs F' n f 1) g1 p n = fi at *
  have e52 := ert (va_up V4 109 fi) 2 g2 (fun i hi => by rw [va_up_ne _ _ (by omega)]; exact hz4n 2 (by decide) i hi) (by rw [va_up_ne _ _ (by decide)]; exact hd4n)
  have kr2 := c_Fl_putReached (l := l) (D := D) (ca := ca) (p := p) (col := n + 2) (x := 110) (tv := g2) S5 L5 hO hF5 hW5 hs5 hn9 hp (by omega) (by decide) (by decide) hFb (by rw [e52.2]; exact Nat.lt_of_le_of_lt (hsum 2 (Or.inr rfl)) (by decide))
  rw [e52.1, ← nI_add, ← hs5] at kr2
  refine And.intro (o2 S5) (And.intro (o2 S5) ⟨some (ad 320), rs S5, ?_⟩)
  refine And.intro (o2 S5) (And.intro (Nat.le_of_ble_eq_true rfl) (And.intro (Nat.le_of_ble_eq_true rfl) ⟨0, 0, _, Nat.le_refl _, Nat.le_refl _, kr2, fun v m6 hq => ?_⟩))
  obtain ⟨rfl, hR6, hW6⟩ := hq
  have S6 := hR6.S S5
  have hs6 : m6.2.2.1 (ad 2) 3 = nI n := by rw [hR6.I S5 (by decide)]; exact hs5
  have hF6 := hR6.F S5 hF5
  have hfib : fi ≤ 27 * 83160 * 166320 ^ 8 := by rw [← hfie]; exact hrchb 1 g1 (Or.inl rfl)
  have hseb : rchz d F' (dt F' n f) (zs F' n f 2) g2 p n ≤ 27 * 83160 * 166320 ^ 8 := hrchb 2 g2 (Or.inr rfl)
  generalize hsee : rchz d F' (dt F' n f) (zs F' n f 2) g2 p n = se at *
  have hRR6 : FRs ad fP m0 m6 := hR1.tr (FRs.W hfPW (hR14.tr (hR5.tr hR6)))
  have q109 : va_up (va_up V4 109 fi) 110 se 109 = fi := by rw [va_up_ne _ _ (by decide), va_up_self]
  have q110 : va_up (va_up V4 109 fi) 110 se 110 = se := va_up_self _ _ _
  have q108 : va_up (va_up V4 109 fi) 110 se 108 = dt F' n f := by rw [va_up_ne _ _ (by decide), va_up_ne _ _ (by decide)]; exact hd4n
  have qz : ∀ i, i < n → va_up (va_up V4 109 fi) 110 se (12 * i + n) = zs F' n f 0 i := fun i hi => by
    rw [va_up_ne _ _ (by omega), va_up_ne _ _ (by omega)]; exact hz4n 0 (by decide) i hi
  have qhi : ∀ i, 118 ≤ i → i < 132 → va_up (va_up V4 109 fi) 110 se i = V i := fun i h1 h2 => by
    rw [va_up_ne _ _ (by omega), va_up_ne _ _ (by omega), hhi4 i (by omega) h2, hg3b i h2 (by omega), hg2b i h2 (by omega), hhi1 i (by omega)]
  have hanse : slp d F' j k o p pt = sgd fi se (psz F' (zs F' n f 0) k (j * d.1.1) d.1.1) (dt F' n f) pt := by
    rw [hsl]
    unfold slG
    rw [hne, hfie, hsee]
  have kc := w_cmp (l := l) (D := D) (ca := ca) (i := 109) (j := 110) S6 hW6 (by decide) (by decide)
  rw [q109, q110] at kc
  refine And.intro (o2 S6) ⟨some (ad 318), rf S6, And.intro (o2 S6) ⟨some (ad 320), rs S6, ?_⟩⟩
  refine And.intro (S6.wh 109 (by decide)).1 (And.intro (Nat.le_of_ble_eq_true rfl) (And.intro (Nat.le_of_ble_eq_true rfl) ⟨0, 0, _, Nat.le_refl _, Nat.le_refl _, kc, fun v m7 hq => ?_⟩))
  obtain ⟨ee, rfl⟩ := hq
  have ee := ee.symm
  subst ee
  refine And.intro (fun g => ?_) (fun g => ?_)
  · rw [cmp_ge] at g
    refine And.intro (fun _ => ?_) (fun g => absurd rfl g)
    refine And.intro (o2 S6) ⟨some (ad 318), rf S6, ?_⟩
    refine And.intro (fun _ => ?_) (fun g => absurd rfl g)
    refine And.intro (o2 S6) ⟨some (ad 320), rs S6, ?_⟩
    refine fin F' m6 _ 109 110 0 hA1 hRR6 hs6 hF6 hW6 qhi (Or.inl ⟨rfl, rfl⟩) (Or.inl rfl) (by rw [q109, q110]; omega) (by rw [q109]; exact hfib) q108 qz ?_
    rw [hanse, q109, q110, if_pos rfl]
    unfold sgd
    rw [if_neg g]
  · rw [cmp_ge] at g
    have g := Classical.not_not.mp g
    refine And.intro (fun g => absurd g (by decide)) (fun _ => ?_)
    refine And.intro (o2 S6) ⟨some (ad 320), rs S6, ?_⟩
    refine And.intro (fun g => absurd g (by decide)) (fun _ => ?_)
    refine And.intro (o2 S6) ⟨some (ad 318), rf S6, ?_⟩
    refine fin F' m6 _ 110 109 1 hA1 hRR6 hs6 hF6 hW6 qhi (Or.inr ⟨rfl, rfl⟩) (Or.inr rfl) (by rw [q109, q110]; omega) (by rw [q110]; exact hseb) q108 qz ?_
    rw [hanse, q109, q110, if_neg (by decide)]
    unfold sgd
    rw [if_pos g]
end FLS
end
section
theorem e41 (i : Nat) : 338 + 2 * i = 100 + 2 * (119 + i) := by omega
theorem e42 (i : Nat) : 356 + 2 * i = 100 + 2 * (128 + i) := by omega
def sP3 (k : Nat) : Prop := k = 3 ∨ 100 ≤ k
theorem sP3L : ∀ k, k < 15 → sP3 k → k = 0 ∨ k = 2 ∨ k = 3 ∨ k = 4 ∨ 10 < k := fun k _ h => by unfold sP3 at h; omega
section SO
variable {l : Launch} {D : va_G} {ca : Nat → ClassId}
theorem c_So_hasMachine {m : jm_M} {ad : Nat → Nat} {kn : Bool} {sM : Nat} (S : SST m ad) (h0 : m.2.2.1 (ad 3) 0 = bI kn) (h1 : kn = true → m.2.2.1 (ad 3) 1 = nI sM) (hM : sM < 2 ^ 31) (x : Int32) : jm_C l D ca n_So_hasMachine [.ref (ad 3), .int x] m 0 0 (fun v m' => m' = m ∧ v = some (.int (if kn = true ∧ 0 ≤ x.toInt ∧ x.toInt < (sM : Int) then 1 else 0))) := by
  refine jm_C_of (cd := cd_So_hasMachine) (ini := false) (by decide +kernel) ok_So_hasMachine (fun h => by cases h) (Nat.le_of_ble_eq_true rfl) ?_
  intro X hX
  have o3 : jm_ok m (ad 3) 3 := S.ok 3 (Or.inl (by decide))
  refine jm_run hX [] 20 ?_
  refine And.intro o3 ?_
  cases kn with
  | false =>
    refine And.intro (fun g => ?_) (fun g => ?_)
    · exact ⟨Nat.le_refl _, Nat.le_refl _, Or.inl rfl, rfl, by rw [if_neg (fun q => by cases q.1)]⟩
    · have g : ¬ m.2.2.1 (ad 3) 0 = 0 := g
      rw [h0] at g; exact absurd rfl g
  | true =>
    refine And.intro (fun g => ?_) (fun g => ?_)
    · have g : m.2.2.1 (ad 3) 0 = 0 := g
      rw [h0] at g; exact absurd g (by decide)
    refine And.intro (fun g => ?_) (fun g => ?_)
    · rw [ilt0] at g
      exact ⟨Nat.le_refl _, Nat.le_refl _, Or.inl rfl, rfl, by rw [if_neg (by omega)]⟩
    · rw [ilt0] at g
      refine And.intro o3 (And.intro (fun g2 => ?_) (fun g2 => ?_))
      · have g2 : m.2.2.1 (ad 3) 1 ≤ x := g2
        rw [h1 rfl, ileN hM] at g2
        exact ⟨Nat.le_refl _, Nat.le_refl _, Or.inl rfl, rfl, by rw [if_neg (by omega)]⟩
      · have g2 : ¬ m.2.2.1 (ad 3) 1 ≤ x := g2
        rw [h1 rfl, ileN hM] at g2
        exact ⟨Nat.le_refl _, Nat.le_refl _, Or.inr rfl, rfl, by rw [if_pos ⟨rfl, by omega⟩]⟩
theorem c_So_hasPort {m : jm_M} {ad : Nat → Nat} {kn : Bool} {sM : Nat} (S : SST m ad) (h0 : m.2.2.1 (ad 3) 0 = bI kn) (h1 : kn = true → m.2.2.1 (ad 3) 2 = nI sM) (hM : sM < 2 ^ 31) (x : Int32) : jm_C l D ca n_So_hasPort [.ref (ad 3), .int x] m 0 0 (fun v m' => m' = m ∧ v = some (.int (if kn = true ∧ 0 ≤ x.toInt ∧ x.toInt < (sM : Int) then 1 else 0))) := by
  refine jm_C_of (cd := cd_So_hasPort) (ini := false) (by decide +kernel) ok_So_hasPort (fun h => by cases h) (Nat.le_of_ble_eq_true rfl) ?_
  intro X hX
  have o3 : jm_ok m (ad 3) 3 := S.ok 3 (Or.inl (by decide))
  refine jm_run hX [] 20 ?_
  refine And.intro o3 ?_
  cases kn with
  | false =>
    refine And.intro (fun g => ?_) (fun g => ?_)
    · exact ⟨Nat.le_refl _, Nat.le_refl _, Or.inl rfl, rfl, by rw [if_neg (fun q => by cases q.1)]⟩
    · have g : ¬ m.2.2.1 (ad 3) 0 = 0 := g
      rw [h0] at g; exact absurd rfl g
  | true =>
    refine And.intro (fun g => ?_) (fun g => ?_)
    · have g : m.2.2.1 (ad 3) 0 = 0 := g
      rw [h0] at g; exact absurd g (by decide)
    refine And.intro (fun g => ?_) (fun g => ?_)
    · rw [ilt0] at g
      exact ⟨Nat.le_refl _, Nat.le_refl _, Or.inl rfl, rfl, by rw [if_neg (by omega)]⟩
    · rw [ilt0] at g
      refine And.intro o3 (And.intro (fun g2 => ?_) (fun g2 => ?_))
      · have g2 : m.2.2.1 (ad 3) 2 ≤ x := g2
        rw [h1 rfl, ileN hM] at g2
        exact ⟨Nat.le_refl _, Nat.le_refl _, Or.inl rfl, rfl, by rw [if_neg (by omega)]⟩
      · have g2 : ¬ m.2.2.1 (ad 3) 2 ≤ x := g2
        rw [h1 rfl, ileN hM] at g2
        exact ⟨Nat.le_refl _, Nat.le_refl _, Or.inr rfl, rfl, by rw [if_pos ⟨rfl, by omega⟩]⟩
/-- sum becomes all that came to a port -/
theorem c_So_allAtPort {m0 : jm_M} {ad V : Nat → Nat} {d : LD} {p : Nat} (S : SST m0 ad) (L : LnV m0 ad d) (hO : LOK d) (hV : WV m0 ad V) (hp : p < 3) (hb : ds_nS (fun k => V (119 + (p * d.1.1 + k))) d.1.1 < wB ^ 13) : jm_C l D ca n_So_allAtPort [.ref (ad 3), .int (nI p), .ref (ad 1)] m0 0 0 (fun v m' => v = some (.ref (ad (100 + 2 * 131))) ∧ FRW ad m0 m' ∧ WV m' ad (va_up V 131 (ds_nS (fun k => V (119 + (p * d.1.1 + k))) d.1.1))) := by
  refine jm_C_of (cd := cd_So_allAtPort) (ini := false) (by decide +kernel) ok_So_allAtPort (fun h => by cases h) (Nat.le_of_ble_eq_true rfl) ?_
  intro X hX
  have hK := hO.1
  have o3 : ∀ {m' : jm_M}, SST m' ad → jm_ok m' (ad 3) 3 := fun S => S.ok 3 (Or.inl (by decide))
  have o1 : ∀ {m' : jm_M}, SST m' ad → jm_ok m' (ad 1) 2 := fun S => S.ok 1 (Or.inl (by decide))
  have rs : ∀ {m' : jm_M}, SST m' ad → m'.2.2.2.2 (ad 3) 6 = some (ad 362) := fun S => S.2.2.1 (3, 6, 362) (by decide)
  have ra : ∀ {m' : jm_M}, SST m' ad → m'.2.2.2.2 (ad 3) 4 = some (ad 41) := fun S => S.2.2.1 (3, 4, 41) (by decide)
  have o41 : ∀ {m' : jm_M}, SST m' ad → jm_ok m' (ad 41) 53 := fun S => S.ok 41 (Or.inl (by decide))
  have l41 : ∀ {m' : jm_M}, SST m' ad → (m'.2.1 (ad 41)).2 = 9 := fun S => S.len 41 (Or.inl (by decide))
  have loop : ∀ (e i : Nat) (m : jm_M), i + e = d.1.1 → FRW ad m0 m → WV m ad (va_up V 131 (ds_nS (fun k => V (119 + (p * d.1.1 + k))) i)) → X 10 [(0, .ref (ad 3)), (1, .int (nI p)), (2, .ref (ad 1)), (3, .int (nI i))] [] m 0 0 := by
    intro e
    induction e with
    | zero =>
      intro i m hi hR hW
      have Sm := hR.S S
      have Lm := hR.L S L
      refine jm_run hX [] 20 ?_
      refine And.intro (o1 Sm) (And.intro (fun _ => ?_) (fun g => ?_))
      · refine And.intro (o3 Sm) ⟨some (ad 362), rs Sm, ?_⟩
        rw [show i = d.1.1 by omega] at hW
        exact ⟨Nat.le_refl _, Nat.le_refl _, trivial, rfl, hR, hW⟩
      · have g : ¬ m.2.2.1 (ad 1) 0 ≤ nI i := g
        rw [Lm.1] at g
        exact absurd (nI_le (by omega) (by omega)) g
    | succ e ih =>
      intro i m hi hR hW
      have Sm := hR.S S
      have Lm := hR.L S L
      have hrow := row_lt (M := 3) hK.2 (by decide) hp (show i < d.1.1 by omega)
      have hstep : ds_nS (fun k => V (119 + (p * d.1.1 + k))) i + V (119 + (p * d.1.1 + i)) = ds_nS (fun k => V (119 + (p * d.1.1 + k))) (i + 1) := rfl
      have hle : ds_nS (fun k => V (119 + (p * d.1.1 + k))) (i + 1) ≤ ds_nS (fun k => V (119 + (p * d.1.1 + k))) d.1.1 := ds_nS_le (by omega)
      have key0 := c_Ln_row (l := l) (D := D) (ca := ca) (j := p) (k := i) Sm Lm
      generalize hrr : p * d.1.1 + i = rr at *
      generalize hsu : ds_nS (fun k => V (119 + (p * d.1.1 + k))) i = su at *
      have g1 : va_up V 131 su 131 = su := va_up_self _ _ _
      have g2 : va_up V 131 su (119 + rr) = V (119 + rr) := va_up_ne _ _ (by omega)
      have key2 := w_add (l := l) (D := D) (ca := ca) (i := 131) (j := 119 + rr) (F := 1) Sm hW (by decide) (by omega) (by omega) (by decide) (by rw [g1, g2, Nat.one_mul]; omega)
      rw [g1, g2, Nat.one_mul, vuu, hstep] at key2
      refine jm_run hX [(10, [0, 1, 2, 3])] 30 ?_
      refine And.intro (o1 Sm) (And.intro (fun g => ?_) (fun _ => ?_))
      · have g : m.2.2.1 (ad 1) 0 ≤ nI i := g
        rw [Lm.1] at g
        exact absurd g (nI_ge (by omega) (by omega))
      refine And.intro (o3 Sm) ⟨some (ad 362), rs Sm, And.intro (o3 Sm) ⟨some (ad 41), ra Sm, ?_⟩⟩
      refine And.intro (o1 Sm) (And.intro (Nat.le_of_ble_eq_true rfl) (And.intro (Nat.le_of_ble_eq_true rfl) ⟨0, 0, _, Nat.le_refl _, Nat.le_refl _, key0, fun v m' hq => ?_⟩))
      obtain ⟨ee, rfl⟩ := hq
      have ee := ee.symm
      subst ee
      refine And.intro (o41 Sm) (And.intro (vin_of (l41 Sm) hrow (by decide)) ⟨some (ad (100 + 2 * (119 + rr))), ?_, ?_⟩)
      · rw [nI_c (by omega), ← e41]; exact Sm.2.2.2.2.2.2.2.2.1 rr hrow
      refine And.intro (Sm.wh 131 (by decide)).1 (And.intro (Nat.le_of_ble_eq_true rfl) (And.intro (Nat.le_of_ble_eq_true rfl) ⟨0, 0, _, Nat.le_refl _, Nat.le_refl _, key2, fun v m1 hq => ?_⟩))
      obtain ⟨rfl, hR1, hW1⟩ := hq
      have kk := ih (i + 1) m1 (by omega) (hR.tr hR1) hW1
      rw [← nI_1] at kk
      exact kk
  have key1 := w_b1 (l := l) (D := D) (ca := ca) (i := 131) (x := 0) S hV (by decide) (by decide)
  refine jm_run hX [(10, [0, 1, 2, 3])] 20 ?_
  refine And.intro (o3 S) ⟨some (ad 362), rs S, ?_⟩
  refine And.intro (S.wh 131 (by decide)).1 (And.intro (Nat.le_of_ble_eq_true rfl) (And.intro (Nat.le_of_ble_eq_true rfl) ⟨0, 0, _, Nat.le_refl _, Nat.le_refl _, key1, fun v m1 hq => ?_⟩))
  obtain ⟨rfl, hR1, hW1⟩ := hq
  exact loop d.1.1 0 m1 (by omega) hR1 hW1
theorem c_So_compareLoad {m0 : jm_M} {ad V : Nat → Nat} {j g : Nat} (S : SST m0 ad) (hV : WV m0 ad V) (hj : j < 3) (hg : g < 1073741824) (hb : g * V 118 < wB ^ 13) : jm_C l D ca n_So_compareLoad [.ref (ad 3), .int (nI j), .long (lN g)] m0 0 0 (fun v m' => v = some (.int (cmpI (V (128 + j)) (g * V 118))) ∧ FRW ad m0 m' ∧ WV m' ad (va_up V 131 (g * V 118))) := by
  refine jm_C_of (cd := cd_So_compareLoad) (ini := false) (by decide +kernel) ok_So_compareLoad (fun h => by cases h) (Nat.le_of_ble_eq_true rfl) ?_
  intro X hX
  have o3 : ∀ {m' : jm_M}, SST m' ad → jm_ok m' (ad 3) 3 := fun S => S.ok 3 (Or.inl (by decide))
  have rs : ∀ {m' : jm_M}, SST m' ad → m'.2.2.2.2 (ad 3) 6 = some (ad 362) := fun S => S.2.2.1 (3, 6, 362) (by decide)
  have rb : ∀ {m' : jm_M}, SST m' ad → m'.2.2.2.2 (ad 3) 3 = some (ad 336) := fun S => S.2.2.1 (3, 3, 336) (by decide)
  have rl : ∀ {m' : jm_M}, SST m' ad → m'.2.2.2.2 (ad 3) 5 = some (ad 42) := fun S => S.2.2.1 (3, 5, 42) (by decide)
  have o42 : ∀ {m' : jm_M}, SST m' ad → jm_ok m' (ad 42) 53 := fun S => S.ok 42 (Or.inl (by decide))
  have l42 : ∀ {m' : jm_M}, SST m' ad → (m'.2.1 (ad 42)).2 = 3 := fun S => S.len 42 (Or.inl (by decide))
  have key1 := w_b1 (l := l) (D := D) (ca := ca) (i := 131) (x := 0) S hV (by decide) (by decide)
  refine jm_run hX [] 30 ?_
  refine And.intro (o3 S) ⟨some (ad 362), rs S, ?_⟩
  refine And.intro (S.wh 131 (by decide)).1 (And.intro (Nat.le_of_ble_eq_true rfl) (And.intro (Nat.le_of_ble_eq_true rfl) ⟨0, 0, _, Nat.le_refl _, Nat.le_refl _, key1, fun v m1 hq => ?_⟩))
  obtain ⟨rfl, hR1, hW1⟩ := hq
  have S1 := hR1.S S
  have g1 : va_up V 131 0 131 = 0 := va_up_self _ _ _
  have g2 : va_up V 131 0 118 = V 118 := va_up_ne _ _ (by decide)
  have key2 := w_add (l := l) (D := D) (ca := ca) (i := 131) (j := 118) (F := g) S1 hW1 (by decide) (by decide) (by decide) hg (by rw [g1, g2, Nat.zero_add]; exact hb)
  rw [g1, g2, Nat.zero_add, vuu] at key2
  refine And.intro (o3 S1) ⟨some (ad 362), rs S1, And.intro (o3 S1) ⟨some (ad 336), rb S1, ?_⟩⟩
  refine And.intro (S1.wh 131 (by decide)).1 (And.intro (Nat.le_of_ble_eq_true rfl) (And.intro (Nat.le_of_ble_eq_true rfl) ⟨0, 0, _, Nat.le_refl _, Nat.le_refl _, key2, fun v m2 hq => ?_⟩))
  obtain ⟨rfl, hR2, hW2⟩ := hq
  have S2 := hR2.S S1
  have key3 := w_cmp (l := l) (D := D) (ca := ca) (i := 128 + j) (j := 131) S2 hW2 (by omega) (by decide)
  rw [va_up_self, va_up_ne _ _ (show 128 + j ≠ 131 by omega)] at key3
  refine And.intro (o3 S2) ⟨some (ad 42), rl S2, And.intro (o42 S2) (And.intro (vin_of (l42 S2) hj (by decide)) ⟨some (ad (100 + 2 * (128 + j))), ?_, ?_⟩)⟩
  · rw [nI_c (by omega), ← e42]; exact S2.2.2.2.2.2.2.2.2.2 j hj
  refine And.intro (o3 S2) ⟨some (ad 362), rs S2, ?_⟩
  refine And.intro (S2.wh (128 + j) (by omega)).1 (And.intro (Nat.le_of_ble_eq_true rfl) (And.intro (Nat.le_of_ble_eq_true rfl) ⟨0, 0, _, Nat.le_refl _, Nat.le_refl _, key3, fun v m3 hq => ?_⟩))
  obtain ⟨ee, rfl⟩ := hq
  have ee := ee.symm
  subst ee
  exact ⟨Nat.le_refl _, Nat.le_refl _, trivial, rfl, hR1.tr hR2, hW2⟩
end SO
end
section
/-- the solution that is held: by amounts at ports, by loads -/
def tkV (d : LD) (F : Nat → Nat → Nat) (z : Nat → Nat) (n pb jb : Nat) (V V' : Nat → Nat) : Prop :=
  V' 118 = V 108 ∧ (∀ p k, p < d.1.2.2 → k < d.1.1 → p * d.1.1 + k < pb → V' (119 + (p * d.1.1 + k)) = amz F z (p * d.1.1 + k) n) ∧ (∀ j, j < jb → V' (128 + j) = ldz F z (j * d.1.1) d.1.1) ∧ ∀ i, i < 118 → V' i = V i
section TK
variable {l : Launch} {D : va_G} {ca : Nat → ClassId}
set_option maxRecDepth 4000 in
theorem c_So_take {m0 : jm_M} {ad V : Nat → Nat} {d : LD} {F : Nat → Nat → Nat} {z : Nat → Nat} {n : Nat} (S : SST m0 ad) (L : LnV m0 ad d) (hO : LOK d) (hF : FlV m0 ad F) (hV : WV m0 ad V) (hsz : m0.2.2.1 (ad 2) 3 = nI n) (hn : n = d.1.2.1 * d.1.1) (hz : ∀ i, i < n → V (12 * i + n) = z i) (hF1 : ∀ r, r < 9 → ∀ i, i < n → F (27 + r) i < 1073741824) (hF2 : ∀ i, i < n → F 15 i < 1073741824) (hb1 : ∀ r, r < 9 → amz F z r n < wB ^ 13) (hb2 : ∀ j, j < d.1.2.1 → ldz F z (j * d.1.1) d.1.1 < wB ^ 13) :
    jm_C l D ca n_So_take [.ref (ad 3), .ref (ad 2), .ref (ad 1)] m0 0 0 (fun v m' => v = none ∧ FRs ad sP3 m0 m' ∧ m'.2.2.1 (ad 3) 0 = 1 ∧ m'.2.2.1 (ad 3) 1 = nI d.1.2.1 ∧ m'.2.2.1 (ad 3) 2 = nI d.1.2.2 ∧ ∃ V', WV m' ad V' ∧ tkV d F z n 9 d.1.2.1 V V') := by
  refine jm_C_of (cd := cd_So_take) (ini := false) (by decide +kernel) ok_So_take (fun h => by cases h) (Nat.le_of_ble_eq_true rfl) ?_
  intro X hX
  have hK := hO.1
  have hM := hO.2.1
  have hP := hO.2.2.1
  have hn9 : n ≤ 9 := by rw [hn]; exact Nat.mul_le_mul hM hK.2
  have o3 : ∀ {m' : jm_M}, SST m' ad → jm_ok m' (ad 3) 3 := fun S => S.ok 3 (Or.inl (by decide))
  have o2 : ∀ {m' : jm_M}, SST m' ad → jm_ok m' (ad 2) 1 := fun S => S.ok 2 (Or.inl (by decide))
  have o1 : ∀ {m' : jm_M}, SST m' ad → jm_ok m' (ad 1) 2 := fun S => S.ok 1 (Or.inl (by decide))
  have rb : ∀ {m' : jm_M}, SST m' ad → m'.2.2.2.2 (ad 2) 1 = some (ad 316) := fun S => S.2.2.1 (2, 1, 316) (by decide)
  have rsb : ∀ {m' : jm_M}, SST m' ad → m'.2.2.2.2 (ad 3) 3 = some (ad 336) := fun S => S.2.2.1 (3, 3, 336) (by decide)
  have ra : ∀ {m' : jm_M}, SST m' ad → m'.2.2.2.2 (ad 3) 4 = some (ad 41) := fun S => S.2.2.1 (3, 4, 41) (by decide)
  have o41 : ∀ {m' : jm_M}, SST m' ad → jm_ok m' (ad 41) 53 := fun S => S.ok 41 (Or.inl (by decide))
  have l41 : ∀ {m' : jm_M}, SST m' ad → (m'.2.1 (ad 41)).2 = 9 := fun S => S.len 41 (Or.inl (by decide))
  have rl : ∀ {m' : jm_M}, SST m' ad → m'.2.2.2.2 (ad 3) 5 = some (ad 42) := fun S => S.2.2.1 (3, 5, 42) (by decide)
  have o42 : ∀ {m' : jm_M}, SST m' ad → jm_ok m' (ad 42) 53 := fun S => S.ok 42 (Or.inl (by decide))
  have l42 : ∀ {m' : jm_M}, SST m' ad → (m'.2.1 (ad 42)).2 = 3 := fun S => S.len 42 (Or.inl (by decide))
  have hpW : ∀ k : Nat, 100 ≤ k → k < 364 → sP3 k := fun k h _ => Or.inr h
  have hjn : ∀ j i, j < d.1.2.1 → i < d.1.1 → j * d.1.1 + i < n := by
    intro j i hj hi
    rw [hn]
    have := Nat.mul_le_mul_right d.1.1 (show j + 1 ≤ d.1.2.1 from hj)
    rw [Nat.add_mul, Nat.one_mul] at this
    omega
  -- what is the same all along
  have al : ∀ {m : jm_M}, FRs ad sP3 m0 m → SST m ad ∧ LnV m ad d ∧ FlV m ad F ∧ m.2.2.1 (ad 2) 3 = nI n := fun {m} hR =>
    ⟨hR.S S, hR.L S sP3L L, fun t ht c hc => by rw [(hR.at S ht.kin (by unfold fk at ht; unfold sP3; omega)).1]; exact hF t ht c hc, by rw [(hR.at S (k := 2) (Or.inl (by decide)) (by unfold sP3; omega)).1]; exact hsz⟩
  have loads : ∀ (e j : Nat) (m : jm_M) (W : Nat → Nat), j + e = d.1.2.1 → FRs ad sP3 m0 m → m.2.2.1 (ad 3) 0 = 1 → m.2.2.1 (ad 3) 1 = nI d.1.2.1 → m.2.2.1 (ad 3) 2 = nI d.1.2.2 → WV m ad W → tkV d F z n 9 j V W → X 87 [(0, .ref (ad 3)), (1, .ref (ad 2)), (3, .int (nI j))] [] m 0 0 := by
    intro e
    induction e with
    | zero =>
      intro j m W hj hR h0 h1 h2 hW hT
      obtain ⟨Sm, Lm, hFm, hs⟩ := al hR
      refine jm_run hX [] 20 ?_
      refine And.intro (o3 Sm) (And.intro (fun _ => ?_) (fun g => ?_))
      · rw [show j = d.1.2.1 by omega] at hT
        exact ⟨Nat.le_refl _, Nat.le_refl _, trivial, rfl, hR, h0, h1, h2, W, hW, hT⟩
      · have g : ¬ m.2.2.1 (ad 3) 1 ≤ nI j := g
        rw [h1] at g
        exact absurd (nI_le (by omega) (by omega)) g
    | succ e ih =>
      intro j m W hj hR h0 h1 h2 hW hT
      obtain ⟨Sm, Lm, hFm, hs⟩ := al hR
      have hj3 : j < d.1.2.1 := by omega
      have el : ldA F W (j * d.1.1) n d.1.1 = ldz F z (j * d.1.1) d.1.1 := ds_nS_congr (fun i hi => by
        have := hjn j i hj3 hi
        rw [hT.2.2.2 _ (by omega), hz _ this])
      have key := c_Fl_putLoad (l := l) (D := D) (ca := ca) (j := j) (x := 128 + j) Sm Lm hO hFm hW hs hn9 hj3 (by omega) (by omega) (fun i hi => hF2 _ (hjn j i hj3 hi)) (by rw [el]; exact hb2 j hj3)
      rw [el] at key
      refine jm_run hX [(87, [0, 1, 3])] 20 ?_
      refine And.intro (o3 Sm) (And.intro (fun g => ?_) (fun _ => ?_))
      · have g : m.2.2.1 (ad 3) 1 ≤ nI j := g
        rw [h1] at g
        exact absurd g (nI_ge (by omega) (by omega))
      refine And.intro (o3 Sm) ⟨some (ad 42), rl Sm, And.intro (o42 Sm) (And.intro (vin_of (l42 Sm) (by omega) (by decide)) ⟨some (ad (100 + 2 * (128 + j))), ?_, ?_⟩)⟩
      · rw [nI_c (by omega), ← e42]; exact Sm.2.2.2.2.2.2.2.2.2 j (by omega)
      refine And.intro (o2 Sm) (And.intro (Nat.le_of_ble_eq_true rfl) (And.intro (Nat.le_of_ble_eq_true rfl) ⟨0, 0, _, Nat.le_refl _, Nat.le_refl _, key, fun v m1 hq => ?_⟩))
      obtain ⟨rfl, hR1, hW1⟩ := hq
      have e3 : m1.2.2.1 (ad 3) = m.2.2.1 (ad 3) := hR1.I Sm (by decide)
      have kk := ih (j + 1) m1 _ (by omega) (hR.tr (FRs.W hpW hR1)) (by rw [e3]; exact h0) (by rw [e3]; exact h1) (by rw [e3]; exact h2) hW1 ⟨by rw [va_up_ne _ _ (by omega)]; exact hT.1, fun p k hp hk hlt => by
          have := row_lt hK.2 hP hp hk
          rw [va_up_ne _ _ (by omega)]; exact hT.2.1 p k hp hk hlt, fun j' hj' => by
          by_cases e : j' = j
          · subst e; exact va_up_self _ _ _
          · rw [va_up_ne _ _ (by omega)]; exact hT.2.2.1 j' (by omega), fun i hi => by rw [va_up_ne _ _ (by omega)]; exact hT.2.2.2 i hi⟩
      rw [← nI_1] at kk
      exact kk
  have ports : ∀ (e p : Nat) (m : jm_M) (W : Nat → Nat), p + e = d.1.2.2 → FRs ad sP3 m0 m → m.2.2.1 (ad 3) 0 = 1 → m.2.2.1 (ad 3) 1 = nI d.1.2.1 → m.2.2.1 (ad 3) 2 = nI d.1.2.2 → WV m ad W → tkV d F z n (p * d.1.1) 0 V W → X 34 [(0, .ref (ad 3)), (1, .ref (ad 2)), (2, .ref (ad 1)), (3, .int (nI p))] [] m 0 0 := by
    intro e
    induction e with
    | zero =>
      intro p m W hp hR h0 h1 h2 hW hT
      obtain ⟨Sm, Lm, hFm, hs⟩ := al hR
      refine jm_run hX [(87, [0, 1, 3])] 20 ?_
      refine And.intro (o3 Sm) (And.intro (fun _ => ?_) (fun g => ?_))
      · refine loads d.1.2.1 0 m W (by omega) hR h0 h1 h2 hW ⟨hT.1, fun p' k' hp' hk' _ => hT.2.1 p' k' hp' hk' ?_, hT.2.2.1, hT.2.2.2⟩
        have := Nat.mul_le_mul_right d.1.1 (show p' + 1 ≤ p by omega)
        rw [Nat.add_mul, Nat.one_mul] at this
        omega
      · have g : ¬ m.2.2.1 (ad 3) 2 ≤ nI p := g
        rw [h2] at g
        exact absurd (nI_le (by omega) (by omega)) g
    | succ e ihe =>
      intro p m W hp hR h0 h1 h2 hW hT
      have hp3 : p < d.1.2.2 := by omega
      have inner : ∀ (f k : Nat) (m : jm_M) (W : Nat → Nat), k + f = d.1.1 → FRs ad sP3 m0 m → m.2.2.1 (ad 3) 0 = 1 → m.2.2.1 (ad 3) 1 = nI d.1.2.1 → m.2.2.1 (ad 3) 2 = nI d.1.2.2 → WV m ad W → tkV d F z n (p * d.1.1 + k) 0 V W → X 45 [(0, .ref (ad 3)), (1, .ref (ad 2)), (2, .ref (ad 1)), (3, .int (nI p)), (4, .int (nI k))] [] m 0 0 := by
        intro f
        induction f with
        | zero =>
          intro k m W hk hR h0 h1 h2 hW hT
          obtain ⟨Sm, Lm, hFm, hs⟩ := al hR
          have kk := ihe (p + 1) m W (by omega) hR h0 h1 h2 hW (by
            rw [Nat.add_mul, Nat.one_mul]; rw [show k = d.1.1 by omega] at hT; exact hT)
          rw [← nI_1] at kk
          refine jm_run hX [(34, [0, 1, 2, 3])] 20 ?_
          refine And.intro (o1 Sm) (And.intro (fun _ => kk) (fun g => ?_))
          have g : ¬ m.2.2.1 (ad 1) 0 ≤ nI k := g
          rw [Lm.1] at g
          exact absurd (nI_le (by omega) (by omega)) g
        | succ f ihf =>
          intro k m W hk hR h0 h1 h2 hW hT
          obtain ⟨Sm, Lm, hFm, hs⟩ := al hR
          have hk3 : k < d.1.1 := by omega
          have hrow := row_lt hK.2 hP hp3 hk3
          have key0 := c_Ln_row (l := l) (D := D) (ca := ca) (j := p) (k := k) Sm Lm
          have ea : amt F W (p * d.1.1 + k) n n = amz F z (p * d.1.1 + k) n := amt_z (fun i hi => by rw [hT.2.2.2 _ (by omega), hz i hi])
          have key := c_Fl_putAtPort (l := l) (D := D) (ca := ca) (p := p) (k := k) (x := 119 + (p * d.1.1 + k)) Sm Lm hFm hW hs hn9 hrow (by omega) (by omega) (hF1 _ hrow) (by rw [ea]; exact hb1 _ hrow)
          rw [ea] at key
          refine jm_run hX [(45, [0, 1, 2, 3, 4])] 30 ?_
          refine And.intro (o1 Sm) (And.intro (fun g => ?_) (fun _ => ?_))
          · have g : m.2.2.1 (ad 1) 0 ≤ nI k := g
            rw [Lm.1] at g
            exact absurd g (nI_ge (by omega) (by omega))
          refine And.intro (o3 Sm) ⟨some (ad 41), ra Sm, ?_⟩
          refine And.intro (o1 Sm) (And.intro (Nat.le_of_ble_eq_true rfl) (And.intro (Nat.le_of_ble_eq_true rfl) ⟨0, 0, _, Nat.le_refl _, Nat.le_refl _, key0, fun v m' hq => ?_⟩))
          obtain ⟨ee, rfl⟩ := hq
          have ee := ee.symm
          subst ee
          refine And.intro (o41 Sm) (And.intro (vin_of (l41 Sm) hrow (by decide)) ⟨some (ad (100 + 2 * (119 + (p * d.1.1 + k)))), ?_, ?_⟩)
          · rw [nI_c (by omega), ← e41]; exact Sm.2.2.2.2.2.2.2.2.1 _ hrow
          refine And.intro (o2 Sm) (And.intro (Nat.le_of_ble_eq_true rfl) (And.intro (Nat.le_of_ble_eq_true rfl) ⟨0, 0, _, Nat.le_refl _, Nat.le_refl _, key, fun v m1 hq => ?_⟩))
          obtain ⟨rfl, hR1, hW1⟩ := hq
          have e3 : m1.2.2.1 (ad 3) = m.2.2.1 (ad 3) := hR1.I Sm (by decide)
          have kk := ihf (k + 1) m1 _ (by omega) (hR.tr (FRs.W hpW hR1)) (by rw [e3]; exact h0) (by rw [e3]; exact h1) (by rw [e3]; exact h2) hW1 ⟨by rw [va_up_ne _ _ (by omega)]; exact hT.1, fun p' k' hp' hk' hlt => by
              by_cases e : p' * d.1.1 + k' = p * d.1.1 + k
              · rw [e]; exact va_up_self _ _ _
              · have := row_lt hK.2 hP hp' hk'
                rw [va_up_ne _ _ (by omega)]; exact hT.2.1 p' k' hp' hk' (by omega), fun j' hj' => absurd hj' (by omega), fun i hi => by rw [va_up_ne _ _ (by omega)]; exact hT.2.2.2 i hi⟩
          rw [← nI_1] at kk
          exact kk
      obtain ⟨Sm, Lm, hFm, hs⟩ := al hR
      refine jm_run hX [(45, [0, 1, 2, 3, 4])] 20 ?_
      refine And.intro (o3 Sm) (And.intro (fun g => ?_) (fun _ => ?_))
      · have g : m.2.2.1 (ad 3) 2 ≤ nI p := g
        rw [h2] at g
        exact absurd g (nI_ge (by omega) (by omega))
      exact inner d.1.1 0 m W (by omega) hR h0 h1 h2 hW hT
  -- the beginning
  have start : ∀ (m : jm_M), FRs ad sP3 m0 m → m.2.2.1 (ad 3) 0 = 1 → m.2.2.1 (ad 3) 1 = nI d.1.2.1 → m.2.2.1 (ad 3) 2 = nI d.1.2.2 → WV m ad V → X 21 [(0, .ref (ad 3)), (1, .ref (ad 2)), (2, .ref (ad 1))] [] m 0 0 := by
    intro m hR h0 h1 h2 hW
    obtain ⟨Sm, Lm, hFm, hs⟩ := al hR
    have key := w_b2 (l := l) (D := D) (ca := ca) (i := 118) (j := 108) Sm hW (by decide) (by decide)
    refine jm_run hX [(34, [0, 1, 2, 3])] 20 ?_
    refine And.intro (o3 Sm) ⟨some (ad 336), rsb Sm, And.intro (o2 Sm) ⟨some (ad 316), rb Sm, ?_⟩⟩
    refine And.intro (Sm.wh 118 (by decide)).1 (And.intro (Nat.le_of_ble_eq_true rfl) (And.intro (Nat.le_of_ble_eq_true rfl) ⟨0, 0, _, Nat.le_refl _, Nat.le_refl _, key, fun v m1 hq => ?_⟩))
    obtain ⟨rfl, hR1, hW1⟩ := hq
    have e3 : m1.2.2.1 (ad 3) = m.2.2.1 (ad 3) := hR1.I Sm (by decide)
    exact ports d.1.2.2 0 m1 _ (by omega) (hR.tr (FRs.W hpW hR1)) (by rw [e3]; exact h0) (by rw [e3]; exact h1) (by rw [e3]; exact h2) hW1 ⟨va_up_self _ _ _, fun p k _ _ h => absurd h (by omega), fun j h => absurd h (by omega), fun i hi => va_up_ne _ _ (by omega)⟩
  have f3 : ∀ {m : jm_M} {k : Nat} {x : Int32}, FRs ad sP3 m (uI m (ad 3) k x) := fun {m k x} => FRs.uI (i := 3) (Or.inl (by decide)) (Or.inl rfl)
  have f3' : ∀ {m : jm_M} {k : Nat} {x : Int32}, FRs ad (fun k => k = 3) m (uI m (ad 3) k x) := fun {m k x} => FRs.uI (i := 3) (Or.inl (by decide)) rfl
  have g3 : ∀ {m : jm_M} {k : Nat} {x : Int32}, (uI m (ad 3) k x).2.2.1 (ad 3) = va_up (m.2.2.1 (ad 3)) k x := fun {m k x} => va_up_self _ _ _
  have ne13 : ad 1 ≠ ad 3 := S.ne (Or.inl (by decide)) (Or.inl (by decide)) (by decide)
  have g1 : ∀ {m : jm_M} {k : Nat} {x : Int32}, (uI m (ad 3) k x).2.2.1 (ad 1) = m.2.2.1 (ad 1) := fun {m k x} => va_up_ne _ _ ne13
  have kk := start (uI (uI (uI m0 (ad 3) 0 1) (ad 3) 1 (nI d.1.2.1)) (ad 3) 2 (nI d.1.2.2)) (f3.tr (f3.tr f3)) (by rw [g3, va_up_ne _ _ (by decide), g3, va_up_ne _ _ (by decide), g3, va_up_self]) (by rw [g3, va_up_ne _ _ (by decide), g3, va_up_self]) (by rw [g3, va_up_self]) ((f3'.tr (f3'.tr f3')).V S (fun k h => by omega) hV)
  refine jm_run hX [(21, [0, 1, 2])] 20 ?_
  refine And.intro (o3 S) (And.intro (Or.inr rfl) (And.intro (o1 S) (And.intro (o3 S) (And.intro (o1 S) (And.intro (o3 S) ?_)))))
  have k2 : X 21 [(0, .ref (ad 3)), (1, .ref (ad 2)), (2, .ref (ad 1))] [] (uI (uI (uI m0 (ad 3) 0 1) (ad 3) 1 ((uI m0 (ad 3) 0 1).2.2.1 (ad 1) 1)) (ad 3) 2 ((uI (uI m0 (ad 3) 0 1) (ad 3) 1 ((uI m0 (ad 3) 0 1).2.2.1 (ad 1) 1)).2.2.1 (ad 1) 2)) 0 0 := by
    rw [g1, g1, g1, L.2.1, L.2.2.1]; exact kk
  exact k2
end TK
end
section
/-! ShareSolve: its state in pure words. (line, spanned, lows, highs, untouched, known, the line as it was solved) -/
abbrev CSt : Type := LD × (Nat → Bool) × (Nat → Nat) × (Nat → Nat) × Bool × Bool × LD
/-- the right side of feeds -/
def f0 (d : LD) : Nat → Nat → Nat := fun i _ => d.2.2.2.2.2.2 i
/-- the numbers of a solution -/
def svN (d : LD) (F : Nat → Nat → Nat) (V : Nat → Nat) : Prop := RA d F (d.1.2.1 * d.1.1) ∧ FG (d.1.2.1 * d.1.1) F ∧ V 118 = dt F (d.1.2.1 * d.1.1) (f0 d) ∧ (∀ p k, p < d.1.2.2 → k < d.1.1 → V (119 + (p * d.1.1 + k)) = amz F (zs F (d.1.2.1 * d.1.1) (f0 d) 0) (p * d.1.1 + k) (d.1.2.1 * d.1.1)) ∧ ∀ j, j < d.1.2.1 → V (128 + j) = ldz F (zs F (d.1.2.1 * d.1.1) (f0 d) 0) (j * d.1.1) d.1.1
def SV (m : jm_M) (ad : Nat → Nat) (d ds : LD) (V : Nat → Nat) : Prop := m.2.2.1 (ad 3) 1 = nI ds.1.2.1 ∧ m.2.2.1 (ad 3) 2 = nI ds.1.2.2 ∧ ds.1.1 = d.1.1 ∧ LOK ds ∧ ∃ F, svN ds F V
def CI (m : jm_M) (ad : Nat → Nat) (c : CSt) : Prop :=
  SST m ad ∧ LnV m ad c.1 ∧ LOK c.1 ∧ GA m ad ∧ m.2.2.1 (ad 11) = (fun i => bI (c.2.1 i)) ∧ m.2.2.2.1 (ad 12) = (fun i => lN (c.2.2.1 i)) ∧ m.2.2.2.1 (ad 13) = (fun i => lN (c.2.2.2.1 i)) ∧ m.2.2.1 (ad 0) 3 = bI c.2.2.2.2.1 ∧ m.2.2.1 (ad 3) 0 = bI c.2.2.2.2.2.1 ∧ ∃ V, WV m ad V ∧ (c.2.2.2.2.2.1 = true → SV m ad c.1 c.2.2.2.2.2.2 V)
theorem nI_ex (x : Int32) : ∃ n : Nat, x = nI n := ⟨x.toBitVec.toNat, by
  apply Int32.toBitVec_inj.mp
  show x.toBitVec = BitVec.ofNat 32 x.toBitVec.toNat
  exact (BitVec.eq_of_toNat_eq (by rw [BitVec.toNat_ofNat]; exact Nat.mod_eq_of_lt x.toBitVec.isLt)).symm⟩
theorem FlV_ex (m : jm_M) (ad : Nat → Nat) : ∃ F, FlV m ad F := by
  refine ⟨fun t c => Classical.choose (nI_ex (m.2.2.1 (ad t) c)), fun t _ c _ => ?_⟩
  exact Classical.choose_spec (nI_ex (m.2.2.1 (ad t) c))
/-- nothing but the class's things has changed -/
abbrev FRa (ad : Nat → Nat) (m m' : jm_M) : Prop := FRs ad (fun _ => True) m m'
theorem FRs.a {ad : Nat → Nat} {p : Nat → Prop} {m m' : jm_M} (h : FRs ad p m m') : FRa ad m m' := h.mo (fun _ _ => trivial)
/-- Flow, its numbers and getsAway are all that changed: the state stays -/
theorem CI.mv {m m' : jm_M} {ad : Nat → Nat} {c : CSt} {p : Nat → Prop} (h : CI m ad c) (hR : FRs ad p m m') (hp : ∀ k, p k → k = 2 ∨ (14 ≤ k)) (hG : GA m' ad) (hV : ∀ V, WV m ad V → ∃ V', WV m' ad V' ∧ ∀ i, 118 ≤ i → i < 131 → V' i = V i) : CI m' ad c := by
  obtain ⟨S, L, hO, G, h11, h12, h13, h0, h3, V, hW, hK⟩ := h
  have at' : ∀ k, k < 14 → k ≠ 2 → m'.2.2.1 (ad k) = m.2.2.1 (ad k) ∧ m'.2.2.2.1 (ad k) = m.2.2.2.1 (ad k) := fun k hk h2 => hR.at S (Or.inl (by omega)) (fun q => by have := hp k q; omega)
  obtain ⟨V', hW', hs⟩ := hV V hW
  refine ⟨hR.S S, hR.L S (fun k hk q => by have := hp k q; omega) L, hO, hG, ?_, ?_, ?_, ?_, ?_, V', hW', fun hk => ?_⟩
  · rw [(at' 11 (by decide) (by decide)).1]; exact h11
  · rw [(at' 12 (by decide) (by decide)).2]; exact h12
  · rw [(at' 13 (by decide) (by decide)).2]; exact h13
  · rw [(at' 0 (by decide) (by decide)).1]; exact h0
  · rw [(at' 3 (by decide) (by decide)).1]; exact h3
  · obtain ⟨k1, k2, k3, k4, F, f1, f2, f3, f4, f5⟩ := hK hk
    refine ⟨by rw [(at' 3 (by decide) (by decide)).1]; exact k1, by rw [(at' 3 (by decide) (by decide)).1]; exact k2, k3, k4, F, f1, f2, by rw [hs 118 (by decide) (by decide)]; exact f3, fun p k hp hk => ?_, fun j hj => ?_⟩
    · have := row_lt k4.1.2 k4.2.2.1 hp hk
      rw [hs _ (by omega) (by omega)]; exact f4 p k hp hk
    · have := k4.2.1
      rw [hs _ (by omega) (by omega)]; exact f5 j hj
theorem GA.mv {m m' : jm_M} {ad : Nat → Nat} {p : Nat → Prop} (S : SST m ad) (h : GA m ad) (hR : FRs ad p m m') (hp : ¬ p 14) : GA m' ad := fun i hi => by
  rw [(hR.at S (k := 14) (Or.inl (by decide)) hp).1]; exact h i hi
theorem GA.rn {m : jm_M} {ad : Nat → Nat} {d : LD} (hO : LOK d) : GA (uA m (ad 14) (gaR (rnds d 9))) ad := fun i hi => by
  show va_up m.2.2.1 (ad 14) _ (ad 14) i = 0
  rw [va_up_self]
  show bI (rnds d 9 i) = 0
  rw [rnds_hi hO hi]; rfl
section SH1
variable {l : Launch} {D : va_G} {ca : Nat → ClassId}
theorem c_Sh_isPart {m : jm_M} (x : Int32) : jm_C l D ca n_Sh_isPart [.int x] m 0 0 (fun v m' => m' = m ∧ v = some (.int (if 0 ≤ x.toInt ∧ x.toInt ≤ 6 then 1 else 0))) := by
  refine jm_C_of (cd := cd_Sh_isPart) (ini := false) (by decide +kernel) ok_Sh_isPart (fun h => by cases h) (Nat.le_of_ble_eq_true rfl) ?_
  intro X hX
  refine jm_run hX [] 20 ?_
  refine And.intro (fun g => ?_) (fun g => ?_)
  · rw [ilt0] at g
    exact ⟨Nat.le_refl _, Nat.le_refl _, Or.inl rfl, rfl, by rw [if_neg (by omega)]⟩
  · rw [ilt0] at g
    refine And.intro (fun g2 => ?_) (fun g2 => ?_)
    · have g2 : nI 6 < x := g2
      rw [iNlt (by decide)] at g2
      exact ⟨Nat.le_refl _, Nat.le_refl _, Or.inl rfl, rfl, by rw [if_neg (by omega)]⟩
    · have g2 : ¬ nI 6 < x := g2
      rw [iNlt (by decide)] at g2
      exact ⟨Nat.le_refl _, Nat.le_refl _, Or.inr rfl, rfl, by rw [if_pos (by omega)]⟩
theorem c_Sh_isShare {m : jm_M} (x y : Int64) : jm_C l D ca n_Sh_isShare [.long x, .long y] m 0 0 (fun v m' => m' = m ∧ v = some (.int (if (1 ≤ y.toInt ∧ y.toInt ≤ 12) ∧ 0 ≤ x.toInt ∧ x.toInt ≤ y.toInt then 1 else 0))) := by
  refine jm_C_of (cd := cd_Sh_isShare) (ini := false) (by decide +kernel) ok_Sh_isShare (fun h => by cases h) (Nat.le_of_ble_eq_true rfl) ?_
  intro X hX
  have e1 : (1 : Int64).toInt = 1 := by decide
  have e0 : (0 : Int64).toInt = 0 := by decide
  have e12 : (12 : Int64).toInt = 12 := by decide
  refine jm_run hX [] 30 ?_
  refine And.intro (fun g => ?_) (fun g => ?_)
  · have g : lg_cmp y 1 < 0 := g
    rw [lg_cmp_lt, Int64.lt_iff_toInt_lt, e1] at g
    exact ⟨Nat.le_refl _, Nat.le_refl _, Or.inl rfl, rfl, by rw [if_neg (by omega)]⟩
  have g : ¬ lg_cmp y 1 < 0 := g
  rw [lg_cmp_lt, Int64.lt_iff_toInt_lt, e1] at g
  refine And.intro (fun g2 => ?_) (fun g2 => ?_)
  · have g2 : 0 < lg_cmp y 12 := g2
    rw [lg_cmp_gt, Int64.lt_iff_toInt_lt, e12] at g2
    exact ⟨Nat.le_refl _, Nat.le_refl _, Or.inl rfl, rfl, by rw [if_neg (by omega)]⟩
  have g2 : ¬ 0 < lg_cmp y 12 := g2
  rw [lg_cmp_gt, Int64.lt_iff_toInt_lt, e12] at g2
  refine And.intro (fun g3 => ?_) (fun g3 => ?_)
  · have g3 : lg_cmp x 0 < 0 := g3
    rw [lg_cmp_lt, Int64.lt_iff_toInt_lt, e0] at g3
    exact ⟨Nat.le_refl _, Nat.le_refl _, Or.inl rfl, rfl, by rw [if_neg (by omega)]⟩
  have g3 : ¬ lg_cmp x 0 < 0 := g3
  rw [lg_cmp_lt, Int64.lt_iff_toInt_lt, e0] at g3
  refine And.intro (fun g4 => ?_) (fun g4 => ?_)
  · have g4 : 0 < lg_cmp x y := g4
    rw [lg_cmp_gt, Int64.lt_iff_toInt_lt] at g4
    exact ⟨Nat.le_refl _, Nat.le_refl _, Or.inl rfl, rfl, by rw [if_neg (by omega)]⟩
  · have g4 : ¬ 0 < lg_cmp x y := g4
    rw [lg_cmp_gt, Int64.lt_iff_toInt_lt] at g4
    exact ⟨Nat.le_refl _, Nat.le_refl _, Or.inr rfl, rfl, by rw [if_pos (by omega)]⟩
theorem c_Sh_inUnits {m : jm_M} {a b : Nat} (hb : 1 ≤ b ∧ b ≤ 12) (ha : a ≤ b) : jm_C l D ca n_Sh_inUnits [.long (lN a), .long (lN b)] m 0 0 (fun v m' => m' = m ∧ v = some (.int (nI (a * (27720 / b))))) := by
  refine jm_C_of (cd := cd_Sh_inUnits) (ini := false) (by decide +kernel) ok_Sh_inUnits (fun h => by cases h) (Nat.le_of_ble_eq_true rfl) ?_
  intro X hX
  refine jm_run hX [] 30 ?_
  refine And.intro (fun _ => ?_) (fun g => ?_)
  · refine And.intro ?_ ?_
    · show ¬ lN b = lN 0
      rw [pk_lEQ (by omega) (by decide)]; omega
    refine ⟨Nat.le_refl _, Nat.le_refl _, trivial, rfl, ?_⟩
    show some (Value.int (lN a * (lN 27720 / lN b)).toInt32) = _
    rw [pk_lDiv (by decide) (by omega) (by omega), lN_mul, lN_i]
  · have g : ¬ 0 ≤ lg_cmp (lN b) (lN 1) := g
    rw [lg_cmp_ge, pk_lLE (by decide) (by omega)] at g
    omega
theorem c_Sh_kept {m : jm_M} {ad : Nat → Nat} {c : CSt} (h : CI m ad c) : jm_C l D ca n_Sh_kept [.ref (ad 0)] m 0 0 (fun v m' => m' = m ∧ v = some (.int (bI c.2.2.2.2.1))) := by
  refine jm_C_of (cd := cd_Sh_kept) (ini := false) (by decide +kernel) ok_Sh_kept (fun h => by cases h) (Nat.le_of_ble_eq_true rfl) ?_
  intro X hX
  have o0 : jm_ok m (ad 0) 5 := h.1.ok 0 (Or.inl (by decide))
  refine jm_run hX [] 10 ?_
  refine And.intro o0 ?_
  have e : m.2.2.1 (ad 0) 3 = bI c.2.2.2.2.1 := h.2.2.2.2.2.2.2.1
  refine ⟨Nat.le_refl _, Nat.le_refl _, ?_, rfl, by rw [e]⟩
  show m.2.2.1 (ad 0) 3 = 0 ∨ m.2.2.1 (ad 0) 3 = 1
  rw [e]
  cases c.2.2.2.2.1
  · exact Or.inl rfl
  · exact Or.inr rfl
end SH1
end
section
/-- the line was told something -/
theorem CI.ln {m m' : jm_M} {ad : Nat → Nat} {c : CSt} {d' : LD} {un : Bool} {p : Nat → Prop} (h : CI m ad c) (hR : FRs ad p m m') (hp : ∀ k, p k → k ≤ 10 ∧ k ≠ 2 ∧ k ≠ 3 ∧ k ≠ 4) (L' : LnV m' ad d') (hO' : LOK d') (hK : d'.1.1 = c.1.1.1) (hu : m'.2.2.1 (ad 0) 3 = bI un) : CI m' ad (d', c.2.1, c.2.2.1, c.2.2.2.1, un, c.2.2.2.2.2.1, c.2.2.2.2.2.2) := by
  obtain ⟨S, L, hO, G, h11, h12, h13, h0, h3, V, hW, hKn⟩ := h
  have at' : ∀ k, kin k → 11 ≤ k ∨ k = 3 → m'.2.2.1 (ad k) = m.2.2.1 (ad k) ∧ m'.2.2.2.1 (ad k) = m.2.2.2.1 (ad k) := fun k hk h2 => hR.at S hk (fun q => by have := hp k q; omega)
  refine ⟨hR.S S, L', hO', G.mv S hR (fun q => by have := hp 14 q; omega), ?_, ?_, ?_, hu, ?_, V, hR.V S (fun k q => by have := hp k q; omega) hW, fun hk => ?_⟩
  · rw [(at' 11 (Or.inl (by decide)) (by decide)).1]; exact h11
  · rw [(at' 12 (Or.inl (by decide)) (by decide)).2]; exact h12
  · rw [(at' 13 (Or.inl (by decide)) (by decide)).2]; exact h13
  · rw [(at' 3 (Or.inl (by decide)) (by decide)).1]; exact h3
  · obtain ⟨k1, k2, k3, k4, k5⟩ := hKn hk
    refine ⟨by rw [(at' 3 (Or.inl (by decide)) (by decide)).1]; exact k1, by rw [(at' 3 (Or.inl (by decide)) (by decide)).1]; exact k2, ?_, k4, k5⟩
    exact k3.trans hK.symm
theorem jOK.mo {M P M' P' : Nat} {t : Int32} (h : jOK M P t) (h1 : M ≤ M') (h2 : P ≤ P') : jOK M' P' t := by
  unfold jOK at h ⊢
  omega
theorem shM_le {sh : Nat → Nat} {r0 n : Nat} (h : ∀ i, sh i ≤ 27720 ∨ 27 ≤ i) : ∀ k i, shM sh r0 n k i ≤ 27720 ∨ 27 ≤ i
  | 0, i => h i
  | k + 1, i => by
    show va_up (shM sh r0 n k) (3 * (r0 + k) + n - 1) 27720 i ≤ 27720 ∨ 27 ≤ i
    by_cases e : i = 3 * (r0 + k) + n - 1
    · rw [e, va_up_self]; exact Or.inl (Nat.le_refl _)
    · rw [va_up_ne _ _ e]; exact shM_le h k i
theorem LOK.sh {d : LD} (h : LOK d) : ∀ i, d.2.2.2.1 i ≤ 27720 ∨ 27 ≤ i := fun i => by
  rcases Nat.lt_or_ge i 27 with q | q
  · have := h.2.2.2.2.2.1 (i / 3) (by omega) (i % 3) (by omega)
    rw [show 3 * (i / 3) + i % 3 = i by omega] at this
    exact Or.inl this
  · exact Or.inr q
theorem LOK.mach {d : LD} {n : Nat} (h : LOK d) (hM : d.1.2.1 < 3) (hn : 1 ≤ n ∧ n ≤ 3) : LOK (dMach d n) := by
  obtain ⟨h1, h2, h3, h4, h5, h6, h7, h8, h9⟩ := h
  have hsh := LOK.sh ⟨h1, h2, h3, h4, h5, h6, h7, h8, h9⟩
  refine ⟨h1, (by show d.1.2.1 + 1 ≤ 3; omega), h3, fun j hj => ?_, fun i hi => (h5 i hi).mo (by show d.1.2.1 ≤ d.1.2.1 + 1; omega) (Nat.le_refl _), fun r hr o ho => ?_, h7, h8, h9⟩
  · show 1 ≤ va_up d.2.1 d.1.2.1 n j ∧ va_up d.2.1 d.1.2.1 n j ≤ 3
    by_cases e : j = d.1.2.1
    · rw [e, va_up_self]; exact hn
    · rw [va_up_ne _ _ e]
      have hj : j < d.1.2.1 + 1 := hj
      exact h4 j (by omega)
  · rcases shM_le (r0 := d.1.2.1 * d.1.1) (n := n) hsh d.1.1 (3 * r + o) with q | q
    · exact q
    · omega
theorem LOK.port {d : LD} (h : LOK d) (hP : d.1.2.2 < 3) : LOK (dPort d) := by
  obtain ⟨h1, h2, h3, h4, h5, h6, h7, h8, h9⟩ := h
  exact ⟨h1, h2, (by show d.1.2.2 + 1 ≤ 3; omega), h4, fun i hi => (h5 i hi).mo (Nat.le_refl _) (by show d.1.2.2 ≤ d.1.2.2 + 1; omega), h6, h7, h8, h9⟩
def dJoin (d : LD) (i : Nat) (t : Int32) : LD := (d.1, d.2.1, va_up d.2.2.1 i t, d.2.2.2)
theorem LOK.join {d : LD} {i : Nat} {t : Int32} (h : LOK d) (ht : jOK d.1.2.1 d.1.2.2 t) : LOK (dJoin d i t) := by
  obtain ⟨h1, h2, h3, h4, h5, h6, h7, h8, h9⟩ := h
  refine ⟨h1, h2, h3, h4, fun q hq => ?_, h6, h7, h8, h9⟩
  show jOK d.1.2.1 d.1.2.2 (va_up d.2.2.1 i t q)
  by_cases e : q = i
  · rw [e, va_up_self]; exact ht
  · rw [va_up_ne _ _ e]; exact h5 q hq
def dFeed (d : LD) (r g : Nat) : LD := (d.1, d.2.1, d.2.2.1, d.2.2.2.1, d.2.2.2.2.1, d.2.2.2.2.2.1, va_up d.2.2.2.2.2.2 r g)
theorem LOK.feed {d : LD} {r g : Nat} (h : LOK d) (hg : g ≤ 1000000) : LOK (dFeed d r g) := by
  obtain ⟨h1, h2, h3, h4, h5, h6, h7, h8, h9⟩ := h
  refine ⟨h1, h2, h3, h4, h5, h6, h7, h8, fun q hq => ?_⟩
  show va_up d.2.2.2.2.2.2 r g q ≤ 1000000
  by_cases e : q = r
  · rw [e, va_up_self]; exact hg
  · rw [va_up_ne _ _ e]; exact h9 q hq
def dCrush (d : LD) (r u k : Nat) : LD := (d.1, d.2.1, d.2.2.1, d.2.2.2.1, va_up d.2.2.2.2.1 r u, va_up d.2.2.2.2.2.1 r k, d.2.2.2.2.2.2)
theorem LOK.crush {d : LD} {r u k : Nat} (h : LOK d) (hu : u ≤ 27720) (hk : k < d.1.1) : LOK (dCrush d r u k) := by
  obtain ⟨h1, h2, h3, h4, h5, h6, h7, h8, h9⟩ := h
  refine ⟨h1, h2, h3, h4, h5, h6, fun q hq => ?_, fun q hq => ?_, h9⟩
  · show va_up d.2.2.2.2.1 r u q ≤ 27720
    by_cases e : q = r
    · rw [e, va_up_self]; exact hu
    · rw [va_up_ne _ _ e]; exact h7 q hq
  · show va_up d.2.2.2.2.2.1 r k q < d.1.1
    by_cases e : q = r
    · rw [e, va_up_self]; exact hk
    · rw [va_up_ne _ _ e]; exact h8 q hq
section SH2
variable {l : Launch} {D : va_G} {ca : Nat → ClassId}
theorem c_Sh_machine {m : jm_M} {ad : Nat → Nat} {c : CSt} (h : CI m ad c) (x : Int32) : jm_C l D ca n_Sh_machine [.ref (ad 0), .int x] m 0 0 (fun v m' => (v = some (.int (nI c.1.1.2.1)) ∧ c.1.1.2.1 < 3 ∧ (1 ≤ x.toInt ∧ x.toInt ≤ 3) ∧ FRa ad m m' ∧ CI m' ad (dMach c.1 x.toInt.toNat, c.2.1, c.2.2.1, c.2.2.2.1, false, c.2.2.2.2.2.1, c.2.2.2.2.2.2)) ∨ (v = some (.int (-1)) ∧ ¬ (c.1.1.2.1 < 3 ∧ (1 ≤ x.toInt ∧ x.toInt ≤ 3)) ∧ m' = m)) := by
  refine jm_C_of (cd := cd_Sh_machine) (ini := false) (by decide +kernel) ok_Sh_machine (fun h => by cases h) (Nat.le_of_ble_eq_true rfl) ?_
  intro X hX
  have S := h.1
  have L := h.2.1
  have hO := h.2.2.1
  have o0 : ∀ {m' : jm_M}, SST m' ad → jm_ok m' (ad 0) 5 := fun S => S.ok 0 (Or.inl (by decide))
  have o1 : ∀ {m' : jm_M}, SST m' ad → jm_ok m' (ad 1) 2 := fun S => S.ok 1 (Or.inl (by decide))
  have r1 : ∀ {m' : jm_M}, SST m' ad → m'.2.2.2.2 (ad 0) 0 = some (ad 1) := fun S => S.2.2.1 (0, 0, 1) (by decide)
  have hM := hO.2.1
  refine jm_run hX [(28, [0, 1])] 30 ?_
  refine And.intro (o0 S) ⟨some (ad 1), r1 S, And.intro (o1 S) (And.intro (fun g => ?_) (fun g => ?_))⟩
  · have g : nI 3 ≤ m.2.2.1 (ad 1) 1 := g
    rw [L.2.1, nI_leI (by decide) (by omega)] at g
    exact ⟨Nat.le_refl _, Nat.le_refl _, trivial, Or.inr ⟨rfl, by omega, rfl⟩⟩
  have g : ¬ nI 3 ≤ m.2.2.1 (ad 1) 1 := g
  rw [L.2.1, nI_leI (by decide) (by omega)] at g
  refine And.intro (fun g2 => ?_) (fun g2 => ?_)
  · have g2 : x < nI 1 := g2
    rw [iltN (by decide)] at g2
    exact ⟨Nat.le_refl _, Nat.le_refl _, trivial, Or.inr ⟨rfl, by omega, rfl⟩⟩
  have g2 : ¬ x < nI 1 := g2
  rw [iltN (by decide)] at g2
  refine And.intro (fun g3 => ?_) (fun g3 => ?_)
  · have g3 : x ≤ nI 3 := g3
    rw [iNle (by decide)] at g3
    refine And.intro (o0 S) (And.intro (Or.inl rfl) ?_)
    have hR1 : FRs ad (fun k => k = 0) m (uI m (ad 0) 3 0) := FRs.uI (i := 0) (Or.inl (by decide)) rfl
    have S1 := hR1.S S
    have L1 := hR1.L S (fun k _ q => by omega) L
    have ex : x = nI x.toInt.toNat := i_of (by omega)
    have hn : 1 ≤ x.toInt.toNat ∧ x.toInt.toNat ≤ 3 := by omega
    have key := c_Ln_addMachine (l := l) (D := D) (ca := ca) (n := x.toInt.toNat) S1 L1 hO (by omega) hn
    rw [← ex] at key
    have hu1 : (uI m (ad 0) 3 0).2.2.1 (ad 0) 3 = 0 := by
      show va_up m.2.2.1 (ad 0) (va_up (m.2.2.1 (ad 0)) 3 0) (ad 0) 3 = 0
      rw [va_up_self, va_up_self]
    have kk : X 28 [(0, .ref (ad 0)), (1, .int x)] [] (uI m (ad 0) 3 0) 0 0 := by
      generalize uI m (ad 0) 3 0 = m1 at *
      refine jm_run hX [] 20 ?_
      refine And.intro (o0 S1) ⟨some (ad 1), r1 S1, ?_⟩
      refine And.intro (o1 S1) (And.intro (Nat.le_of_ble_eq_true rfl) (And.intro (Nat.le_of_ble_eq_true rfl) ⟨0, 0, _, Nat.le_refl _, Nat.le_refl _, key, fun v m2 hq => ?_⟩))
      obtain ⟨rfl, hR2, L2⟩ := hq
      have hR : FRs ad (fun k => k = 0 ∨ k = 1 ∨ k = 5 ∨ k = 7) m m2 := (hR1.mo (fun k q => Or.inl q)).tr (hR2.mo (fun k q => Or.inr q))
      refine ⟨Nat.le_refl _, Nat.le_refl _, trivial, Or.inl ⟨rfl, by omega, by omega, hR.a, ?_⟩⟩
      refine h.ln hR (fun k q => by omega) L2 (hO.mach (by omega) hn) rfl ?_
      rw [(hR2.at S1 (k := 0) (Or.inl (by decide)) (by omega)).1, hu1]; rfl
    exact kk
  · have g3 : ¬ x ≤ nI 3 := g3
    rw [iNle (by decide)] at g3
    exact ⟨Nat.le_refl _, Nat.le_refl _, trivial, Or.inr ⟨rfl, by omega, rfl⟩⟩
theorem c_Sh_port {m : jm_M} {ad : Nat → Nat} {c : CSt} (h : CI m ad c) : jm_C l D ca n_Sh_port [.ref (ad 0)] m 0 0 (fun v m' => (v = some (.int (nI c.1.1.2.2)) ∧ c.1.1.2.2 < 3 ∧ FRa ad m m' ∧ CI m' ad (dPort c.1, c.2.1, c.2.2.1, c.2.2.2.1, false, c.2.2.2.2.2.1, c.2.2.2.2.2.2)) ∨ (v = some (.int (-1)) ∧ ¬ c.1.1.2.2 < 3 ∧ m' = m)) := by
  refine jm_C_of (cd := cd_Sh_port) (ini := false) (by decide +kernel) ok_Sh_port (fun h => by cases h) (Nat.le_of_ble_eq_true rfl) ?_
  intro X hX
  have S := h.1
  have L := h.2.1
  have hO := h.2.2.1
  have o0 : ∀ {m' : jm_M}, SST m' ad → jm_ok m' (ad 0) 5 := fun S => S.ok 0 (Or.inl (by decide))
  have o1 : ∀ {m' : jm_M}, SST m' ad → jm_ok m' (ad 1) 2 := fun S => S.ok 1 (Or.inl (by decide))
  have r1 : ∀ {m' : jm_M}, SST m' ad → m'.2.2.2.2 (ad 0) 0 = some (ad 1) := fun S => S.2.2.1 (0, 0, 1) (by decide)
  have hP := hO.2.2.1
  refine jm_run hX [(18, [0])] 30 ?_
  refine And.intro (o0 S) ⟨some (ad 1), r1 S, And.intro (o1 S) (And.intro (fun g => ?_) (fun g => ?_))⟩
  · have g : m.2.2.1 (ad 1) 2 < nI 3 := g
    rw [L.2.2.1, nI_ltI (by omega) (by decide)] at g
    refine And.intro (o0 S) (And.intro (Or.inl rfl) ?_)
    have hR1 : FRs ad (fun k => k = 0) m (uI m (ad 0) 3 0) := FRs.uI (i := 0) (Or.inl (by decide)) rfl
    have S1 := hR1.S S
    have L1 := hR1.L S (fun k _ q => by omega) L
    have key := c_Ln_addPort (l := l) (D := D) (ca := ca) S1 L1
    have hu1 : (uI m (ad 0) 3 0).2.2.1 (ad 0) 3 = 0 := by
      show va_up m.2.2.1 (ad 0) (va_up (m.2.2.1 (ad 0)) 3 0) (ad 0) 3 = 0
      rw [va_up_self, va_up_self]
    have kk : X 18 [(0, .ref (ad 0))] [] (uI m (ad 0) 3 0) 0 0 := by
      generalize uI m (ad 0) 3 0 = m1 at *
      refine jm_run hX [] 20 ?_
      refine And.intro (o0 S1) ⟨some (ad 1), r1 S1, ?_⟩
      refine And.intro (o1 S1) (And.intro (Nat.le_of_ble_eq_true rfl) (And.intro (Nat.le_of_ble_eq_true rfl) ⟨0, 0, _, Nat.le_refl _, Nat.le_refl _, key, fun v m2 hq => ?_⟩))
      obtain ⟨rfl, hR2, L2⟩ := hq
      have hR : FRs ad (fun k => k = 0 ∨ k = 1) m m2 := (hR1.mo (fun k q => Or.inl q)).tr (hR2.mo (fun k q => Or.inr q))
      refine ⟨Nat.le_refl _, Nat.le_refl _, trivial, Or.inl ⟨rfl, by omega, hR.a, ?_⟩⟩
      refine h.ln hR (fun k q => by omega) L2 (hO.port (by omega)) rfl ?_
      rw [(hR2.at S1 (k := 0) (Or.inl (by decide)) (by omega)).1, hu1]; rfl
    exact kk
  · have g : ¬ m.2.2.1 (ad 1) 2 < nI 3 := g
    rw [L.2.2.1, nI_ltI (by omega) (by decide)] at g
    exact ⟨Nat.le_refl _, Nat.le_refl _, trivial, Or.inr ⟨rfl, g, rfl⟩⟩
end SH2
end
section
/-- one of the line's rows has changed -/
theorem LnV.one {m : jm_M} {ad : Nat → Nat} {d d' : LD} {m' : jm_M} {p : Nat → Prop} (S : SST m ad) (L : LnV m ad d) (hR : FRs ad p m m') (e : d'.1 = d.1) (hp : ¬ p 1)
    (h5 : p 5 → m'.2.2.1 (ad 5) = fun i => nI (d'.2.1 i)) (h5' : ¬ p 5 → d'.2.1 = d.2.1) (h6 : p 6 → m'.2.2.1 (ad 6) = d'.2.2.1) (h6' : ¬ p 6 → d'.2.2.1 = d.2.2.1) (h7 : p 7 → m'.2.2.1 (ad 7) = fun i => nI (d'.2.2.2.1 i)) (h7' : ¬ p 7 → d'.2.2.2.1 = d.2.2.2.1)
    (h8 : p 8 → m'.2.2.1 (ad 8) = fun i => nI (d'.2.2.2.2.1 i)) (h8' : ¬ p 8 → d'.2.2.2.2.1 = d.2.2.2.2.1) (h9 : p 9 → m'.2.2.1 (ad 9) = fun i => nI (d'.2.2.2.2.2.1 i)) (h9' : ¬ p 9 → d'.2.2.2.2.2.1 = d.2.2.2.2.2.1) (h10 : p 10 → m'.2.2.2.1 (ad 10) = fun i => lN (d'.2.2.2.2.2.2 i)) (h10' : ¬ p 10 → d'.2.2.2.2.2.2 = d.2.2.2.2.2.2) : LnV m' ad d' := by
  obtain ⟨l1, l2, l3, l4, l5, l6, l7, l8, l9⟩ := L
  have at' : ∀ k, k < 15 → ¬ p k → m'.2.2.1 (ad k) = m.2.2.1 (ad k) ∧ m'.2.2.2.1 (ad k) = m.2.2.2.1 (ad k) := fun k hk q => hR.at S (Or.inl (by omega)) q
  refine ⟨?_, ?_, ?_, ?_, ?_, ?_, ?_, ?_, ?_⟩
  · rw [(at' 1 (by decide) hp).1, e]; exact l1
  · rw [(at' 1 (by decide) hp).1, e]; exact l2
  · rw [(at' 1 (by decide) hp).1, e]; exact l3
  · by_cases q : p 5
    · exact h5 q
    · rw [(at' 5 (by decide) q).1, h5' q]; exact l4
  · by_cases q : p 6
    · exact h6 q
    · rw [(at' 6 (by decide) q).1, h6' q]; exact l5
  · by_cases q : p 7
    · exact h7 q
    · rw [(at' 7 (by decide) q).1, h7' q]; exact l6
  · by_cases q : p 8
    · exact h8 q
    · rw [(at' 8 (by decide) q).1, h8' q]; exact l7
  · by_cases q : p 9
    · exact h9 q
    · rw [(at' 9 (by decide) q).1, h9' q]; exact l8
  · by_cases q : p 10
    · exact h10 q
    · rw [(at' 10 (by decide) q).2, h10' q]; exact l9
theorem l_of {x : Int64} (h : 0 ≤ x.toInt) : x = lN x.toInt.toNat := by
  obtain ⟨k, hk, e⟩ := pk_lOf (x := x) (by rw [Int64.lt_iff_toInt_lt]; show ¬ x.toInt < 0; omega)
  rw [e, pk_lT hk]
  rfl
theorem lNf_up (f : Nat → Nat) (x v : Nat) : va_up (fun i => lN (f i)) x (lN v) = fun i => lN (va_up f x v i) := by
  funext i
  by_cases h : i = x
  · subst h; rw [va_up_self, va_up_self]
  · rw [va_up_ne _ _ h, va_up_ne _ _ h]
section SH3
variable {l : Launch} {D : va_G} {ca : Nat → ClassId}
theorem c_Sh_joinOut {m : jm_M} {ad : Nat → Nat} {c : CSt} (h : CI m ad c) (x y t : Int32) : jm_C l D ca n_Sh_joinOut [.ref (ad 0), .int x, .int y, .int t] m 0 0 (fun v m' => (v = some (.int 1) ∧ ((0 ≤ x.toInt ∧ x.toInt < (c.1.1.2.1 : Int)) ∧ 0 ≤ y.toInt ∧ y.toInt < (c.1.2.1 x.toInt.toNat : Int)) ∧ jOK c.1.1.2.1 c.1.1.2.2 t ∧ FRa ad m m' ∧ CI m' ad (dJoin c.1 (3 * x.toInt.toNat + y.toInt.toNat) t, c.2.1, c.2.2.1, c.2.2.2.1, false, c.2.2.2.2.2.1, c.2.2.2.2.2.2)) ∨ (v = some (.int 0) ∧ ¬ (((0 ≤ x.toInt ∧ x.toInt < (c.1.1.2.1 : Int)) ∧ 0 ≤ y.toInt ∧ y.toInt < (c.1.2.1 x.toInt.toNat : Int)) ∧ jOK c.1.1.2.1 c.1.1.2.2 t) ∧ m' = m)) := by
  refine jm_C_of (cd := cd_Sh_joinOut) (ini := false) (by decide +kernel) ok_Sh_joinOut (fun h => by cases h) (Nat.le_of_ble_eq_true rfl) ?_
  intro X hX
  have S := h.1
  have L := h.2.1
  have hO := h.2.2.1
  have o0 : ∀ {m' : jm_M}, SST m' ad → jm_ok m' (ad 0) 5 := fun S => S.ok 0 (Or.inl (by decide))
  have o1 : ∀ {m' : jm_M}, SST m' ad → jm_ok m' (ad 1) 2 := fun S => S.ok 1 (Or.inl (by decide))
  have r1 : ∀ {m' : jm_M}, SST m' ad → m'.2.2.2.2 (ad 0) 0 = some (ad 1) := fun S => S.2.2.1 (0, 0, 1) (by decide)
  have o6 : jm_ok m (ad 6) 50 := S.ok 6 (Or.inl (by decide))
  have r6 : m.2.2.2.2 (ad 1) 4 = some (ad 6) := S.2.2.1 (1, 4, 6) (by decide)
  have l6 : (m.2.1 (ad 6)).2 = 9 := S.len 6 (Or.inl (by decide))
  have hM := hO.2.1
  refine jm_run hX [(25, [0, 1, 2, 3])] 30 ?_
  refine And.intro (o0 S) ⟨some (ad 1), r1 S, ?_⟩
  refine And.intro (o1 S) (And.intro (Nat.le_of_ble_eq_true rfl) (And.intro (Nat.le_of_ble_eq_true rfl) ⟨0, 0, _, Nat.le_refl _, Nat.le_refl _, c_Ln_hasOut S L hO x y, fun v m' hq => ?_⟩))
  obtain ⟨ee, rfl⟩ := hq
  have ee := ee.symm
  subst ee
  by_cases h1 : (0 ≤ x.toInt ∧ x.toInt < (c.1.1.2.1 : Int)) ∧ 0 ≤ y.toInt ∧ y.toInt < (c.1.2.1 x.toInt.toNat : Int)
  · rw [if_pos h1]
    refine And.intro (fun g => absurd g (by decide)) (fun _ => ?_)
    refine And.intro (o0 S) ⟨some (ad 1), r1 S, ?_⟩
    refine And.intro (o1 S) (And.intro (Nat.le_of_ble_eq_true rfl) (And.intro (Nat.le_of_ble_eq_true rfl) ⟨0, 0, _, Nat.le_refl _, Nat.le_refl _, c_Ln_hasTarget S L hO t, fun v m' hq => ?_⟩))
    obtain ⟨ee, hq⟩ := hq
    have ee := ee.symm
    subst ee
    rcases hq with ⟨rfl, hj⟩ | ⟨rfl, hj⟩
    · refine And.intro (fun g => absurd g (by decide)) (fun _ => ?_)
      have hou := hO.2.2.2.1 x.toInt.toNat (by omega)
      have ex : x = nI x.toInt.toNat := i_of h1.1.1
      have ey : y = nI y.toInt.toNat := i_of h1.2.1
      have hx3 : x.toInt.toNat < 3 := by omega
      have hy3 : y.toInt.toNat < 3 := by omega
      have key : X 25 [(0, .ref (ad 0)), (1, .int x), (2, .int y), (3, .int t)] [] m 0 0 := by
        have e : x * 3 + y = nI (3 * x.toInt.toNat + y.toInt.toNat) := by
          have e3 : (3 : Int32) = nI 3 := rfl
          calc x * 3 + y = nI x.toInt.toNat * nI 3 + nI y.toInt.toNat := by rw [← ex, ← ey, ← e3]
            _ = _ := by rw [pk_mul, nI_add, Nat.mul_comm]
        refine jm_run hX [] 30 ?_
        refine And.intro (o0 S) ⟨some (ad 1), r1 S, And.intro (o1 S) ⟨some (ad 6), r6, And.intro o6 (And.intro ?_ ?_)⟩⟩
        · show vp_in (x * 3 + y) (m.2.1 (ad 6)).2
          rw [e]; exact vin_of l6 (by omega) (by decide)
        refine And.intro (o0 S) (And.intro (Or.inl rfl) ?_)
        refine ⟨Nat.le_refl _, Nat.le_refl _, Or.inr rfl, Or.inl ⟨rfl, h1, hj, ?_⟩⟩
        have em : uI m (ad 6) (x * 3 + y).toNatClampNeg t = uI m (ad 6) (3 * x.toInt.toNat + y.toInt.toNat) t := by rw [e, nI_c (by omega)]
        have hR : FRs ad (fun k => k = 0 ∨ k = 6) m (uI (uI m (ad 6) (x * 3 + y).toNatClampNeg t) (ad 0) 3 0) := (FRs.uI (i := 6) (Or.inl (by decide)) (Or.inr rfl)).tr (FRs.uI (i := 0) (Or.inl (by decide)) (Or.inl rfl))
        refine ⟨hR.a, h.ln hR (fun k q => by omega) (L.one S hR rfl (by omega) (fun q => by omega) (fun _ => rfl) (fun _ => ?_) (fun q => by omega) (fun q => by omega) (fun _ => rfl) (fun q => by omega) (fun _ => rfl) (fun q => by omega) (fun _ => rfl) (fun q => by omega) (fun _ => rfl)) (hO.join hj) rfl ?_⟩
        · rw [em]
          show va_up (va_up m.2.2.1 (ad 6) _) (ad 0) _ (ad 6) = _
          rw [va_up_ne _ _ (S.ne (Or.inl (by decide)) (Or.inl (by decide)) (by decide)), va_up_self, L.2.2.2.2.1]
          rfl
        · show va_up _ (ad 0) (va_up _ 3 0) (ad 0) 3 = _
          rw [va_up_self, va_up_self]; rfl
      exact key
    · refine And.intro (fun _ => ?_) (fun g => absurd rfl g)
      exact ⟨Nat.le_refl _, Nat.le_refl _, Or.inl rfl, Or.inr ⟨rfl, fun q => hj q.2, rfl⟩⟩
  · rw [if_neg h1]
    refine And.intro (fun _ => ?_) (fun g => absurd rfl g)
    exact ⟨Nat.le_refl _, Nat.le_refl _, Or.inl rfl, Or.inr ⟨rfl, fun q => h1 q.1, rfl⟩⟩
theorem c_Sh_feed {m : jm_M} {ad : Nat → Nat} {c : CSt} (h : CI m ad c) (x y : Int32) (g : Int64) : jm_C l D ca n_Sh_feed [.ref (ad 0), .int x, .int y, .long g] m 0 0 (fun v m' => (v = some (.int 1) ∧ (((0 ≤ x.toInt ∧ x.toInt < (c.1.1.2.1 : Int)) ∧ 0 ≤ y.toInt ∧ y.toInt < (c.1.1.1 : Int)) ∧ 0 ≤ g.toInt ∧ g.toInt ≤ 1000000) ∧ FRa ad m m' ∧ CI m' ad (dFeed c.1 (x.toInt.toNat * c.1.1.1 + y.toInt.toNat) g.toInt.toNat, c.2.1, c.2.2.1, c.2.2.2.1, false, c.2.2.2.2.2.1, c.2.2.2.2.2.2)) ∨ (v = some (.int 0) ∧ ¬ (((0 ≤ x.toInt ∧ x.toInt < (c.1.1.2.1 : Int)) ∧ 0 ≤ y.toInt ∧ y.toInt < (c.1.1.1 : Int)) ∧ 0 ≤ g.toInt ∧ g.toInt ≤ 1000000) ∧ m' = m)) := by
  refine jm_C_of (cd := cd_Sh_feed) (ini := false) (by decide +kernel) ok_Sh_feed (fun h => by cases h) (Nat.le_of_ble_eq_true rfl) ?_
  intro X hX
  have S := h.1
  have L := h.2.1
  have hO := h.2.2.1
  have o0 : ∀ {m' : jm_M}, SST m' ad → jm_ok m' (ad 0) 5 := fun S => S.ok 0 (Or.inl (by decide))
  have o1 : ∀ {m' : jm_M}, SST m' ad → jm_ok m' (ad 1) 2 := fun S => S.ok 1 (Or.inl (by decide))
  have r1 : ∀ {m' : jm_M}, SST m' ad → m'.2.2.2.2 (ad 0) 0 = some (ad 1) := fun S => S.2.2.1 (0, 0, 1) (by decide)
  have o10 : jm_ok m (ad 10) 51 := S.ok 10 (Or.inl (by decide))
  have r10 : m.2.2.2.2 (ad 1) 8 = some (ad 10) := S.2.2.1 (1, 8, 10) (by decide)
  have l10 : (m.2.1 (ad 10)).2 = 9 := S.len 10 (Or.inl (by decide))
  have hK := hO.1
  have hM := hO.2.1
  have e0 : (0 : Int64).toInt = 0 := by decide
  have e6 : (1000000 : Int64).toInt = 1000000 := by decide
  refine jm_run hX [(28, [0, 1, 2, 3])] 30 ?_
  refine And.intro (o0 S) ⟨some (ad 1), r1 S, ?_⟩
  refine And.intro (o1 S) (And.intro (Nat.le_of_ble_eq_true rfl) (And.intro (Nat.le_of_ble_eq_true rfl) ⟨0, 0, _, Nat.le_refl _, Nat.le_refl _, c_Ln_hasRow S L hO x y, fun v m' hq => ?_⟩))
  obtain ⟨ee, rfl⟩ := hq
  have ee := ee.symm
  subst ee
  by_cases h1 : (0 ≤ x.toInt ∧ x.toInt < (c.1.1.2.1 : Int)) ∧ 0 ≤ y.toInt ∧ y.toInt < (c.1.1.1 : Int)
  · rw [if_pos h1]
    refine And.intro (fun q => absurd q (by decide)) (fun _ => ?_)
    refine And.intro (fun q => ?_) (fun q => ?_)
    · have q : lg_cmp g 0 < 0 := q
      rw [lg_cmp_lt, Int64.lt_iff_toInt_lt, e0] at q
      exact ⟨Nat.le_refl _, Nat.le_refl _, Or.inl rfl, Or.inr ⟨rfl, by omega, rfl⟩⟩
    have q : ¬ lg_cmp g 0 < 0 := q
    rw [lg_cmp_lt, Int64.lt_iff_toInt_lt, e0] at q
    refine And.intro (fun q2 => ?_) (fun q2 => ?_)
    · have q2 : lg_cmp g 1000000 ≤ 0 := q2
      rw [lg_cmp_le, Int64.le_iff_toInt_le, e6] at q2
      have ex : x = nI x.toInt.toNat := i_of h1.1.1
      have ey : y = nI y.toInt.toNat := i_of h1.2.1
      have eg : g = lN g.toInt.toNat := l_of (by omega)
      have hrow := row_lt (M := c.1.1.2.1) (j := x.toInt.toNat) (k := y.toInt.toNat) hK.2 hM (by omega) (by omega)
      have key0 := c_Ln_row (l := l) (D := D) (ca := ca) (j := x.toInt.toNat) (k := y.toInt.toNat) S L
      rw [← ex, ← ey] at key0
      generalize hrr : x.toInt.toNat * c.1.1.1 + y.toInt.toNat = rr at *
      have key : X 28 [(0, .ref (ad 0)), (1, .int x), (2, .int y), (3, .long g)] [] m 0 0 := by
        refine jm_run hX [] 30 ?_
        refine And.intro (o0 S) ⟨some (ad 1), r1 S, And.intro (o1 S) ⟨some (ad 10), r10, And.intro (o0 S) ⟨some (ad 1), r1 S, ?_⟩⟩⟩
        refine And.intro (o1 S) (And.intro (Nat.le_of_ble_eq_true rfl) (And.intro (Nat.le_of_ble_eq_true rfl) ⟨0, 0, _, Nat.le_refl _, Nat.le_refl _, key0, fun v m' hq => ?_⟩))
        obtain ⟨ee, rfl⟩ := hq
        have ee := ee.symm
        subst ee
        refine And.intro o10 (And.intro (vin_of l10 hrow (by decide)) ?_)
        refine And.intro (o0 S) (And.intro (Or.inl rfl) ?_)
        refine ⟨Nat.le_refl _, Nat.le_refl _, Or.inr rfl, Or.inl ⟨rfl, ⟨h1, by omega⟩, ?_⟩⟩
        have em : uJ m (ad 10) (nI rr).toNatClampNeg g = uJ m (ad 10) rr (lN g.toInt.toNat) := by rw [nI_c (by omega), ← eg]
        have hR : FRs ad (fun k => k = 0 ∨ k = 10) m (uI (uJ m (ad 10) (nI rr).toNatClampNeg g) (ad 0) 3 0) := (FRs.uJ (i := 10) (Or.inl (by decide)) (Or.inr rfl)).tr (FRs.uI (i := 0) (Or.inl (by decide)) (Or.inl rfl))
        refine ⟨hR.a, h.ln hR (fun k q => by omega) (L.one S hR rfl (by omega) (fun q => by omega) (fun _ => rfl) (fun q => by omega) (fun _ => rfl) (fun q => by omega) (fun _ => rfl) (fun q => by omega) (fun _ => rfl) (fun q => by omega) (fun _ => rfl) (fun _ => ?_) (fun q => by omega)) (hO.feed (by omega)) rfl ?_⟩
        · rw [em]
          show va_up m.2.2.2.1 (ad 10) (va_up (m.2.2.2.1 (ad 10)) rr (lN g.toInt.toNat)) (ad 10) = _
          rw [va_up_self, L.2.2.2.2.2.2.2.2, lNf_up]
          rfl
        · show va_up _ (ad 0) (va_up _ 3 0) (ad 0) 3 = _
          rw [va_up_self, va_up_self]; rfl
      exact key
    · have q2 : ¬ lg_cmp g 1000000 ≤ 0 := q2
      rw [lg_cmp_le, Int64.le_iff_toInt_le, e6] at q2
      exact ⟨Nat.le_refl _, Nat.le_refl _, Or.inl rfl, Or.inr ⟨rfl, by omega, rfl⟩⟩
  · rw [if_neg h1]
    refine And.intro (fun _ => ?_) (fun q => absurd rfl q)
    exact ⟨Nat.le_refl _, Nat.le_refl _, Or.inl rfl, Or.inr ⟨rfl, fun q => h1 q.1, rfl⟩⟩
end SH3
end
