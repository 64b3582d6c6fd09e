-- ===== PART A: goes FIRST, ahead of the names: the tables' words, and 'selects' of the private methods out of them =====
/-- a private method of a class that the tables say can be made, by its rows of tables_1 -/
def lw_okq (q : MethodName × Nat) : Prop := (q.1.cls ≠ "java/lang/invoke/MethodHandle" ∧ q.1.cls ≠ "java/lang/invoke/VarHandle") ∧ Cond.instantiable q.1.cls q.2 ∈ tables_1 ∧ Cond.privateMethod q.1 ∈ tables_1 ∧ Cond.instanceMethod q.1 ∈ tables_1
theorem lw_p0 : lw_okq (⟨"ShareSolve", "tellShare", "(IIIJJ)Z"⟩, 4) := ⟨⟨by decide +kernel, by decide +kernel⟩, List.mem_of_getElem? (i := 13) (by decide +kernel), List.mem_of_getElem? (i := 272) (by decide +kernel), List.mem_of_getElem? (i := 273) (by decide +kernel)⟩
theorem lw_p1 : lw_okq (⟨"ShareSolve", "solveAll", "()I"⟩, 4) := ⟨⟨by decide +kernel, by decide +kernel⟩, List.mem_of_getElem? (i := 13) (by decide +kernel), List.mem_of_getElem? (i := 320) (by decide +kernel), List.mem_of_getElem? (i := 321) (by decide +kernel)⟩
theorem lw_p2 : lw_okq (⟨"ShareSolve$Line", "spreadGetsAway", "()V"⟩, 13) := ⟨⟨by decide +kernel, by decide +kernel⟩, List.mem_of_getElem? (i := 21) (by decide +kernel), List.mem_of_getElem? (i := 328) (by decide +kernel), List.mem_of_getElem? (i := 329) (by decide +kernel)⟩
theorem lw_p3 : lw_okq (⟨"ShareSolve$Line", "leavesAs", "(II)Z"⟩, 13) := ⟨⟨by decide +kernel, by decide +kernel⟩, List.mem_of_getElem? (i := 21) (by decide +kernel), List.mem_of_getElem? (i := 332) (by decide +kernel), List.mem_of_getElem? (i := 333) (by decide +kernel)⟩
theorem lw_p4 : lw_okq (⟨"ShareSolve$Flow", "readColumn", "(II)V"⟩, 14) := ⟨⟨by decide +kernel, by decide +kernel⟩, List.mem_of_getElem? (i := 91) (by decide +kernel), List.mem_of_getElem? (i := 348) (by decide +kernel), List.mem_of_getElem? (i := 349) (by decide +kernel)⟩
theorem lw_p5 : lw_okq (⟨"ShareSolve$Flow", "sendAs", "(IIII)V"⟩, 14) := ⟨⟨by decide +kernel, by decide +kernel⟩, List.mem_of_getElem? (i := 91) (by decide +kernel), List.mem_of_getElem? (i := 354) (by decide +kernel), List.mem_of_getElem? (i := 355) (by decide +kernel)⟩
theorem lw_p6 : lw_okq (⟨"ShareSolve$Flow", "shrinkColumn", "(I)V"⟩, 14) := ⟨⟨by decide +kernel, by decide +kernel⟩, List.mem_of_getElem? (i := 91) (by decide +kernel), List.mem_of_getElem? (i := 360) (by decide +kernel), List.mem_of_getElem? (i := 361) (by decide +kernel)⟩
theorem lw_p7 : lw_okq (⟨"ShareSolve$Flow", "divideColumn", "(II)V"⟩, 14) := ⟨⟨by decide +kernel, by decide +kernel⟩, List.mem_of_getElem? (i := 91) (by decide +kernel), List.mem_of_getElem? (i := 367) (by decide +kernel), List.mem_of_getElem? (i := 368) (by decide +kernel)⟩
theorem lw_p8 : lw_okq (⟨"ShareSolve$Flow", "cell", "(II)LShareSolve$Whole;"⟩, 14) := ⟨⟨by decide +kernel, by decide +kernel⟩, List.mem_of_getElem? (i := 91) (by decide +kernel), List.mem_of_getElem? (i := 371) (by decide +kernel), List.mem_of_getElem? (i := 372) (by decide +kernel)⟩
theorem lw_p9 : lw_okq (⟨"ShareSolve$Whole", "dropZeros", "(I)V"⟩, 2) := ⟨⟨by decide +kernel, by decide +kernel⟩, List.mem_of_getElem? (i := 103) (by decide +kernel), List.mem_of_getElem? (i := 381) (by decide +kernel), List.mem_of_getElem? (i := 382) (by decide +kernel)⟩
theorem lw_p10 : lw_okq (⟨"ShareSolve$Flow", "eliminateCell", "(III)V"⟩, 14) := ⟨⟨by decide +kernel, by decide +kernel⟩, List.mem_of_getElem? (i := 91) (by decide +kernel), List.mem_of_getElem? (i := 389) (by decide +kernel), List.mem_of_getElem? (i := 390) (by decide +kernel)⟩
theorem lw_p11 : lw_okq (⟨"ShareSolve$Division", "nextDigit", "(I)I"⟩, 4) := ⟨⟨by decide +kernel, by decide +kernel⟩, List.mem_of_getElem? (i := 97) (by decide +kernel), List.mem_of_getElem? (i := 443) (by decide +kernel), List.mem_of_getElem? (i := 444) (by decide +kernel)⟩
theorem lw_p12 : lw_okq (⟨"ShareSolve$Division", "guessDigit", "(I)I"⟩, 4) := ⟨⟨by decide +kernel, by decide +kernel⟩, List.mem_of_getElem? (i := 97) (by decide +kernel), List.mem_of_getElem? (i := 447) (by decide +kernel), List.mem_of_getElem? (i := 448) (by decide +kernel)⟩
theorem lw_p13 : lw_okq (⟨"ShareSolve", "takeSolution", "()V"⟩, 4) := ⟨⟨by decide +kernel, by decide +kernel⟩, List.mem_of_getElem? (i := 13) (by decide +kernel), List.mem_of_getElem? (i := 473) (by decide +kernel), List.mem_of_getElem? (i := 474) (by decide +kernel)⟩
theorem lw_p14 : lw_okq (⟨"ShareSolve$Flow", "addAtPort", "(IIILShareSolve$Whole;)V"⟩, 14) := ⟨⟨by decide +kernel, by decide +kernel⟩, List.mem_of_getElem? (i := 91) (by decide +kernel), List.mem_of_getElem? (i := 487) (by decide +kernel), List.mem_of_getElem? (i := 488) (by decide +kernel)⟩
theorem lw_p15 : lw_okq (⟨"ShareSolve", "isOutsideSpan", "(I)Z"⟩, 4) := ⟨⟨by decide +kernel, by decide +kernel⟩, List.mem_of_getElem? (i := 13) (by decide +kernel), List.mem_of_getElem? (i := 536) (by decide +kernel), List.mem_of_getElem? (i := 537) (by decide +kernel)⟩
def lw_privs_1 : List (MethodName × Nat) := [(⟨"ShareSolve", "tellShare", "(IIIJJ)Z"⟩, 4), (⟨"ShareSolve", "solveAll", "()I"⟩, 4), (⟨"ShareSolve$Line", "spreadGetsAway", "()V"⟩, 13), (⟨"ShareSolve$Line", "leavesAs", "(II)Z"⟩, 13), (⟨"ShareSolve$Flow", "readColumn", "(II)V"⟩, 14), (⟨"ShareSolve$Flow", "sendAs", "(IIII)V"⟩, 14), (⟨"ShareSolve$Flow", "shrinkColumn", "(I)V"⟩, 14), (⟨"ShareSolve$Flow", "divideColumn", "(II)V"⟩, 14), (⟨"ShareSolve$Flow", "cell", "(II)LShareSolve$Whole;"⟩, 14), (⟨"ShareSolve$Whole", "dropZeros", "(I)V"⟩, 2), (⟨"ShareSolve$Flow", "eliminateCell", "(III)V"⟩, 14), (⟨"ShareSolve$Division", "nextDigit", "(I)I"⟩, 4), (⟨"ShareSolve$Division", "guessDigit", "(I)I"⟩, 4), (⟨"ShareSolve", "takeSolution", "()V"⟩, 4), (⟨"ShareSolve$Flow", "addAtPort", "(IIILShareSolve$Whole;)V"⟩, 14), (⟨"ShareSolve", "isOutsideSpan", "(I)Z"⟩, 4)]
theorem lw_r1 : ∀ q ∈ lw_privs_1, lw_okq q := List.forall_mem_cons.mpr ⟨lw_p0, List.forall_mem_cons.mpr ⟨lw_p1, List.forall_mem_cons.mpr ⟨lw_p2, List.forall_mem_cons.mpr ⟨lw_p3, List.forall_mem_cons.mpr ⟨lw_p4, List.forall_mem_cons.mpr ⟨lw_p5, List.forall_mem_cons.mpr ⟨lw_p6, List.forall_mem_cons.mpr ⟨lw_p7, List.forall_mem_cons.mpr ⟨lw_p8, List.forall_mem_cons.mpr ⟨lw_p9, List.forall_mem_cons.mpr ⟨lw_p10, List.forall_mem_cons.mpr ⟨lw_p11, List.forall_mem_cons.mpr ⟨lw_p12, List.forall_mem_cons.mpr ⟨lw_p13, List.forall_mem_cons.mpr ⟨lw_p14, List.forall_mem_cons.mpr ⟨lw_p15, fun _ h => absurd h List.not_mem_nil⟩⟩⟩⟩⟩⟩⟩⟩⟩⟩⟩⟩⟩⟩⟩⟩
theorem lw_p16 : lw_okq (⟨"ShareSolve$Flow", "putGram", "(III)V"⟩, 14) := ⟨⟨by decide +kernel, by decide +kernel⟩, List.mem_of_getElem? (i := 91) (by decide +kernel), List.mem_of_getElem? (i := 561) (by decide +kernel), List.mem_of_getElem? (i := 562) (by decide +kernel)⟩
theorem lw_p17 : lw_okq (⟨"ShareSolve$Flow", "putReached", "(IIILShareSolve$Whole;)V"⟩, 14) := ⟨⟨by decide +kernel, by decide +kernel⟩, List.mem_of_getElem? (i := 91) (by decide +kernel), List.mem_of_getElem? (i := 566) (by decide +kernel), List.mem_of_getElem? (i := 567) (by decide +kernel)⟩
theorem lw_p18 : lw_okq (⟨"ShareSolve$Flow", "putPassing", "(IILShareSolve$Whole;)V"⟩, 14) := ⟨⟨by decide +kernel, by decide +kernel⟩, List.mem_of_getElem? (i := 91) (by decide +kernel), List.mem_of_getElem? (i := 571) (by decide +kernel), List.mem_of_getElem? (i := 572) (by decide +kernel)⟩
theorem lw_p19 : lw_okq (⟨"ShareSolve", "bringsToPortZero", "(IJ)Z"⟩, 4) := ⟨⟨by decide +kernel, by decide +kernel⟩, List.mem_of_getElem? (i := 13) (by decide +kernel), List.mem_of_getElem? (i := 601) (by decide +kernel), List.mem_of_getElem? (i := 602) (by decide +kernel)⟩
theorem lw_p20 : lw_okq (⟨"ShareSolveModel", "touch", "()V"⟩, 34) := ⟨⟨by decide +kernel, by decide +kernel⟩, List.mem_of_getElem? (i := 617) (by decide +kernel), List.mem_of_getElem? (i := 738) (by decide +kernel), List.mem_of_getElem? (i := 739) (by decide +kernel)⟩
theorem lw_p21 : lw_okq (⟨"ShareSolveModel", "isOut", "(II)Z"⟩, 34) := ⟨⟨by decide +kernel, by decide +kernel⟩, List.mem_of_getElem? (i := 617) (by decide +kernel), List.mem_of_getElem? (i := 750) (by decide +kernel), List.mem_of_getElem? (i := 751) (by decide +kernel)⟩
theorem lw_p22 : lw_okq (⟨"ShareSolveModel", "isMachine", "(I)Z"⟩, 34) := ⟨⟨by decide +kernel, by decide +kernel⟩, List.mem_of_getElem? (i := 617) (by decide +kernel), List.mem_of_getElem? (i := 754) (by decide +kernel), List.mem_of_getElem? (i := 755) (by decide +kernel)⟩
theorem lw_p23 : lw_okq (⟨"ShareSolveModel", "isFree", "(III)Z"⟩, 34) := ⟨⟨by decide +kernel, by decide +kernel⟩, List.mem_of_getElem? (i := 617) (by decide +kernel), List.mem_of_getElem? (i := 762) (by decide +kernel), List.mem_of_getElem? (i := 763) (by decide +kernel)⟩
theorem lw_p24 : lw_okq (⟨"ShareSolveModel", "isKind", "(I)Z"⟩, 34) := ⟨⟨by decide +kernel, by decide +kernel⟩, List.mem_of_getElem? (i := 617) (by decide +kernel), List.mem_of_getElem? (i := 766) (by decide +kernel), List.mem_of_getElem? (i := 767) (by decide +kernel)⟩
theorem lw_p25 : lw_okq (⟨"ShareSolveModel", "fits", "(IIIJJ)Z"⟩, 34) := ⟨⟨by decide +kernel, by decide +kernel⟩, List.mem_of_getElem? (i := 617) (by decide +kernel), List.mem_of_getElem? (i := 774) (by decide +kernel), List.mem_of_getElem? (i := 775) (by decide +kernel)⟩
theorem lw_p26 : lw_okq (⟨"ShareSolveModel", "layOut", "(I)V"⟩, 34) := ⟨⟨by decide +kernel, by decide +kernel⟩, List.mem_of_getElem? (i := 617) (by decide +kernel), List.mem_of_getElem? (i := 796) (by decide +kernel), List.mem_of_getElem? (i := 797) (by decide +kernel)⟩
theorem lw_p27 : lw_okq (⟨"ShareSolveModel", "layNode", "(III)V"⟩, 34) := ⟨⟨by decide +kernel, by decide +kernel⟩, List.mem_of_getElem? (i := 617) (by decide +kernel), List.mem_of_getElem? (i := 800) (by decide +kernel), List.mem_of_getElem? (i := 801) (by decide +kernel)⟩
theorem lw_p28 : lw_okq (⟨"ShareSolveModel", "common", "(III)J"⟩, 34) := ⟨⟨by decide +kernel, by decide +kernel⟩, List.mem_of_getElem? (i := 617) (by decide +kernel), List.mem_of_getElem? (i := 804) (by decide +kernel), List.mem_of_getElem? (i := 805) (by decide +kernel)⟩
theorem lw_p29 : lw_okq (⟨"ShareSolveModel", "shareAt", "(IIII)I"⟩, 34) := ⟨⟨by decide +kernel, by decide +kernel⟩, List.mem_of_getElem? (i := 617) (by decide +kernel), List.mem_of_getElem? (i := 808) (by decide +kernel), List.mem_of_getElem? (i := 809) (by decide +kernel)⟩
theorem lw_p30 : lw_okq (⟨"ShareSolveModel", "part", "(IIII)J"⟩, 34) := ⟨⟨by decide +kernel, by decide +kernel⟩, List.mem_of_getElem? (i := 617) (by decide +kernel), List.mem_of_getElem? (i := 812) (by decide +kernel), List.mem_of_getElem? (i := 813) (by decide +kernel)⟩
theorem lw_p31 : lw_okq (⟨"ShareSolveModel", "stuck", "(I)I"⟩, 34) := ⟨⟨by decide +kernel, by decide +kernel⟩, List.mem_of_getElem? (i := 617) (by decide +kernel), List.mem_of_getElem? (i := 816) (by decide +kernel), List.mem_of_getElem? (i := 817) (by decide +kernel)⟩
def lw_privs_2 : List (MethodName × Nat) := [(⟨"ShareSolve$Flow", "putGram", "(III)V"⟩, 14), (⟨"ShareSolve$Flow", "putReached", "(IIILShareSolve$Whole;)V"⟩, 14), (⟨"ShareSolve$Flow", "putPassing", "(IILShareSolve$Whole;)V"⟩, 14), (⟨"ShareSolve", "bringsToPortZero", "(IJ)Z"⟩, 4), (⟨"ShareSolveModel", "touch", "()V"⟩, 34), (⟨"ShareSolveModel", "isOut", "(II)Z"⟩, 34), (⟨"ShareSolveModel", "isMachine", "(I)Z"⟩, 34), (⟨"ShareSolveModel", "isFree", "(III)Z"⟩, 34), (⟨"ShareSolveModel", "isKind", "(I)Z"⟩, 34), (⟨"ShareSolveModel", "fits", "(IIIJJ)Z"⟩, 34), (⟨"ShareSolveModel", "layOut", "(I)V"⟩, 34), (⟨"ShareSolveModel", "layNode", "(III)V"⟩, 34), (⟨"ShareSolveModel", "common", "(III)J"⟩, 34), (⟨"ShareSolveModel", "shareAt", "(IIII)I"⟩, 34), (⟨"ShareSolveModel", "part", "(IIII)J"⟩, 34), (⟨"ShareSolveModel", "stuck", "(I)I"⟩, 34)]
theorem lw_r2 : ∀ q ∈ lw_privs_2, lw_okq q := List.forall_mem_cons.mpr ⟨lw_p16, List.forall_mem_cons.mpr ⟨lw_p17, List.forall_mem_cons.mpr ⟨lw_p18, List.forall_mem_cons.mpr ⟨lw_p19, List.forall_mem_cons.mpr ⟨lw_p20, List.forall_mem_cons.mpr ⟨lw_p21, List.forall_mem_cons.mpr ⟨lw_p22, List.forall_mem_cons.mpr ⟨lw_p23, List.forall_mem_cons.mpr ⟨lw_p24, List.forall_mem_cons.mpr ⟨lw_p25, List.forall_mem_cons.mpr ⟨lw_p26, List.forall_mem_cons.mpr ⟨lw_p27, List.forall_mem_cons.mpr ⟨lw_p28, List.forall_mem_cons.mpr ⟨lw_p29, List.forall_mem_cons.mpr ⟨lw_p30, List.forall_mem_cons.mpr ⟨lw_p31, fun _ h => absurd h List.not_mem_nil⟩⟩⟩⟩⟩⟩⟩⟩⟩⟩⟩⟩⟩⟩⟩⟩
theorem lw_p32 : lw_okq (⟨"ShareSolveModel", "goes", "(IIII)Z"⟩, 34) := ⟨⟨by decide +kernel, by decide +kernel⟩, List.mem_of_getElem? (i := 617) (by decide +kernel), List.mem_of_getElem? (i := 820) (by decide +kernel), List.mem_of_getElem? (i := 821) (by decide +kernel)⟩
theorem lw_p33 : lw_okq (⟨"ShareSolveModel", "freeze", "()V"⟩, 34) := ⟨⟨by decide +kernel, by decide +kernel⟩, List.mem_of_getElem? (i := 617) (by decide +kernel), List.mem_of_getElem? (i := 824) (by decide +kernel), List.mem_of_getElem? (i := 825) (by decide +kernel)⟩
theorem lw_p34 : lw_okq (⟨"ShareSolveModel", "prepare", "(I)V"⟩, 34) := ⟨⟨by decide +kernel, by decide +kernel⟩, List.mem_of_getElem? (i := 617) (by decide +kernel), List.mem_of_getElem? (i := 833) (by decide +kernel), List.mem_of_getElem? (i := 834) (by decide +kernel)⟩
theorem lw_p35 : lw_okq (⟨"ShareSolveModel", "turn", "()V"⟩, 34) := ⟨⟨by decide +kernel, by decide +kernel⟩, List.mem_of_getElem? (i := 617) (by decide +kernel), List.mem_of_getElem? (i := 837) (by decide +kernel), List.mem_of_getElem? (i := 838) (by decide +kernel)⟩
theorem lw_p36 : lw_okq (⟨"ShareSolveModel", "turnBy", "(IJ)V"⟩, 34) := ⟨⟨by decide +kernel, by decide +kernel⟩, List.mem_of_getElem? (i := 617) (by decide +kernel), List.mem_of_getElem? (i := 841) (by decide +kernel), List.mem_of_getElem? (i := 842) (by decide +kernel)⟩
theorem lw_p37 : lw_okq (⟨"ShareSolveModel", "multiply", "(J)V"⟩, 34) := ⟨⟨by decide +kernel, by decide +kernel⟩, List.mem_of_getElem? (i := 617) (by decide +kernel), List.mem_of_getElem? (i := 845) (by decide +kernel), List.mem_of_getElem? (i := 846) (by decide +kernel)⟩
theorem lw_p38 : lw_okq (⟨"ShareSolveModel", "gatherOver", "(I)V"⟩, 34) := ⟨⟨by decide +kernel, by decide +kernel⟩, List.mem_of_getElem? (i := 617) (by decide +kernel), List.mem_of_getElem? (i := 856) (by decide +kernel), List.mem_of_getElem? (i := 857) (by decide +kernel)⟩
theorem lw_p39 : lw_okq (⟨"ShareSolveModel", "gather", "(I)V"⟩, 34) := ⟨⟨by decide +kernel, by decide +kernel⟩, List.mem_of_getElem? (i := 617) (by decide +kernel), List.mem_of_getElem? (i := 860) (by decide +kernel), List.mem_of_getElem? (i := 861) (by decide +kernel)⟩
theorem lw_p40 : lw_okq (⟨"ShareSolveModel", "clear", "(I)V"⟩, 34) := ⟨⟨by decide +kernel, by decide +kernel⟩, List.mem_of_getElem? (i := 617) (by decide +kernel), List.mem_of_getElem? (i := 864) (by decide +kernel), List.mem_of_getElem? (i := 865) (by decide +kernel)⟩
theorem lw_p41 : lw_okq (⟨"ShareSolveModel", "grow", "(IJJ)V"⟩, 34) := ⟨⟨by decide +kernel, by decide +kernel⟩, List.mem_of_getElem? (i := 617) (by decide +kernel), List.mem_of_getElem? (i := 868) (by decide +kernel), List.mem_of_getElem? (i := 869) (by decide +kernel)⟩
theorem lw_p42 : lw_okq (⟨"ShareSolveModel", "add", "(IJ)V"⟩, 34) := ⟨⟨by decide +kernel, by decide +kernel⟩, List.mem_of_getElem? (i := 617) (by decide +kernel), List.mem_of_getElem? (i := 873) (by decide +kernel), List.mem_of_getElem? (i := 874) (by decide +kernel)⟩
theorem lw_p43 : lw_okq (⟨"ShareSolveModel", "clearWeights", "()V"⟩, 34) := ⟨⟨by decide +kernel, by decide +kernel⟩, List.mem_of_getElem? (i := 617) (by decide +kernel), List.mem_of_getElem? (i := 877) (by decide +kernel), List.mem_of_getElem? (i := 878) (by decide +kernel)⟩
theorem lw_p44 : lw_okq (⟨"ShareSolveModel", "weighPort", "(III)V"⟩, 34) := ⟨⟨by decide +kernel, by decide +kernel⟩, List.mem_of_getElem? (i := 617) (by decide +kernel), List.mem_of_getElem? (i := 881) (by decide +kernel), List.mem_of_getElem? (i := 882) (by decide +kernel)⟩
theorem lw_p45 : lw_okq (⟨"ShareSolveModel", "gatherAmount", "(II)V"⟩, 34) := ⟨⟨by decide +kernel, by decide +kernel⟩, List.mem_of_getElem? (i := 617) (by decide +kernel), List.mem_of_getElem? (i := 885) (by decide +kernel), List.mem_of_getElem? (i := 886) (by decide +kernel)⟩
theorem lw_p46 : lw_okq (⟨"ShareSolveModel", "partOf", "(IZ)J"⟩, 34) := ⟨⟨by decide +kernel, by decide +kernel⟩, List.mem_of_getElem? (i := 617) (by decide +kernel), List.mem_of_getElem? (i := 889) (by decide +kernel), List.mem_of_getElem? (i := 890) (by decide +kernel)⟩
theorem lw_p47 : lw_okq (⟨"ShareSolveModel", "divide", "(I)J"⟩, 34) := ⟨⟨by decide +kernel, by decide +kernel⟩, List.mem_of_getElem? (i := 617) (by decide +kernel), List.mem_of_getElem? (i := 893) (by decide +kernel), List.mem_of_getElem? (i := 894) (by decide +kernel)⟩
def lw_privs_3 : List (MethodName × Nat) := [(⟨"ShareSolveModel", "goes", "(IIII)Z"⟩, 34), (⟨"ShareSolveModel", "freeze", "()V"⟩, 34), (⟨"ShareSolveModel", "prepare", "(I)V"⟩, 34), (⟨"ShareSolveModel", "turn", "()V"⟩, 34), (⟨"ShareSolveModel", "turnBy", "(IJ)V"⟩, 34), (⟨"ShareSolveModel", "multiply", "(J)V"⟩, 34), (⟨"ShareSolveModel", "gatherOver", "(I)V"⟩, 34), (⟨"ShareSolveModel", "gather", "(I)V"⟩, 34), (⟨"ShareSolveModel", "clear", "(I)V"⟩, 34), (⟨"ShareSolveModel", "grow", "(IJJ)V"⟩, 34), (⟨"ShareSolveModel", "add", "(IJ)V"⟩, 34), (⟨"ShareSolveModel", "clearWeights", "()V"⟩, 34), (⟨"ShareSolveModel", "weighPort", "(III)V"⟩, 34), (⟨"ShareSolveModel", "gatherAmount", "(II)V"⟩, 34), (⟨"ShareSolveModel", "partOf", "(IZ)J"⟩, 34), (⟨"ShareSolveModel", "divide", "(I)J"⟩, 34)]
theorem lw_r3 : ∀ q ∈ lw_privs_3, lw_okq q := List.forall_mem_cons.mpr ⟨lw_p32, List.forall_mem_cons.mpr ⟨lw_p33, List.forall_mem_cons.mpr ⟨lw_p34, List.forall_mem_cons.mpr ⟨lw_p35, List.forall_mem_cons.mpr ⟨lw_p36, List.forall_mem_cons.mpr ⟨lw_p37, List.forall_mem_cons.mpr ⟨lw_p38, List.forall_mem_cons.mpr ⟨lw_p39, List.forall_mem_cons.mpr ⟨lw_p40, List.forall_mem_cons.mpr ⟨lw_p41, List.forall_mem_cons.mpr ⟨lw_p42, List.forall_mem_cons.mpr ⟨lw_p43, List.forall_mem_cons.mpr ⟨lw_p44, List.forall_mem_cons.mpr ⟨lw_p45, List.forall_mem_cons.mpr ⟨lw_p46, List.forall_mem_cons.mpr ⟨lw_p47, fun _ h => absurd h List.not_mem_nil⟩⟩⟩⟩⟩⟩⟩⟩⟩⟩⟩⟩⟩⟩⟩⟩
theorem lw_p48 : lw_okq (⟨"ShareSolveModel", "wordsOf", "(I)I"⟩, 34) := ⟨⟨by decide +kernel, by decide +kernel⟩, List.mem_of_getElem? (i := 617) (by decide +kernel), List.mem_of_getElem? (i := 897) (by decide +kernel), List.mem_of_getElem? (i := 898) (by decide +kernel)⟩
theorem lw_p49 : lw_okq (⟨"ShareSolveModel", "growUsed", "(J)V"⟩, 34) := ⟨⟨by decide +kernel, by decide +kernel⟩, List.mem_of_getElem? (i := 617) (by decide +kernel), List.mem_of_getElem? (i := 901) (by decide +kernel), List.mem_of_getElem? (i := 902) (by decide +kernel)⟩
theorem lw_p50 : lw_okq (⟨"ShareSolveModel", "isLeftLess", "()Z"⟩, 34) := ⟨⟨by decide +kernel, by decide +kernel⟩, List.mem_of_getElem? (i := 617) (by decide +kernel), List.mem_of_getElem? (i := 905) (by decide +kernel), List.mem_of_getElem? (i := 906) (by decide +kernel)⟩
theorem lw_p51 : lw_okq (⟨"ShareSolveModel", "lessenLeft", "()V"⟩, 34) := ⟨⟨by decide +kernel, by decide +kernel⟩, List.mem_of_getElem? (i := 617) (by decide +kernel), List.mem_of_getElem? (i := 909) (by decide +kernel), List.mem_of_getElem? (i := 910) (by decide +kernel)⟩
theorem lw_p52 : lw_okq (⟨"ShareSolveModel", "isZero", "(I)Z"⟩, 34) := ⟨⟨by decide +kernel, by decide +kernel⟩, List.mem_of_getElem? (i := 617) (by decide +kernel), List.mem_of_getElem? (i := 913) (by decide +kernel), List.mem_of_getElem? (i := 914) (by decide +kernel)⟩
theorem lw_p53 : lw_okq (⟨"ShareSolveModel", "copy", "(II)V"⟩, 34) := ⟨⟨by decide +kernel, by decide +kernel⟩, List.mem_of_getElem? (i := 617) (by decide +kernel), List.mem_of_getElem? (i := 917) (by decide +kernel), List.mem_of_getElem? (i := 918) (by decide +kernel)⟩
theorem lw_p54 : lw_okq (⟨"ShareSolveModel", "lessen", "(II)V"⟩, 34) := ⟨⟨by decide +kernel, by decide +kernel⟩, List.mem_of_getElem? (i := 617) (by decide +kernel), List.mem_of_getElem? (i := 921) (by decide +kernel), List.mem_of_getElem? (i := 922) (by decide +kernel)⟩
theorem lw_p55 : lw_okq (⟨"ShareSolveModel", "reckonLoad", "(I)V"⟩, 34) := ⟨⟨by decide +kernel, by decide +kernel⟩, List.mem_of_getElem? (i := 617) (by decide +kernel), List.mem_of_getElem? (i := 929) (by decide +kernel), List.mem_of_getElem? (i := 930) (by decide +kernel)⟩
theorem lw_p56 : lw_okq (⟨"ShareSolveModel", "isOver", "(I)Z"⟩, 34) := ⟨⟨by decide +kernel, by decide +kernel⟩, List.mem_of_getElem? (i := 617) (by decide +kernel), List.mem_of_getElem? (i := 937) (by decide +kernel), List.mem_of_getElem? (i := 938) (by decide +kernel)⟩
theorem lw_p57 : lw_okq (⟨"ShareSolveModel", "gatherOut", "(IIIII)V"⟩, 34) := ⟨⟨by decide +kernel, by decide +kernel⟩, List.mem_of_getElem? (i := 617) (by decide +kernel), List.mem_of_getElem? (i := 945) (by decide +kernel), List.mem_of_getElem? (i := 946) (by decide +kernel)⟩
theorem lw_p58 : lw_okq (⟨"ShareSolveModel", "gatherWorth", "(II)V"⟩, 34) := ⟨⟨by decide +kernel, by decide +kernel⟩, List.mem_of_getElem? (i := 617) (by decide +kernel), List.mem_of_getElem? (i := 949) (by decide +kernel), List.mem_of_getElem? (i := 950) (by decide +kernel)⟩
theorem lw_p59 : lw_okq (⟨"ShareSolveModel", "isLess", "(II)Z"⟩, 34) := ⟨⟨by decide +kernel, by decide +kernel⟩, List.mem_of_getElem? (i := 617) (by decide +kernel), List.mem_of_getElem? (i := 953) (by decide +kernel), List.mem_of_getElem? (i := 954) (by decide +kernel)⟩
theorem lw_p60 : lw_okq (⟨"ShareSolveModel", "multiply", "(III)V"⟩, 34) := ⟨⟨by decide +kernel, by decide +kernel⟩, List.mem_of_getElem? (i := 617) (by decide +kernel), List.mem_of_getElem? (i := 957) (by decide +kernel), List.mem_of_getElem? (i := 958) (by decide +kernel)⟩
theorem lw_p61 : lw_okq (⟨"ShareSolveModel", "brings", "(IJ)Z"⟩, 34) := ⟨⟨by decide +kernel, by decide +kernel⟩, List.mem_of_getElem? (i := 617) (by decide +kernel), List.mem_of_getElem? (i := 975) (by decide +kernel), List.mem_of_getElem? (i := 976) (by decide +kernel)⟩
def lw_privs_4 : List (MethodName × Nat) := [(⟨"ShareSolveModel", "wordsOf", "(I)I"⟩, 34), (⟨"ShareSolveModel", "growUsed", "(J)V"⟩, 34), (⟨"ShareSolveModel", "isLeftLess", "()Z"⟩, 34), (⟨"ShareSolveModel", "lessenLeft", "()V"⟩, 34), (⟨"ShareSolveModel", "isZero", "(I)Z"⟩, 34), (⟨"ShareSolveModel", "copy", "(II)V"⟩, 34), (⟨"ShareSolveModel", "lessen", "(II)V"⟩, 34), (⟨"ShareSolveModel", "reckonLoad", "(I)V"⟩, 34), (⟨"ShareSolveModel", "isOver", "(I)Z"⟩, 34), (⟨"ShareSolveModel", "gatherOut", "(IIIII)V"⟩, 34), (⟨"ShareSolveModel", "gatherWorth", "(II)V"⟩, 34), (⟨"ShareSolveModel", "isLess", "(II)Z"⟩, 34), (⟨"ShareSolveModel", "multiply", "(III)V"⟩, 34), (⟨"ShareSolveModel", "brings", "(IJ)Z"⟩, 34)]
theorem lw_r4 : ∀ q ∈ lw_privs_4, lw_okq q := List.forall_mem_cons.mpr ⟨lw_p48, List.forall_mem_cons.mpr ⟨lw_p49, List.forall_mem_cons.mpr ⟨lw_p50, List.forall_mem_cons.mpr ⟨lw_p51, List.forall_mem_cons.mpr ⟨lw_p52, List.forall_mem_cons.mpr ⟨lw_p53, List.forall_mem_cons.mpr ⟨lw_p54, List.forall_mem_cons.mpr ⟨lw_p55, List.forall_mem_cons.mpr ⟨lw_p56, List.forall_mem_cons.mpr ⟨lw_p57, List.forall_mem_cons.mpr ⟨lw_p58, List.forall_mem_cons.mpr ⟨lw_p59, List.forall_mem_cons.mpr ⟨lw_p60, List.forall_mem_cons.mpr ⟨lw_p61, fun _ h => absurd h List.not_mem_nil⟩⟩⟩⟩⟩⟩⟩⟩⟩⟩⟩⟩⟩⟩
def lw_privs : List (MethodName × Nat) := lw_privs_1 ++ (lw_privs_2 ++ (lw_privs_3 ++ (lw_privs_4)))
def lw_tbl : List Cond := k2_sels lw_privs ++ tables_1
theorem lw_privs_ok : ∀ q ∈ lw_privs, lw_okq q := by
  show ∀ q ∈ lw_privs_1 ++ (lw_privs_2 ++ (lw_privs_3 ++ (lw_privs_4))), lw_okq q
  exact List.forall_mem_append.mpr ⟨lw_r1, List.forall_mem_append.mpr ⟨lw_r2, List.forall_mem_append.mpr ⟨lw_r3, lw_r4⟩⟩⟩
/-! ===== the classes: fields, types, words ===== -/
def jm_T0 : u_T := fun k => match k with
  | 0 => ("ShareSolve$Division", "quotient", "LShareSolve$Whole;", true)
  | 1 => ("ShareSolve$Division", "rest", "LShareSolve$Whole;", true)
  | 2 => ("ShareSolve$Division", "shifted", "LShareSolve$Whole;", true)
  | _ => ("ShareSolve$Division", "next", "LShareSolve$Whole;", true)
def jm_T1 : u_T := fun k => match k with
  | 0 => ("ShareSolve$Flow", "division", "LShareSolve$Division;", true)
  | 1 => ("ShareSolve$Flow", "below", "LShareSolve$Whole;", true)
  | 2 => ("ShareSolve$Flow", "line", "LShareSolve$Line;", true)
  | 3 => ("ShareSolve$Flow", "size", "I", false)
  | 4 => ("ShareSolve$Flow", "scale", "[I", true)
  | 5 => ("ShareSolve$Flow", "moves", "[[I", true)
  | 6 => ("ShareSolve$Flow", "leaves", "[[I", true)
  | 7 => ("ShareSolve$Flow", "turns", "[[I", true)
  | 8 => ("ShareSolve$Flow", "cells", "[LShareSolve$Whole;", true)
  | 9 => ("ShareSolve$Flow", "first", "LShareSolve$Whole;", true)
  | 10 => ("ShareSolve$Flow", "second", "LShareSolve$Whole;", true)
  | 11 => ("ShareSolve$Flow", "passing", "LShareSolve$Whole;", true)
  | 12 => ("ShareSolve$Flow", "product", "LShareSolve$Whole;", true)
  | _ => ("ShareSolve$Flow", "square", "LShareSolve$Whole;", true)
def jm_T2 : u_T := fun k => match k with
  | 0 => ("ShareSolve$Line", "kinds", "I", true)
  | 1 => ("ShareSolve$Line", "machines", "I", false)
  | 2 => ("ShareSolve$Line", "ports", "I", false)
  | 3 => ("ShareSolve$Line", "outs", "[I", true)
  | 4 => ("ShareSolve$Line", "joins", "[I", true)
  | 5 => ("ShareSolve$Line", "shares", "[I", true)
  | 6 => ("ShareSolve$Line", "crushed", "[I", true)
  | 7 => ("ShareSolve$Line", "becomes", "[I", true)
  | 8 => ("ShareSolve$Line", "feeds", "[J", true)
  | 9 => ("ShareSolve$Line", "spanned", "[Z", true)
  | 10 => ("ShareSolve$Line", "lows", "[J", true)
  | 11 => ("ShareSolve$Line", "highs", "[J", true)
  | _ => ("ShareSolve$Line", "getsAway", "[Z", true)
def jm_T3 : u_T := fun k => match k with
  | 0 => ("ShareSolve$Solved", "known", "Z", false)
  | 1 => ("ShareSolve$Solved", "machines", "I", false)
  | 2 => ("ShareSolve$Solved", "ports", "I", false)
  | 3 => ("ShareSolve$Solved", "below", "LShareSolve$Whole;", true)
  | 4 => ("ShareSolve$Solved", "atPorts", "[LShareSolve$Whole;", true)
  | 5 => ("ShareSolve$Solved", "loads", "[LShareSolve$Whole;", true)
  | _ => ("ShareSolve$Solved", "sum", "LShareSolve$Whole;", true)
def jm_T4 : u_T := fun k => match k with
  | 0 => ("ShareSolve$Whole", "limbs", "[I", true)
  | _ => ("ShareSolve$Whole", "used", "I", false)
def jm_T5 : u_T := fun k => match k with
  | 0 => ("ShareSolve", "line", "LShareSolve$Line;", true)
  | 1 => ("ShareSolve", "flow", "LShareSolve$Flow;", true)
  | 2 => ("ShareSolve", "solved", "LShareSolve$Solved;", true)
  | _ => ("ShareSolve", "untouched", "Z", false)
def jm_T6 : u_T := fun k => match k with
  | 0 => ("ShareSolveModel", "kinds", "I", true)
  | 1 => ("ShareSolveModel", "machines", "[I", true)
  | 2 => ("ShareSolveModel", "ports", "[I", true)
  | 3 => ("ShareSolveModel", "outs", "[I", true)
  | 4 => ("ShareSolveModel", "joins", "[I", true)
  | 5 => ("ShareSolveModel", "shareAbove", "[I", true)
  | 6 => ("ShareSolveModel", "shareBelow", "[I", true)
  | 7 => ("ShareSolveModel", "crushTo", "[I", true)
  | 8 => ("ShareSolveModel", "crushAbove", "[I", true)
  | 9 => ("ShareSolveModel", "crushBelow", "[I", true)
  | 10 => ("ShareSolveModel", "feeds", "[I", true)
  | 11 => ("ShareSolveModel", "spanned", "[Z", true)
  | 12 => ("ShareSolveModel", "lows", "[J", true)
  | 13 => ("ShareSolveModel", "highs", "[J", true)
  | 14 => ("ShareSolveModel", "isKnown", "Z", false)
  | 15 => ("ShareSolveModel", "isKept", "Z", false)
  | 16 => ("ShareSolveModel", "primes", "[J", true)
  | 17 => ("ShareSolveModel", "wholes", "[J", true)
  | 18 => ("ShareSolveModel", "table", "[J", true)
  | 19 => ("ShareSolveModel", "ways", "[J", true)
  | 20 => ("ShareSolveModel", "matrix", "[J", true)
  | 21 => ("ShareSolveModel", "power", "[J", true)
  | 22 => ("ShareSolveModel", "next", "[J", true)
  | 23 => ("ShareSolveModel", "turned", "[J", true)
  | 24 => ("ShareSolveModel", "over", "[J", true)
  | 25 => ("ShareSolveModel", "big", "[J", true)
  | 26 => ("ShareSolveModel", "residues", "[J", true)
  | 27 => ("ShareSolveModel", "digits", "[J", true)
  | 28 => ("ShareSolveModel", "used", "I", false)
  | 29 => ("ShareSolveModel", "isBeyond", "Z", false)
  | 30 => ("ShareSolveModel", "weights", "[J", true)
  | 31 => ("ShareSolveModel", "held", "I", false)
  | 32 => ("ShareSolveModel", "heldTurn", "I", false)
  | _ => ("ShareSolveModel", "turns", "[I", true)
abbrev jm_cl : List vw_C := [("ShareSolve$Division", jm_T0, 4), ("ShareSolve$Flow", jm_T1, 14), ("ShareSolve$Line", jm_T2, 13), ("ShareSolve$Solved", jm_T3, 7), ("ShareSolve$Whole", jm_T4, 2), ("ShareSolve", jm_T5, 4), ("ShareSolveModel", jm_T6, 34)]
def jm_FT : Nat → List FieldType := fun c => match c with
  | 0 => [.object "ShareSolve$Whole", .object "ShareSolve$Whole", .object "ShareSolve$Whole", .object "ShareSolve$Whole"]
  | 1 => [.object "ShareSolve$Division", .object "ShareSolve$Whole", .object "ShareSolve$Line", .int, .array .int, .array (.array .int), .array (.array .int), .array (.array .int), .array (.object "ShareSolve$Whole"), .object "ShareSolve$Whole", .object "ShareSolve$Whole", .object "ShareSolve$Whole", .object "ShareSolve$Whole", .object "ShareSolve$Whole"]
  | 2 => [.int, .int, .int, .array .int, .array .int, .array .int, .array .int, .array .int, .array .long, .array .boolean, .array .long, .array .long, .array .boolean]
  | 3 => [.boolean, .int, .int, .object "ShareSolve$Whole", .array (.object "ShareSolve$Whole"), .array (.object "ShareSolve$Whole"), .object "ShareSolve$Whole"]
  | 4 => [.array .int, .int]
  | 5 => [.object "ShareSolve$Line", .object "ShareSolve$Flow", .object "ShareSolve$Solved", .boolean]
  | 6 => [.int, .array .int, .array .int, .array .int, .array .int, .array .int, .array .int, .array .int, .array .int, .array .int, .array .int, .array .boolean, .array .long, .array .long, .boolean, .boolean, .array .long, .array .long, .array .long, .array .long, .array .long, .array .long, .array .long, .array .long, .array .long, .array .long, .array .long, .array .long, .int, .boolean, .array .long, .int, .int, .array .int]
  | _ => []
abbrev jm_ft (c k : Nat) : FieldType := (jm_FT c).getD k .int
abbrev jm_sz (c : Nat) : Nat := (jm_FT c).length
def jm_AT : Nat → FieldType := fun k => match k with
  | 50 => .int
  | 51 => .long
  | 52 => .boolean
  | 53 => .object "ShareSolve$Whole"
  | _ => .array .int
/-- the words that a callee may be given -/
def jm_Tb : List Cond := lw_tbl.filter goodWord
def jm_wd (q : Cond) (i : Nat) : Bool := decide (lw_tbl[i]? = some q) && goodWord q
theorem jm_wd_in {q : Cond} {i : Nat} (h : jm_wd q i = true) : q ∈ jm_Tb := by
  simp only [jm_wd, Bool.and_eq_true, decide_eq_true_eq] at h
  exact List.mem_filter.mpr ⟨List.mem_of_getElem? h.1, h.2⟩
theorem jm_good : GoodIn jm_Tb jm_Tb := fun q h => ⟨h, good_of_word (List.mem_filter.mp h).2⟩
theorem jm_lay0 : ∀ k, k < 4 → jm_wd (u_lay "ShareSolve$Division" jm_T0 k) ([183, 185, 187, 189].getD k 0) = true := by decide +kernel
theorem jm_typ0 : ∀ k, k < 4 → parseFieldDescriptor (jm_T0 k).2.2.1 = some (jm_ft 0 k) := by decide +kernel
theorem jm_nam0 : ∀ a, a < 4 → ∀ b, b < 4 → a ≠ b → (jm_T0 a).2.1 ≠ (jm_T0 b).2.1 := by decide +kernel
theorem jm_own0 : ∀ k, k < 4 → (jm_T0 k).1 = "ShareSolve$Division" := by decide +kernel
theorem jm_ini0 : jm_wd (.initialized "ShareSolve$Division") 67 = true ∧ jm_wd (.instantiable "ShareSolve$Division" 4) 159 = true := by decide +kernel
theorem jm_lay1 : ∀ k, k < 14 → jm_wd (u_lay "ShareSolve$Flow" jm_T1 k) ([213, 215, 217, 219, 221, 223, 225, 227, 229, 231, 233, 235, 237, 239].getD k 0) = true := by decide +kernel
theorem jm_typ1 : ∀ k, k < 14 → parseFieldDescriptor (jm_T1 k).2.2.1 = some (jm_ft 1 k) := by decide +kernel
theorem jm_nam1 : ∀ a, a < 14 → ∀ b, b < 14 → a ≠ b → (jm_T1 a).2.1 ≠ (jm_T1 b).2.1 := by decide +kernel
theorem jm_own1 : ∀ k, k < 14 → (jm_T1 k).1 = "ShareSolve$Flow" := by decide +kernel
theorem jm_ini1 : jm_wd (.initialized "ShareSolve$Flow") 66 = true ∧ jm_wd (.instantiable "ShareSolve$Flow" 14) 153 = true := by decide +kernel
theorem jm_lay2 : ∀ k, k < 13 → jm_wd (u_lay "ShareSolve$Line" jm_T2 k) ([122, 124, 126, 128, 130, 132, 134, 136, 138, 140, 142, 144, 146].getD k 0) = true := by decide +kernel
theorem jm_typ2 : ∀ k, k < 13 → parseFieldDescriptor (jm_T2 k).2.2.1 = some (jm_ft 2 k) := by decide +kernel
theorem jm_nam2 : ∀ a, a < 13 → ∀ b, b < 13 → a ≠ b → (jm_T2 a).2.1 ≠ (jm_T2 b).2.1 := by decide +kernel
theorem jm_own2 : ∀ k, k < 13 → (jm_T2 k).1 = "ShareSolve$Line" := by decide +kernel
theorem jm_ini2 : jm_wd (.initialized "ShareSolve$Line") 64 = true ∧ jm_wd (.instantiable "ShareSolve$Line" 13) 83 = true := by decide +kernel
theorem jm_lay3 : ∀ k, k < 7 → jm_wd (u_lay "ShareSolve$Solved" jm_T3 k) ([261, 263, 265, 267, 269, 271, 273].getD k 0) = true := by decide +kernel
theorem jm_typ3 : ∀ k, k < 7 → parseFieldDescriptor (jm_T3 k).2.2.1 = some (jm_ft 3 k) := by decide +kernel
theorem jm_nam3 : ∀ a, a < 7 → ∀ b, b < 7 → a ≠ b → (jm_T3 a).2.1 ≠ (jm_T3 b).2.1 := by decide +kernel
theorem jm_own3 : ∀ k, k < 7 → (jm_T3 k).1 = "ShareSolve$Solved" := by decide +kernel
theorem jm_ini3 : jm_wd (.initialized "ShareSolve$Solved") 69 = true ∧ jm_wd (.instantiable "ShareSolve$Solved" 7) 243 = true := by decide +kernel
theorem jm_lay4 : ∀ k, k < 2 → jm_wd (u_lay "ShareSolve$Whole" jm_T4 k) ([173, 175].getD k 0) = true := by decide +kernel
theorem jm_typ4 : ∀ k, k < 2 → parseFieldDescriptor (jm_T4 k).2.2.1 = some (jm_ft 4 k) := by decide +kernel
theorem jm_nam4 : ∀ a, a < 2 → ∀ b, b < 2 → a ≠ b → (jm_T4 a).2.1 ≠ (jm_T4 b).2.1 := by decide +kernel
theorem jm_own4 : ∀ k, k < 2 → (jm_T4 k).1 = "ShareSolve$Whole" := by decide +kernel
theorem jm_ini4 : jm_wd (.initialized "ShareSolve$Whole") 68 = true ∧ jm_wd (.instantiable "ShareSolve$Whole" 2) 165 = true := by decide +kernel
theorem jm_lay5 : ∀ k, k < 4 → jm_wd (u_lay "ShareSolve" jm_T5 k) ([280, 282, 284, 286].getD k 0) = true := by decide +kernel
theorem jm_typ5 : ∀ k, k < 4 → parseFieldDescriptor (jm_T5 k).2.2.1 = some (jm_ft 5 k) := by decide +kernel
theorem jm_nam5 : ∀ a, a < 4 → ∀ b, b < 4 → a ≠ b → (jm_T5 a).2.1 ≠ (jm_T5 b).2.1 := by decide +kernel
theorem jm_own5 : ∀ k, k < 4 → (jm_T5 k).1 = "ShareSolve" := by decide +kernel
theorem jm_ini5 : jm_wd (.initialized "ShareSolve") 63 = true ∧ jm_wd (.instantiable "ShareSolve" 4) 75 = true := by decide +kernel
theorem jm_lay6 : ∀ k, k < 34 → jm_wd (u_lay "ShareSolveModel" jm_T6 k) ([726, 728, 730, 732, 734, 736, 738, 740, 742, 744, 746, 748, 750, 752, 754, 756, 758, 760, 762, 764, 766, 768, 770, 772, 774, 776, 778, 780, 782, 784, 786, 788, 790, 792].getD k 0) = true := by decide +kernel
theorem jm_typ6 : ∀ k, k < 34 → parseFieldDescriptor (jm_T6 k).2.2.1 = some (jm_ft 6 k) := by decide +kernel
theorem jm_nam6 : ∀ a, a < 34 → ∀ b, b < 34 → a ≠ b → (jm_T6 a).2.1 ≠ (jm_T6 b).2.1 := by decide +kernel
theorem jm_own6 : ∀ k, k < 34 → (jm_T6 k).1 = "ShareSolveModel" := by decide +kernel
theorem jm_ini6 : jm_wd (.initialized "ShareSolveModel") 70 = true ∧ jm_wd (.instantiable "ShareSolveModel" 34) 679 = true := by decide +kernel
theorem jm_arr50 : jm_wd (.arrayClass (jm_AT 50)) 149 = true := by decide +kernel
theorem jm_arr51 : jm_wd (.arrayClass (jm_AT 51)) 150 = true := by decide +kernel
theorem jm_arr52 : jm_wd (.arrayClass (jm_AT 52)) 151 = true := by decide +kernel
theorem jm_obj1 : jm_wd (.instanceMethod objectInit) 80 = true := by decide +kernel
set_option maxRecDepth 100000 in
theorem jm_obj2 : Cond.code objectInit ⟨#[0xb1]⟩ 1 none ∈ jm_Tb := List.mem_filter.mpr ⟨List.mem_of_getElem? (i := 81) rfl, rfl⟩
theorem jm_mth : jm_wd (.initialized "java/lang/Math") 71 = true := by decide +kernel
theorem jm_mx1 : jm_wd (.static Lib.Math.max.name) 475 = true := by decide +kernel
set_option maxRecDepth 100000 in
theorem jm_mx2 : Cond.code Lib.Math.max.name Lib.Math.max.code 2 (some .int) ∈ jm_Tb := List.mem_filter.mpr ⟨List.mem_of_getElem? (i := 476) rfl, rfl⟩
theorem jm_mn1 : jm_wd (.static Lib.Math.min.name) 478 = true := by decide +kernel
set_option maxRecDepth 100000 in
theorem jm_mn2 : Cond.code Lib.Math.min.name Lib.Math.min.code 2 (some .int) ∈ jm_Tb := List.mem_filter.mpr ⟨List.mem_of_getElem? (i := 479) rfl, rfl⟩
theorem jm_ml1 : jm_wd (.static Lib.MathLoose.min_long.x) 515 = true := by decide +kernel
set_option maxRecDepth 100000 in
theorem jm_ml2 : Cond.code Lib.MathLoose.min_long.x Lib.MathLoose.min_long.code 4 (some .long) ∈ jm_Tb := List.mem_filter.mpr ⟨List.mem_of_getElem? (i := 516) rfl, rfl⟩
theorem jm_ac1 : jm_wd (.static arraycopyName) 490 = true ∧ jm_wd (.native arraycopyName) 491 = true ∧ jm_wd (.initialized "java/lang/System") 72 = true := by decide +kernel
/-- all that is said of a class -/
def jm_cls (i : Nat) (C : String) (T : u_T) (N : Nat) : Prop := (∀ q ∈ u_ws C T N, q ∈ jm_Tb) ∧ (∀ k, k < N → parseFieldDescriptor (T k).2.2.1 = some (jm_ft i k)) ∧ (∀ a, a < N → ∀ b, b < N → a ≠ b → (T a).2.1 ≠ (T b).2.1) ∧ (∀ k, k < N → (T k).1 = C) ∧ Cond.initialized C ∈ jm_Tb ∧ Cond.instantiable C N ∈ jm_Tb ∧ (jm_FT i).length = N
theorem jm_ws_in {C : String} {T : u_T} {N : Nat} {l : List Nat} (h : ∀ k, k < N → jm_wd (u_lay C T k) (l.getD k 0) = true) : ∀ q ∈ u_ws C T N, q ∈ jm_Tb := by
  intro q hq
  obtain ⟨k, hk, rfl⟩ := List.mem_map.mp hq
  exact jm_wd_in (h k (List.mem_range.mp hk))
theorem jm_cls_all : ∀ (i : Nat) (C : String) (T : u_T) (N : Nat), jm_cl[i]? = some (C, T, N) → jm_cls i C T N := by
  intro i C T N h
  match i, h with
  | 0, h => cases h; exact ⟨jm_ws_in jm_lay0, jm_typ0, jm_nam0, jm_own0, jm_wd_in jm_ini0.1, jm_wd_in jm_ini0.2, rfl⟩
  | 1, h => cases h; exact ⟨jm_ws_in jm_lay1, jm_typ1, jm_nam1, jm_own1, jm_wd_in jm_ini1.1, jm_wd_in jm_ini1.2, rfl⟩
  | 2, h => cases h; exact ⟨jm_ws_in jm_lay2, jm_typ2, jm_nam2, jm_own2, jm_wd_in jm_ini2.1, jm_wd_in jm_ini2.2, rfl⟩
  | 3, h => cases h; exact ⟨jm_ws_in jm_lay3, jm_typ3, jm_nam3, jm_own3, jm_wd_in jm_ini3.1, jm_wd_in jm_ini3.2, rfl⟩
  | 4, h => cases h; exact ⟨jm_ws_in jm_lay4, jm_typ4, jm_nam4, jm_own4, jm_wd_in jm_ini4.1, jm_wd_in jm_ini4.2, rfl⟩
  | 5, h => cases h; exact ⟨jm_ws_in jm_lay5, jm_typ5, jm_nam5, jm_own5, jm_wd_in jm_ini5.1, jm_wd_in jm_ini5.2, rfl⟩
  | 6, h => cases h; exact ⟨jm_ws_in jm_lay6, jm_typ6, jm_nam6, jm_own6, jm_wd_in jm_ini6.1, jm_wd_in jm_ini6.2, rfl⟩
  | i + 7, h => simp [jm_cl] at h
