/-! ===== the methods: name, code, locals, answer, frames and words of locals below it; the words by their places ===== -/
abbrev jm_I : Type := MethodName × ByteArray × Nat × Option FieldType × Nat × Nat
/-- its own code; static or of an object (and selected there); its class is ready -/
def jm_mok (y : jm_I) (st : Bool) (i1 i2 i3 i4 : Nat) : Bool := decide (y.1.cls ≠ "java/lang/invoke/MethodHandle" ∧ y.1.cls ≠ "java/lang/invoke/VarHandle") && plainName y.1.cls && jm_wd (.initialized y.1.cls) i4 && (if st then jm_wd (.static y.1) i2 else jm_wd (.instanceMethod y.1) i2 && (decide (y.1.name = "<init>") || jm_wd (.selects y.1.cls y.1 y.1) i3))
def y_Dv_init : jm_I := (⟨"ShareSolve$Division", "<init>", "()V"⟩, prog_2_method_1_code, 1, none, 2, 40)
def y_Dv_divide : jm_I := (⟨"ShareSolve$Division", "divide", "(LShareSolve$Whole;LShareSolve$Whole;)V"⟩, prog_2_method_4_code, 6, none, 3, 87)
def y_Dv_nextDigit : jm_I := (⟨"ShareSolve$Division", "nextDigit", "(I)I"⟩, prog_2_method_5_code, 5, (some (.int)), 2, 63)
def y_Dv_guessDigit : jm_I := (⟨"ShareSolve$Division", "guessDigit", "(I)I"⟩, prog_2_method_6_code, 6, (some (.int)), 1, 38)
def y_Dv_partOf : jm_I := (⟨"ShareSolve$Division", "partOf", "(LShareSolve$Whole;LShareSolve$Whole;I)J"⟩, prog_2_method_2_code, 5, (some (.long)), 4, 112)
def y_Dv_partOfNegative : jm_I := (⟨"ShareSolve$Division", "partOfNegative", "(LShareSolve$Whole;LShareSolve$Whole;I)J"⟩, prog_2_method_3_code, 4, (some (.long)), 5, 136)
def y_Fl_init : jm_I := (⟨"ShareSolve$Flow", "<init>", "(LShareSolve$Line;)V"⟩, prog_3_method_1_code, 3, none, 3, 60)
def y_Fl_readLine : jm_I := (⟨"ShareSolve$Flow", "readLine", "()V"⟩, prog_3_method_2_code, 3, none, 4, 96)
def y_Fl_readColumn : jm_I := (⟨"ShareSolve$Flow", "readColumn", "(II)V"⟩, prog_3_method_9_code, 5, none, 3, 72)
def y_Fl_sendAs : jm_I := (⟨"ShareSolve$Flow", "sendAs", "(IIII)V"⟩, prog_3_method_10_code, 8, none, 2, 45)
def y_Fl_shrinkColumn : jm_I := (⟨"ShareSolve$Flow", "shrinkColumn", "(I)V"⟩, prog_3_method_11_code, 4, none, 1, 25)
def y_Fl_commonDivisor : jm_I := (⟨"ShareSolve$Flow", "commonDivisor", "(II)I"⟩, prog_3_method_13_code, 6, (some (.int)), 0, 0)
def y_Fl_divideColumn : jm_I := (⟨"ShareSolve$Flow", "divideColumn", "(II)V"⟩, prog_3_method_12_code, 4, none, 0, 0)
def y_Fl_cell : jm_I := (⟨"ShareSolve$Flow", "cell", "(II)LShareSolve$Whole;"⟩, prog_3_method_8_code, 3, (some (.object "ShareSolve$Whole")), 0, 0)
def y_Fl_eliminate : jm_I := (⟨"ShareSolve$Flow", "eliminate", "(I)V"⟩, prog_3_method_3_code, 5, none, 5, 138)
def y_Fl_eliminateCell : jm_I := (⟨"ShareSolve$Flow", "eliminateCell", "(III)V"⟩, prog_3_method_14_code, 7, none, 4, 112)
def y_Fl_putAtPort : jm_I := (⟨"ShareSolve$Flow", "putAtPort", "(IILShareSolve$Whole;)V"⟩, prog_3_method_4_code, 4, none, 3, 93)
def y_Fl_addAtPort : jm_I := (⟨"ShareSolve$Flow", "addAtPort", "(IIILShareSolve$Whole;)V"⟩, prog_3_method_16_code, 7, none, 2, 67)
def y_Fl_putLoad : jm_I := (⟨"ShareSolve$Flow", "putLoad", "(ILShareSolve$Whole;)V"⟩, prog_3_method_5_code, 5, none, 2, 67)
def y_Fl_slopePart : jm_I := (⟨"ShareSolve$Flow", "slopePart", "(IIIII)J"⟩, prog_3_method_7_code, 11, (some (.long)), 6, 162)
def y_Fl_putGram : jm_I := (⟨"ShareSolve$Flow", "putGram", "(III)V"⟩, prog_3_method_15_code, 5, none, 2, 45)
def y_Fl_putReached : jm_I := (⟨"ShareSolve$Flow", "putReached", "(IIILShareSolve$Whole;)V"⟩, prog_3_method_17_code, 6, none, 3, 93)
def y_Fl_putPassing : jm_I := (⟨"ShareSolve$Flow", "putPassing", "(IILShareSolve$Whole;)V"⟩, prog_3_method_18_code, 6, none, 2, 67)
def y_Fl_bringsAtLeast : jm_I := (⟨"ShareSolve$Flow", "bringsAtLeast", "(IIJ)Z"⟩, prog_3_method_6_code, 5, (some (.boolean)), 4, 116)
def y_Ln_init : jm_I := (⟨"ShareSolve$Line", "<init>", "(I)V"⟩, prog_4_method_1_code, 2, none, 1, 23)
def y_Ln_addMachine : jm_I := (⟨"ShareSolve$Line", "addMachine", "(I)I"⟩, prog_4_method_13_code, 4, (some (.int)), 1, 22)
def y_Ln_row : jm_I := (⟨"ShareSolve$Line", "row", "(II)I"⟩, prog_4_method_10_code, 3, (some (.int)), 0, 0)
def y_Ln_addPort : jm_I := (⟨"ShareSolve$Line", "addPort", "()I"⟩, prog_4_method_14_code, 1, (some (.int)), 0, 0)
def y_Ln_hasOut : jm_I := (⟨"ShareSolve$Line", "hasOut", "(II)Z"⟩, prog_4_method_6_code, 3, (some (.boolean)), 1, 21)
def y_Ln_hasMachine : jm_I := (⟨"ShareSolve$Line", "hasMachine", "(I)Z"⟩, prog_4_method_2_code, 2, (some (.boolean)), 0, 0)
def y_Ln_hasTarget : jm_I := (⟨"ShareSolve$Line", "hasTarget", "(I)Z"⟩, prog_4_method_8_code, 2, (some (.boolean)), 1, 21)
def y_Ln_hasPort : jm_I := (⟨"ShareSolve$Line", "hasPort", "(I)Z"⟩, prog_4_method_3_code, 2, (some (.boolean)), 0, 0)
def y_Ln_hasSharedOut : jm_I := (⟨"ShareSolve$Line", "hasSharedOut", "(III)Z"⟩, prog_4_method_7_code, 4, (some (.boolean)), 2, 43)
def y_Ln_hasKind : jm_I := (⟨"ShareSolve$Line", "hasKind", "(I)Z"⟩, prog_4_method_4_code, 2, (some (.boolean)), 0, 0)
def y_Ln_lastOut : jm_I := (⟨"ShareSolve$Line", "lastOut", "(I)I"⟩, prog_4_method_9_code, 2, (some (.int)), 0, 0)
def y_Ln_setShare : jm_I := (⟨"ShareSolve$Line", "setShare", "(IIII)Z"⟩, prog_4_method_15_code, 8, (some (.boolean)), 1, 22)
def y_Ln_hasRow : jm_I := (⟨"ShareSolve$Line", "hasRow", "(II)Z"⟩, prog_4_method_5_code, 3, (some (.boolean)), 1, 21)
def y_Ln_firstStuck : jm_I := (⟨"ShareSolve$Line", "firstStuck", "()I"⟩, prog_4_method_16_code, 3, (some (.int)), 4, 92)
def y_Ln_spreadGetsAway : jm_I := (⟨"ShareSolve$Line", "spreadGetsAway", "()V"⟩, prog_4_method_17_code, 4, none, 3, 69)
def y_Ln_leavesAs : jm_I := (⟨"ShareSolve$Line", "leavesAs", "(II)Z"⟩, prog_4_method_18_code, 5, (some (.boolean)), 2, 45)
def y_Ln_target : jm_I := (⟨"ShareSolve$Line", "target", "(II)I"⟩, prog_4_method_12_code, 3, (some (.int)), 0, 0)
def y_Ln_shareOf : jm_I := (⟨"ShareSolve$Line", "shareOf", "(III)I"⟩, prog_4_method_11_code, 4, (some (.int)), 1, 22)
def y_So_init : jm_I := (⟨"ShareSolve$Solved", "<init>", "()V"⟩, prog_5_method_1_code, 2, none, 2, 40)
def y_So_take : jm_I := (⟨"ShareSolve$Solved", "take", "(LShareSolve$Flow;LShareSolve$Line;)V"⟩, prog_5_method_4_code, 5, none, 4, 116)
def y_So_hasPort : jm_I := (⟨"ShareSolve$Solved", "hasPort", "(I)Z"⟩, prog_5_method_3_code, 2, (some (.boolean)), 0, 0)
def y_So_hasMachine : jm_I := (⟨"ShareSolve$Solved", "hasMachine", "(I)Z"⟩, prog_5_method_2_code, 2, (some (.boolean)), 0, 0)
def y_So_compareLoad : jm_I := (⟨"ShareSolve$Solved", "compareLoad", "(IJ)I"⟩, prog_5_method_6_code, 4, (some (.int)), 2, 67)
def y_So_allAtPort : jm_I := (⟨"ShareSolve$Solved", "allAtPort", "(ILShareSolve$Line;)LShareSolve$Whole;"⟩, prog_5_method_5_code, 4, (some (.object "ShareSolve$Whole")), 2, 67)
def y_Wh_init : jm_I := (⟨"ShareSolve$Whole", "<init>", "()V"⟩, prog_6_method_1_code, 1, none, 1, 20)
def y_Wh_become_1 : jm_I := (⟨"ShareSolve$Whole", "become", "(J)V"⟩, prog_6_method_6_code, 3, none, 1, 23)
def y_Wh_dropZeros : jm_I := (⟨"ShareSolve$Whole", "dropZeros", "(I)V"⟩, prog_6_method_17_code, 3, none, 0, 0)
def y_Wh_isZero : jm_I := (⟨"ShareSolve$Whole", "isZero", "()Z"⟩, prog_6_method_2_code, 1, (some (.boolean)), 0, 0)
def y_Wh_becomeProduct : jm_I := (⟨"ShareSolve$Whole", "becomeProduct", "(LShareSolve$Whole;LShareSolve$Whole;)V"⟩, prog_6_method_8_code, 11, none, 1, 23)
def y_Wh_limb : jm_I := (⟨"ShareSolve$Whole", "limb", "(I)I"⟩, prog_6_method_3_code, 2, (some (.int)), 0, 0)
def y_Wh_subtract : jm_I := (⟨"ShareSolve$Whole", "subtract", "(LShareSolve$Whole;)V"⟩, prog_6_method_11_code, 5, none, 1, 22)
def y_Wh_addTimes : jm_I := (⟨"ShareSolve$Whole", "addTimes", "(LShareSolve$Whole;J)V"⟩, prog_6_method_10_code, 10, none, 1, 38)
def y_Wh_become_2 : jm_I := (⟨"ShareSolve$Whole", "become", "(LShareSolve$Whole;)V"⟩, prog_6_method_7_code, 2, none, 1, 38)
def y_Wh_topLimb : jm_I := (⟨"ShareSolve$Whole", "topLimb", "()I"⟩, prog_6_method_4_code, 1, (some (.int)), 0, 0)
def y_Wh_shiftUp : jm_I := (⟨"ShareSolve$Whole", "shiftUp", "(I)V"⟩, prog_6_method_15_code, 8, none, 1, 38)
def y_Wh_subtractTimes : jm_I := (⟨"ShareSolve$Whole", "subtractTimes", "(LShareSolve$Whole;JI)I"⟩, prog_6_method_12_code, 10, (some (.int)), 1, 21)
def y_Wh_addAt : jm_I := (⟨"ShareSolve$Whole", "addAt", "(LShareSolve$Whole;I)I"⟩, prog_6_method_13_code, 6, (some (.int)), 1, 21)
def y_Wh_setLimb : jm_I := (⟨"ShareSolve$Whole", "setLimb", "(II)V"⟩, prog_6_method_14_code, 3, none, 1, 38)
def y_Wh_shiftDown : jm_I := (⟨"ShareSolve$Whole", "shiftDown", "(I)V"⟩, prog_6_method_16_code, 7, none, 1, 22)
def y_Wh_lowestBits : jm_I := (⟨"ShareSolve$Whole", "lowestBits", "()J"⟩, prog_6_method_5_code, 1, (some (.long)), 0, 0)
def y_Wh_compareWith : jm_I := (⟨"ShareSolve$Whole", "compareWith", "(LShareSolve$Whole;)I"⟩, prog_6_method_9_code, 3, (some (.int)), 0, 0)
def y_Sh_init : jm_I := (⟨"ShareSolve", "<init>", "(I)V"⟩, prog_1_method_1_code, 2, none, 4, 82)
def y_Sh_machine : jm_I := (⟨"ShareSolve", "machine", "(I)I"⟩, prog_1_method_2_code, 2, (some (.int)), 2, 45)
def y_Sh_port : jm_I := (⟨"ShareSolve", "port", "()I"⟩, prog_1_method_3_code, 1, (some (.int)), 1, 20)
def y_Sh_joinOut : jm_I := (⟨"ShareSolve", "joinOut", "(III)Z"⟩, prog_1_method_4_code, 4, (some (.boolean)), 2, 43)
def y_Sh_share : jm_I := (⟨"ShareSolve", "share", "(IIIJJ)Z"⟩, prog_1_method_5_code, 8, (some (.boolean)), 4, 93)
def y_Sh_tellShare : jm_I := (⟨"ShareSolve", "tellShare", "(IIIJJ)Z"⟩, prog_1_method_21_code, 8, (some (.boolean)), 3, 66)
def y_Sh_isShare : jm_I := (⟨"ShareSolve", "isShare", "(JJ)Z"⟩, prog_1_method_19_code, 4, (some (.boolean)), 0, 0)
def y_Sh_inUnits : jm_I := (⟨"ShareSolve", "inUnits", "(JJ)I"⟩, prog_1_method_20_code, 4, (some (.int)), 0, 0)
def y_Sh_crush : jm_I := (⟨"ShareSolve", "crush", "(IIIJJ)Z"⟩, prog_1_method_6_code, 9, (some (.boolean)), 2, 43)
def y_Sh_feed : jm_I := (⟨"ShareSolve", "feed", "(IIJ)Z"⟩, prog_1_method_7_code, 5, (some (.boolean)), 2, 43)
def y_Sh_solve : jm_I := (⟨"ShareSolve", "solve", "()I"⟩, prog_1_method_8_code, 1, (some (.int)), 7, 183)
def y_Sh_solveAll : jm_I := (⟨"ShareSolve", "solveAll", "()I"⟩, prog_1_method_22_code, 2, (some (.int)), 6, 162)
def y_Sh_takeSolution : jm_I := (⟨"ShareSolve", "takeSolution", "()V"⟩, prog_1_method_23_code, 1, none, 5, 140)
def y_Sh_out : jm_I := (⟨"ShareSolve", "out", "(III)J"⟩, prog_1_method_9_code, 5, (some (.long)), 5, 136)
def y_Sh_isPart : jm_I := (⟨"ShareSolve", "isPart", "(I)Z"⟩, prog_1_method_18_code, 1, (some (.boolean)), 0, 0)
def y_Sh_load : jm_I := (⟨"ShareSolve", "load", "(II)J"⟩, prog_1_method_10_code, 3, (some (.long)), 5, 136)
def y_Sh_span : jm_I := (⟨"ShareSolve", "span", "(IJJ)Z"⟩, prog_1_method_11_code, 6, (some (.boolean)), 1, 21)
def y_Sh_over : jm_I := (⟨"ShareSolve", "over", "(I)I"⟩, prog_1_method_12_code, 4, (some (.int)), 4, 111)
def y_Sh_isOutsideSpan : jm_I := (⟨"ShareSolve", "isOutsideSpan", "(I)Z"⟩, prog_1_method_25_code, 2, (some (.boolean)), 3, 90)
def y_Sh_slope : jm_I := (⟨"ShareSolve", "slope", "(IIIII)J"⟩, prog_1_method_13_code, 6, (some (.long)), 7, 192)
def y_Sh_purity : jm_I := (⟨"ShareSolve", "purity", "(III)J"⟩, prog_1_method_14_code, 5, (some (.long)), 5, 136)
def y_Sh_change : jm_I := (⟨"ShareSolve", "change", "(IIIJJ)Z"⟩, prog_1_method_15_code, 8, (some (.boolean)), 7, 183)
def y_Sh_find : jm_I := (⟨"ShareSolve", "find", "(IIJ)I"⟩, prog_1_method_16_code, 8, (some (.int)), 7, 185)
def y_Sh_bringsToPortZero : jm_I := (⟨"ShareSolve", "bringsToPortZero", "(IJ)Z"⟩, prog_1_method_24_code, 4, (some (.boolean)), 6, 162)
def y_Sh_kept : jm_I := (⟨"ShareSolve", "kept", "()Z"⟩, prog_1_method_17_code, 1, (some (.boolean)), 0, 0)
def y_Mo_init : jm_I := (⟨"ShareSolveModel", "<init>", "(I)V"⟩, prog_8_method_1_code, 3, none, 1, 20)
def y_Mo_machine : jm_I := (⟨"ShareSolveModel", "machine", "(I)I"⟩, prog_8_method_7_code, 2, (some (.int)), 1, 20)
def y_Mo_touch : jm_I := (⟨"ShareSolveModel", "touch", "()V"⟩, prog_8_method_6_code, 1, none, 0, 0)
def y_Mo_port : jm_I := (⟨"ShareSolveModel", "port", "()I"⟩, prog_8_method_8_code, 1, (some (.int)), 1, 20)
def y_Mo_joinOut : jm_I := (⟨"ShareSolveModel", "joinOut", "(III)Z"⟩, prog_8_method_10_code, 5, (some (.boolean)), 2, 43)
def y_Mo_isOut : jm_I := (⟨"ShareSolveModel", "isOut", "(II)Z"⟩, prog_8_method_9_code, 3, (some (.boolean)), 1, 21)
def y_Mo_isMachine : jm_I := (⟨"ShareSolveModel", "isMachine", "(I)Z"⟩, prog_8_method_4_code, 2, (some (.boolean)), 0, 0)
def y_Mo_share : jm_I := (⟨"ShareSolveModel", "share", "(IIIJJ)Z"⟩, prog_8_method_13_code, 8, (some (.boolean)), 3, 66)
def y_Mo_isFree : jm_I := (⟨"ShareSolveModel", "isFree", "(III)Z"⟩, prog_8_method_12_code, 4, (some (.boolean)), 2, 43)
def y_Mo_isKind : jm_I := (⟨"ShareSolveModel", "isKind", "(I)Z"⟩, prog_8_method_5_code, 2, (some (.boolean)), 0, 0)
def y_Mo_isShare : jm_I := (⟨"ShareSolveModel", "isShare", "(JJ)Z"⟩, prog_8_method_3_code, 4, (some (.boolean)), 0, 0)
def y_Mo_fits : jm_I := (⟨"ShareSolveModel", "fits", "(IIIJJ)Z"⟩, prog_8_method_11_code, 11, (some (.boolean)), 0, 0)
def y_Mo_crush : jm_I := (⟨"ShareSolveModel", "crush", "(IIIJJ)Z"⟩, prog_8_method_14_code, 8, (some (.boolean)), 1, 23)
def y_Mo_feed : jm_I := (⟨"ShareSolveModel", "feed", "(IIJ)Z"⟩, prog_8_method_15_code, 5, (some (.boolean)), 1, 21)
def y_Mo_span : jm_I := (⟨"ShareSolveModel", "span", "(IJJ)Z"⟩, prog_8_method_16_code, 6, (some (.boolean)), 1, 21)
def y_Mo_solve : jm_I := (⟨"ShareSolveModel", "solve", "()I"⟩, prog_8_method_51_code, 2, (some (.int)), 5, 138)
def y_Mo_layOut : jm_I := (⟨"ShareSolveModel", "layOut", "(I)V"⟩, prog_8_method_21_code, 5, none, 4, 114)
def y_Mo_layNode : jm_I := (⟨"ShareSolveModel", "layNode", "(III)V"⟩, prog_8_method_22_code, 17, none, 3, 78)
def y_Mo_common : jm_I := (⟨"ShareSolveModel", "common", "(III)J"⟩, prog_8_method_19_code, 4, (some (.long)), 1, 24)
def y_Mo_shareAt : jm_I := (⟨"ShareSolveModel", "shareAt", "(IIII)I"⟩, prog_8_method_18_code, 5, (some (.int)), 0, 0)
def y_Mo_part : jm_I := (⟨"ShareSolveModel", "part", "(IIII)J"⟩, prog_8_method_20_code, 12, (some (.long)), 2, 47)
def y_Mo_stuck : jm_I := (⟨"ShareSolveModel", "stuck", "(I)I"⟩, prog_8_method_23_code, 6, (some (.int)), 1, 30)
def y_Mo_goes : jm_I := (⟨"ShareSolveModel", "goes", "(IIII)Z"⟩, prog_8_method_24_code, 11, (some (.boolean)), 0, 0)
def y_Mo_freeze : jm_I := (⟨"ShareSolveModel", "freeze", "()V"⟩, prog_8_method_17_code, 2, none, 0, 0)
def y_Mo_out : jm_I := (⟨"ShareSolveModel", "out", "(III)J"⟩, prog_8_method_52_code, 4, (some (.long)), 6, 159)
def y_Mo_prepare : jm_I := (⟨"ShareSolveModel", "prepare", "(I)V"⟩, prog_8_method_50_code, 2, none, 5, 138)
def y_Mo_turn : jm_I := (⟨"ShareSolveModel", "turn", "()V"⟩, prog_8_method_27_code, 2, none, 3, 83)
def y_Mo_turnBy : jm_I := (⟨"ShareSolveModel", "turnBy", "(IJ)V"⟩, prog_8_method_28_code, 10, none, 2, 54)
def y_Mo_multiply_1 : jm_I := (⟨"ShareSolveModel", "multiply", "(J)V"⟩, prog_8_method_29_code, 8, none, 0, 0)
def y_Mo_inverse : jm_I := (⟨"ShareSolveModel", "inverse", "(JJ)J"⟩, prog_8_method_26_code, 4, (some (.long)), 1, 31)
def y_Mo_raise : jm_I := (⟨"ShareSolveModel", "raise", "(JJJ)J"⟩, prog_8_method_25_code, 12, (some (.long)), 0, 0)
def y_Mo_gatherOver : jm_I := (⟨"ShareSolveModel", "gatherOver", "(I)V"⟩, prog_8_method_46_code, 3, none, 3, 81)
def y_Mo_gather : jm_I := (⟨"ShareSolveModel", "gather", "(I)V"⟩, prog_8_method_37_code, 8, none, 2, 54)
def y_Mo_clear : jm_I := (⟨"ShareSolveModel", "clear", "(I)V"⟩, prog_8_method_30_code, 3, none, 0, 0)
def y_Mo_grow : jm_I := (⟨"ShareSolveModel", "grow", "(IJJ)V"⟩, prog_8_method_32_code, 11, none, 0, 0)
def y_Mo_add : jm_I := (⟨"ShareSolveModel", "add", "(IJ)V"⟩, prog_8_method_38_code, 9, none, 0, 0)
def y_Mo_clearWeights : jm_I := (⟨"ShareSolveModel", "clearWeights", "()V"⟩, prog_8_method_45_code, 2, none, 0, 0)
def y_Mo_weighPort : jm_I := (⟨"ShareSolveModel", "weighPort", "(III)V"⟩, prog_8_method_49_code, 9, none, 0, 0)
def y_Mo_gatherAmount : jm_I := (⟨"ShareSolveModel", "gatherAmount", "(II)V"⟩, prog_8_method_47_code, 12, none, 3, 81)
def y_Mo_partOf : jm_I := (⟨"ShareSolveModel", "partOf", "(IZ)J"⟩, prog_8_method_44_code, 6, (some (.long)), 2, 51)
def y_Mo_divide : jm_I := (⟨"ShareSolveModel", "divide", "(I)J"⟩, prog_8_method_43_code, 5, (some (.long)), 1, 27)
def y_Mo_wordsOf : jm_I := (⟨"ShareSolveModel", "wordsOf", "(I)I"⟩, prog_8_method_42_code, 3, (some (.int)), 0, 0)
def y_Mo_growUsed : jm_I := (⟨"ShareSolveModel", "growUsed", "(J)V"⟩, prog_8_method_39_code, 8, none, 0, 0)
def y_Mo_isLeftLess : jm_I := (⟨"ShareSolveModel", "isLeftLess", "()Z"⟩, prog_8_method_40_code, 2, (some (.boolean)), 0, 0)
def y_Mo_lessenLeft : jm_I := (⟨"ShareSolveModel", "lessenLeft", "()V"⟩, prog_8_method_41_code, 6, none, 0, 0)
def y_Mo_isZero : jm_I := (⟨"ShareSolveModel", "isZero", "(I)Z"⟩, prog_8_method_34_code, 4, (some (.boolean)), 0, 0)
def y_Mo_copy : jm_I := (⟨"ShareSolveModel", "copy", "(II)V"⟩, prog_8_method_31_code, 4, none, 0, 0)
def y_Mo_lessen : jm_I := (⟨"ShareSolveModel", "lessen", "(II)V"⟩, prog_8_method_35_code, 8, none, 0, 0)
def y_Mo_load : jm_I := (⟨"ShareSolveModel", "load", "(II)J"⟩, prog_8_method_54_code, 3, (some (.long)), 7, 181)
def y_Mo_reckonLoad : jm_I := (⟨"ShareSolveModel", "reckonLoad", "(I)V"⟩, prog_8_method_53_code, 3, none, 6, 159)
def y_Mo_over : jm_I := (⟨"ShareSolveModel", "over", "(I)I"⟩, prog_8_method_56_code, 4, (some (.int)), 8, 204)
def y_Mo_isOver : jm_I := (⟨"ShareSolveModel", "isOver", "(I)Z"⟩, prog_8_method_55_code, 4, (some (.boolean)), 7, 181)
def y_Mo_slope : jm_I := (⟨"ShareSolveModel", "slope", "(IIIII)J"⟩, prog_8_method_58_code, 9, (some (.long)), 6, 159)
def y_Mo_gatherOut : jm_I := (⟨"ShareSolveModel", "gatherOut", "(IIIII)V"⟩, prog_8_method_57_code, 7, none, 4, 109)
def y_Mo_gatherWorth : jm_I := (⟨"ShareSolveModel", "gatherWorth", "(II)V"⟩, prog_8_method_48_code, 9, none, 3, 81)
def y_Mo_isLess : jm_I := (⟨"ShareSolveModel", "isLess", "(II)Z"⟩, prog_8_method_33_code, 4, (some (.boolean)), 0, 0)
def y_Mo_multiply_2 : jm_I := (⟨"ShareSolveModel", "multiply", "(III)V"⟩, prog_8_method_36_code, 10, none, 1, 22)
def y_Mo_purity : jm_I := (⟨"ShareSolveModel", "purity", "(III)J"⟩, prog_8_method_59_code, 4, (some (.long)), 6, 159)
def y_Mo_change : jm_I := (⟨"ShareSolveModel", "change", "(IIIJJ)Z"⟩, prog_8_method_60_code, 9, (some (.boolean)), 6, 159)
def y_Mo_find : jm_I := (⟨"ShareSolveModel", "find", "(IIJ)I"⟩, prog_8_method_61_code, 10, (some (.int)), 7, 182)
def y_Mo_brings : jm_I := (⟨"ShareSolveModel", "brings", "(IJ)Z"⟩, prog_8_method_62_code, 4, (some (.boolean)), 6, 159)
def y_Mo_kept : jm_I := (⟨"ShareSolveModel", "kept", "()Z"⟩, prog_8_method_63_code, 1, (some (.boolean)), 0, 0)
def y_Ar_fill : jm_I := (⟨"java/util/Arrays", "fill", "([II)V"⟩, prog_12_method_103_code, 4, none, 0, 0)
def y_In_numberOfLeadingZeros : jm_I := (⟨"java/lang/Integer", "numberOfLeadingZeros", "(I)I"⟩, prog_9_method_47_code, 2, (some (.int)), 0, 0)
def y_Lw_cell : jm_I := (⟨"ShareSolveLaw", "cell", "([II)I"⟩, method_2_code, 2, (some (.int)), 0, 0)
abbrev n_Dv_init : Nat := 0
abbrev n_Dv_divide : Nat := 1
abbrev n_Dv_nextDigit : Nat := 2
abbrev n_Dv_guessDigit : Nat := 3
abbrev n_Dv_partOf : Nat := 4
abbrev n_Dv_partOfNegative : Nat := 5
abbrev n_Fl_init : Nat := 6
abbrev n_Fl_readLine : Nat := 7
abbrev n_Fl_readColumn : Nat := 8
abbrev n_Fl_sendAs : Nat := 9
abbrev n_Fl_shrinkColumn : Nat := 10
abbrev n_Fl_commonDivisor : Nat := 11
abbrev n_Fl_divideColumn : Nat := 12
abbrev n_Fl_cell : Nat := 13
abbrev n_Fl_eliminate : Nat := 14
abbrev n_Fl_eliminateCell : Nat := 15
abbrev n_Fl_putAtPort : Nat := 16
abbrev n_Fl_addAtPort : Nat := 17
abbrev n_Fl_putLoad : Nat := 18
abbrev n_Fl_slopePart : Nat := 19
abbrev n_Fl_putGram : Nat := 20
abbrev n_Fl_putReached : Nat := 21
abbrev n_Fl_putPassing : Nat := 22
abbrev n_Fl_bringsAtLeast : Nat := 23
abbrev n_Ln_init : Nat := 24
abbrev n_Ln_addMachine : Nat := 25
abbrev n_Ln_row : Nat := 26
abbrev n_Ln_addPort : Nat := 27
abbrev n_Ln_hasOut : Nat := 28
abbrev n_Ln_hasMachine : Nat := 29
abbrev n_Ln_hasTarget : Nat := 30
abbrev n_Ln_hasPort : Nat := 31
abbrev n_Ln_hasSharedOut : Nat := 32
abbrev n_Ln_hasKind : Nat := 33
abbrev n_Ln_lastOut : Nat := 34
abbrev n_Ln_setShare : Nat := 35
abbrev n_Ln_hasRow : Nat := 36
abbrev n_Ln_firstStuck : Nat := 37
abbrev n_Ln_spreadGetsAway : Nat := 38
abbrev n_Ln_leavesAs : Nat := 39
abbrev n_Ln_target : Nat := 40
abbrev n_Ln_shareOf : Nat := 41
abbrev n_So_init : Nat := 42
abbrev n_So_take : Nat := 43
abbrev n_So_hasPort : Nat := 44
abbrev n_So_hasMachine : Nat := 45
abbrev n_So_compareLoad : Nat := 46
abbrev n_So_allAtPort : Nat := 47
abbrev n_Wh_init : Nat := 48
abbrev n_Wh_become_1 : Nat := 49
abbrev n_Wh_dropZeros : Nat := 50
abbrev n_Wh_isZero : Nat := 51
abbrev n_Wh_becomeProduct : Nat := 52
abbrev n_Wh_limb : Nat := 53
abbrev n_Wh_subtract : Nat := 54
abbrev n_Wh_addTimes : Nat := 55
abbrev n_Wh_become_2 : Nat := 56
abbrev n_Wh_topLimb : Nat := 57
abbrev n_Wh_shiftUp : Nat := 58
abbrev n_Wh_subtractTimes : Nat := 59
abbrev n_Wh_addAt : Nat := 60
abbrev n_Wh_setLimb : Nat := 61
abbrev n_Wh_shiftDown : Nat := 62
abbrev n_Wh_lowestBits : Nat := 63
abbrev n_Wh_compareWith : Nat := 64
abbrev n_Sh_init : Nat := 65
abbrev n_Sh_machine : Nat := 66
abbrev n_Sh_port : Nat := 67
abbrev n_Sh_joinOut : Nat := 68
abbrev n_Sh_share : Nat := 69
abbrev n_Sh_tellShare : Nat := 70
abbrev n_Sh_isShare : Nat := 71
abbrev n_Sh_inUnits : Nat := 72
abbrev n_Sh_crush : Nat := 73
abbrev n_Sh_feed : Nat := 74
abbrev n_Sh_solve : Nat := 75
abbrev n_Sh_solveAll : Nat := 76
abbrev n_Sh_takeSolution : Nat := 77
abbrev n_Sh_out : Nat := 78
abbrev n_Sh_isPart : Nat := 79
abbrev n_Sh_load : Nat := 80
abbrev n_Sh_span : Nat := 81
abbrev n_Sh_over : Nat := 82
abbrev n_Sh_isOutsideSpan : Nat := 83
abbrev n_Sh_slope : Nat := 84
abbrev n_Sh_purity : Nat := 85
abbrev n_Sh_change : Nat := 86
abbrev n_Sh_find : Nat := 87
abbrev n_Sh_bringsToPortZero : Nat := 88
abbrev n_Sh_kept : Nat := 89
abbrev n_Mo_init : Nat := 90
abbrev n_Mo_machine : Nat := 91
abbrev n_Mo_touch : Nat := 92
abbrev n_Mo_port : Nat := 93
abbrev n_Mo_joinOut : Nat := 94
abbrev n_Mo_isOut : Nat := 95
abbrev n_Mo_isMachine : Nat := 96
abbrev n_Mo_share : Nat := 97
abbrev n_Mo_isFree : Nat := 98
abbrev n_Mo_isKind : Nat := 99
abbrev n_Mo_isShare : Nat := 100
abbrev n_Mo_fits : Nat := 101
abbrev n_Mo_crush : Nat := 102
abbrev n_Mo_feed : Nat := 103
abbrev n_Mo_span : Nat := 104
abbrev n_Mo_solve : Nat := 105
abbrev n_Mo_layOut : Nat := 106
abbrev n_Mo_layNode : Nat := 107
abbrev n_Mo_common : Nat := 108
abbrev n_Mo_shareAt : Nat := 109
abbrev n_Mo_part : Nat := 110
abbrev n_Mo_stuck : Nat := 111
abbrev n_Mo_goes : Nat := 112
abbrev n_Mo_freeze : Nat := 113
abbrev n_Mo_out : Nat := 114
abbrev n_Mo_prepare : Nat := 115
abbrev n_Mo_turn : Nat := 116
abbrev n_Mo_turnBy : Nat := 117
abbrev n_Mo_multiply_1 : Nat := 118
abbrev n_Mo_inverse : Nat := 119
abbrev n_Mo_raise : Nat := 120
abbrev n_Mo_gatherOver : Nat := 121
abbrev n_Mo_gather : Nat := 122
abbrev n_Mo_clear : Nat := 123
abbrev n_Mo_grow : Nat := 124
abbrev n_Mo_add : Nat := 125
abbrev n_Mo_clearWeights : Nat := 126
abbrev n_Mo_weighPort : Nat := 127
abbrev n_Mo_gatherAmount : Nat := 128
abbrev n_Mo_partOf : Nat := 129
abbrev n_Mo_divide : Nat := 130
abbrev n_Mo_wordsOf : Nat := 131
abbrev n_Mo_growUsed : Nat := 132
abbrev n_Mo_isLeftLess : Nat := 133
abbrev n_Mo_lessenLeft : Nat := 134
abbrev n_Mo_isZero : Nat := 135
abbrev n_Mo_copy : Nat := 136
abbrev n_Mo_lessen : Nat := 137
abbrev n_Mo_load : Nat := 138
abbrev n_Mo_reckonLoad : Nat := 139
abbrev n_Mo_over : Nat := 140
abbrev n_Mo_isOver : Nat := 141
abbrev n_Mo_slope : Nat := 142
abbrev n_Mo_gatherOut : Nat := 143
abbrev n_Mo_gatherWorth : Nat := 144
abbrev n_Mo_isLess : Nat := 145
abbrev n_Mo_multiply_2 : Nat := 146
abbrev n_Mo_purity : Nat := 147
abbrev n_Mo_change : Nat := 148
abbrev n_Mo_find : Nat := 149
abbrev n_Mo_brings : Nat := 150
abbrev n_Mo_kept : Nat := 151
abbrev n_Ar_fill : Nat := 152
abbrev n_In_numberOfLeadingZeros : Nat := 153
abbrev n_Lw_cell : Nat := 154
def jm_mtL : List jm_I := [y_Dv_init, y_Dv_divide, y_Dv_nextDigit, y_Dv_guessDigit, y_Dv_partOf, y_Dv_partOfNegative, y_Fl_init, y_Fl_readLine, y_Fl_readColumn, y_Fl_sendAs, y_Fl_shrinkColumn, y_Fl_commonDivisor, y_Fl_divideColumn, y_Fl_cell, y_Fl_eliminate, y_Fl_eliminateCell, y_Fl_putAtPort, y_Fl_addAtPort, y_Fl_putLoad, y_Fl_slopePart, y_Fl_putGram, y_Fl_putReached, y_Fl_putPassing, y_Fl_bringsAtLeast, y_Ln_init, y_Ln_addMachine, y_Ln_row, y_Ln_addPort, y_Ln_hasOut, y_Ln_hasMachine, y_Ln_hasTarget, y_Ln_hasPort, y_Ln_hasSharedOut, y_Ln_hasKind, y_Ln_lastOut, y_Ln_setShare, y_Ln_hasRow, y_Ln_firstStuck, y_Ln_spreadGetsAway, y_Ln_leavesAs, y_Ln_target, y_Ln_shareOf, y_So_init, y_So_take, y_So_hasPort, y_So_hasMachine, y_So_compareLoad, y_So_allAtPort, y_Wh_init, y_Wh_become_1, y_Wh_dropZeros, y_Wh_isZero, y_Wh_becomeProduct, y_Wh_limb, y_Wh_subtract, y_Wh_addTimes, y_Wh_become_2, y_Wh_topLimb, y_Wh_shiftUp, y_Wh_subtractTimes, y_Wh_addAt, y_Wh_setLimb, y_Wh_shiftDown, y_Wh_lowestBits, y_Wh_compareWith, y_Sh_init, y_Sh_machine, y_Sh_port, y_Sh_joinOut, y_Sh_share, y_Sh_tellShare, y_Sh_isShare, y_Sh_inUnits, y_Sh_crush, y_Sh_feed, y_Sh_solve, y_Sh_solveAll, y_Sh_takeSolution, y_Sh_out, y_Sh_isPart, y_Sh_load, y_Sh_span, y_Sh_over, y_Sh_isOutsideSpan, y_Sh_slope, y_Sh_purity, y_Sh_change, y_Sh_find, y_Sh_bringsToPortZero, y_Sh_kept, y_Mo_init, y_Mo_machine, y_Mo_touch, y_Mo_port, y_Mo_joinOut, y_Mo_isOut, y_Mo_isMachine, y_Mo_share, y_Mo_isFree, y_Mo_isKind, y_Mo_isShare, y_Mo_fits, y_Mo_crush, y_Mo_feed, y_Mo_span, y_Mo_solve, y_Mo_layOut, y_Mo_layNode, y_Mo_common, y_Mo_shareAt, y_Mo_part, y_Mo_stuck, y_Mo_goes, y_Mo_freeze, y_Mo_out, y_Mo_prepare, y_Mo_turn, y_Mo_turnBy, y_Mo_multiply_1, y_Mo_inverse, y_Mo_raise, y_Mo_gatherOver, y_Mo_gather, y_Mo_clear, y_Mo_grow, y_Mo_add, y_Mo_clearWeights, y_Mo_weighPort, y_Mo_gatherAmount, y_Mo_partOf, y_Mo_divide, y_Mo_wordsOf, y_Mo_growUsed, y_Mo_isLeftLess, y_Mo_lessenLeft, y_Mo_isZero, y_Mo_copy, y_Mo_lessen, y_Mo_load, y_Mo_reckonLoad, y_Mo_over, y_Mo_isOver, y_Mo_slope, y_Mo_gatherOut, y_Mo_gatherWorth, y_Mo_isLess, y_Mo_multiply_2, y_Mo_purity, y_Mo_change, y_Mo_find, y_Mo_brings, y_Mo_kept, y_Ar_fill, y_In_numberOfLeadingZeros, y_Lw_cell]
def jm_mt (k : Nat) : jm_I := jm_mtL.getD k y_Dv_init
def jm_stL : List (Bool × Nat × Nat × Nat × Nat) := [(false, 162, 161, 0, 67), (false, 483, 481, 482, 67), (false, 507, 506, 11, 67), (false, 511, 510, 12, 67), (false, 571, 569, 570, 67), (false, 639, 637, 638, 67), (false, 156, 155, 0, 66), (false, 408, 406, 407, 66), (false, 412, 411, 4, 66), (false, 418, 417, 5, 66), (false, 424, 423, 6, 66), (true, 427, 426, 0, 66), (false, 431, 430, 7, 66), (false, 435, 434, 8, 66), (false, 449, 447, 448, 66), (false, 453, 452, 10, 66), (false, 547, 545, 546, 66), (false, 551, 550, 14, 66), (false, 555, 553, 554, 66), (false, 619, 617, 618, 66), (false, 625, 624, 16, 66), (false, 630, 629, 17, 66), (false, 635, 634, 18, 66), (false, 669, 667, 668, 66), (false, 86, 85, 0, 64), (false, 296, 294, 295, 64), (false, 300, 298, 299, 64), (false, 308, 306, 307, 64), (false, 316, 314, 315, 64), (false, 320, 318, 319, 64), (false, 324, 322, 323, 64), (false, 328, 326, 327, 64), (false, 340, 338, 339, 64), (false, 345, 343, 344, 64), (false, 349, 347, 348, 64), (false, 361, 359, 360, 64), (false, 369, 367, 368, 64), (false, 388, 386, 387, 64), (false, 392, 391, 2, 64), (false, 396, 395, 3, 64), (false, 400, 398, 399, 64), (false, 404, 402, 403, 64), (false, 246, 245, 0, 69), (false, 541, 539, 540, 69), (false, 563, 561, 562, 69), (false, 586, 584, 585, 69), (false, 604, 602, 603, 69), (false, 651, 649, 650, 69), (false, 168, 167, 0, 68), (false, 439, 437, 438, 68), (false, 445, 444, 9, 68), (false, 457, 455, 456, 68), (false, 461, 459, 460, 68), (false, 465, 463, 464, 68), (false, 469, 467, 468, 68), (false, 473, 471, 472, 68), (false, 488, 486, 487, 68), (false, 495, 493, 494, 68), (false, 503, 501, 502, 68), (false, 520, 518, 519, 68), (false, 524, 522, 523, 68), (false, 528, 526, 527, 68), (false, 532, 530, 531, 68), (false, 578, 576, 577, 68), (false, 610, 608, 609, 68), (false, 78, 77, 0, 63), (false, 292, 290, 291, 63), (false, 304, 302, 303, 63), (false, 312, 310, 311, 63), (false, 332, 330, 331, 63), (false, 336, 335, 0, 63), (true, 352, 351, 0, 63), (true, 356, 355, 0, 63), (false, 365, 363, 364, 63), (false, 375, 373, 374, 63), (false, 380, 378, 379, 63), (false, 384, 383, 1, 63), (false, 537, 536, 13, 63), (false, 559, 557, 558, 63), (true, 566, 565, 0, 63), (false, 582, 580, 581, 63), (false, 590, 588, 589, 63), (false, 596, 594, 595, 63), (false, 600, 599, 15, 63), (false, 614, 612, 613, 63), (false, 647, 645, 646, 63), (false, 656, 654, 655, 63), (false, 660, 658, 659, 63), (false, 665, 664, 19, 63), (false, 674, 672, 673, 63), (false, 682, 681, 0, 70), (false, 798, 796, 797, 70), (false, 802, 801, 20, 70), (false, 806, 804, 805, 70), (false, 810, 808, 809, 70), (false, 814, 813, 21, 70), (false, 818, 817, 22, 70), (false, 822, 820, 821, 70), (false, 826, 825, 23, 70), (false, 830, 829, 24, 70), (true, 833, 832, 0, 70), (false, 838, 837, 25, 70), (false, 842, 840, 841, 70), (false, 846, 844, 845, 70), (false, 851, 849, 850, 70), (false, 856, 854, 855, 70), (false, 860, 859, 26, 70), (false, 864, 863, 27, 70), (false, 868, 867, 28, 70), (false, 872, 871, 29, 70), (false, 876, 875, 30, 70), (false, 880, 879, 31, 70), (false, 884, 883, 32, 70), (false, 888, 887, 33, 70), (false, 892, 890, 891, 70), (false, 897, 896, 34, 70), (false, 901, 900, 35, 70), (false, 905, 904, 36, 70), (false, 909, 908, 37, 70), (true, 912, 911, 0, 70), (true, 916, 915, 0, 70), (false, 920, 919, 38, 70), (false, 924, 923, 39, 70), (false, 928, 927, 40, 70), (false, 932, 931, 41, 70), (false, 937, 936, 42, 70), (false, 941, 940, 43, 70), (false, 945, 944, 44, 70), (false, 949, 948, 45, 70), (false, 953, 952, 46, 70), (false, 957, 956, 47, 70), (false, 961, 960, 48, 70), (false, 965, 964, 49, 70), (false, 969, 968, 50, 70), (false, 973, 972, 51, 70), (false, 977, 976, 52, 70), (false, 981, 980, 53, 70), (false, 985, 984, 54, 70), (false, 989, 987, 988, 70), (false, 993, 992, 55, 70), (false, 997, 995, 996, 70), (false, 1001, 1000, 56, 70), (false, 1005, 1003, 1004, 70), (false, 1009, 1008, 57, 70), (false, 1013, 1012, 58, 70), (false, 1017, 1016, 59, 70), (false, 1021, 1020, 60, 70), (false, 1025, 1023, 1024, 70), (false, 1029, 1027, 1028, 70), (false, 1035, 1033, 1034, 70), (false, 1039, 1038, 61, 70), (false, 1043, 1041, 1042, 70), (true, 90, 89, 0, 65), (true, 498, 497, 0, 73), (true, 677, 676, 0, 62)]
def jm_st (k : Nat) : Bool × Nat × Nat × Nat × Nat := jm_stL.getD k (true, 0, 0, 0, 0)
set_option maxRecDepth 100000 in
theorem ck_0 : Cond.code y_Dv_init.1 y_Dv_init.2.1 y_Dv_init.2.2.1 y_Dv_init.2.2.2.1 ∈ lw_tbl := List.mem_of_getElem? (i := 162) rfl
set_option maxRecDepth 100000 in
theorem ck_1 : Cond.code y_Dv_divide.1 y_Dv_divide.2.1 y_Dv_divide.2.2.1 y_Dv_divide.2.2.2.1 ∈ lw_tbl := List.mem_of_getElem? (i := 483) rfl
set_option maxRecDepth 100000 in
theorem ck_2 : Cond.code y_Dv_nextDigit.1 y_Dv_nextDigit.2.1 y_Dv_nextDigit.2.2.1 y_Dv_nextDigit.2.2.2.1 ∈ lw_tbl := List.mem_of_getElem? (i := 507) rfl
set_option maxRecDepth 100000 in
theorem ck_3 : Cond.code y_Dv_guessDigit.1 y_Dv_guessDigit.2.1 y_Dv_guessDigit.2.2.1 y_Dv_guessDigit.2.2.2.1 ∈ lw_tbl := List.mem_of_getElem? (i := 511) rfl
set_option maxRecDepth 100000 in
theorem ck_4 : Cond.code y_Dv_partOf.1 y_Dv_partOf.2.1 y_Dv_partOf.2.2.1 y_Dv_partOf.2.2.2.1 ∈ lw_tbl := List.mem_of_getElem? (i := 571) rfl
set_option maxRecDepth 100000 in
theorem ck_5 : Cond.code y_Dv_partOfNegative.1 y_Dv_partOfNegative.2.1 y_Dv_partOfNegative.2.2.1 y_Dv_partOfNegative.2.2.2.1 ∈ lw_tbl := List.mem_of_getElem? (i := 639) rfl
set_option maxRecDepth 100000 in
theorem ck_6 : Cond.code y_Fl_init.1 y_Fl_init.2.1 y_Fl_init.2.2.1 y_Fl_init.2.2.2.1 ∈ lw_tbl := List.mem_of_getElem? (i := 156) rfl
set_option maxRecDepth 100000 in
theorem ck_7 : Cond.code y_Fl_readLine.1 y_Fl_readLine.2.1 y_Fl_readLine.2.2.1 y_Fl_readLine.2.2.2.1 ∈ lw_tbl := List.mem_of_getElem? (i := 408) rfl
set_option maxRecDepth 100000 in
theorem ck_8 : Cond.code y_Fl_readColumn.1 y_Fl_readColumn.2.1 y_Fl_readColumn.2.2.1 y_Fl_readColumn.2.2.2.1 ∈ lw_tbl := List.mem_of_getElem? (i := 412) rfl
set_option maxRecDepth 100000 in
theorem ck_9 : Cond.code y_Fl_sendAs.1 y_Fl_sendAs.2.1 y_Fl_sendAs.2.2.1 y_Fl_sendAs.2.2.2.1 ∈ lw_tbl := List.mem_of_getElem? (i := 418) rfl
set_option maxRecDepth 100000 in
theorem ck_10 : Cond.code y_Fl_shrinkColumn.1 y_Fl_shrinkColumn.2.1 y_Fl_shrinkColumn.2.2.1 y_Fl_shrinkColumn.2.2.2.1 ∈ lw_tbl := List.mem_of_getElem? (i := 424) rfl
set_option maxRecDepth 100000 in
theorem ck_11 : Cond.code y_Fl_commonDivisor.1 y_Fl_commonDivisor.2.1 y_Fl_commonDivisor.2.2.1 y_Fl_commonDivisor.2.2.2.1 ∈ lw_tbl := List.mem_of_getElem? (i := 427) rfl
set_option maxRecDepth 100000 in
theorem ck_12 : Cond.code y_Fl_divideColumn.1 y_Fl_divideColumn.2.1 y_Fl_divideColumn.2.2.1 y_Fl_divideColumn.2.2.2.1 ∈ lw_tbl := List.mem_of_getElem? (i := 431) rfl
set_option maxRecDepth 100000 in
theorem ck_13 : Cond.code y_Fl_cell.1 y_Fl_cell.2.1 y_Fl_cell.2.2.1 y_Fl_cell.2.2.2.1 ∈ lw_tbl := List.mem_of_getElem? (i := 435) rfl
set_option maxRecDepth 100000 in
theorem ck_14 : Cond.code y_Fl_eliminate.1 y_Fl_eliminate.2.1 y_Fl_eliminate.2.2.1 y_Fl_eliminate.2.2.2.1 ∈ lw_tbl := List.mem_of_getElem? (i := 449) rfl
set_option maxRecDepth 100000 in
theorem ck_15 : Cond.code y_Fl_eliminateCell.1 y_Fl_eliminateCell.2.1 y_Fl_eliminateCell.2.2.1 y_Fl_eliminateCell.2.2.2.1 ∈ lw_tbl := List.mem_of_getElem? (i := 453) rfl
set_option maxRecDepth 100000 in
theorem ck_16 : Cond.code y_Fl_putAtPort.1 y_Fl_putAtPort.2.1 y_Fl_putAtPort.2.2.1 y_Fl_putAtPort.2.2.2.1 ∈ lw_tbl := List.mem_of_getElem? (i := 547) rfl
set_option maxRecDepth 100000 in
theorem ck_17 : Cond.code y_Fl_addAtPort.1 y_Fl_addAtPort.2.1 y_Fl_addAtPort.2.2.1 y_Fl_addAtPort.2.2.2.1 ∈ lw_tbl := List.mem_of_getElem? (i := 551) rfl
set_option maxRecDepth 100000 in
theorem ck_18 : Cond.code y_Fl_putLoad.1 y_Fl_putLoad.2.1 y_Fl_putLoad.2.2.1 y_Fl_putLoad.2.2.2.1 ∈ lw_tbl := List.mem_of_getElem? (i := 555) rfl
set_option maxRecDepth 100000 in
theorem ck_19 : Cond.code y_Fl_slopePart.1 y_Fl_slopePart.2.1 y_Fl_slopePart.2.2.1 y_Fl_slopePart.2.2.2.1 ∈ lw_tbl := List.mem_of_getElem? (i := 619) rfl
set_option maxRecDepth 100000 in
theorem ck_20 : Cond.code y_Fl_putGram.1 y_Fl_putGram.2.1 y_Fl_putGram.2.2.1 y_Fl_putGram.2.2.2.1 ∈ lw_tbl := List.mem_of_getElem? (i := 625) rfl
set_option maxRecDepth 100000 in
theorem ck_21 : Cond.code y_Fl_putReached.1 y_Fl_putReached.2.1 y_Fl_putReached.2.2.1 y_Fl_putReached.2.2.2.1 ∈ lw_tbl := List.mem_of_getElem? (i := 630) rfl
set_option maxRecDepth 100000 in
theorem ck_22 : Cond.code y_Fl_putPassing.1 y_Fl_putPassing.2.1 y_Fl_putPassing.2.2.1 y_Fl_putPassing.2.2.2.1 ∈ lw_tbl := List.mem_of_getElem? (i := 635) rfl
set_option maxRecDepth 100000 in
theorem ck_23 : Cond.code y_Fl_bringsAtLeast.1 y_Fl_bringsAtLeast.2.1 y_Fl_bringsAtLeast.2.2.1 y_Fl_bringsAtLeast.2.2.2.1 ∈ lw_tbl := List.mem_of_getElem? (i := 669) rfl
set_option maxRecDepth 100000 in
theorem ck_24 : Cond.code y_Ln_init.1 y_Ln_init.2.1 y_Ln_init.2.2.1 y_Ln_init.2.2.2.1 ∈ lw_tbl := List.mem_of_getElem? (i := 86) rfl
set_option maxRecDepth 100000 in
theorem ck_25 : Cond.code y_Ln_addMachine.1 y_Ln_addMachine.2.1 y_Ln_addMachine.2.2.1 y_Ln_addMachine.2.2.2.1 ∈ lw_tbl := List.mem_of_getElem? (i := 296) rfl
set_option maxRecDepth 100000 in
theorem ck_26 : Cond.code y_Ln_row.1 y_Ln_row.2.1 y_Ln_row.2.2.1 y_Ln_row.2.2.2.1 ∈ lw_tbl := List.mem_of_getElem? (i := 300) rfl
set_option maxRecDepth 100000 in
theorem ck_27 : Cond.code y_Ln_addPort.1 y_Ln_addPort.2.1 y_Ln_addPort.2.2.1 y_Ln_addPort.2.2.2.1 ∈ lw_tbl := List.mem_of_getElem? (i := 308) rfl
set_option maxRecDepth 100000 in
theorem ck_28 : Cond.code y_Ln_hasOut.1 y_Ln_hasOut.2.1 y_Ln_hasOut.2.2.1 y_Ln_hasOut.2.2.2.1 ∈ lw_tbl := List.mem_of_getElem? (i := 316) rfl
set_option maxRecDepth 100000 in
theorem ck_29 : Cond.code y_Ln_hasMachine.1 y_Ln_hasMachine.2.1 y_Ln_hasMachine.2.2.1 y_Ln_hasMachine.2.2.2.1 ∈ lw_tbl := List.mem_of_getElem? (i := 320) rfl
set_option maxRecDepth 100000 in
theorem ck_30 : Cond.code y_Ln_hasTarget.1 y_Ln_hasTarget.2.1 y_Ln_hasTarget.2.2.1 y_Ln_hasTarget.2.2.2.1 ∈ lw_tbl := List.mem_of_getElem? (i := 324) rfl
set_option maxRecDepth 100000 in
theorem ck_31 : Cond.code y_Ln_hasPort.1 y_Ln_hasPort.2.1 y_Ln_hasPort.2.2.1 y_Ln_hasPort.2.2.2.1 ∈ lw_tbl := List.mem_of_getElem? (i := 328) rfl
set_option maxRecDepth 100000 in
theorem ck_32 : Cond.code y_Ln_hasSharedOut.1 y_Ln_hasSharedOut.2.1 y_Ln_hasSharedOut.2.2.1 y_Ln_hasSharedOut.2.2.2.1 ∈ lw_tbl := List.mem_of_getElem? (i := 340) rfl
set_option maxRecDepth 100000 in
theorem ck_33 : Cond.code y_Ln_hasKind.1 y_Ln_hasKind.2.1 y_Ln_hasKind.2.2.1 y_Ln_hasKind.2.2.2.1 ∈ lw_tbl := List.mem_of_getElem? (i := 345) rfl
set_option maxRecDepth 100000 in
theorem ck_34 : Cond.code y_Ln_lastOut.1 y_Ln_lastOut.2.1 y_Ln_lastOut.2.2.1 y_Ln_lastOut.2.2.2.1 ∈ lw_tbl := List.mem_of_getElem? (i := 349) rfl
set_option maxRecDepth 100000 in
theorem ck_35 : Cond.code y_Ln_setShare.1 y_Ln_setShare.2.1 y_Ln_setShare.2.2.1 y_Ln_setShare.2.2.2.1 ∈ lw_tbl := List.mem_of_getElem? (i := 361) rfl
set_option maxRecDepth 100000 in
theorem ck_36 : Cond.code y_Ln_hasRow.1 y_Ln_hasRow.2.1 y_Ln_hasRow.2.2.1 y_Ln_hasRow.2.2.2.1 ∈ lw_tbl := List.mem_of_getElem? (i := 369) rfl
set_option maxRecDepth 100000 in
theorem ck_37 : Cond.code y_Ln_firstStuck.1 y_Ln_firstStuck.2.1 y_Ln_firstStuck.2.2.1 y_Ln_firstStuck.2.2.2.1 ∈ lw_tbl := List.mem_of_getElem? (i := 388) rfl
set_option maxRecDepth 100000 in
theorem ck_38 : Cond.code y_Ln_spreadGetsAway.1 y_Ln_spreadGetsAway.2.1 y_Ln_spreadGetsAway.2.2.1 y_Ln_spreadGetsAway.2.2.2.1 ∈ lw_tbl := List.mem_of_getElem? (i := 392) rfl
set_option maxRecDepth 100000 in
theorem ck_39 : Cond.code y_Ln_leavesAs.1 y_Ln_leavesAs.2.1 y_Ln_leavesAs.2.2.1 y_Ln_leavesAs.2.2.2.1 ∈ lw_tbl := List.mem_of_getElem? (i := 396) rfl
set_option maxRecDepth 100000 in
theorem ck_40 : Cond.code y_Ln_target.1 y_Ln_target.2.1 y_Ln_target.2.2.1 y_Ln_target.2.2.2.1 ∈ lw_tbl := List.mem_of_getElem? (i := 400) rfl
set_option maxRecDepth 100000 in
theorem ck_41 : Cond.code y_Ln_shareOf.1 y_Ln_shareOf.2.1 y_Ln_shareOf.2.2.1 y_Ln_shareOf.2.2.2.1 ∈ lw_tbl := List.mem_of_getElem? (i := 404) rfl
set_option maxRecDepth 100000 in
theorem ck_42 : Cond.code y_So_init.1 y_So_init.2.1 y_So_init.2.2.1 y_So_init.2.2.2.1 ∈ lw_tbl := List.mem_of_getElem? (i := 246) rfl
set_option maxRecDepth 100000 in
theorem ck_43 : Cond.code y_So_take.1 y_So_take.2.1 y_So_take.2.2.1 y_So_take.2.2.2.1 ∈ lw_tbl := List.mem_of_getElem? (i := 541) rfl
set_option maxRecDepth 100000 in
theorem ck_44 : Cond.code y_So_hasPort.1 y_So_hasPort.2.1 y_So_hasPort.2.2.1 y_So_hasPort.2.2.2.1 ∈ lw_tbl := List.mem_of_getElem? (i := 563) rfl
set_option maxRecDepth 100000 in
theorem ck_45 : Cond.code y_So_hasMachine.1 y_So_hasMachine.2.1 y_So_hasMachine.2.2.1 y_So_hasMachine.2.2.2.1 ∈ lw_tbl := List.mem_of_getElem? (i := 586) rfl
set_option maxRecDepth 100000 in
theorem ck_46 : Cond.code y_So_compareLoad.1 y_So_compareLoad.2.1 y_So_compareLoad.2.2.1 y_So_compareLoad.2.2.2.1 ∈ lw_tbl := List.mem_of_getElem? (i := 604) rfl
set_option maxRecDepth 100000 in
theorem ck_47 : Cond.code y_So_allAtPort.1 y_So_allAtPort.2.1 y_So_allAtPort.2.2.1 y_So_allAtPort.2.2.2.1 ∈ lw_tbl := List.mem_of_getElem? (i := 651) rfl
set_option maxRecDepth 100000 in
theorem ck_48 : Cond.code y_Wh_init.1 y_Wh_init.2.1 y_Wh_init.2.2.1 y_Wh_init.2.2.2.1 ∈ lw_tbl := List.mem_of_getElem? (i := 168) rfl
set_option maxRecDepth 100000 in
theorem ck_49 : Cond.code y_Wh_become_1.1 y_Wh_become_1.2.1 y_Wh_become_1.2.2.1 y_Wh_become_1.2.2.2.1 ∈ lw_tbl := List.mem_of_getElem? (i := 439) rfl
set_option maxRecDepth 100000 in
theorem ck_50 : Cond.code y_Wh_dropZeros.1 y_Wh_dropZeros.2.1 y_Wh_dropZeros.2.2.1 y_Wh_dropZeros.2.2.2.1 ∈ lw_tbl := List.mem_of_getElem? (i := 445) rfl
set_option maxRecDepth 100000 in
theorem ck_51 : Cond.code y_Wh_isZero.1 y_Wh_isZero.2.1 y_Wh_isZero.2.2.1 y_Wh_isZero.2.2.2.1 ∈ lw_tbl := List.mem_of_getElem? (i := 457) rfl
set_option maxRecDepth 100000 in
theorem ck_52 : Cond.code y_Wh_becomeProduct.1 y_Wh_becomeProduct.2.1 y_Wh_becomeProduct.2.2.1 y_Wh_becomeProduct.2.2.2.1 ∈ lw_tbl := List.mem_of_getElem? (i := 461) rfl
set_option maxRecDepth 100000 in
theorem ck_53 : Cond.code y_Wh_limb.1 y_Wh_limb.2.1 y_Wh_limb.2.2.1 y_Wh_limb.2.2.2.1 ∈ lw_tbl := List.mem_of_getElem? (i := 465) rfl
set_option maxRecDepth 100000 in
theorem ck_54 : Cond.code y_Wh_subtract.1 y_Wh_subtract.2.1 y_Wh_subtract.2.2.1 y_Wh_subtract.2.2.2.1 ∈ lw_tbl := List.mem_of_getElem? (i := 469) rfl
set_option maxRecDepth 100000 in
theorem ck_55 : Cond.code y_Wh_addTimes.1 y_Wh_addTimes.2.1 y_Wh_addTimes.2.2.1 y_Wh_addTimes.2.2.2.1 ∈ lw_tbl := List.mem_of_getElem? (i := 473) rfl
set_option maxRecDepth 100000 in
theorem ck_56 : Cond.code y_Wh_become_2.1 y_Wh_become_2.2.1 y_Wh_become_2.2.2.1 y_Wh_become_2.2.2.2.1 ∈ lw_tbl := List.mem_of_getElem? (i := 488) rfl
set_option maxRecDepth 100000 in
theorem ck_57 : Cond.code y_Wh_topLimb.1 y_Wh_topLimb.2.1 y_Wh_topLimb.2.2.1 y_Wh_topLimb.2.2.2.1 ∈ lw_tbl := List.mem_of_getElem? (i := 495) rfl
set_option maxRecDepth 100000 in
theorem ck_58 : Cond.code y_Wh_shiftUp.1 y_Wh_shiftUp.2.1 y_Wh_shiftUp.2.2.1 y_Wh_shiftUp.2.2.2.1 ∈ lw_tbl := List.mem_of_getElem? (i := 503) rfl
set_option maxRecDepth 100000 in
theorem ck_59 : Cond.code y_Wh_subtractTimes.1 y_Wh_subtractTimes.2.1 y_Wh_subtractTimes.2.2.1 y_Wh_subtractTimes.2.2.2.1 ∈ lw_tbl := List.mem_of_getElem? (i := 520) rfl
set_option maxRecDepth 100000 in
theorem ck_60 : Cond.code y_Wh_addAt.1 y_Wh_addAt.2.1 y_Wh_addAt.2.2.1 y_Wh_addAt.2.2.2.1 ∈ lw_tbl := List.mem_of_getElem? (i := 524) rfl
set_option maxRecDepth 100000 in
theorem ck_61 : Cond.code y_Wh_setLimb.1 y_Wh_setLimb.2.1 y_Wh_setLimb.2.2.1 y_Wh_setLimb.2.2.2.1 ∈ lw_tbl := List.mem_of_getElem? (i := 528) rfl
set_option maxRecDepth 100000 in
theorem ck_62 : Cond.code y_Wh_shiftDown.1 y_Wh_shiftDown.2.1 y_Wh_shiftDown.2.2.1 y_Wh_shiftDown.2.2.2.1 ∈ lw_tbl := List.mem_of_getElem? (i := 532) rfl
set_option maxRecDepth 100000 in
theorem ck_63 : Cond.code y_Wh_lowestBits.1 y_Wh_lowestBits.2.1 y_Wh_lowestBits.2.2.1 y_Wh_lowestBits.2.2.2.1 ∈ lw_tbl := List.mem_of_getElem? (i := 578) rfl
set_option maxRecDepth 100000 in
theorem ck_64 : Cond.code y_Wh_compareWith.1 y_Wh_compareWith.2.1 y_Wh_compareWith.2.2.1 y_Wh_compareWith.2.2.2.1 ∈ lw_tbl := List.mem_of_getElem? (i := 610) rfl
set_option maxRecDepth 100000 in
theorem ck_65 : Cond.code y_Sh_init.1 y_Sh_init.2.1 y_Sh_init.2.2.1 y_Sh_init.2.2.2.1 ∈ lw_tbl := List.mem_of_getElem? (i := 78) rfl
set_option maxRecDepth 100000 in
theorem ck_66 : Cond.code y_Sh_machine.1 y_Sh_machine.2.1 y_Sh_machine.2.2.1 y_Sh_machine.2.2.2.1 ∈ lw_tbl := List.mem_of_getElem? (i := 292) rfl
set_option maxRecDepth 100000 in
theorem ck_67 : Cond.code y_Sh_port.1 y_Sh_port.2.1 y_Sh_port.2.2.1 y_Sh_port.2.2.2.1 ∈ lw_tbl := List.mem_of_getElem? (i := 304) rfl
set_option maxRecDepth 100000 in
theorem ck_68 : Cond.code y_Sh_joinOut.1 y_Sh_joinOut.2.1 y_Sh_joinOut.2.2.1 y_Sh_joinOut.2.2.2.1 ∈ lw_tbl := List.mem_of_getElem? (i := 312) rfl
set_option maxRecDepth 100000 in
theorem ck_69 : Cond.code y_Sh_share.1 y_Sh_share.2.1 y_Sh_share.2.2.1 y_Sh_share.2.2.2.1 ∈ lw_tbl := List.mem_of_getElem? (i := 332) rfl
set_option maxRecDepth 100000 in
theorem ck_70 : Cond.code y_Sh_tellShare.1 y_Sh_tellShare.2.1 y_Sh_tellShare.2.2.1 y_Sh_tellShare.2.2.2.1 ∈ lw_tbl := List.mem_of_getElem? (i := 336) rfl
set_option maxRecDepth 100000 in
theorem ck_71 : Cond.code y_Sh_isShare.1 y_Sh_isShare.2.1 y_Sh_isShare.2.2.1 y_Sh_isShare.2.2.2.1 ∈ lw_tbl := List.mem_of_getElem? (i := 352) rfl
set_option maxRecDepth 100000 in
theorem ck_72 : Cond.code y_Sh_inUnits.1 y_Sh_inUnits.2.1 y_Sh_inUnits.2.2.1 y_Sh_inUnits.2.2.2.1 ∈ lw_tbl := List.mem_of_getElem? (i := 356) rfl
set_option maxRecDepth 100000 in
theorem ck_73 : Cond.code y_Sh_crush.1 y_Sh_crush.2.1 y_Sh_crush.2.2.1 y_Sh_crush.2.2.2.1 ∈ lw_tbl := List.mem_of_getElem? (i := 365) rfl
set_option maxRecDepth 100000 in
theorem ck_74 : Cond.code y_Sh_feed.1 y_Sh_feed.2.1 y_Sh_feed.2.2.1 y_Sh_feed.2.2.2.1 ∈ lw_tbl := List.mem_of_getElem? (i := 375) rfl
set_option maxRecDepth 100000 in
theorem ck_75 : Cond.code y_Sh_solve.1 y_Sh_solve.2.1 y_Sh_solve.2.2.1 y_Sh_solve.2.2.2.1 ∈ lw_tbl := List.mem_of_getElem? (i := 380) rfl
set_option maxRecDepth 100000 in
theorem ck_76 : Cond.code y_Sh_solveAll.1 y_Sh_solveAll.2.1 y_Sh_solveAll.2.2.1 y_Sh_solveAll.2.2.2.1 ∈ lw_tbl := List.mem_of_getElem? (i := 384) rfl
set_option maxRecDepth 100000 in
theorem ck_77 : Cond.code y_Sh_takeSolution.1 y_Sh_takeSolution.2.1 y_Sh_takeSolution.2.2.1 y_Sh_takeSolution.2.2.2.1 ∈ lw_tbl := List.mem_of_getElem? (i := 537) rfl
set_option maxRecDepth 100000 in
theorem ck_78 : Cond.code y_Sh_out.1 y_Sh_out.2.1 y_Sh_out.2.2.1 y_Sh_out.2.2.2.1 ∈ lw_tbl := List.mem_of_getElem? (i := 559) rfl
set_option maxRecDepth 100000 in
theorem ck_79 : Cond.code y_Sh_isPart.1 y_Sh_isPart.2.1 y_Sh_isPart.2.2.1 y_Sh_isPart.2.2.2.1 ∈ lw_tbl := List.mem_of_getElem? (i := 566) rfl
set_option maxRecDepth 100000 in
theorem ck_80 : Cond.code y_Sh_load.1 y_Sh_load.2.1 y_Sh_load.2.2.1 y_Sh_load.2.2.2.1 ∈ lw_tbl := List.mem_of_getElem? (i := 582) rfl
set_option maxRecDepth 100000 in
theorem ck_81 : Cond.code y_Sh_span.1 y_Sh_span.2.1 y_Sh_span.2.2.1 y_Sh_span.2.2.2.1 ∈ lw_tbl := List.mem_of_getElem? (i := 590) rfl
set_option maxRecDepth 100000 in
theorem ck_82 : Cond.code y_Sh_over.1 y_Sh_over.2.1 y_Sh_over.2.2.1 y_Sh_over.2.2.2.1 ∈ lw_tbl := List.mem_of_getElem? (i := 596) rfl
set_option maxRecDepth 100000 in
theorem ck_83 : Cond.code y_Sh_isOutsideSpan.1 y_Sh_isOutsideSpan.2.1 y_Sh_isOutsideSpan.2.2.1 y_Sh_isOutsideSpan.2.2.2.1 ∈ lw_tbl := List.mem_of_getElem? (i := 600) rfl
set_option maxRecDepth 100000 in
theorem ck_84 : Cond.code y_Sh_slope.1 y_Sh_slope.2.1 y_Sh_slope.2.2.1 y_Sh_slope.2.2.2.1 ∈ lw_tbl := List.mem_of_getElem? (i := 614) rfl
set_option maxRecDepth 100000 in
theorem ck_85 : Cond.code y_Sh_purity.1 y_Sh_purity.2.1 y_Sh_purity.2.2.1 y_Sh_purity.2.2.2.1 ∈ lw_tbl := List.mem_of_getElem? (i := 647) rfl
set_option maxRecDepth 100000 in
theorem ck_86 : Cond.code y_Sh_change.1 y_Sh_change.2.1 y_Sh_change.2.2.1 y_Sh_change.2.2.2.1 ∈ lw_tbl := List.mem_of_getElem? (i := 656) rfl
set_option maxRecDepth 100000 in
theorem ck_87 : Cond.code y_Sh_find.1 y_Sh_find.2.1 y_Sh_find.2.2.1 y_Sh_find.2.2.2.1 ∈ lw_tbl := List.mem_of_getElem? (i := 660) rfl
set_option maxRecDepth 100000 in
theorem ck_88 : Cond.code y_Sh_bringsToPortZero.1 y_Sh_bringsToPortZero.2.1 y_Sh_bringsToPortZero.2.2.1 y_Sh_bringsToPortZero.2.2.2.1 ∈ lw_tbl := List.mem_of_getElem? (i := 665) rfl
set_option maxRecDepth 100000 in
theorem ck_89 : Cond.code y_Sh_kept.1 y_Sh_kept.2.1 y_Sh_kept.2.2.1 y_Sh_kept.2.2.2.1 ∈ lw_tbl := List.mem_of_getElem? (i := 674) rfl
set_option maxRecDepth 100000 in
theorem ck_90 : Cond.code y_Mo_init.1 y_Mo_init.2.1 y_Mo_init.2.2.1 y_Mo_init.2.2.2.1 ∈ lw_tbl := List.mem_of_getElem? (i := 682) rfl
set_option maxRecDepth 100000 in
theorem ck_91 : Cond.code y_Mo_machine.1 y_Mo_machine.2.1 y_Mo_machine.2.2.1 y_Mo_machine.2.2.2.1 ∈ lw_tbl := List.mem_of_getElem? (i := 798) rfl
set_option maxRecDepth 100000 in
theorem ck_92 : Cond.code y_Mo_touch.1 y_Mo_touch.2.1 y_Mo_touch.2.2.1 y_Mo_touch.2.2.2.1 ∈ lw_tbl := List.mem_of_getElem? (i := 802) rfl
set_option maxRecDepth 100000 in
theorem ck_93 : Cond.code y_Mo_port.1 y_Mo_port.2.1 y_Mo_port.2.2.1 y_Mo_port.2.2.2.1 ∈ lw_tbl := List.mem_of_getElem? (i := 806) rfl
set_option maxRecDepth 100000 in
theorem ck_94 : Cond.code y_Mo_joinOut.1 y_Mo_joinOut.2.1 y_Mo_joinOut.2.2.1 y_Mo_joinOut.2.2.2.1 ∈ lw_tbl := List.mem_of_getElem? (i := 810) rfl
set_option maxRecDepth 100000 in
theorem ck_95 : Cond.code y_Mo_isOut.1 y_Mo_isOut.2.1 y_Mo_isOut.2.2.1 y_Mo_isOut.2.2.2.1 ∈ lw_tbl := List.mem_of_getElem? (i := 814) rfl
set_option maxRecDepth 100000 in
theorem ck_96 : Cond.code y_Mo_isMachine.1 y_Mo_isMachine.2.1 y_Mo_isMachine.2.2.1 y_Mo_isMachine.2.2.2.1 ∈ lw_tbl := List.mem_of_getElem? (i := 818) rfl
set_option maxRecDepth 100000 in
theorem ck_97 : Cond.code y_Mo_share.1 y_Mo_share.2.1 y_Mo_share.2.2.1 y_Mo_share.2.2.2.1 ∈ lw_tbl := List.mem_of_getElem? (i := 822) rfl
set_option maxRecDepth 100000 in
theorem ck_98 : Cond.code y_Mo_isFree.1 y_Mo_isFree.2.1 y_Mo_isFree.2.2.1 y_Mo_isFree.2.2.2.1 ∈ lw_tbl := List.mem_of_getElem? (i := 826) rfl
set_option maxRecDepth 100000 in
theorem ck_99 : Cond.code y_Mo_isKind.1 y_Mo_isKind.2.1 y_Mo_isKind.2.2.1 y_Mo_isKind.2.2.2.1 ∈ lw_tbl := List.mem_of_getElem? (i := 830) rfl
set_option maxRecDepth 100000 in
theorem ck_100 : Cond.code y_Mo_isShare.1 y_Mo_isShare.2.1 y_Mo_isShare.2.2.1 y_Mo_isShare.2.2.2.1 ∈ lw_tbl := List.mem_of_getElem? (i := 833) rfl
set_option maxRecDepth 100000 in
theorem ck_101 : Cond.code y_Mo_fits.1 y_Mo_fits.2.1 y_Mo_fits.2.2.1 y_Mo_fits.2.2.2.1 ∈ lw_tbl := List.mem_of_getElem? (i := 838) rfl
set_option maxRecDepth 100000 in
theorem ck_102 : Cond.code y_Mo_crush.1 y_Mo_crush.2.1 y_Mo_crush.2.2.1 y_Mo_crush.2.2.2.1 ∈ lw_tbl := List.mem_of_getElem? (i := 842) rfl
set_option maxRecDepth 100000 in
theorem ck_103 : Cond.code y_Mo_feed.1 y_Mo_feed.2.1 y_Mo_feed.2.2.1 y_Mo_feed.2.2.2.1 ∈ lw_tbl := List.mem_of_getElem? (i := 846) rfl
set_option maxRecDepth 100000 in
theorem ck_104 : Cond.code y_Mo_span.1 y_Mo_span.2.1 y_Mo_span.2.2.1 y_Mo_span.2.2.2.1 ∈ lw_tbl := List.mem_of_getElem? (i := 851) rfl
set_option maxRecDepth 100000 in
theorem ck_105 : Cond.code y_Mo_solve.1 y_Mo_solve.2.1 y_Mo_solve.2.2.1 y_Mo_solve.2.2.2.1 ∈ lw_tbl := List.mem_of_getElem? (i := 856) rfl
set_option maxRecDepth 100000 in
theorem ck_106 : Cond.code y_Mo_layOut.1 y_Mo_layOut.2.1 y_Mo_layOut.2.2.1 y_Mo_layOut.2.2.2.1 ∈ lw_tbl := List.mem_of_getElem? (i := 860) rfl
set_option maxRecDepth 100000 in
theorem ck_107 : Cond.code y_Mo_layNode.1 y_Mo_layNode.2.1 y_Mo_layNode.2.2.1 y_Mo_layNode.2.2.2.1 ∈ lw_tbl := List.mem_of_getElem? (i := 864) rfl
set_option maxRecDepth 100000 in
theorem ck_108 : Cond.code y_Mo_common.1 y_Mo_common.2.1 y_Mo_common.2.2.1 y_Mo_common.2.2.2.1 ∈ lw_tbl := List.mem_of_getElem? (i := 868) rfl
set_option maxRecDepth 100000 in
theorem ck_109 : Cond.code y_Mo_shareAt.1 y_Mo_shareAt.2.1 y_Mo_shareAt.2.2.1 y_Mo_shareAt.2.2.2.1 ∈ lw_tbl := List.mem_of_getElem? (i := 872) rfl
set_option maxRecDepth 100000 in
theorem ck_110 : Cond.code y_Mo_part.1 y_Mo_part.2.1 y_Mo_part.2.2.1 y_Mo_part.2.2.2.1 ∈ lw_tbl := List.mem_of_getElem? (i := 876) rfl
set_option maxRecDepth 100000 in
theorem ck_111 : Cond.code y_Mo_stuck.1 y_Mo_stuck.2.1 y_Mo_stuck.2.2.1 y_Mo_stuck.2.2.2.1 ∈ lw_tbl := List.mem_of_getElem? (i := 880) rfl
set_option maxRecDepth 100000 in
theorem ck_112 : Cond.code y_Mo_goes.1 y_Mo_goes.2.1 y_Mo_goes.2.2.1 y_Mo_goes.2.2.2.1 ∈ lw_tbl := List.mem_of_getElem? (i := 884) rfl
set_option maxRecDepth 100000 in
theorem ck_113 : Cond.code y_Mo_freeze.1 y_Mo_freeze.2.1 y_Mo_freeze.2.2.1 y_Mo_freeze.2.2.2.1 ∈ lw_tbl := List.mem_of_getElem? (i := 888) rfl
set_option maxRecDepth 100000 in
theorem ck_114 : Cond.code y_Mo_out.1 y_Mo_out.2.1 y_Mo_out.2.2.1 y_Mo_out.2.2.2.1 ∈ lw_tbl := List.mem_of_getElem? (i := 892) rfl
set_option maxRecDepth 100000 in
theorem ck_115 : Cond.code y_Mo_prepare.1 y_Mo_prepare.2.1 y_Mo_prepare.2.2.1 y_Mo_prepare.2.2.2.1 ∈ lw_tbl := List.mem_of_getElem? (i := 897) rfl
set_option maxRecDepth 100000 in
theorem ck_116 : Cond.code y_Mo_turn.1 y_Mo_turn.2.1 y_Mo_turn.2.2.1 y_Mo_turn.2.2.2.1 ∈ lw_tbl := List.mem_of_getElem? (i := 901) rfl
set_option maxRecDepth 100000 in
theorem ck_117 : Cond.code y_Mo_turnBy.1 y_Mo_turnBy.2.1 y_Mo_turnBy.2.2.1 y_Mo_turnBy.2.2.2.1 ∈ lw_tbl := List.mem_of_getElem? (i := 905) rfl
set_option maxRecDepth 100000 in
theorem ck_118 : Cond.code y_Mo_multiply_1.1 y_Mo_multiply_1.2.1 y_Mo_multiply_1.2.2.1 y_Mo_multiply_1.2.2.2.1 ∈ lw_tbl := List.mem_of_getElem? (i := 909) rfl
set_option maxRecDepth 100000 in
theorem ck_119 : Cond.code y_Mo_inverse.1 y_Mo_inverse.2.1 y_Mo_inverse.2.2.1 y_Mo_inverse.2.2.2.1 ∈ lw_tbl := List.mem_of_getElem? (i := 912) rfl
set_option maxRecDepth 100000 in
theorem ck_120 : Cond.code y_Mo_raise.1 y_Mo_raise.2.1 y_Mo_raise.2.2.1 y_Mo_raise.2.2.2.1 ∈ lw_tbl := List.mem_of_getElem? (i := 916) rfl
set_option maxRecDepth 100000 in
theorem ck_121 : Cond.code y_Mo_gatherOver.1 y_Mo_gatherOver.2.1 y_Mo_gatherOver.2.2.1 y_Mo_gatherOver.2.2.2.1 ∈ lw_tbl := List.mem_of_getElem? (i := 920) rfl
set_option maxRecDepth 100000 in
theorem ck_122 : Cond.code y_Mo_gather.1 y_Mo_gather.2.1 y_Mo_gather.2.2.1 y_Mo_gather.2.2.2.1 ∈ lw_tbl := List.mem_of_getElem? (i := 924) rfl
set_option maxRecDepth 100000 in
theorem ck_123 : Cond.code y_Mo_clear.1 y_Mo_clear.2.1 y_Mo_clear.2.2.1 y_Mo_clear.2.2.2.1 ∈ lw_tbl := List.mem_of_getElem? (i := 928) rfl
set_option maxRecDepth 100000 in
theorem ck_124 : Cond.code y_Mo_grow.1 y_Mo_grow.2.1 y_Mo_grow.2.2.1 y_Mo_grow.2.2.2.1 ∈ lw_tbl := List.mem_of_getElem? (i := 932) rfl
set_option maxRecDepth 100000 in
theorem ck_125 : Cond.code y_Mo_add.1 y_Mo_add.2.1 y_Mo_add.2.2.1 y_Mo_add.2.2.2.1 ∈ lw_tbl := List.mem_of_getElem? (i := 937) rfl
set_option maxRecDepth 100000 in
theorem ck_126 : Cond.code y_Mo_clearWeights.1 y_Mo_clearWeights.2.1 y_Mo_clearWeights.2.2.1 y_Mo_clearWeights.2.2.2.1 ∈ lw_tbl := List.mem_of_getElem? (i := 941) rfl
set_option maxRecDepth 100000 in
theorem ck_127 : Cond.code y_Mo_weighPort.1 y_Mo_weighPort.2.1 y_Mo_weighPort.2.2.1 y_Mo_weighPort.2.2.2.1 ∈ lw_tbl := List.mem_of_getElem? (i := 945) rfl
set_option maxRecDepth 100000 in
theorem ck_128 : Cond.code y_Mo_gatherAmount.1 y_Mo_gatherAmount.2.1 y_Mo_gatherAmount.2.2.1 y_Mo_gatherAmount.2.2.2.1 ∈ lw_tbl := List.mem_of_getElem? (i := 949) rfl
set_option maxRecDepth 100000 in
theorem ck_129 : Cond.code y_Mo_partOf.1 y_Mo_partOf.2.1 y_Mo_partOf.2.2.1 y_Mo_partOf.2.2.2.1 ∈ lw_tbl := List.mem_of_getElem? (i := 953) rfl
set_option maxRecDepth 100000 in
theorem ck_130 : Cond.code y_Mo_divide.1 y_Mo_divide.2.1 y_Mo_divide.2.2.1 y_Mo_divide.2.2.2.1 ∈ lw_tbl := List.mem_of_getElem? (i := 957) rfl
set_option maxRecDepth 100000 in
theorem ck_131 : Cond.code y_Mo_wordsOf.1 y_Mo_wordsOf.2.1 y_Mo_wordsOf.2.2.1 y_Mo_wordsOf.2.2.2.1 ∈ lw_tbl := List.mem_of_getElem? (i := 961) rfl
set_option maxRecDepth 100000 in
theorem ck_132 : Cond.code y_Mo_growUsed.1 y_Mo_growUsed.2.1 y_Mo_growUsed.2.2.1 y_Mo_growUsed.2.2.2.1 ∈ lw_tbl := List.mem_of_getElem? (i := 965) rfl
set_option maxRecDepth 100000 in
theorem ck_133 : Cond.code y_Mo_isLeftLess.1 y_Mo_isLeftLess.2.1 y_Mo_isLeftLess.2.2.1 y_Mo_isLeftLess.2.2.2.1 ∈ lw_tbl := List.mem_of_getElem? (i := 969) rfl
set_option maxRecDepth 100000 in
theorem ck_134 : Cond.code y_Mo_lessenLeft.1 y_Mo_lessenLeft.2.1 y_Mo_lessenLeft.2.2.1 y_Mo_lessenLeft.2.2.2.1 ∈ lw_tbl := List.mem_of_getElem? (i := 973) rfl
set_option maxRecDepth 100000 in
theorem ck_135 : Cond.code y_Mo_isZero.1 y_Mo_isZero.2.1 y_Mo_isZero.2.2.1 y_Mo_isZero.2.2.2.1 ∈ lw_tbl := List.mem_of_getElem? (i := 977) rfl
set_option maxRecDepth 100000 in
theorem ck_136 : Cond.code y_Mo_copy.1 y_Mo_copy.2.1 y_Mo_copy.2.2.1 y_Mo_copy.2.2.2.1 ∈ lw_tbl := List.mem_of_getElem? (i := 981) rfl
set_option maxRecDepth 100000 in
theorem ck_137 : Cond.code y_Mo_lessen.1 y_Mo_lessen.2.1 y_Mo_lessen.2.2.1 y_Mo_lessen.2.2.2.1 ∈ lw_tbl := List.mem_of_getElem? (i := 985) rfl
set_option maxRecDepth 100000 in
theorem ck_138 : Cond.code y_Mo_load.1 y_Mo_load.2.1 y_Mo_load.2.2.1 y_Mo_load.2.2.2.1 ∈ lw_tbl := List.mem_of_getElem? (i := 989) rfl
set_option maxRecDepth 100000 in
theorem ck_139 : Cond.code y_Mo_reckonLoad.1 y_Mo_reckonLoad.2.1 y_Mo_reckonLoad.2.2.1 y_Mo_reckonLoad.2.2.2.1 ∈ lw_tbl := List.mem_of_getElem? (i := 993) rfl
set_option maxRecDepth 100000 in
theorem ck_140 : Cond.code y_Mo_over.1 y_Mo_over.2.1 y_Mo_over.2.2.1 y_Mo_over.2.2.2.1 ∈ lw_tbl := List.mem_of_getElem? (i := 997) rfl
set_option maxRecDepth 100000 in
theorem ck_141 : Cond.code y_Mo_isOver.1 y_Mo_isOver.2.1 y_Mo_isOver.2.2.1 y_Mo_isOver.2.2.2.1 ∈ lw_tbl := List.mem_of_getElem? (i := 1001) rfl
set_option maxRecDepth 100000 in
theorem ck_142 : Cond.code y_Mo_slope.1 y_Mo_slope.2.1 y_Mo_slope.2.2.1 y_Mo_slope.2.2.2.1 ∈ lw_tbl := List.mem_of_getElem? (i := 1005) rfl
set_option maxRecDepth 100000 in
theorem ck_143 : Cond.code y_Mo_gatherOut.1 y_Mo_gatherOut.2.1 y_Mo_gatherOut.2.2.1 y_Mo_gatherOut.2.2.2.1 ∈ lw_tbl := List.mem_of_getElem? (i := 1009) rfl
set_option maxRecDepth 100000 in
theorem ck_144 : Cond.code y_Mo_gatherWorth.1 y_Mo_gatherWorth.2.1 y_Mo_gatherWorth.2.2.1 y_Mo_gatherWorth.2.2.2.1 ∈ lw_tbl := List.mem_of_getElem? (i := 1013) rfl
set_option maxRecDepth 100000 in
theorem ck_145 : Cond.code y_Mo_isLess.1 y_Mo_isLess.2.1 y_Mo_isLess.2.2.1 y_Mo_isLess.2.2.2.1 ∈ lw_tbl := List.mem_of_getElem? (i := 1017) rfl
set_option maxRecDepth 100000 in
theorem ck_146 : Cond.code y_Mo_multiply_2.1 y_Mo_multiply_2.2.1 y_Mo_multiply_2.2.2.1 y_Mo_multiply_2.2.2.2.1 ∈ lw_tbl := List.mem_of_getElem? (i := 1021) rfl
set_option maxRecDepth 100000 in
theorem ck_147 : Cond.code y_Mo_purity.1 y_Mo_purity.2.1 y_Mo_purity.2.2.1 y_Mo_purity.2.2.2.1 ∈ lw_tbl := List.mem_of_getElem? (i := 1025) rfl
set_option maxRecDepth 100000 in
theorem ck_148 : Cond.code y_Mo_change.1 y_Mo_change.2.1 y_Mo_change.2.2.1 y_Mo_change.2.2.2.1 ∈ lw_tbl := List.mem_of_getElem? (i := 1029) rfl
set_option maxRecDepth 100000 in
theorem ck_149 : Cond.code y_Mo_find.1 y_Mo_find.2.1 y_Mo_find.2.2.1 y_Mo_find.2.2.2.1 ∈ lw_tbl := List.mem_of_getElem? (i := 1035) rfl
set_option maxRecDepth 100000 in
theorem ck_150 : Cond.code y_Mo_brings.1 y_Mo_brings.2.1 y_Mo_brings.2.2.1 y_Mo_brings.2.2.2.1 ∈ lw_tbl := List.mem_of_getElem? (i := 1039) rfl
set_option maxRecDepth 100000 in
theorem ck_151 : Cond.code y_Mo_kept.1 y_Mo_kept.2.1 y_Mo_kept.2.2.1 y_Mo_kept.2.2.2.1 ∈ lw_tbl := List.mem_of_getElem? (i := 1043) rfl
set_option maxRecDepth 100000 in
theorem ck_152 : Cond.code y_Ar_fill.1 y_Ar_fill.2.1 y_Ar_fill.2.2.1 y_Ar_fill.2.2.2.1 ∈ lw_tbl := List.mem_of_getElem? (i := 90) rfl
set_option maxRecDepth 100000 in
theorem ck_153 : Cond.code y_In_numberOfLeadingZeros.1 y_In_numberOfLeadingZeros.2.1 y_In_numberOfLeadingZeros.2.2.1 y_In_numberOfLeadingZeros.2.2.2.1 ∈ lw_tbl := List.mem_of_getElem? (i := 498) rfl
set_option maxRecDepth 100000 in
theorem ck_154 : Cond.code y_Lw_cell.1 y_Lw_cell.2.1 y_Lw_cell.2.2.1 y_Lw_cell.2.2.2.1 ∈ lw_tbl := List.mem_of_getElem? (i := 677) rfl
theorem jm_ck : ∀ y ∈ jm_mtL, Cond.code y.1 y.2.1 y.2.2.1 y.2.2.2.1 ∈ lw_tbl := List.forall_mem_cons.mpr ⟨ck_0, List.forall_mem_cons.mpr ⟨ck_1, List.forall_mem_cons.mpr ⟨ck_2, List.forall_mem_cons.mpr ⟨ck_3, List.forall_mem_cons.mpr ⟨ck_4, List.forall_mem_cons.mpr ⟨ck_5, List.forall_mem_cons.mpr ⟨ck_6, List.forall_mem_cons.mpr ⟨ck_7, List.forall_mem_cons.mpr ⟨ck_8, List.forall_mem_cons.mpr ⟨ck_9, List.forall_mem_cons.mpr ⟨ck_10, List.forall_mem_cons.mpr ⟨ck_11, List.forall_mem_cons.mpr ⟨ck_12, List.forall_mem_cons.mpr ⟨ck_13, List.forall_mem_cons.mpr ⟨ck_14, List.forall_mem_cons.mpr ⟨ck_15, List.forall_mem_cons.mpr ⟨ck_16, List.forall_mem_cons.mpr ⟨ck_17, List.forall_mem_cons.mpr ⟨ck_18, List.forall_mem_cons.mpr ⟨ck_19, List.forall_mem_cons.mpr ⟨ck_20, List.forall_mem_cons.mpr ⟨ck_21, List.forall_mem_cons.mpr ⟨ck_22, List.forall_mem_cons.mpr ⟨ck_23, List.forall_mem_cons.mpr ⟨ck_24, List.forall_mem_cons.mpr ⟨ck_25, List.forall_mem_cons.mpr ⟨ck_26, List.forall_mem_cons.mpr ⟨ck_27, List.forall_mem_cons.mpr ⟨ck_28, List.forall_mem_cons.mpr ⟨ck_29, List.forall_mem_cons.mpr ⟨ck_30, List.forall_mem_cons.mpr ⟨ck_31, List.forall_mem_cons.mpr ⟨ck_32, List.forall_mem_cons.mpr ⟨ck_33, List.forall_mem_cons.mpr ⟨ck_34, List.forall_mem_cons.mpr ⟨ck_35, List.forall_mem_cons.mpr ⟨ck_36, List.forall_mem_cons.mpr ⟨ck_37, List.forall_mem_cons.mpr ⟨ck_38, List.forall_mem_cons.mpr ⟨ck_39, List.forall_mem_cons.mpr ⟨ck_40, List.forall_mem_cons.mpr ⟨ck_41, List.forall_mem_cons.mpr ⟨ck_42, List.forall_mem_cons.mpr ⟨ck_43, List.forall_mem_cons.mpr ⟨ck_44, List.forall_mem_cons.mpr ⟨ck_45, List.forall_mem_cons.mpr ⟨ck_46, List.forall_mem_cons.mpr ⟨ck_47, List.forall_mem_cons.mpr ⟨ck_48, List.forall_mem_cons.mpr ⟨ck_49, List.forall_mem_cons.mpr ⟨ck_50, List.forall_mem_cons.mpr ⟨ck_51, List.forall_mem_cons.mpr ⟨ck_52, List.forall_mem_cons.mpr ⟨ck_53, List.forall_mem_cons.mpr ⟨ck_54, List.forall_mem_cons.mpr ⟨ck_55, List.forall_mem_cons.mpr ⟨ck_56, List.forall_mem_cons.mpr ⟨ck_57, List.forall_mem_cons.mpr ⟨ck_58, List.forall_mem_cons.mpr ⟨ck_59, List.forall_mem_cons.mpr ⟨ck_60, List.forall_mem_cons.mpr ⟨ck_61, List.forall_mem_cons.mpr ⟨ck_62, List.forall_mem_cons.mpr ⟨ck_63, List.forall_mem_cons.mpr ⟨ck_64, List.forall_mem_cons.mpr ⟨ck_65, List.forall_mem_cons.mpr ⟨ck_66, List.forall_mem_cons.mpr ⟨ck_67, List.forall_mem_cons.mpr ⟨ck_68, List.forall_mem_cons.mpr ⟨ck_69, List.forall_mem_cons.mpr ⟨ck_70, List.forall_mem_cons.mpr ⟨ck_71, List.forall_mem_cons.mpr ⟨ck_72, List.forall_mem_cons.mpr ⟨ck_73, List.forall_mem_cons.mpr ⟨ck_74, List.forall_mem_cons.mpr ⟨ck_75, List.forall_mem_cons.mpr ⟨ck_76, List.forall_mem_cons.mpr ⟨ck_77, List.forall_mem_cons.mpr ⟨ck_78, List.forall_mem_cons.mpr ⟨ck_79, List.forall_mem_cons.mpr ⟨ck_80, List.forall_mem_cons.mpr ⟨ck_81, List.forall_mem_cons.mpr ⟨ck_82, List.forall_mem_cons.mpr ⟨ck_83, List.forall_mem_cons.mpr ⟨ck_84, List.forall_mem_cons.mpr ⟨ck_85, List.forall_mem_cons.mpr ⟨ck_86, List.forall_mem_cons.mpr ⟨ck_87, List.forall_mem_cons.mpr ⟨ck_88, List.forall_mem_cons.mpr ⟨ck_89, List.forall_mem_cons.mpr ⟨ck_90, List.forall_mem_cons.mpr ⟨ck_91, List.forall_mem_cons.mpr ⟨ck_92, List.forall_mem_cons.mpr ⟨ck_93, List.forall_mem_cons.mpr ⟨ck_94, List.forall_mem_cons.mpr ⟨ck_95, List.forall_mem_cons.mpr ⟨ck_96, List.forall_mem_cons.mpr ⟨ck_97, List.forall_mem_cons.mpr ⟨ck_98, List.forall_mem_cons.mpr ⟨ck_99, List.forall_mem_cons.mpr ⟨ck_100, List.forall_mem_cons.mpr ⟨ck_101, List.forall_mem_cons.mpr ⟨ck_102, List.forall_mem_cons.mpr ⟨ck_103, List.forall_mem_cons.mpr ⟨ck_104, List.forall_mem_cons.mpr ⟨ck_105, List.forall_mem_cons.mpr ⟨ck_106, List.forall_mem_cons.mpr ⟨ck_107, List.forall_mem_cons.mpr ⟨ck_108, List.forall_mem_cons.mpr ⟨ck_109, List.forall_mem_cons.mpr ⟨ck_110, List.forall_mem_cons.mpr ⟨ck_111, List.forall_mem_cons.mpr ⟨ck_112, List.forall_mem_cons.mpr ⟨ck_113, List.forall_mem_cons.mpr ⟨ck_114, List.forall_mem_cons.mpr ⟨ck_115, List.forall_mem_cons.mpr ⟨ck_116, List.forall_mem_cons.mpr ⟨ck_117, List.forall_mem_cons.mpr ⟨ck_118, List.forall_mem_cons.mpr ⟨ck_119, List.forall_mem_cons.mpr ⟨ck_120, List.forall_mem_cons.mpr ⟨ck_121, List.forall_mem_cons.mpr ⟨ck_122, List.forall_mem_cons.mpr ⟨ck_123, List.forall_mem_cons.mpr ⟨ck_124, List.forall_mem_cons.mpr ⟨ck_125, List.forall_mem_cons.mpr ⟨ck_126, List.forall_mem_cons.mpr ⟨ck_127, List.forall_mem_cons.mpr ⟨ck_128, List.forall_mem_cons.mpr ⟨ck_129, List.forall_mem_cons.mpr ⟨ck_130, List.forall_mem_cons.mpr ⟨ck_131, List.forall_mem_cons.mpr ⟨ck_132, List.forall_mem_cons.mpr ⟨ck_133, List.forall_mem_cons.mpr ⟨ck_134, List.forall_mem_cons.mpr ⟨ck_135, List.forall_mem_cons.mpr ⟨ck_136, List.forall_mem_cons.mpr ⟨ck_137, List.forall_mem_cons.mpr ⟨ck_138, List.forall_mem_cons.mpr ⟨ck_139, List.forall_mem_cons.mpr ⟨ck_140, List.forall_mem_cons.mpr ⟨ck_141, List.forall_mem_cons.mpr ⟨ck_142, List.forall_mem_cons.mpr ⟨ck_143, List.forall_mem_cons.mpr ⟨ck_144, List.forall_mem_cons.mpr ⟨ck_145, List.forall_mem_cons.mpr ⟨ck_146, List.forall_mem_cons.mpr ⟨ck_147, List.forall_mem_cons.mpr ⟨ck_148, List.forall_mem_cons.mpr ⟨ck_149, List.forall_mem_cons.mpr ⟨ck_150, List.forall_mem_cons.mpr ⟨ck_151, List.forall_mem_cons.mpr ⟨ck_152, List.forall_mem_cons.mpr ⟨ck_153, List.forall_mem_cons.mpr ⟨ck_154, fun _ h => absurd h List.not_mem_nil⟩⟩⟩⟩⟩⟩⟩⟩⟩⟩⟩⟩⟩⟩⟩⟩⟩⟩⟩⟩⟩⟩⟩⟩⟩⟩⟩⟩⟩⟩⟩⟩⟩⟩⟩⟩⟩⟩⟩⟩⟩⟩⟩⟩⟩⟩⟩⟩⟩⟩⟩⟩⟩⟩⟩⟩⟩⟩⟩⟩⟩⟩⟩⟩⟩⟩⟩⟩⟩⟩⟩⟩⟩⟩⟩⟩⟩⟩⟩⟩⟩⟩⟩⟩⟩⟩⟩⟩⟩⟩⟩⟩⟩⟩⟩⟩⟩⟩⟩⟩⟩⟩⟩⟩⟩⟩⟩⟩⟩⟩⟩⟩⟩⟩⟩⟩⟩⟩⟩⟩⟩⟩⟩⟩⟩⟩⟩⟩⟩⟩⟩⟩⟩⟩⟩⟩⟩⟩⟩⟩⟩⟩⟩⟩⟩⟩⟩⟩⟩⟩⟩⟩⟩⟩⟩
theorem jm_mok_all : (List.range 155).all (fun k => jm_mok (jm_mt k) (jm_st k).1 (jm_st k).2.1 (jm_st k).2.2.1 (jm_st k).2.2.2.1 (jm_st k).2.2.2.2) = true := by decide +kernel
/-- all that is said of a method -/
def jm_mf (k : Nat) : Prop := (Cond.code (jm_mt k).1 (jm_mt k).2.1 (jm_mt k).2.2.1 (jm_mt k).2.2.2.1 ∈ jm_Tb) ∧ ((jm_mt k).1.cls ≠ "java/lang/invoke/MethodHandle" ∧ (jm_mt k).1.cls ≠ "java/lang/invoke/VarHandle") ∧ plainName (jm_mt k).1.cls = true ∧ Cond.initialized (jm_mt k).1.cls ∈ jm_Tb ∧ ((jm_st k).1 = true → Cond.static (jm_mt k).1 ∈ jm_Tb) ∧ ((jm_st k).1 = false → Cond.instanceMethod (jm_mt k).1 ∈ jm_Tb ∧ ((jm_mt k).1.name = "<init>" ∨ Cond.selects (jm_mt k).1.cls (jm_mt k).1 (jm_mt k).1 ∈ jm_Tb))
theorem jm_mf_all (k : Nat) (h : k < jm_mtL.length) : jm_mf k := by
  have h1 := List.all_eq_true.mp jm_mok_all k (List.mem_range.mpr h)
  have h2 : jm_mt k ∈ jm_mtL := by
    unfold jm_mt
    rw [List.getD_eq_getElem?_getD, List.getElem?_eq_getElem h]
    exact List.getElem_mem h
  have h3 := jm_ck _ h2
  simp only [jm_mok, Bool.and_eq_true, decide_eq_true_eq] at h1
  obtain ⟨⟨⟨q1, q2⟩, q3⟩, q4⟩ := h1
  refine ⟨List.mem_filter.mpr ⟨h3, rfl⟩, q1, q2, jm_wd_in q3, fun e => ?_, fun e => ?_⟩
  · rw [e] at q4
    exact jm_wd_in q4
  · rw [e] at q4
    simp only [Bool.false_eq_true, if_false, Bool.and_eq_true, Bool.or_eq_true, decide_eq_true_eq] at q4
    exact ⟨jm_wd_in q4.1, q4.2.elim Or.inl (fun z => Or.inr (jm_wd_in z))⟩
