-- ===== PART A: goes FIRST, ahead of the names: the tables' words, and 'selects' of the private methods out of them =====
/-- a private method of a class that the tables say can be made, by its rows of tables_1 -/
def lw_okq (q : MethodName × Nat) : Prop := (q.1.cls ≠ "java/lang/invoke/MethodHandle" ∧ q.1.cls ≠ "java/lang/invoke/VarHandle") ∧ Cond.instantiable q.1.cls q.2 ∈ tables_1 ∧ Cond.privateMethod q.1 ∈ tables_1 ∧ Cond.instanceMethod q.1 ∈ tables_1
theorem lw_p0 : lw_okq (⟨"TaintScanner", "addLine", "(IIII)I"⟩, 3) := ⟨⟨by decide +kernel, by decide +kernel⟩, List.mem_of_getElem? (i := 17) (by decide +kernel), List.mem_of_getElem? (i := 351) (by decide +kernel), List.mem_of_getElem? (i := 352) (by decide +kernel)⟩
theorem lw_p1 : lw_okq (⟨"TaintScanner$Program", "openBlock", "()V"⟩, 11) := ⟨⟨by decide +kernel, by decide +kernel⟩, List.mem_of_getElem? (i := 25) (by decide +kernel), List.mem_of_getElem? (i := 363) (by decide +kernel), List.mem_of_getElem? (i := 364) (by decide +kernel)⟩
theorem lw_p2 : lw_okq (⟨"TaintScanner$Program", "openOther", "()V"⟩, 11) := ⟨⟨by decide +kernel, by decide +kernel⟩, List.mem_of_getElem? (i := 25) (by decide +kernel), List.mem_of_getElem? (i := 367) (by decide +kernel), List.mem_of_getElem? (i := 368) (by decide +kernel)⟩
theorem lw_p3 : lw_okq (⟨"TaintScanner$Program", "closeBlock", "()V"⟩, 11) := ⟨⟨by decide +kernel, by decide +kernel⟩, List.mem_of_getElem? (i := 25) (by decide +kernel), List.mem_of_getElem? (i := 371) (by decide +kernel), List.mem_of_getElem? (i := 372) (by decide +kernel)⟩
theorem lw_p4 : lw_okq (⟨"TaintScanner", "addOpening", "(IIII)I"⟩, 3) := ⟨⟨by decide +kernel, by decide +kernel⟩, List.mem_of_getElem? (i := 17) (by decide +kernel), List.mem_of_getElem? (i := 398) (by decide +kernel), List.mem_of_getElem? (i := 399) (by decide +kernel)⟩
theorem lw_p5 : lw_okq (⟨"TaintScanner$Analysis", "enter", "(LTaintScanner$Program;I)V"⟩, 17) := ⟨⟨by decide +kernel, by decide +kernel⟩, List.mem_of_getElem? (i := 84) (by decide +kernel), List.mem_of_getElem? (i := 451) (by decide +kernel), List.mem_of_getElem? (i := 452) (by decide +kernel)⟩
theorem lw_p6 : lw_okq (⟨"TaintScanner$Analysis", "keep", "(LTaintScanner$Program;IZ)V"⟩, 17) := ⟨⟨by decide +kernel, by decide +kernel⟩, List.mem_of_getElem? (i := 84) (by decide +kernel), List.mem_of_getElem? (i := 462) (by decide +kernel), List.mem_of_getElem? (i := 463) (by decide +kernel)⟩
theorem lw_p7 : lw_okq (⟨"TaintScanner$Sequence", "keyOf", "(II)I"⟩, 2) := ⟨⟨by decide +kernel, by decide +kernel⟩, List.mem_of_getElem? (i := 173) (by decide +kernel), List.mem_of_getElem? (i := 495) (by decide +kernel), List.mem_of_getElem? (i := 496) (by decide +kernel)⟩
theorem lw_p8 : lw_okq (⟨"TaintScanner$Automaton", "reach", "(II)I"⟩, 9) := ⟨⟨by decide +kernel, by decide +kernel⟩, List.mem_of_getElem? (i := 113) (by decide +kernel), List.mem_of_getElem? (i := 503) (by decide +kernel), List.mem_of_getElem? (i := 504) (by decide +kernel)⟩
theorem lw_p9 : lw_okq (⟨"TaintScanner$Automaton", "refine", "()I"⟩, 9) := ⟨⟨by decide +kernel, by decide +kernel⟩, List.mem_of_getElem? (i := 113) (by decide +kernel), List.mem_of_getElem? (i := 557) (by decide +kernel), List.mem_of_getElem? (i := 558) (by decide +kernel)⟩
theorem lw_p10 : lw_okq (⟨"TaintScanner$Automaton", "letters", "()I"⟩, 9) := ⟨⟨by decide +kernel, by decide +kernel⟩, List.mem_of_getElem? (i := 113) (by decide +kernel), List.mem_of_getElem? (i := 562) (by decide +kernel), List.mem_of_getElem? (i := 563) (by decide +kernel)⟩
theorem lw_p11 : lw_okq (⟨"TaintScanner$Automaton", "spreadGood", "()Z"⟩, 9) := ⟨⟨by decide +kernel, by decide +kernel⟩, List.mem_of_getElem? (i := 113) (by decide +kernel), List.mem_of_getElem? (i := 566) (by decide +kernel), List.mem_of_getElem? (i := 567) (by decide +kernel)⟩
theorem lw_p12 : lw_okq (⟨"TaintScanner$Automaton", "write", "(LTaintScanner$Language;I)V"⟩, 9) := ⟨⟨by decide +kernel, by decide +kernel⟩, List.mem_of_getElem? (i := 113) (by decide +kernel), List.mem_of_getElem? (i := 574) (by decide +kernel), List.mem_of_getElem? (i := 575) (by decide +kernel)⟩
theorem lw_p13 : lw_okq (⟨"TaintScanner$Analysis", "turn", "(LTaintScanner$Program;I)V"⟩, 17) := ⟨⟨by decide +kernel, by decide +kernel⟩, List.mem_of_getElem? (i := 84) (by decide +kernel), List.mem_of_getElem? (i := 588) (by decide +kernel), List.mem_of_getElem? (i := 589) (by decide +kernel)⟩
theorem lw_p14 : lw_okq (⟨"TaintScanner$Analysis", "leaveWhen", "(LTaintScanner$Program;I)V"⟩, 17) := ⟨⟨by decide +kernel, by decide +kernel⟩, List.mem_of_getElem? (i := 84) (by decide +kernel), List.mem_of_getElem? (i := 596) (by decide +kernel), List.mem_of_getElem? (i := 597) (by decide +kernel)⟩
theorem lw_p15 : lw_okq (⟨"TaintScanner$Analysis", "unite", "(LTaintScanner$Language;LTaintScanner$Language;)V"⟩, 17) := ⟨⟨by decide +kernel, by decide +kernel⟩, List.mem_of_getElem? (i := 84) (by decide +kernel), List.mem_of_getElem? (i := 600) (by decide +kernel), List.mem_of_getElem? (i := 601) (by decide +kernel)⟩
def lw_privs_1 : List (MethodName × Nat) := [(⟨"TaintScanner", "addLine", "(IIII)I"⟩, 3), (⟨"TaintScanner$Program", "openBlock", "()V"⟩, 11), (⟨"TaintScanner$Program", "openOther", "()V"⟩, 11), (⟨"TaintScanner$Program", "closeBlock", "()V"⟩, 11), (⟨"TaintScanner", "addOpening", "(IIII)I"⟩, 3), (⟨"TaintScanner$Analysis", "enter", "(LTaintScanner$Program;I)V"⟩, 17), (⟨"TaintScanner$Analysis", "keep", "(LTaintScanner$Program;IZ)V"⟩, 17), (⟨"TaintScanner$Sequence", "keyOf", "(II)I"⟩, 2), (⟨"TaintScanner$Automaton", "reach", "(II)I"⟩, 9), (⟨"TaintScanner$Automaton", "refine", "()I"⟩, 9), (⟨"TaintScanner$Automaton", "letters", "()I"⟩, 9), (⟨"TaintScanner$Automaton", "spreadGood", "()Z"⟩, 9), (⟨"TaintScanner$Automaton", "write", "(LTaintScanner$Language;I)V"⟩, 9), (⟨"TaintScanner$Analysis", "turn", "(LTaintScanner$Program;I)V"⟩, 17), (⟨"TaintScanner$Analysis", "leaveWhen", "(LTaintScanner$Program;I)V"⟩, 17), (⟨"TaintScanner$Analysis", "unite", "(LTaintScanner$Language;LTaintScanner$Language;)V"⟩, 17)]
theorem lw_r1 : ∀ q ∈ lw_privs_1, lw_okq q := List.forall_mem_cons.mpr ⟨lw_p0, List.forall_mem_cons.mpr ⟨lw_p1, List.forall_mem_cons.mpr ⟨lw_p2, List.forall_mem_cons.mpr ⟨lw_p3, List.forall_mem_cons.mpr ⟨lw_p4, List.forall_mem_cons.mpr ⟨lw_p5, List.forall_mem_cons.mpr ⟨lw_p6, List.forall_mem_cons.mpr ⟨lw_p7, List.forall_mem_cons.mpr ⟨lw_p8, List.forall_mem_cons.mpr ⟨lw_p9, List.forall_mem_cons.mpr ⟨lw_p10, List.forall_mem_cons.mpr ⟨lw_p11, List.forall_mem_cons.mpr ⟨lw_p12, List.forall_mem_cons.mpr ⟨lw_p13, List.forall_mem_cons.mpr ⟨lw_p14, List.forall_mem_cons.mpr ⟨lw_p15, fun _ h => absurd h List.not_mem_nil⟩⟩⟩⟩⟩⟩⟩⟩⟩⟩⟩⟩⟩⟩⟩⟩
theorem lw_p16 : lw_okq (⟨"TaintScanner$Analysis", "closeRound", "(LTaintScanner$Program;I)I"⟩, 17) := ⟨⟨by decide +kernel, by decide +kernel⟩, List.mem_of_getElem? (i := 84) (by decide +kernel), List.mem_of_getElem? (i := 608) (by decide +kernel), List.mem_of_getElem? (i := 609) (by decide +kernel)⟩
theorem lw_p17 : lw_okq (⟨"TaintScanner$Language", "letters", "()I"⟩, 3) := ⟨⟨by decide +kernel, by decide +kernel⟩, List.mem_of_getElem? (i := 93) (by decide +kernel), List.mem_of_getElem? (i := 618) (by decide +kernel), List.mem_of_getElem? (i := 619) (by decide +kernel)⟩
theorem lw_p18 : lw_okq (⟨"TaintScanner$Language", "deadState", "()I"⟩, 3) := ⟨⟨by decide +kernel, by decide +kernel⟩, List.mem_of_getElem? (i := 93) (by decide +kernel), List.mem_of_getElem? (i := 622) (by decide +kernel), List.mem_of_getElem? (i := 623) (by decide +kernel)⟩
theorem lw_p19 : lw_okq (⟨"TaintScanner$Analysis", "change", "(LTaintScanner$Program;I)V"⟩, 17) := ⟨⟨by decide +kernel, by decide +kernel⟩, List.mem_of_getElem? (i := 84) (by decide +kernel), List.mem_of_getElem? (i := 627) (by decide +kernel), List.mem_of_getElem? (i := 628) (by decide +kernel)⟩
theorem lw_p20 : lw_okq (⟨"TaintScanner$Analysis", "isDead", "()Z"⟩, 17) := ⟨⟨by decide +kernel, by decide +kernel⟩, List.mem_of_getElem? (i := 84) (by decide +kernel), List.mem_of_getElem? (i := 631) (by decide +kernel), List.mem_of_getElem? (i := 632) (by decide +kernel)⟩
theorem lw_p21 : lw_okq (⟨"TaintScanner$Analysis", "atMost", "(LTaintScanner$Language;I)LTaintScanner$Language;"⟩, 17) := ⟨⟨by decide +kernel, by decide +kernel⟩, List.mem_of_getElem? (i := 84) (by decide +kernel), List.mem_of_getElem? (i := 644) (by decide +kernel), List.mem_of_getElem? (i := 645) (by decide +kernel)⟩
theorem lw_p22 : lw_okq (⟨"TaintScanner$Analysis", "imageOf", "(LTaintScanner$Language;I)LTaintScanner$Rule;"⟩, 17) := ⟨⟨by decide +kernel, by decide +kernel⟩, List.mem_of_getElem? (i := 84) (by decide +kernel), List.mem_of_getElem? (i := 653) (by decide +kernel), List.mem_of_getElem? (i := 654) (by decide +kernel)⟩
theorem lw_p23 : lw_okq (⟨"TaintScanner$Image", "lengthenSilent", "()V"⟩, 3) := ⟨⟨by decide +kernel, by decide +kernel⟩, List.mem_of_getElem? (i := 200) (by decide +kernel), List.mem_of_getElem? (i := 670) (by decide +kernel), List.mem_of_getElem? (i := 671) (by decide +kernel)⟩
theorem lw_p24 : lw_okq (⟨"TaintScanner$Analysis", "findWitnesses", "(I)V"⟩, 17) := ⟨⟨by decide +kernel, by decide +kernel⟩, List.mem_of_getElem? (i := 84) (by decide +kernel), List.mem_of_getElem? (i := 674) (by decide +kernel), List.mem_of_getElem? (i := 675) (by decide +kernel)⟩
theorem lw_p25 : lw_okq (⟨"TaintScanner", "hasSink", "(I)Z"⟩, 3) := ⟨⟨by decide +kernel, by decide +kernel⟩, List.mem_of_getElem? (i := 17) (by decide +kernel), List.mem_of_getElem? (i := 690) (by decide +kernel), List.mem_of_getElem? (i := 691) (by decide +kernel)⟩
theorem lw_p26 : lw_okq (⟨"TaintScanner$Interpreter", "goThrough", "(LTaintScanner$Program;I)I"⟩, 6) := ⟨⟨by decide +kernel, by decide +kernel⟩, List.mem_of_getElem? (i := 298) (by decide +kernel), List.mem_of_getElem? (i := 735) (by decide +kernel), List.mem_of_getElem? (i := 736) (by decide +kernel)⟩
theorem lw_p27 : lw_okq (⟨"TaintScanner$Interpreter", "put", "(IIJ)I"⟩, 6) := ⟨⟨by decide +kernel, by decide +kernel⟩, List.mem_of_getElem? (i := 298) (by decide +kernel), List.mem_of_getElem? (i := 740) (by decide +kernel), List.mem_of_getElem? (i := 741) (by decide +kernel)⟩
theorem lw_p28 : lw_okq (⟨"TaintScanner$Interpreter", "hand", "(IJ)V"⟩, 6) := ⟨⟨by decide +kernel, by decide +kernel⟩, List.mem_of_getElem? (i := 298) (by decide +kernel), List.mem_of_getElem? (i := 754) (by decide +kernel), List.mem_of_getElem? (i := 755) (by decide +kernel)⟩
theorem lw_p29 : lw_okq (⟨"TaintScannerModel", "add", "(IIII)I"⟩, 42) := ⟨⟨by decide +kernel, by decide +kernel⟩, List.mem_of_getElem? (i := 786) (by decide +kernel), List.mem_of_getElem? (i := 930) (by decide +kernel), List.mem_of_getElem? (i := 931) (by decide +kernel)⟩
theorem lw_p30 : lw_okq (⟨"TaintScannerModel", "begin", "(IIII)I"⟩, 42) := ⟨⟨by decide +kernel, by decide +kernel⟩, List.mem_of_getElem? (i := 786) (by decide +kernel), List.mem_of_getElem? (i := 954) (by decide +kernel), List.mem_of_getElem? (i := 955) (by decide +kernel)⟩
theorem lw_p31 : lw_okq (⟨"TaintScannerModel", "make", "(I)V"⟩, 42) := ⟨⟨by decide +kernel, by decide +kernel⟩, List.mem_of_getElem? (i := 786) (by decide +kernel), List.mem_of_getElem? (i := 978) (by decide +kernel), List.mem_of_getElem? (i := 979) (by decide +kernel)⟩
def lw_privs_2 : List (MethodName × Nat) := [(⟨"TaintScanner$Analysis", "closeRound", "(LTaintScanner$Program;I)I"⟩, 17), (⟨"TaintScanner$Language", "letters", "()I"⟩, 3), (⟨"TaintScanner$Language", "deadState", "()I"⟩, 3), (⟨"TaintScanner$Analysis", "change", "(LTaintScanner$Program;I)V"⟩, 17), (⟨"TaintScanner$Analysis", "isDead", "()Z"⟩, 17), (⟨"TaintScanner$Analysis", "atMost", "(LTaintScanner$Language;I)LTaintScanner$Language;"⟩, 17), (⟨"TaintScanner$Analysis", "imageOf", "(LTaintScanner$Language;I)LTaintScanner$Rule;"⟩, 17), (⟨"TaintScanner$Image", "lengthenSilent", "()V"⟩, 3), (⟨"TaintScanner$Analysis", "findWitnesses", "(I)V"⟩, 17), (⟨"TaintScanner", "hasSink", "(I)Z"⟩, 3), (⟨"TaintScanner$Interpreter", "goThrough", "(LTaintScanner$Program;I)I"⟩, 6), (⟨"TaintScanner$Interpreter", "put", "(IIJ)I"⟩, 6), (⟨"TaintScanner$Interpreter", "hand", "(IJ)V"⟩, 6), (⟨"TaintScannerModel", "add", "(IIII)I"⟩, 42), (⟨"TaintScannerModel", "begin", "(IIII)I"⟩, 42), (⟨"TaintScannerModel", "make", "(I)V"⟩, 42)]
theorem lw_r2 : ∀ q ∈ lw_privs_2, lw_okq q := List.forall_mem_cons.mpr ⟨lw_p16, List.forall_mem_cons.mpr ⟨lw_p17, List.forall_mem_cons.mpr ⟨lw_p18, List.forall_mem_cons.mpr ⟨lw_p19, List.forall_mem_cons.mpr ⟨lw_p20, List.forall_mem_cons.mpr ⟨lw_p21, List.forall_mem_cons.mpr ⟨lw_p22, List.forall_mem_cons.mpr ⟨lw_p23, List.forall_mem_cons.mpr ⟨lw_p24, List.forall_mem_cons.mpr ⟨lw_p25, List.forall_mem_cons.mpr ⟨lw_p26, List.forall_mem_cons.mpr ⟨lw_p27, List.forall_mem_cons.mpr ⟨lw_p28, List.forall_mem_cons.mpr ⟨lw_p29, List.forall_mem_cons.mpr ⟨lw_p30, List.forall_mem_cons.mpr ⟨lw_p31, fun _ h => absurd h List.not_mem_nil⟩⟩⟩⟩⟩⟩⟩⟩⟩⟩⟩⟩⟩⟩⟩⟩
theorem lw_p32 : lw_okq (⟨"TaintScannerModel", "reach", "()V"⟩, 42) := ⟨⟨by decide +kernel, by decide +kernel⟩, List.mem_of_getElem? (i := 786) (by decide +kernel), List.mem_of_getElem? (i := 982) (by decide +kernel), List.mem_of_getElem? (i := 983) (by decide +kernel)⟩
theorem lw_p33 : lw_okq (⟨"TaintScannerModel", "first", "()I"⟩, 42) := ⟨⟨by decide +kernel, by decide +kernel⟩, List.mem_of_getElem? (i := 786) (by decide +kernel), List.mem_of_getElem? (i := 986) (by decide +kernel), List.mem_of_getElem? (i := 987) (by decide +kernel)⟩
theorem lw_p34 : lw_okq (⟨"TaintScannerModel", "closed", "(I)I"⟩, 42) := ⟨⟨by decide +kernel, by decide +kernel⟩, List.mem_of_getElem? (i := 786) (by decide +kernel), List.mem_of_getElem? (i := 990) (by decide +kernel), List.mem_of_getElem? (i := 991) (by decide +kernel)⟩
theorem lw_p35 : lw_okq (⟨"TaintScannerModel", "after", "(III)I"⟩, 42) := ⟨⟨by decide +kernel, by decide +kernel⟩, List.mem_of_getElem? (i := 786) (by decide +kernel), List.mem_of_getElem? (i := 994) (by decide +kernel), List.mem_of_getElem? (i := 995) (by decide +kernel)⟩
theorem lw_p36 : lw_okq (⟨"TaintScannerModel", "step", "(III)I"⟩, 42) := ⟨⟨by decide +kernel, by decide +kernel⟩, List.mem_of_getElem? (i := 786) (by decide +kernel), List.mem_of_getElem? (i := 998) (by decide +kernel), List.mem_of_getElem? (i := 999) (by decide +kernel)⟩
theorem lw_p37 : lw_okq (⟨"TaintScannerModel", "takes", "(II)Z"⟩, 42) := ⟨⟨by decide +kernel, by decide +kernel⟩, List.mem_of_getElem? (i := 786) (by decide +kernel), List.mem_of_getElem? (i := 1002) (by decide +kernel), List.mem_of_getElem? (i := 1003) (by decide +kernel)⟩
theorem lw_p38 : lw_okq (⟨"TaintScannerModel", "mayEnd", "(I)Z"⟩, 42) := ⟨⟨by decide +kernel, by decide +kernel⟩, List.mem_of_getElem? (i := 786) (by decide +kernel), List.mem_of_getElem? (i := 1006) (by decide +kernel), List.mem_of_getElem? (i := 1007) (by decide +kernel)⟩
theorem lw_p39 : lw_okq (⟨"TaintScannerModel", "digit", "(I)I"⟩, 42) := ⟨⟨by decide +kernel, by decide +kernel⟩, List.mem_of_getElem? (i := 786) (by decide +kernel), List.mem_of_getElem? (i := 1010) (by decide +kernel), List.mem_of_getElem? (i := 1011) (by decide +kernel)⟩
theorem lw_p40 : lw_okq (⟨"TaintScannerModel", "next", "(II)I"⟩, 42) := ⟨⟨by decide +kernel, by decide +kernel⟩, List.mem_of_getElem? (i := 786) (by decide +kernel), List.mem_of_getElem? (i := 1014) (by decide +kernel), List.mem_of_getElem? (i := 1015) (by decide +kernel)⟩
theorem lw_p41 : lw_okq (⟨"TaintScannerModel", "guarded", "(II)I"⟩, 42) := ⟨⟨by decide +kernel, by decide +kernel⟩, List.mem_of_getElem? (i := 786) (by decide +kernel), List.mem_of_getElem? (i := 1018) (by decide +kernel), List.mem_of_getElem? (i := 1019) (by decide +kernel)⟩
theorem lw_p42 : lw_okq (⟨"TaintScannerModel", "folded", "(II)I"⟩, 42) := ⟨⟨by decide +kernel, by decide +kernel⟩, List.mem_of_getElem? (i := 786) (by decide +kernel), List.mem_of_getElem? (i := 1022) (by decide +kernel), List.mem_of_getElem? (i := 1023) (by decide +kernel)⟩
theorem lw_p43 : lw_okq (⟨"TaintScannerModel", "fits", "(II)I"⟩, 42) := ⟨⟨by decide +kernel, by decide +kernel⟩, List.mem_of_getElem? (i := 786) (by decide +kernel), List.mem_of_getElem? (i := 1026) (by decide +kernel), List.mem_of_getElem? (i := 1027) (by decide +kernel)⟩
theorem lw_p44 : lw_okq (⟨"TaintScannerModel", "tell", "()Z"⟩, 42) := ⟨⟨by decide +kernel, by decide +kernel⟩, List.mem_of_getElem? (i := 786) (by decide +kernel), List.mem_of_getElem? (i := 1030) (by decide +kernel), List.mem_of_getElem? (i := 1031) (by decide +kernel)⟩
theorem lw_p45 : lw_okq (⟨"TaintScannerModel", "classOf", "(I)I"⟩, 42) := ⟨⟨by decide +kernel, by decide +kernel⟩, List.mem_of_getElem? (i := 786) (by decide +kernel), List.mem_of_getElem? (i := 1034) (by decide +kernel), List.mem_of_getElem? (i := 1035) (by decide +kernel)⟩
theorem lw_p46 : lw_okq (⟨"TaintScannerModel", "another", "()Z"⟩, 42) := ⟨⟨by decide +kernel, by decide +kernel⟩, List.mem_of_getElem? (i := 786) (by decide +kernel), List.mem_of_getElem? (i := 1038) (by decide +kernel), List.mem_of_getElem? (i := 1039) (by decide +kernel)⟩
theorem lw_p47 : lw_okq (⟨"TaintScannerModel", "occurring", "()I"⟩, 42) := ⟨⟨by decide +kernel, by decide +kernel⟩, List.mem_of_getElem? (i := 786) (by decide +kernel), List.mem_of_getElem? (i := 1042) (by decide +kernel), List.mem_of_getElem? (i := 1043) (by decide +kernel)⟩
def lw_privs_3 : List (MethodName × Nat) := [(⟨"TaintScannerModel", "reach", "()V"⟩, 42), (⟨"TaintScannerModel", "first", "()I"⟩, 42), (⟨"TaintScannerModel", "closed", "(I)I"⟩, 42), (⟨"TaintScannerModel", "after", "(III)I"⟩, 42), (⟨"TaintScannerModel", "step", "(III)I"⟩, 42), (⟨"TaintScannerModel", "takes", "(II)Z"⟩, 42), (⟨"TaintScannerModel", "mayEnd", "(I)Z"⟩, 42), (⟨"TaintScannerModel", "digit", "(I)I"⟩, 42), (⟨"TaintScannerModel", "next", "(II)I"⟩, 42), (⟨"TaintScannerModel", "guarded", "(II)I"⟩, 42), (⟨"TaintScannerModel", "folded", "(II)I"⟩, 42), (⟨"TaintScannerModel", "fits", "(II)I"⟩, 42), (⟨"TaintScannerModel", "tell", "()Z"⟩, 42), (⟨"TaintScannerModel", "classOf", "(I)I"⟩, 42), (⟨"TaintScannerModel", "another", "()Z"⟩, 42), (⟨"TaintScannerModel", "occurring", "()I"⟩, 42)]
theorem lw_r3 : ∀ q ∈ lw_privs_3, lw_okq q := List.forall_mem_cons.mpr ⟨lw_p32, List.forall_mem_cons.mpr ⟨lw_p33, List.forall_mem_cons.mpr ⟨lw_p34, List.forall_mem_cons.mpr ⟨lw_p35, List.forall_mem_cons.mpr ⟨lw_p36, List.forall_mem_cons.mpr ⟨lw_p37, List.forall_mem_cons.mpr ⟨lw_p38, List.forall_mem_cons.mpr ⟨lw_p39, List.forall_mem_cons.mpr ⟨lw_p40, List.forall_mem_cons.mpr ⟨lw_p41, List.forall_mem_cons.mpr ⟨lw_p42, List.forall_mem_cons.mpr ⟨lw_p43, List.forall_mem_cons.mpr ⟨lw_p44, List.forall_mem_cons.mpr ⟨lw_p45, List.forall_mem_cons.mpr ⟨lw_p46, List.forall_mem_cons.mpr ⟨lw_p47, fun _ h => absurd h List.not_mem_nil⟩⟩⟩⟩⟩⟩⟩⟩⟩⟩⟩⟩⟩⟩⟩⟩
theorem lw_p48 : lw_okq (⟨"TaintScannerModel", "write", "(I)V"⟩, 42) := ⟨⟨by decide +kernel, by decide +kernel⟩, List.mem_of_getElem? (i := 786) (by decide +kernel), List.mem_of_getElem? (i := 1046) (by decide +kernel), List.mem_of_getElem? (i := 1047) (by decide +kernel)⟩
theorem lw_p49 : lw_okq (⟨"TaintScannerModel", "copy", "(II)V"⟩, 42) := ⟨⟨by decide +kernel, by decide +kernel⟩, List.mem_of_getElem? (i := 786) (by decide +kernel), List.mem_of_getElem? (i := 1050) (by decide +kernel), List.mem_of_getElem? (i := 1051) (by decide +kernel)⟩
theorem lw_p50 : lw_okq (⟨"TaintScannerModel", "go", "(I)I"⟩, 42) := ⟨⟨by decide +kernel, by decide +kernel⟩, List.mem_of_getElem? (i := 786) (by decide +kernel), List.mem_of_getElem? (i := 1055) (by decide +kernel), List.mem_of_getElem? (i := 1056) (by decide +kernel)⟩
theorem lw_p51 : lw_okq (⟨"TaintScannerModel", "copySet", "(II)V"⟩, 42) := ⟨⟨by decide +kernel, by decide +kernel⟩, List.mem_of_getElem? (i := 786) (by decide +kernel), List.mem_of_getElem? (i := 1059) (by decide +kernel), List.mem_of_getElem? (i := 1060) (by decide +kernel)⟩
theorem lw_p52 : lw_okq (⟨"TaintScannerModel", "keep", "(IZ)V"⟩, 42) := ⟨⟨by decide +kernel, by decide +kernel⟩, List.mem_of_getElem? (i := 786) (by decide +kernel), List.mem_of_getElem? (i := 1063) (by decide +kernel), List.mem_of_getElem? (i := 1064) (by decide +kernel)⟩
theorem lw_p53 : lw_okq (⟨"TaintScannerModel", "empty", "(I)Z"⟩, 42) := ⟨⟨by decide +kernel, by decide +kernel⟩, List.mem_of_getElem? (i := 786) (by decide +kernel), List.mem_of_getElem? (i := 1067) (by decide +kernel), List.mem_of_getElem? (i := 1068) (by decide +kernel)⟩
theorem lw_p54 : lw_okq (⟨"TaintScannerModel", "none", "(I)V"⟩, 42) := ⟨⟨by decide +kernel, by decide +kernel⟩, List.mem_of_getElem? (i := 786) (by decide +kernel), List.mem_of_getElem? (i := 1071) (by decide +kernel), List.mem_of_getElem? (i := 1072) (by decide +kernel)⟩
theorem lw_p55 : lw_okq (⟨"TaintScannerModel", "endOfWhen", "(I)I"⟩, 42) := ⟨⟨by decide +kernel, by decide +kernel⟩, List.mem_of_getElem? (i := 786) (by decide +kernel), List.mem_of_getElem? (i := 1075) (by decide +kernel), List.mem_of_getElem? (i := 1076) (by decide +kernel)⟩
theorem lw_p56 : lw_okq (⟨"TaintScannerModel", "unite", "(I)V"⟩, 42) := ⟨⟨by decide +kernel, by decide +kernel⟩, List.mem_of_getElem? (i := 786) (by decide +kernel), List.mem_of_getElem? (i := 1079) (by decide +kernel), List.mem_of_getElem? (i := 1080) (by decide +kernel)⟩
theorem lw_p57 : lw_okq (⟨"TaintScannerModel", "endOfLoop", "(I)I"⟩, 42) := ⟨⟨by decide +kernel, by decide +kernel⟩, List.mem_of_getElem? (i := 786) (by decide +kernel), List.mem_of_getElem? (i := 1083) (by decide +kernel), List.mem_of_getElem? (i := 1084) (by decide +kernel)⟩
theorem lw_p58 : lw_okq (⟨"TaintScannerModel", "same", "(II)Z"⟩, 42) := ⟨⟨by decide +kernel, by decide +kernel⟩, List.mem_of_getElem? (i := 786) (by decide +kernel), List.mem_of_getElem? (i := 1087) (by decide +kernel), List.mem_of_getElem? (i := 1088) (by decide +kernel)⟩
theorem lw_p59 : lw_okq (⟨"TaintScannerModel", "widen", "(II)V"⟩, 42) := ⟨⟨by decide +kernel, by decide +kernel⟩, List.mem_of_getElem? (i := 786) (by decide +kernel), List.mem_of_getElem? (i := 1091) (by decide +kernel), List.mem_of_getElem? (i := 1092) (by decide +kernel)⟩
theorem lw_p60 : lw_okq (⟨"TaintScannerModel", "all", "(II)V"⟩, 42) := ⟨⟨by decide +kernel, by decide +kernel⟩, List.mem_of_getElem? (i := 786) (by decide +kernel), List.mem_of_getElem? (i := 1095) (by decide +kernel), List.mem_of_getElem? (i := 1096) (by decide +kernel)⟩
theorem lw_p61 : lw_okq (⟨"TaintScannerModel", "plain", "(I)V"⟩, 42) := ⟨⟨by decide +kernel, by decide +kernel⟩, List.mem_of_getElem? (i := 786) (by decide +kernel), List.mem_of_getElem? (i := 1099) (by decide +kernel), List.mem_of_getElem? (i := 1100) (by decide +kernel)⟩
theorem lw_p62 : lw_okq (⟨"TaintScannerModel", "distances", "(I)I"⟩, 42) := ⟨⟨by decide +kernel, by decide +kernel⟩, List.mem_of_getElem? (i := 786) (by decide +kernel), List.mem_of_getElem? (i := 1103) (by decide +kernel), List.mem_of_getElem? (i := 1104) (by decide +kernel)⟩
theorem lw_p63 : lw_okq (⟨"TaintScannerModel", "noSink", "(I)Z"⟩, 42) := ⟨⟨by decide +kernel, by decide +kernel⟩, List.mem_of_getElem? (i := 786) (by decide +kernel), List.mem_of_getElem? (i := 1114) (by decide +kernel), List.mem_of_getElem? (i := 1115) (by decide +kernel)⟩
def lw_privs_4 : List (MethodName × Nat) := [(⟨"TaintScannerModel", "write", "(I)V"⟩, 42), (⟨"TaintScannerModel", "copy", "(II)V"⟩, 42), (⟨"TaintScannerModel", "go", "(I)I"⟩, 42), (⟨"TaintScannerModel", "copySet", "(II)V"⟩, 42), (⟨"TaintScannerModel", "keep", "(IZ)V"⟩, 42), (⟨"TaintScannerModel", "empty", "(I)Z"⟩, 42), (⟨"TaintScannerModel", "none", "(I)V"⟩, 42), (⟨"TaintScannerModel", "endOfWhen", "(I)I"⟩, 42), (⟨"TaintScannerModel", "unite", "(I)V"⟩, 42), (⟨"TaintScannerModel", "endOfLoop", "(I)I"⟩, 42), (⟨"TaintScannerModel", "same", "(II)Z"⟩, 42), (⟨"TaintScannerModel", "widen", "(II)V"⟩, 42), (⟨"TaintScannerModel", "all", "(II)V"⟩, 42), (⟨"TaintScannerModel", "plain", "(I)V"⟩, 42), (⟨"TaintScannerModel", "distances", "(I)I"⟩, 42), (⟨"TaintScannerModel", "noSink", "(I)Z"⟩, 42)]
theorem lw_r4 : ∀ q ∈ lw_privs_4, lw_okq q := List.forall_mem_cons.mpr ⟨lw_p48, List.forall_mem_cons.mpr ⟨lw_p49, List.forall_mem_cons.mpr ⟨lw_p50, List.forall_mem_cons.mpr ⟨lw_p51, List.forall_mem_cons.mpr ⟨lw_p52, List.forall_mem_cons.mpr ⟨lw_p53, List.forall_mem_cons.mpr ⟨lw_p54, List.forall_mem_cons.mpr ⟨lw_p55, List.forall_mem_cons.mpr ⟨lw_p56, List.forall_mem_cons.mpr ⟨lw_p57, List.forall_mem_cons.mpr ⟨lw_p58, List.forall_mem_cons.mpr ⟨lw_p59, List.forall_mem_cons.mpr ⟨lw_p60, List.forall_mem_cons.mpr ⟨lw_p61, List.forall_mem_cons.mpr ⟨lw_p62, List.forall_mem_cons.mpr ⟨lw_p63, fun _ h => absurd h List.not_mem_nil⟩⟩⟩⟩⟩⟩⟩⟩⟩⟩⟩⟩⟩⟩⟩⟩
theorem lw_p64 : lw_okq (⟨"TaintScannerModel", "does", "(I)Z"⟩, 42) := ⟨⟨by decide +kernel, by decide +kernel⟩, List.mem_of_getElem? (i := 786) (by decide +kernel), List.mem_of_getElem? (i := 1154) (by decide +kernel), List.mem_of_getElem? (i := 1155) (by decide +kernel)⟩
theorem lw_p65 : lw_okq (⟨"TaintScannerModel", "hand", "(I)V"⟩, 42) := ⟨⟨by decide +kernel, by decide +kernel⟩, List.mem_of_getElem? (i := 786) (by decide +kernel), List.mem_of_getElem? (i := 1166) (by decide +kernel), List.mem_of_getElem? (i := 1167) (by decide +kernel)⟩
theorem lw_p66 : lw_okq (⟨"TaintScannerModel", "behind", "(I)I"⟩, 42) := ⟨⟨by decide +kernel, by decide +kernel⟩, List.mem_of_getElem? (i := 786) (by decide +kernel), List.mem_of_getElem? (i := 1170) (by decide +kernel), List.mem_of_getElem? (i := 1171) (by decide +kernel)⟩
theorem lw_p67 : lw_okq (⟨"TaintScannerModel", "holds", "(I)Z"⟩, 42) := ⟨⟨by decide +kernel, by decide +kernel⟩, List.mem_of_getElem? (i := 786) (by decide +kernel), List.mem_of_getElem? (i := 1174) (by decide +kernel), List.mem_of_getElem? (i := 1175) (by decide +kernel)⟩
def lw_privs_5 : List (MethodName × Nat) := [(⟨"TaintScannerModel", "does", "(I)Z"⟩, 42), (⟨"TaintScannerModel", "hand", "(I)V"⟩, 42), (⟨"TaintScannerModel", "behind", "(I)I"⟩, 42), (⟨"TaintScannerModel", "holds", "(I)Z"⟩, 42)]
theorem lw_r5 : ∀ q ∈ lw_privs_5, lw_okq q := List.forall_mem_cons.mpr ⟨lw_p64, List.forall_mem_cons.mpr ⟨lw_p65, List.forall_mem_cons.mpr ⟨lw_p66, List.forall_mem_cons.mpr ⟨lw_p67, fun _ h => absurd h List.not_mem_nil⟩⟩⟩⟩
def lw_privs : List (MethodName × Nat) := lw_privs_1 ++ (lw_privs_2 ++ (lw_privs_3 ++ (lw_privs_4 ++ (lw_privs_5))))
def lw_tbl : List Cond := k2_sels lw_privs ++ tables_1
theorem lw_privs_ok : ∀ q ∈ lw_privs, lw_okq q := by
  show ∀ q ∈ lw_privs_1 ++ (lw_privs_2 ++ (lw_privs_3 ++ (lw_privs_4 ++ (lw_privs_5)))), lw_okq q
  exact List.forall_mem_append.mpr ⟨lw_r1, List.forall_mem_append.mpr ⟨lw_r2, List.forall_mem_append.mpr ⟨lw_r3, List.forall_mem_append.mpr ⟨lw_r4, lw_r5⟩⟩⟩⟩
-- the words that a call keeps, and those of nest mates
def ja_ws : List Cond := lw_tbl.filter goodWord
theorem ja_ws_good : ∀ w ∈ ja_ws, (w.onTables && w.keeps) = true ∨ ∃ ty, w = .arrayClass ty := fun _ h => good_of_word (List.mem_filter.mp h).2
theorem jm {w : Cond} (i : Nat) (h : lw_tbl[i]? = some w) (hg : goodWord w = true) : w ∈ ja_ws := List.mem_filter.mpr ⟨List.mem_of_getElem? h, hg⟩
def ja_isN (w : Cond) : Bool := match w with
  | .fieldLinkNest .. => true
  | .methodLinkNest .. => true
  | .declares .. => true
  | _ => false
def ja_nw : List Cond := lw_tbl.filter ja_isN
theorem jn {w : Cond} (i : Nat) (h : lw_tbl[i]? = some w) (hg : ja_isN w = true) : w ∈ ja_nw := List.mem_filter.mpr ⟨List.mem_of_getElem? h, hg⟩
-- classes and their fields
/-- the name of the field that counts sinks with an attack: it is a word that may not stand here, so it is taken out of the tables -/
def ja_un : String := match tables_1[268]? with
  | some (Jvm.Cond.lays _ _ n _) => n
  | _ => ""
def jR_L : String := "TaintScanner$Language"
def jF_L : u_T := fun k => match k with
  | 0 => ("TaintScanner$Language", "states", "I", false)
  | 1 => ("TaintScanner$Language", "good", "I", false)
  | _ => ("TaintScanner$Language", "next", "[I", true)
def jt_L : Nat → FieldType := fun k => match k with
  | 0 => .int
  | 1 => .int
  | _ => .array .int
def jR_R : String := "TaintScanner$Program"
def jF_R : u_T := fun k => match k with
  | 0 => ("TaintScanner$Program", "kind", "[I", true)
  | 1 => ("TaintScanner$Program", "variable", "[I", true)
  | 2 => ("TaintScanner$Program", "first", "[I", true)
  | 3 => ("TaintScanner$Program", "second", "[I", true)
  | 4 => ("TaintScanner$Program", "mate", "[I", true)
  | 5 => ("TaintScanner$Program", "level", "[I", true)
  | 6 => ("TaintScanner$Program", "count", "I", false)
  | 7 => ("TaintScanner$Program", "sinks", "I", false)
  | 8 => ("TaintScanner$Program", "open", "I", false)
  | 9 => ("TaintScanner$Program", "part", "[I", true)
  | _ => ("TaintScanner$Program", "head", "[I", true)
def jt_R : Nat → FieldType := fun k => match k with
  | 0 => .array .int
  | 1 => .array .int
  | 2 => .array .int
  | 3 => .array .int
  | 4 => .array .int
  | 5 => .array .int
  | 6 => .int
  | 7 => .int
  | 8 => .int
  | 9 => .array .int
  | _ => .array .int
def jR_B : String := "TaintScanner$Automaton"
def jF_B : u_T := fun k => match k with
  | 0 => ("TaintScanner$Automaton", "count", "I", false)
  | 1 => ("TaintScanner$Automaton", "next", "[I", true)
  | 2 => ("TaintScanner$Automaton", "good", "[Z", true)
  | 3 => ("TaintScanner$Automaton", "key", "[I", true)
  | 4 => ("TaintScanner$Automaton", "stateOf", "[I", true)
  | 5 => ("TaintScanner$Automaton", "entry", "[I", true)
  | 6 => ("TaintScanner$Automaton", "kind", "[I", true)
  | 7 => ("TaintScanner$Automaton", "finerKind", "[I", true)
  | _ => ("TaintScanner$Automaton", "look", "[J", true)
def jt_B : Nat → FieldType := fun k => match k with
  | 0 => .int
  | 1 => .array .int
  | 2 => .array .boolean
  | 3 => .array .int
  | 4 => .array .int
  | 5 => .array .int
  | 6 => .array .int
  | 7 => .array .int
  | _ => .array .long
def jR_P : String := "TaintScanner$Pair"
def jF_P : u_T := fun k => match k with
  | 0 => ("TaintScanner$Pair", "a", "LTaintScanner$Language;", true)
  | 1 => ("TaintScanner$Pair", "b", "LTaintScanner$Language;", true)
  | _ => ("TaintScanner$Pair", "choice", "I", false)
def jt_P : Nat → FieldType := fun k => match k with
  | 0 => .object "TaintScanner$Language"
  | 1 => .object "TaintScanner$Language"
  | _ => .int
def jR_Q : String := "TaintScanner$Sequence"
def jF_Q : u_T := fun k => match k with
  | 0 => ("TaintScanner$Sequence", "a", "LTaintScanner$Language;", true)
  | _ => ("TaintScanner$Sequence", "b", "LTaintScanner$Language;", true)
def jt_Q : Nat → FieldType := fun k => match k with
  | 0 => .object "TaintScanner$Language"
  | _ => .object "TaintScanner$Language"
def jR_G : String := "TaintScanner$Guarded"
def jF_G : u_T := fun k => match k with
  | _ => ("TaintScanner$Guarded", "a", "LTaintScanner$Language;", true)
def jt_G : Nat → FieldType := fun k => match k with
  | _ => .object "TaintScanner$Language"
def jR_I : String := "TaintScanner$Image"
def jF_I : u_T := fun k => match k with
  | 0 => ("TaintScanner$Image", "a", "LTaintScanner$Language;", true)
  | 1 => ("TaintScanner$Image", "made", "[I", true)
  | _ => ("TaintScanner$Image", "silent", "[I", true)
def jt_I : Nat → FieldType := fun k => match k with
  | 0 => .object "TaintScanner$Language"
  | 1 => .array .int
  | _ => .array .int
def jR_A : String := "TaintScanner$Analysis"
def jF_A : u_T := fun k => match k with
  | 0 => ("TaintScanner$Analysis", "sinks", "[LTaintScanner$Language;", true)
  | 1 => ("TaintScanner$Analysis", "rounds", "[I", true)
  | 2 => ("TaintScanner$Analysis", "made", "Z", false)
  | 3 => ("TaintScanner$Analysis", ja_un, "I", false)
  | 4 => ("TaintScanner$Analysis", "witnesses", "[[I", true)
  | 5 => ("TaintScanner$Analysis", "witnessLengths", "[I", true)
  | 6 => ("TaintScanner$Analysis", "now", "[LTaintScanner$Language;", true)
  | 7 => ("TaintScanner$Analysis", "before", "[LTaintScanner$Language;", true)
  | 8 => ("TaintScanner$Analysis", "brought", "[LTaintScanner$Language;", true)
  | 9 => ("TaintScanner$Analysis", "attacks", "LTaintScanner$Language;", true)
  | 10 => ("TaintScanner$Analysis", "meeting", "LTaintScanner$Language;", true)
  | 11 => ("TaintScanner$Analysis", "wide", "LTaintScanner$Language;", true)
  | 12 => ("TaintScanner$Analysis", "automaton", "LTaintScanner$Automaton;", true)
  | 13 => ("TaintScanner$Analysis", "pair", "LTaintScanner$Pair;", true)
  | 14 => ("TaintScanner$Analysis", "sequence", "LTaintScanner$Sequence;", true)
  | 15 => ("TaintScanner$Analysis", "guarded", "LTaintScanner$Guarded;", true)
  | _ => ("TaintScanner$Analysis", "image", "LTaintScanner$Image;", true)
def jt_A : Nat → FieldType := fun k => match k with
  | 0 => .array (.object "TaintScanner$Language")
  | 1 => .array .int
  | 2 => .boolean
  | 3 => .int
  | 4 => .array (.array .int)
  | 5 => .array .int
  | 6 => .array (.object "TaintScanner$Language")
  | 7 => .array (.object "TaintScanner$Language")
  | 8 => .array (.object "TaintScanner$Language")
  | 9 => .object "TaintScanner$Language"
  | 10 => .object "TaintScanner$Language"
  | 11 => .object "TaintScanner$Language"
  | 12 => .object "TaintScanner$Automaton"
  | 13 => .object "TaintScanner$Pair"
  | 14 => .object "TaintScanner$Sequence"
  | 15 => .object "TaintScanner$Guarded"
  | _ => .object "TaintScanner$Image"
def jR_N : String := "TaintScanner$Interpreter"
def jF_N : u_T := fun k => match k with
  | 0 => ("TaintScanner$Interpreter", "inputs", "[I", true)
  | 1 => ("TaintScanner$Interpreter", "words", "[J", true)
  | 2 => ("TaintScanner$Interpreter", "places", "[I", true)
  | 3 => ("TaintScanner$Interpreter", "ending", "I", false)
  | 4 => ("TaintScanner$Interpreter", "handed", "I", false)
  | _ => ("TaintScanner$Interpreter", "values", "[J", true)
def jt_N : Nat → FieldType := fun k => match k with
  | 0 => .array .int
  | 1 => .array .long
  | 2 => .array .int
  | 3 => .int
  | 4 => .int
  | _ => .array .long
def jR_T : String := "TaintScanner"
def jF_T : u_T := fun k => match k with
  | 0 => ("TaintScanner", "program", "LTaintScanner$Program;", true)
  | 1 => ("TaintScanner", "analysis", "LTaintScanner$Analysis;", true)
  | _ => ("TaintScanner", "interpreter", "LTaintScanner$Interpreter;", true)
def jt_T : Nat → FieldType := fun k => match k with
  | 0 => .object "TaintScanner$Program"
  | 1 => .object "TaintScanner$Analysis"
  | _ => .object "TaintScanner$Interpreter"
def jR_M : String := "TaintScannerModel"
def jF_M : u_T := fun k => match k with
  | 0 => ("TaintScannerModel", "lines", "I", false)
  | 1 => ("TaintScannerModel", "what", "[I", true)
  | 2 => ("TaintScannerModel", "one", "[I", true)
  | 3 => ("TaintScannerModel", "two", "[I", true)
  | 4 => ("TaintScannerModel", "three", "[I", true)
  | 5 => ("TaintScannerModel", "depth", "[I", true)
  | 6 => ("TaintScannerModel", "begun", "[I", true)
  | 7 => ("TaintScannerModel", "otherLine", "[I", true)
  | 8 => ("TaintScannerModel", "endLine", "[I", true)
  | 9 => ("TaintScannerModel", "block", "[I", true)
  | 10 => ("TaintScannerModel", "open", "I", false)
  | 11 => ("TaintScannerModel", "sinks", "I", false)
  | 12 => ("TaintScannerModel", "states", "[I", true)
  | 13 => ("TaintScannerModel", "good", "[I", true)
  | 14 => ("TaintScannerModel", "table", "[B", true)
  | 15 => ("TaintScannerModel", "analysed", "Z", false)
  | 16 => ("TaintScannerModel", "made", "[I", true)
  | 17 => ("TaintScannerModel", "round", "[I", true)
  | 18 => ("TaintScannerModel", "how", "I", false)
  | 19 => ("TaintScannerModel", "p", "I", false)
  | 20 => ("TaintScannerModel", "q", "I", false)
  | 21 => ("TaintScannerModel", "kind", "I", false)
  | 22 => ("TaintScannerModel", "symbol", "I", false)
  | 23 => ("TaintScannerModel", "contrary", "Z", false)
  | 24 => ("TaintScannerModel", "word", "I", false)
  | 25 => ("TaintScannerModel", "letters", "I", false)
  | 26 => ("TaintScannerModel", "list", "[I", true)
  | 27 => ("TaintScannerModel", "listed", "I", false)
  | 28 => ("TaintScannerModel", "seen", "[I", true)
  | 29 => ("TaintScannerModel", "ends", "I", false)
  | 30 => ("TaintScannerModel", "endLetter", "[I", true)
  | 31 => ("TaintScannerModel", "endRest", "[I", true)
  | 32 => ("TaintScannerModel", "classes", "I", false)
  | 33 => ("TaintScannerModel", "classSign", "[I", true)
  | 34 => ("TaintScannerModel", "classState", "[I", true)
  | 35 => ("TaintScannerModel", "far", "[I", true)
  | 36 => ("TaintScannerModel", "inputs", "[I", true)
  | 37 => ("TaintScannerModel", "value", "[J", true)
  | 38 => ("TaintScannerModel", "ending", "I", false)
  | 39 => ("TaintScannerModel", "handed", "I", false)
  | 40 => ("TaintScannerModel", "words", "[J", true)
  | _ => ("TaintScannerModel", "places", "[I", true)
def jt_M : Nat → FieldType := fun k => match k with
  | 0 => .int
  | 1 => .array .int
  | 2 => .array .int
  | 3 => .array .int
  | 4 => .array .int
  | 5 => .array .int
  | 6 => .array .int
  | 7 => .array .int
  | 8 => .array .int
  | 9 => .array .int
  | 10 => .int
  | 11 => .int
  | 12 => .array .int
  | 13 => .array .int
  | 14 => .array .byte
  | 15 => .boolean
  | 16 => .array .int
  | 17 => .array .int
  | 18 => .int
  | 19 => .int
  | 20 => .int
  | 21 => .int
  | 22 => .int
  | 23 => .boolean
  | 24 => .int
  | 25 => .int
  | 26 => .array .int
  | 27 => .int
  | 28 => .array .int
  | 29 => .int
  | 30 => .array .int
  | 31 => .array .int
  | 32 => .int
  | 33 => .array .int
  | 34 => .array .int
  | 35 => .array .int
  | 36 => .array .int
  | 37 => .array .long
  | 38 => .int
  | 39 => .int
  | 40 => .array .long
  | _ => .array .int
abbrev ja_cl : List vw_C := [(jR_L, jF_L, 3), (jR_R, jF_R, 11), (jR_B, jF_B, 9), (jR_P, jF_P, 3), (jR_Q, jF_Q, 2), (jR_G, jF_G, 1), (jR_I, jF_I, 3), (jR_A, jF_A, 17), (jR_N, jF_N, 6), (jR_T, jF_T, 3), (jR_M, jF_M, 42)]
abbrev ja_ty : List FieldType := [.int, .long, .boolean, .byte, .object "TaintScanner$Language", .array .int]
abbrev ja_ao : List String := ["TaintScanner$Language"]
theorem ji_L : ∀ w ∈ u_ws jR_L jF_L 3, w ∈ ja_ws := by
  intro w hw
  obtain ⟨k, hk, rfl⟩ := List.mem_map.mp hw
  have hk := List.mem_range.mp hk
  match k, hk with
  | 0, _ => exact (jm 173 (by decide +kernel) rfl)
  | 1, _ => exact (jm 175 (by decide +kernel) rfl)
  | 2, _ => exact (jm 177 (by decide +kernel) rfl)
  | k + 3, h => exact absurd h (by omega)
theorem jo_L : ∀ k, k < 3 → parseFieldDescriptor (jF_L k).2.2.1 = some (jt_L k) := by decide +kernel
theorem jq_L : ∀ a, a < 3 → ∀ b, b < 3 → a ≠ b → (jF_L a).2.1 ≠ (jF_L b).2.1 := by decide +kernel
theorem ji_R : ∀ w ∈ u_ws jR_R jF_R 11, w ∈ ja_ws := by
  intro w hw
  obtain ⟨k, hk, rfl⟩ := List.mem_map.mp hw
  have hk := List.mem_range.mp hk
  match k, hk with
  | 0, _ => exact (jm 127 (by decide +kernel) rfl)
  | 1, _ => exact (jm 129 (by decide +kernel) rfl)
  | 2, _ => exact (jm 131 (by decide +kernel) rfl)
  | 3, _ => exact (jm 133 (by decide +kernel) rfl)
  | 4, _ => exact (jm 135 (by decide +kernel) rfl)
  | 5, _ => exact (jm 137 (by decide +kernel) rfl)
  | 6, _ => exact (jm 139 (by decide +kernel) rfl)
  | 7, _ => exact (jm 141 (by decide +kernel) rfl)
  | 8, _ => exact (jm 143 (by decide +kernel) rfl)
  | 9, _ => exact (jm 145 (by decide +kernel) rfl)
  | 10, _ => exact (jm 147 (by decide +kernel) rfl)
  | k + 11, h => exact absurd h (by omega)
theorem jo_R : ∀ k, k < 11 → parseFieldDescriptor (jF_R k).2.2.1 = some (jt_R k) := by decide +kernel
theorem jq_R : ∀ a, a < 11 → ∀ b, b < 11 → a ≠ b → (jF_R a).2.1 ≠ (jF_R b).2.1 := by decide +kernel
theorem ji_B : ∀ w ∈ u_ws jR_B jF_B 9, w ∈ ja_ws := by
  intro w hw
  obtain ⟨k, hk, rfl⟩ := List.mem_map.mp hw
  have hk := List.mem_range.mp hk
  match k, hk with
  | 0, _ => exact (jm 198 (by decide +kernel) rfl)
  | 1, _ => exact (jm 200 (by decide +kernel) rfl)
  | 2, _ => exact (jm 202 (by decide +kernel) rfl)
  | 3, _ => exact (jm 204 (by decide +kernel) rfl)
  | 4, _ => exact (jm 206 (by decide +kernel) rfl)
  | 5, _ => exact (jm 208 (by decide +kernel) rfl)
  | 6, _ => exact (jm 210 (by decide +kernel) rfl)
  | 7, _ => exact (jm 212 (by decide +kernel) rfl)
  | 8, _ => exact (jm 214 (by decide +kernel) rfl)
  | k + 9, h => exact absurd h (by omega)
theorem jo_B : ∀ k, k < 9 → parseFieldDescriptor (jF_B k).2.2.1 = some (jt_B k) := by decide +kernel
theorem jq_B : ∀ a, a < 9 → ∀ b, b < 9 → a ≠ b → (jF_B a).2.1 ≠ (jF_B b).2.1 := by decide +kernel
theorem ji_P : ∀ w ∈ u_ws jR_P jF_P 3, w ∈ ja_ws := by
  intro w hw
  obtain ⟨k, hk, rfl⟩ := List.mem_map.mp hw
  have hk := List.mem_range.mp hk
  match k, hk with
  | 0, _ => exact (jm 233 (by decide +kernel) rfl)
  | 1, _ => exact (jm 235 (by decide +kernel) rfl)
  | 2, _ => exact (jm 237 (by decide +kernel) rfl)
  | k + 3, h => exact absurd h (by omega)
theorem jo_P : ∀ k, k < 3 → parseFieldDescriptor (jF_P k).2.2.1 = some (jt_P k) := by decide +kernel
theorem jq_P : ∀ a, a < 3 → ∀ b, b < 3 → a ≠ b → (jF_P a).2.1 ≠ (jF_P b).2.1 := by decide +kernel
theorem ji_Q : ∀ w ∈ u_ws jR_Q jF_Q 2, w ∈ ja_ws := by
  intro w hw
  obtain ⟨k, hk, rfl⟩ := List.mem_map.mp hw
  have hk := List.mem_range.mp hk
  match k, hk with
  | 0, _ => exact (jm 250 (by decide +kernel) rfl)
  | 1, _ => exact (jm 252 (by decide +kernel) rfl)
  | k + 2, h => exact absurd h (by omega)
theorem jo_Q : ∀ k, k < 2 → parseFieldDescriptor (jF_Q k).2.2.1 = some (jt_Q k) := by decide +kernel
theorem jq_Q : ∀ a, a < 2 → ∀ b, b < 2 → a ≠ b → (jF_Q a).2.1 ≠ (jF_Q b).2.1 := by decide +kernel
theorem ji_G : ∀ w ∈ u_ws jR_G jF_G 1, w ∈ ja_ws := by
  intro w hw
  obtain ⟨k, hk, rfl⟩ := List.mem_map.mp hw
  have hk := List.mem_range.mp hk
  match k, hk with
  | 0, _ => exact (jm 264 (by decide +kernel) rfl)
  | k + 1, h => exact absurd h (by omega)
theorem jo_G : ∀ k, k < 1 → parseFieldDescriptor (jF_G k).2.2.1 = some (jt_G k) := by decide +kernel
theorem jq_G : ∀ a, a < 1 → ∀ b, b < 1 → a ≠ b → (jF_G a).2.1 ≠ (jF_G b).2.1 := by decide +kernel
theorem ji_I : ∀ w ∈ u_ws jR_I jF_I 3, w ∈ ja_ws := by
  intro w hw
  obtain ⟨k, hk, rfl⟩ := List.mem_map.mp hw
  have hk := List.mem_range.mp hk
  match k, hk with
  | 0, _ => exact (jm 278 (by decide +kernel) rfl)
  | 1, _ => exact (jm 280 (by decide +kernel) rfl)
  | 2, _ => exact (jm 282 (by decide +kernel) rfl)
  | k + 3, h => exact absurd h (by omega)
theorem jo_I : ∀ k, k < 3 → parseFieldDescriptor (jF_I k).2.2.1 = some (jt_I k) := by decide +kernel
theorem jq_I : ∀ a, a < 3 → ∀ b, b < 3 → a ≠ b → (jF_I a).2.1 ≠ (jF_I b).2.1 := by decide +kernel
theorem ji_A : ∀ w ∈ u_ws jR_A jF_A 17, w ∈ ja_ws := by
  intro w hw
  obtain ⟨k, hk, rfl⟩ := List.mem_map.mp hw
  have hk := List.mem_range.mp hk
  match k, hk with
  | 0, _ => exact (jm 330 (by decide +kernel) rfl)
  | 1, _ => exact (jm 332 (by decide +kernel) rfl)
  | 2, _ => exact (jm 334 (by decide +kernel) rfl)
  | 3, _ => exact (jm 336 (by decide +kernel) rfl)
  | 4, _ => exact (jm 338 (by decide +kernel) rfl)
  | 5, _ => exact (jm 340 (by decide +kernel) rfl)
  | 6, _ => exact (jm 342 (by decide +kernel) rfl)
  | 7, _ => exact (jm 344 (by decide +kernel) rfl)
  | 8, _ => exact (jm 346 (by decide +kernel) rfl)
  | 9, _ => exact (jm 348 (by decide +kernel) rfl)
  | 10, _ => exact (jm 350 (by decide +kernel) rfl)
  | 11, _ => exact (jm 352 (by decide +kernel) rfl)
  | 12, _ => exact (jm 354 (by decide +kernel) rfl)
  | 13, _ => exact (jm 356 (by decide +kernel) rfl)
  | 14, _ => exact (jm 358 (by decide +kernel) rfl)
  | 15, _ => exact (jm 360 (by decide +kernel) rfl)
  | 16, _ => exact (jm 362 (by decide +kernel) rfl)
  | k + 17, h => exact absurd h (by omega)
theorem jo_A : ∀ k, k < 17 → parseFieldDescriptor (jF_A k).2.2.1 = some (jt_A k) := by decide +kernel
theorem jq_A : ∀ a, a < 17 → ∀ b, b < 17 → a ≠ b → (jF_A a).2.1 ≠ (jF_A b).2.1 := by decide +kernel
theorem ji_N : ∀ w ∈ u_ws jR_N jF_N 6, w ∈ ja_ws := by
  intro w hw
  obtain ⟨k, hk, rfl⟩ := List.mem_map.mp hw
  have hk := List.mem_range.mp hk
  match k, hk with
  | 0, _ => exact (jm 381 (by decide +kernel) rfl)
  | 1, _ => exact (jm 383 (by decide +kernel) rfl)
  | 2, _ => exact (jm 385 (by decide +kernel) rfl)
  | 3, _ => exact (jm 387 (by decide +kernel) rfl)
  | 4, _ => exact (jm 389 (by decide +kernel) rfl)
  | 5, _ => exact (jm 391 (by decide +kernel) rfl)
  | k + 6, h => exact absurd h (by omega)
theorem jo_N : ∀ k, k < 6 → parseFieldDescriptor (jF_N k).2.2.1 = some (jt_N k) := by decide +kernel
theorem jq_N : ∀ a, a < 6 → ∀ b, b < 6 → a ≠ b → (jF_N a).2.1 ≠ (jF_N b).2.1 := by decide +kernel
theorem ji_T : ∀ w ∈ u_ws jR_T jF_T 3, w ∈ ja_ws := by
  intro w hw
  obtain ⟨k, hk, rfl⟩ := List.mem_map.mp hw
  have hk := List.mem_range.mp hk
  match k, hk with
  | 0, _ => exact (jm 397 (by decide +kernel) rfl)
  | 1, _ => exact (jm 399 (by decide +kernel) rfl)
  | 2, _ => exact (jm 401 (by decide +kernel) rfl)
  | k + 3, h => exact absurd h (by omega)
theorem jo_T : ∀ k, k < 3 → parseFieldDescriptor (jF_T k).2.2.1 = some (jt_T k) := by decide +kernel
theorem jq_T : ∀ a, a < 3 → ∀ b, b < 3 → a ≠ b → (jF_T a).2.1 ≠ (jF_T b).2.1 := by decide +kernel
theorem ji_M : ∀ w ∈ u_ws jR_M jF_M 42, w ∈ ja_ws := by
  intro w hw
  obtain ⟨k, hk, rfl⟩ := List.mem_map.mp hw
  have hk := List.mem_range.mp hk
  match k, hk with
  | 0, _ => exact (jm 901 (by decide +kernel) rfl)
  | 1, _ => exact (jm 903 (by decide +kernel) rfl)
  | 2, _ => exact (jm 905 (by decide +kernel) rfl)
  | 3, _ => exact (jm 907 (by decide +kernel) rfl)
  | 4, _ => exact (jm 909 (by decide +kernel) rfl)
  | 5, _ => exact (jm 911 (by decide +kernel) rfl)
  | 6, _ => exact (jm 913 (by decide +kernel) rfl)
  | 7, _ => exact (jm 915 (by decide +kernel) rfl)
  | 8, _ => exact (jm 917 (by decide +kernel) rfl)
  | 9, _ => exact (jm 919 (by decide +kernel) rfl)
  | 10, _ => exact (jm 921 (by decide +kernel) rfl)
  | 11, _ => exact (jm 923 (by decide +kernel) rfl)
  | 12, _ => exact (jm 925 (by decide +kernel) rfl)
  | 13, _ => exact (jm 927 (by decide +kernel) rfl)
  | 14, _ => exact (jm 929 (by decide +kernel) rfl)
  | 15, _ => exact (jm 931 (by decide +kernel) rfl)
  | 16, _ => exact (jm 933 (by decide +kernel) rfl)
  | 17, _ => exact (jm 935 (by decide +kernel) rfl)
  | 18, _ => exact (jm 937 (by decide +kernel) rfl)
  | 19, _ => exact (jm 939 (by decide +kernel) rfl)
  | 20, _ => exact (jm 941 (by decide +kernel) rfl)
  | 21, _ => exact (jm 943 (by decide +kernel) rfl)
  | 22, _ => exact (jm 945 (by decide +kernel) rfl)
  | 23, _ => exact (jm 947 (by decide +kernel) rfl)
  | 24, _ => exact (jm 949 (by decide +kernel) rfl)
  | 25, _ => exact (jm 951 (by decide +kernel) rfl)
  | 26, _ => exact (jm 953 (by decide +kernel) rfl)
  | 27, _ => exact (jm 955 (by decide +kernel) rfl)
  | 28, _ => exact (jm 957 (by decide +kernel) rfl)
  | 29, _ => exact (jm 959 (by decide +kernel) rfl)
  | 30, _ => exact (jm 961 (by decide +kernel) rfl)
  | 31, _ => exact (jm 963 (by decide +kernel) rfl)
  | 32, _ => exact (jm 965 (by decide +kernel) rfl)
  | 33, _ => exact (jm 967 (by decide +kernel) rfl)
  | 34, _ => exact (jm 969 (by decide +kernel) rfl)
  | 35, _ => exact (jm 971 (by decide +kernel) rfl)
  | 36, _ => exact (jm 973 (by decide +kernel) rfl)
  | 37, _ => exact (jm 975 (by decide +kernel) rfl)
  | 38, _ => exact (jm 977 (by decide +kernel) rfl)
  | 39, _ => exact (jm 979 (by decide +kernel) rfl)
  | 40, _ => exact (jm 981 (by decide +kernel) rfl)
  | 41, _ => exact (jm 983 (by decide +kernel) rfl)
  | k + 42, h => exact absurd h (by omega)
theorem jo_M : ∀ k, k < 42 → parseFieldDescriptor (jF_M k).2.2.1 = some (jt_M k) := by decide +kernel
theorem jq_M : ∀ a, a < 42 → ∀ b, b < 42 → a ≠ b → (jF_M a).2.1 ≠ (jF_M b).2.1 := by decide +kernel
