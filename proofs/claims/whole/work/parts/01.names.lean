-- ===== PART A: goes FIRST, ahead of the names: the tables' words, and 'selects' of the private methods out of them =====
/-- a private method of a class that the tables say can be made, by its rows of tables_1 -/
def lw_okq (q : MethodName × Nat) : Prop := (q.1.cls ≠ "java/lang/invoke/MethodHandle" ∧ q.1.cls ≠ "java/lang/invoke/VarHandle") ∧ Cond.instantiable q.1.cls q.2 ∈ tables_1 ∧ Cond.privateMethod q.1 ∈ tables_1 ∧ Cond.instanceMethod q.1 ∈ tables_1
theorem lw_p0 : lw_okq (⟨"AlternatingAutomata", "automatonIn", "(I)LAlternatingAutomata$Automaton;"⟩, 14) := ⟨⟨by decide +kernel, by decide +kernel⟩, List.mem_of_getElem? (i := 18) (by decide +kernel), List.mem_of_getElem? (i := 322) (by decide +kernel), List.mem_of_getElem? (i := 323) (by decide +kernel)⟩
theorem lw_p1 : lw_okq (⟨"AlternatingAutomata", "readFormula", "(III)I"⟩, 14) := ⟨⟨by decide +kernel, by decide +kernel⟩, List.mem_of_getElem? (i := 18) (by decide +kernel), List.mem_of_getElem? (i := 358) (by decide +kernel), List.mem_of_getElem? (i := 359) (by decide +kernel)⟩
theorem lw_p2 : lw_okq (⟨"AlternatingAutomata", "formulaIn", "(III)LAlternatingAutomata$Formula;"⟩, 14) := ⟨⟨by decide +kernel, by decide +kernel⟩, List.mem_of_getElem? (i := 18) (by decide +kernel), List.mem_of_getElem? (i := 362) (by decide +kernel), List.mem_of_getElem? (i := 363) (by decide +kernel)⟩
theorem lw_p3 : lw_okq (⟨"AlternatingAutomata$FormulaText", "parse", "(I)I"⟩, 9) := ⟨⟨by decide +kernel, by decide +kernel⟩, List.mem_of_getElem? (i := 102) (by decide +kernel), List.mem_of_getElem? (i := 380) (by decide +kernel), List.mem_of_getElem? (i := 381) (by decide +kernel)⟩
theorem lw_p4 : lw_okq (⟨"AlternatingAutomata$FormulaText", "openGroup", "()V"⟩, 9) := ⟨⟨by decide +kernel, by decide +kernel⟩, List.mem_of_getElem? (i := 102) (by decide +kernel), List.mem_of_getElem? (i := 384) (by decide +kernel), List.mem_of_getElem? (i := 385) (by decide +kernel)⟩
theorem lw_p5 : lw_okq (⟨"AlternatingAutomata$FormulaText", "addWaiting", "(I)V"⟩, 9) := ⟨⟨by decide +kernel, by decide +kernel⟩, List.mem_of_getElem? (i := 102) (by decide +kernel), List.mem_of_getElem? (i := 388) (by decide +kernel), List.mem_of_getElem? (i := 389) (by decide +kernel)⟩
theorem lw_p6 : lw_okq (⟨"AlternatingAutomata$FormulaText", "addLeaf", "(I)V"⟩, 9) := ⟨⟨by decide +kernel, by decide +kernel⟩, List.mem_of_getElem? (i := 102) (by decide +kernel), List.mem_of_getElem? (i := 395) (by decide +kernel), List.mem_of_getElem? (i := 396) (by decide +kernel)⟩
theorem lw_p7 : lw_okq (⟨"AlternatingAutomata$FormulaText", "addNode", "(I)V"⟩, 9) := ⟨⟨by decide +kernel, by decide +kernel⟩, List.mem_of_getElem? (i := 102) (by decide +kernel), List.mem_of_getElem? (i := 399) (by decide +kernel), List.mem_of_getElem? (i := 400) (by decide +kernel)⟩
theorem lw_p8 : lw_okq (⟨"AlternatingAutomata$FormulaText", "closeGroup", "()V"⟩, 9) := ⟨⟨by decide +kernel, by decide +kernel⟩, List.mem_of_getElem? (i := 102) (by decide +kernel), List.mem_of_getElem? (i := 409) (by decide +kernel), List.mem_of_getElem? (i := 410) (by decide +kernel)⟩
theorem lw_p9 : lw_okq (⟨"AlternatingAutomata$FormulaText", "applyWaiting", "(I)V"⟩, 9) := ⟨⟨by decide +kernel, by decide +kernel⟩, List.mem_of_getElem? (i := 102) (by decide +kernel), List.mem_of_getElem? (i := 413) (by decide +kernel), List.mem_of_getElem? (i := 414) (by decide +kernel)⟩
theorem lw_p10 : lw_okq (⟨"AlternatingAutomata$FormulaText", "applyOperator", "(I)V"⟩, 9) := ⟨⟨by decide +kernel, by decide +kernel⟩, List.mem_of_getElem? (i := 102) (by decide +kernel), List.mem_of_getElem? (i := 417) (by decide +kernel), List.mem_of_getElem? (i := 418) (by decide +kernel)⟩
theorem lw_p11 : lw_okq (⟨"AlternatingAutomata$FormulaText", "addOperator", "(I)V"⟩, 9) := ⟨⟨by decide +kernel, by decide +kernel⟩, List.mem_of_getElem? (i := 102) (by decide +kernel), List.mem_of_getElem? (i := 424) (by decide +kernel), List.mem_of_getElem? (i := 425) (by decide +kernel)⟩
theorem lw_p12 : lw_okq (⟨"AlternatingAutomata$FormulaPrinter", "joinParts", "(I)V"⟩, 5) := ⟨⟨by decide +kernel, by decide +kernel⟩, List.mem_of_getElem? (i := 139) (by decide +kernel), List.mem_of_getElem? (i := 455) (by decide +kernel), List.mem_of_getElem? (i := 456) (by decide +kernel)⟩
theorem lw_p13 : lw_okq (⟨"AlternatingAutomata$FormulaPrinter", "insert", "(IC)V"⟩, 5) := ⟨⟨by decide +kernel, by decide +kernel⟩, List.mem_of_getElem? (i := 139) (by decide +kernel), List.mem_of_getElem? (i := 459) (by decide +kernel), List.mem_of_getElem? (i := 460) (by decide +kernel)⟩
theorem lw_p14 : lw_okq (⟨"AlternatingAutomata$FormulaPrinter", "addPart", "(I)V"⟩, 5) := ⟨⟨by decide +kernel, by decide +kernel⟩, List.mem_of_getElem? (i := 139) (by decide +kernel), List.mem_of_getElem? (i := 463) (by decide +kernel), List.mem_of_getElem? (i := 464) (by decide +kernel)⟩
theorem lw_p15 : lw_okq (⟨"AlternatingAutomata$Game", "setValue", "(III)V"⟩, 3) := ⟨⟨by decide +kernel, by decide +kernel⟩, List.mem_of_getElem? (i := 183) (by decide +kernel), List.mem_of_getElem? (i := 556) (by decide +kernel), List.mem_of_getElem? (i := 557) (by decide +kernel)⟩
def lw_privs_1 : List (MethodName × Nat) := [(⟨"AlternatingAutomata", "automatonIn", "(I)LAlternatingAutomata$Automaton;"⟩, 14), (⟨"AlternatingAutomata", "readFormula", "(III)I"⟩, 14), (⟨"AlternatingAutomata", "formulaIn", "(III)LAlternatingAutomata$Formula;"⟩, 14), (⟨"AlternatingAutomata$FormulaText", "parse", "(I)I"⟩, 9), (⟨"AlternatingAutomata$FormulaText", "openGroup", "()V"⟩, 9), (⟨"AlternatingAutomata$FormulaText", "addWaiting", "(I)V"⟩, 9), (⟨"AlternatingAutomata$FormulaText", "addLeaf", "(I)V"⟩, 9), (⟨"AlternatingAutomata$FormulaText", "addNode", "(I)V"⟩, 9), (⟨"AlternatingAutomata$FormulaText", "closeGroup", "()V"⟩, 9), (⟨"AlternatingAutomata$FormulaText", "applyWaiting", "(I)V"⟩, 9), (⟨"AlternatingAutomata$FormulaText", "applyOperator", "(I)V"⟩, 9), (⟨"AlternatingAutomata$FormulaText", "addOperator", "(I)V"⟩, 9), (⟨"AlternatingAutomata$FormulaPrinter", "joinParts", "(I)V"⟩, 5), (⟨"AlternatingAutomata$FormulaPrinter", "insert", "(IC)V"⟩, 5), (⟨"AlternatingAutomata$FormulaPrinter", "addPart", "(I)V"⟩, 5), (⟨"AlternatingAutomata$Game", "setValue", "(III)V"⟩, 3)]
theorem lw_r1 : ∀ q ∈ lw_privs_1, lw_okq q := List.forall_mem_cons.mpr ⟨lw_p0, List.forall_mem_cons.mpr ⟨lw_p1, List.forall_mem_cons.mpr ⟨lw_p2, List.forall_mem_cons.mpr ⟨lw_p3, List.forall_mem_cons.mpr ⟨lw_p4, List.forall_mem_cons.mpr ⟨lw_p5, List.forall_mem_cons.mpr ⟨lw_p6, List.forall_mem_cons.mpr ⟨lw_p7, List.forall_mem_cons.mpr ⟨lw_p8, List.forall_mem_cons.mpr ⟨lw_p9, List.forall_mem_cons.mpr ⟨lw_p10, List.forall_mem_cons.mpr ⟨lw_p11, List.forall_mem_cons.mpr ⟨lw_p12, List.forall_mem_cons.mpr ⟨lw_p13, List.forall_mem_cons.mpr ⟨lw_p14, List.forall_mem_cons.mpr ⟨lw_p15, fun _ h => absurd h List.not_mem_nil⟩⟩⟩⟩⟩⟩⟩⟩⟩⟩⟩⟩⟩⟩⟩⟩
theorem lw_p16 : lw_okq (⟨"AlternatingAutomata$Game", "evaluate", "(LAlternatingAutomata$Formula;I)V"⟩, 3) := ⟨⟨by decide +kernel, by decide +kernel⟩, List.mem_of_getElem? (i := 183) (by decide +kernel), List.mem_of_getElem? (i := 568) (by decide +kernel), List.mem_of_getElem? (i := 569) (by decide +kernel)⟩
theorem lw_p17 : lw_okq (⟨"AlternatingAutomata$Game", "leafValue", "(II)I"⟩, 3) := ⟨⟨by decide +kernel, by decide +kernel⟩, List.mem_of_getElem? (i := 183) (by decide +kernel), List.mem_of_getElem? (i := 573) (by decide +kernel), List.mem_of_getElem? (i := 574) (by decide +kernel)⟩
theorem lw_p18 : lw_okq (⟨"AlternatingAutomata$Game", "joinParts", "(III)V"⟩, 3) := ⟨⟨by decide +kernel, by decide +kernel⟩, List.mem_of_getElem? (i := 183) (by decide +kernel), List.mem_of_getElem? (i := 581) (by decide +kernel), List.mem_of_getElem? (i := 582) (by decide +kernel)⟩
theorem lw_p19 : lw_okq (⟨"AlternatingAutomata$ReverseAutomaton", "stepAll", "(J)J"⟩, 8) := ⟨⟨by decide +kernel, by decide +kernel⟩, List.mem_of_getElem? (i := 199) (by decide +kernel), List.mem_of_getElem? (i := 618) (by decide +kernel), List.mem_of_getElem? (i := 619) (by decide +kernel)⟩
theorem lw_p20 : lw_okq (⟨"AlternatingAutomata$ReverseAutomaton", "refine", "(J)I"⟩, 8) := ⟨⟨by decide +kernel, by decide +kernel⟩, List.mem_of_getElem? (i := 199) (by decide +kernel), List.mem_of_getElem? (i := 637) (by decide +kernel), List.mem_of_getElem? (i := 638) (by decide +kernel)⟩
theorem lw_p21 : lw_okq (⟨"AlternatingAutomata$ReverseAutomaton", "earlierTwin", "(JI)I"⟩, 8) := ⟨⟨by decide +kernel, by decide +kernel⟩, List.mem_of_getElem? (i := 199) (by decide +kernel), List.mem_of_getElem? (i := 641) (by decide +kernel), List.mem_of_getElem? (i := 642) (by decide +kernel)⟩
theorem lw_p22 : lw_okq (⟨"AlternatingAutomata$ReverseAutomaton", "areTwins", "(II)Z"⟩, 8) := ⟨⟨by decide +kernel, by decide +kernel⟩, List.mem_of_getElem? (i := 199) (by decide +kernel), List.mem_of_getElem? (i := 645) (by decide +kernel), List.mem_of_getElem? (i := 646) (by decide +kernel)⟩
theorem lw_p23 : lw_okq (⟨"AlternatingAutomata$Automaton", "tableOfAll", "(II)J"⟩, 6) := ⟨⟨by decide +kernel, by decide +kernel⟩, List.mem_of_getElem? (i := 27) (by decide +kernel), List.mem_of_getElem? (i := 664) (by decide +kernel), List.mem_of_getElem? (i := 665) (by decide +kernel)⟩
theorem lw_p24 : lw_okq (⟨"AlternatingAutomata$Automaton", "statesAfter", "(I)I"⟩, 6) := ⟨⟨by decide +kernel, by decide +kernel⟩, List.mem_of_getElem? (i := 27) (by decide +kernel), List.mem_of_getElem? (i := 690) (by decide +kernel), List.mem_of_getElem? (i := 691) (by decide +kernel)⟩
theorem lw_p25 : lw_okq (⟨"AlternatingAutomata$CheapestSearch", "lowerPrices", "(LAlternatingAutomata$ReverseAutomaton;[I)Z"⟩, 2) := ⟨⟨by decide +kernel, by decide +kernel⟩, List.mem_of_getElem? (i := 234) (by decide +kernel), List.mem_of_getElem? (i := 703) (by decide +kernel), List.mem_of_getElem? (i := 704) (by decide +kernel)⟩
theorem lw_p26 : lw_okq (⟨"AlternatingAutomata$CheapestSearch", "waysInto", "(LAlternatingAutomata$ReverseAutomaton;JII)J"⟩, 2) := ⟨⟨by decide +kernel, by decide +kernel⟩, List.mem_of_getElem? (i := 234) (by decide +kernel), List.mem_of_getElem? (i := 720) (by decide +kernel), List.mem_of_getElem? (i := 721) (by decide +kernel)⟩
theorem lw_p27 : lw_okq (⟨"AlternatingAutomata", "searchPairs", "(LAlternatingAutomata$Automaton;LAlternatingAutomata$Automaton;Z)Z"⟩, 14) := ⟨⟨by decide +kernel, by decide +kernel⟩, List.mem_of_getElem? (i := 18) (by decide +kernel), List.mem_of_getElem? (i := 734) (by decide +kernel), List.mem_of_getElem? (i := 735) (by decide +kernel)⟩
theorem lw_p28 : lw_okq (⟨"AlternatingAutomata$PairSearch", "forgetLast", "()V"⟩, 5) := ⟨⟨by decide +kernel, by decide +kernel⟩, List.mem_of_getElem? (i := 248) (by decide +kernel), List.mem_of_getElem? (i := 742) (by decide +kernel), List.mem_of_getElem? (i := 743) (by decide +kernel)⟩
theorem lw_p29 : lw_okq (⟨"AlternatingAutomata$PairSearch", "reach", "(II)V"⟩, 5) := ⟨⟨by decide +kernel, by decide +kernel⟩, List.mem_of_getElem? (i := 248) (by decide +kernel), List.mem_of_getElem? (i := 746) (by decide +kernel), List.mem_of_getElem? (i := 747) (by decide +kernel)⟩
theorem lw_p30 : lw_okq (⟨"AlternatingAutomata$PairSearch", "levelBegin", "(II)I"⟩, 5) := ⟨⟨by decide +kernel, by decide +kernel⟩, List.mem_of_getElem? (i := 248) (by decide +kernel), List.mem_of_getElem? (i := 762) (by decide +kernel), List.mem_of_getElem? (i := 763) (by decide +kernel)⟩
theorem lw_p31 : lw_okq (⟨"AlternatingAutomata$PairSearch", "markLeading", "(LAlternatingAutomata$ReverseAutomaton;LAlternatingAutomata$ReverseAutomaton;III)Z"⟩, 5) := ⟨⟨by decide +kernel, by decide +kernel⟩, List.mem_of_getElem? (i := 248) (by decide +kernel), List.mem_of_getElem? (i := 766) (by decide +kernel), List.mem_of_getElem? (i := 767) (by decide +kernel)⟩
def lw_privs_2 : List (MethodName × Nat) := [(⟨"AlternatingAutomata$Game", "evaluate", "(LAlternatingAutomata$Formula;I)V"⟩, 3), (⟨"AlternatingAutomata$Game", "leafValue", "(II)I"⟩, 3), (⟨"AlternatingAutomata$Game", "joinParts", "(III)V"⟩, 3), (⟨"AlternatingAutomata$ReverseAutomaton", "stepAll", "(J)J"⟩, 8), (⟨"AlternatingAutomata$ReverseAutomaton", "refine", "(J)I"⟩, 8), (⟨"AlternatingAutomata$ReverseAutomaton", "earlierTwin", "(JI)I"⟩, 8), (⟨"AlternatingAutomata$ReverseAutomaton", "areTwins", "(II)Z"⟩, 8), (⟨"AlternatingAutomata$Automaton", "tableOfAll", "(II)J"⟩, 6), (⟨"AlternatingAutomata$Automaton", "statesAfter", "(I)I"⟩, 6), (⟨"AlternatingAutomata$CheapestSearch", "lowerPrices", "(LAlternatingAutomata$ReverseAutomaton;[I)Z"⟩, 2), (⟨"AlternatingAutomata$CheapestSearch", "waysInto", "(LAlternatingAutomata$ReverseAutomaton;JII)J"⟩, 2), (⟨"AlternatingAutomata", "searchPairs", "(LAlternatingAutomata$Automaton;LAlternatingAutomata$Automaton;Z)Z"⟩, 14), (⟨"AlternatingAutomata$PairSearch", "forgetLast", "()V"⟩, 5), (⟨"AlternatingAutomata$PairSearch", "reach", "(II)V"⟩, 5), (⟨"AlternatingAutomata$PairSearch", "levelBegin", "(II)I"⟩, 5), (⟨"AlternatingAutomata$PairSearch", "markLeading", "(LAlternatingAutomata$ReverseAutomaton;LAlternatingAutomata$ReverseAutomaton;III)Z"⟩, 5)]
theorem lw_r2 : ∀ q ∈ lw_privs_2, lw_okq q := List.forall_mem_cons.mpr ⟨lw_p16, List.forall_mem_cons.mpr ⟨lw_p17, List.forall_mem_cons.mpr ⟨lw_p18, List.forall_mem_cons.mpr ⟨lw_p19, List.forall_mem_cons.mpr ⟨lw_p20, List.forall_mem_cons.mpr ⟨lw_p21, List.forall_mem_cons.mpr ⟨lw_p22, List.forall_mem_cons.mpr ⟨lw_p23, List.forall_mem_cons.mpr ⟨lw_p24, List.forall_mem_cons.mpr ⟨lw_p25, List.forall_mem_cons.mpr ⟨lw_p26, List.forall_mem_cons.mpr ⟨lw_p27, List.forall_mem_cons.mpr ⟨lw_p28, List.forall_mem_cons.mpr ⟨lw_p29, List.forall_mem_cons.mpr ⟨lw_p30, List.forall_mem_cons.mpr ⟨lw_p31, fun _ h => absurd h List.not_mem_nil⟩⟩⟩⟩⟩⟩⟩⟩⟩⟩⟩⟩⟩⟩⟩⟩
theorem lw_p32 : lw_okq (⟨"AlternatingAutomata$ReverseAutomaton", "countOneLetterMore", "()V"⟩, 8) := ⟨⟨by decide +kernel, by decide +kernel⟩, List.mem_of_getElem? (i := 199) (by decide +kernel), List.mem_of_getElem? (i := 794) (by decide +kernel), List.mem_of_getElem? (i := 795) (by decide +kernel)⟩
theorem lw_p33 : lw_okq (⟨"AlternatingAutomata$Automaton", "takeShape", "(LAlternatingAutomata$Automaton;I)V"⟩, 6) := ⟨⟨by decide +kernel, by decide +kernel⟩, List.mem_of_getElem? (i := 27) (by decide +kernel), List.mem_of_getElem? (i := 806) (by decide +kernel), List.mem_of_getElem? (i := 807) (by decide +kernel)⟩
theorem lw_p34 : lw_okq (⟨"AlternatingAutomata$Formula", "addShifted", "(LAlternatingAutomata$Formula;I)V"⟩, 3) := ⟨⟨by decide +kernel, by decide +kernel⟩, List.mem_of_getElem? (i := 33) (by decide +kernel), List.mem_of_getElem? (i := 833) (by decide +kernel), List.mem_of_getElem? (i := 834) (by decide +kernel)⟩
theorem lw_p35 : lw_okq (⟨"AlternatingAutomata$Automaton", "copyMoves", "(LAlternatingAutomata$Automaton;)V"⟩, 6) := ⟨⟨by decide +kernel, by decide +kernel⟩, List.mem_of_getElem? (i := 27) (by decide +kernel), List.mem_of_getElem? (i := 841) (by decide +kernel), List.mem_of_getElem? (i := 842) (by decide +kernel)⟩
theorem lw_p36 : lw_okq (⟨"AlternatingAutomataModel", "empties", "(III)V"⟩, 49) := ⟨⟨by decide +kernel, by decide +kernel⟩, List.mem_of_getElem? (i := 869) (by decide +kernel), List.mem_of_getElem? (i := 875) (by decide +kernel), List.mem_of_getElem? (i := 876) (by decide +kernel)⟩
theorem lw_p37 : lw_okq (⟨"AlternatingAutomataModel", "at", "(II)I"⟩, 49) := ⟨⟨by decide +kernel, by decide +kernel⟩, List.mem_of_getElem? (i := 869) (by decide +kernel), List.mem_of_getElem? (i := 879) (by decide +kernel), List.mem_of_getElem? (i := 880) (by decide +kernel)⟩
theorem lw_p38 : lw_okq (⟨"AlternatingAutomataModel", "isState", "(II)Z"⟩, 49) := ⟨⟨by decide +kernel, by decide +kernel⟩, List.mem_of_getElem? (i := 869) (by decide +kernel), List.mem_of_getElem? (i := 1045) (by decide +kernel), List.mem_of_getElem? (i := 1046) (by decide +kernel)⟩
theorem lw_p39 : lw_okq (⟨"AlternatingAutomataModel", "isLetter", "(II)Z"⟩, 49) := ⟨⟨by decide +kernel, by decide +kernel⟩, List.mem_of_getElem? (i := 869) (by decide +kernel), List.mem_of_getElem? (i := 1053) (by decide +kernel), List.mem_of_getElem? (i := 1054) (by decide +kernel)⟩
theorem lw_p40 : lw_okq (⟨"AlternatingAutomataModel", "parses", "(II)I"⟩, 49) := ⟨⟨by decide +kernel, by decide +kernel⟩, List.mem_of_getElem? (i := 869) (by decide +kernel), List.mem_of_getElem? (i := 1069) (by decide +kernel), List.mem_of_getElem? (i := 1070) (by decide +kernel)⟩
theorem lw_p41 : lw_okq (⟨"AlternatingAutomataModel", "takesText", "(I)Z"⟩, 49) := ⟨⟨by decide +kernel, by decide +kernel⟩, List.mem_of_getElem? (i := 869) (by decide +kernel), List.mem_of_getElem? (i := 1073) (by decide +kernel), List.mem_of_getElem? (i := 1074) (by decide +kernel)⟩
theorem lw_p42 : lw_okq (⟨"AlternatingAutomataModel", "takesFactor", "(I)Z"⟩, 49) := ⟨⟨by decide +kernel, by decide +kernel⟩, List.mem_of_getElem? (i := 869) (by decide +kernel), List.mem_of_getElem? (i := 1077) (by decide +kernel), List.mem_of_getElem? (i := 1078) (by decide +kernel)⟩
theorem lw_p43 : lw_okq (⟨"AlternatingAutomataModel", "next", "()I"⟩, 49) := ⟨⟨by decide +kernel, by decide +kernel⟩, List.mem_of_getElem? (i := 869) (by decide +kernel), List.mem_of_getElem? (i := 1081) (by decide +kernel), List.mem_of_getElem? (i := 1082) (by decide +kernel)⟩
theorem lw_p44 : lw_okq (⟨"AlternatingAutomataModel", "makes", "(I)V"⟩, 49) := ⟨⟨by decide +kernel, by decide +kernel⟩, List.mem_of_getElem? (i := 869) (by decide +kernel), List.mem_of_getElem? (i := 1085) (by decide +kernel), List.mem_of_getElem? (i := 1086) (by decide +kernel)⟩
theorem lw_p45 : lw_okq (⟨"AlternatingAutomataModel", "makesFrom", "(I)V"⟩, 49) := ⟨⟨by decide +kernel, by decide +kernel⟩, List.mem_of_getElem? (i := 869) (by decide +kernel), List.mem_of_getElem? (i := 1089) (by decide +kernel), List.mem_of_getElem? (i := 1090) (by decide +kernel)⟩
theorem lw_p46 : lw_okq (⟨"AlternatingAutomataModel", "refusesText", "()I"⟩, 49) := ⟨⟨by decide +kernel, by decide +kernel⟩, List.mem_of_getElem? (i := 869) (by decide +kernel), List.mem_of_getElem? (i := 1093) (by decide +kernel), List.mem_of_getElem? (i := 1094) (by decide +kernel)⟩
theorem lw_p47 : lw_okq (⟨"AlternatingAutomataModel", "asked", "(III)I"⟩, 49) := ⟨⟨by decide +kernel, by decide +kernel⟩, List.mem_of_getElem? (i := 869) (by decide +kernel), List.mem_of_getElem? (i := 1108) (by decide +kernel), List.mem_of_getElem? (i := 1109) (by decide +kernel)⟩
def lw_privs_3 : List (MethodName × Nat) := [(⟨"AlternatingAutomata$ReverseAutomaton", "countOneLetterMore", "()V"⟩, 8), (⟨"AlternatingAutomata$Automaton", "takeShape", "(LAlternatingAutomata$Automaton;I)V"⟩, 6), (⟨"AlternatingAutomata$Formula", "addShifted", "(LAlternatingAutomata$Formula;I)V"⟩, 3), (⟨"AlternatingAutomata$Automaton", "copyMoves", "(LAlternatingAutomata$Automaton;)V"⟩, 6), (⟨"AlternatingAutomataModel", "empties", "(III)V"⟩, 49), (⟨"AlternatingAutomataModel", "at", "(II)I"⟩, 49), (⟨"AlternatingAutomataModel", "isState", "(II)Z"⟩, 49), (⟨"AlternatingAutomataModel", "isLetter", "(II)Z"⟩, 49), (⟨"AlternatingAutomataModel", "parses", "(II)I"⟩, 49), (⟨"AlternatingAutomataModel", "takesText", "(I)Z"⟩, 49), (⟨"AlternatingAutomataModel", "takesFactor", "(I)Z"⟩, 49), (⟨"AlternatingAutomataModel", "next", "()I"⟩, 49), (⟨"AlternatingAutomataModel", "makes", "(I)V"⟩, 49), (⟨"AlternatingAutomataModel", "makesFrom", "(I)V"⟩, 49), (⟨"AlternatingAutomataModel", "refusesText", "()I"⟩, 49), (⟨"AlternatingAutomataModel", "asked", "(III)I"⟩, 49)]
theorem lw_r3 : ∀ q ∈ lw_privs_3, lw_okq q := List.forall_mem_cons.mpr ⟨lw_p32, List.forall_mem_cons.mpr ⟨lw_p33, List.forall_mem_cons.mpr ⟨lw_p34, List.forall_mem_cons.mpr ⟨lw_p35, List.forall_mem_cons.mpr ⟨lw_p36, List.forall_mem_cons.mpr ⟨lw_p37, List.forall_mem_cons.mpr ⟨lw_p38, List.forall_mem_cons.mpr ⟨lw_p39, List.forall_mem_cons.mpr ⟨lw_p40, List.forall_mem_cons.mpr ⟨lw_p41, List.forall_mem_cons.mpr ⟨lw_p42, List.forall_mem_cons.mpr ⟨lw_p43, List.forall_mem_cons.mpr ⟨lw_p44, List.forall_mem_cons.mpr ⟨lw_p45, List.forall_mem_cons.mpr ⟨lw_p46, List.forall_mem_cons.mpr ⟨lw_p47, fun _ h => absurd h List.not_mem_nil⟩⟩⟩⟩⟩⟩⟩⟩⟩⟩⟩⟩⟩⟩⟩⟩
theorem lw_p48 : lw_okq (⟨"AlternatingAutomataModel", "sizeOf", "(II)I"⟩, 49) := ⟨⟨by decide +kernel, by decide +kernel⟩, List.mem_of_getElem? (i := 869) (by decide +kernel), List.mem_of_getElem? (i := 1112) (by decide +kernel), List.mem_of_getElem? (i := 1113) (by decide +kernel)⟩
theorem lw_p49 : lw_okq (⟨"AlternatingAutomataModel", "findParts", "(II)V"⟩, 49) := ⟨⟨by decide +kernel, by decide +kernel⟩, List.mem_of_getElem? (i := 869) (by decide +kernel), List.mem_of_getElem? (i := 1116) (by decide +kernel), List.mem_of_getElem? (i := 1117) (by decide +kernel)⟩
theorem lw_p50 : lw_okq (⟨"AlternatingAutomataModel", "puts", "(I)V"⟩, 49) := ⟨⟨by decide +kernel, by decide +kernel⟩, List.mem_of_getElem? (i := 869) (by decide +kernel), List.mem_of_getElem? (i := 1120) (by decide +kernel), List.mem_of_getElem? (i := 1121) (by decide +kernel)⟩
theorem lw_p51 : lw_okq (⟨"AlternatingAutomataModel", "tells", "(II)V"⟩, 49) := ⟨⟨by decide +kernel, by decide +kernel⟩, List.mem_of_getElem? (i := 869) (by decide +kernel), List.mem_of_getElem? (i := 1124) (by decide +kernel), List.mem_of_getElem? (i := 1125) (by decide +kernel)⟩
theorem lw_p52 : lw_okq (⟨"AlternatingAutomataModel", "putsPart", "(IZ)V"⟩, 49) := ⟨⟨by decide +kernel, by decide +kernel⟩, List.mem_of_getElem? (i := 869) (by decide +kernel), List.mem_of_getElem? (i := 1128) (by decide +kernel), List.mem_of_getElem? (i := 1129) (by decide +kernel)⟩
theorem lw_p53 : lw_okq (⟨"AlternatingAutomataModel", "isSet", "(II)Z"⟩, 49) := ⟨⟨by decide +kernel, by decide +kernel⟩, List.mem_of_getElem? (i := 869) (by decide +kernel), List.mem_of_getElem? (i := 1140) (by decide +kernel), List.mem_of_getElem? (i := 1141) (by decide +kernel)⟩
theorem lw_p54 : lw_okq (⟨"AlternatingAutomataModel", "allOf", "(I)I"⟩, 49) := ⟨⟨by decide +kernel, by decide +kernel⟩, List.mem_of_getElem? (i := 869) (by decide +kernel), List.mem_of_getElem? (i := 1144) (by decide +kernel), List.mem_of_getElem? (i := 1145) (by decide +kernel)⟩
theorem lw_p55 : lw_okq (⟨"AlternatingAutomataModel", "satisfies", "(III)Z"⟩, 49) := ⟨⟨by decide +kernel, by decide +kernel⟩, List.mem_of_getElem? (i := 869) (by decide +kernel), List.mem_of_getElem? (i := 1148) (by decide +kernel), List.mem_of_getElem? (i := 1149) (by decide +kernel)⟩
theorem lw_p56 : lw_okq (⟨"AlternatingAutomataModel", "wants", "(IIII)V"⟩, 49) := ⟨⟨by decide +kernel, by decide +kernel⟩, List.mem_of_getElem? (i := 869) (by decide +kernel), List.mem_of_getElem? (i := 1156) (by decide +kernel), List.mem_of_getElem? (i := 1157) (by decide +kernel)⟩
theorem lw_p57 : lw_okq (⟨"AlternatingAutomataModel", "isMinimal", "(I)Z"⟩, 49) := ⟨⟨by decide +kernel, by decide +kernel⟩, List.mem_of_getElem? (i := 869) (by decide +kernel), List.mem_of_getElem? (i := 1163) (by decide +kernel), List.mem_of_getElem? (i := 1164) (by decide +kernel)⟩
theorem lw_p58 : lw_okq (⟨"AlternatingAutomataModel", "satisfiesWanted", "(I)Z"⟩, 49) := ⟨⟨by decide +kernel, by decide +kernel⟩, List.mem_of_getElem? (i := 869) (by decide +kernel), List.mem_of_getElem? (i := 1167) (by decide +kernel), List.mem_of_getElem? (i := 1168) (by decide +kernel)⟩
theorem lw_p59 : lw_okq (⟨"AlternatingAutomataModel", "isWordOf", "(I)Z"⟩, 49) := ⟨⟨by decide +kernel, by decide +kernel⟩, List.mem_of_getElem? (i := 869) (by decide +kernel), List.mem_of_getElem? (i := 1183) (by decide +kernel), List.mem_of_getElem? (i := 1184) (by decide +kernel)⟩
theorem lw_p60 : lw_okq (⟨"AlternatingAutomataModel", "acceptingFrom", "(II)I"⟩, 49) := ⟨⟨by decide +kernel, by decide +kernel⟩, List.mem_of_getElem? (i := 869) (by decide +kernel), List.mem_of_getElem? (i := 1187) (by decide +kernel), List.mem_of_getElem? (i := 1188) (by decide +kernel)⟩
theorem lw_p61 : lw_okq (⟨"AlternatingAutomataModel", "stepOf", "(III)I"⟩, 49) := ⟨⟨by decide +kernel, by decide +kernel⟩, List.mem_of_getElem? (i := 869) (by decide +kernel), List.mem_of_getElem? (i := 1191) (by decide +kernel), List.mem_of_getElem? (i := 1192) (by decide +kernel)⟩
theorem lw_p62 : lw_okq (⟨"AlternatingAutomataModel", "isAccepting", "(II)Z"⟩, 49) := ⟨⟨by decide +kernel, by decide +kernel⟩, List.mem_of_getElem? (i := 869) (by decide +kernel), List.mem_of_getElem? (i := 1199) (by decide +kernel), List.mem_of_getElem? (i := 1200) (by decide +kernel)⟩
theorem lw_p63 : lw_okq (⟨"AlternatingAutomataModel", "findRanks", "(II)V"⟩, 49) := ⟨⟨by decide +kernel, by decide +kernel⟩, List.mem_of_getElem? (i := 869) (by decide +kernel), List.mem_of_getElem? (i := 1207) (by decide +kernel), List.mem_of_getElem? (i := 1208) (by decide +kernel)⟩
def lw_privs_4 : List (MethodName × Nat) := [(⟨"AlternatingAutomataModel", "sizeOf", "(II)I"⟩, 49), (⟨"AlternatingAutomataModel", "findParts", "(II)V"⟩, 49), (⟨"AlternatingAutomataModel", "puts", "(I)V"⟩, 49), (⟨"AlternatingAutomataModel", "tells", "(II)V"⟩, 49), (⟨"AlternatingAutomataModel", "putsPart", "(IZ)V"⟩, 49), (⟨"AlternatingAutomataModel", "isSet", "(II)Z"⟩, 49), (⟨"AlternatingAutomataModel", "allOf", "(I)I"⟩, 49), (⟨"AlternatingAutomataModel", "satisfies", "(III)Z"⟩, 49), (⟨"AlternatingAutomataModel", "wants", "(IIII)V"⟩, 49), (⟨"AlternatingAutomataModel", "isMinimal", "(I)Z"⟩, 49), (⟨"AlternatingAutomataModel", "satisfiesWanted", "(I)Z"⟩, 49), (⟨"AlternatingAutomataModel", "isWordOf", "(I)Z"⟩, 49), (⟨"AlternatingAutomataModel", "acceptingFrom", "(II)I"⟩, 49), (⟨"AlternatingAutomataModel", "stepOf", "(III)I"⟩, 49), (⟨"AlternatingAutomataModel", "isAccepting", "(II)Z"⟩, 49), (⟨"AlternatingAutomataModel", "findRanks", "(II)V"⟩, 49)]
theorem lw_r4 : ∀ q ∈ lw_privs_4, lw_okq q := List.forall_mem_cons.mpr ⟨lw_p48, List.forall_mem_cons.mpr ⟨lw_p49, List.forall_mem_cons.mpr ⟨lw_p50, List.forall_mem_cons.mpr ⟨lw_p51, List.forall_mem_cons.mpr ⟨lw_p52, List.forall_mem_cons.mpr ⟨lw_p53, List.forall_mem_cons.mpr ⟨lw_p54, List.forall_mem_cons.mpr ⟨lw_p55, List.forall_mem_cons.mpr ⟨lw_p56, List.forall_mem_cons.mpr ⟨lw_p57, List.forall_mem_cons.mpr ⟨lw_p58, List.forall_mem_cons.mpr ⟨lw_p59, List.forall_mem_cons.mpr ⟨lw_p60, List.forall_mem_cons.mpr ⟨lw_p61, List.forall_mem_cons.mpr ⟨lw_p62, List.forall_mem_cons.mpr ⟨lw_p63, fun _ h => absurd h List.not_mem_nil⟩⟩⟩⟩⟩⟩⟩⟩⟩⟩⟩⟩⟩⟩⟩⟩
theorem lw_p64 : lw_okq (⟨"AlternatingAutomataModel", "findNodeRanks", "(II)V"⟩, 49) := ⟨⟨by decide +kernel, by decide +kernel⟩, List.mem_of_getElem? (i := 869) (by decide +kernel), List.mem_of_getElem? (i := 1211) (by decide +kernel), List.mem_of_getElem? (i := 1212) (by decide +kernel)⟩
theorem lw_p65 : lw_okq (⟨"AlternatingAutomataModel", "findReverse", "(I)V"⟩, 49) := ⟨⟨by decide +kernel, by decide +kernel⟩, List.mem_of_getElem? (i := 869) (by decide +kernel), List.mem_of_getElem? (i := 1233) (by decide +kernel), List.mem_of_getElem? (i := 1234) (by decide +kernel)⟩
theorem lw_p66 : lw_okq (⟨"AlternatingAutomataModel", "forgets", "()V"⟩, 49) := ⟨⟨by decide +kernel, by decide +kernel⟩, List.mem_of_getElem? (i := 869) (by decide +kernel), List.mem_of_getElem? (i := 1237) (by decide +kernel), List.mem_of_getElem? (i := 1238) (by decide +kernel)⟩
theorem lw_p67 : lw_okq (⟨"AlternatingAutomataModel", "comes", "(I)Z"⟩, 49) := ⟨⟨by decide +kernel, by decide +kernel⟩, List.mem_of_getElem? (i := 869) (by decide +kernel), List.mem_of_getElem? (i := 1241) (by decide +kernel), List.mem_of_getElem? (i := 1242) (by decide +kernel)⟩
theorem lw_p68 : lw_okq (⟨"AlternatingAutomataModel", "isOneClass", "(III)Z"⟩, 49) := ⟨⟨by decide +kernel, by decide +kernel⟩, List.mem_of_getElem? (i := 869) (by decide +kernel), List.mem_of_getElem? (i := 1249) (by decide +kernel), List.mem_of_getElem? (i := 1250) (by decide +kernel)⟩
theorem lw_p69 : lw_okq (⟨"AlternatingAutomataModel", "modelsCome", "()V"⟩, 49) := ⟨⟨by decide +kernel, by decide +kernel⟩, List.mem_of_getElem? (i := 869) (by decide +kernel), List.mem_of_getElem? (i := 1257) (by decide +kernel), List.mem_of_getElem? (i := 1258) (by decide +kernel)⟩
theorem lw_p70 : lw_okq (⟨"AlternatingAutomataModel", "statesIn", "(II)I"⟩, 49) := ⟨⟨by decide +kernel, by decide +kernel⟩, List.mem_of_getElem? (i := 869) (by decide +kernel), List.mem_of_getElem? (i := 1269) (by decide +kernel), List.mem_of_getElem? (i := 1270) (by decide +kernel)⟩
theorem lw_p71 : lw_okq (⟨"AlternatingAutomataModel", "findBest", "(I)V"⟩, 49) := ⟨⟨by decide +kernel, by decide +kernel⟩, List.mem_of_getElem? (i := 869) (by decide +kernel), List.mem_of_getElem? (i := 1277) (by decide +kernel), List.mem_of_getElem? (i := 1278) (by decide +kernel)⟩
theorem lw_p72 : lw_okq (⟨"AlternatingAutomataModel", "isBetter", "(IIIII)Z"⟩, 49) := ⟨⟨by decide +kernel, by decide +kernel⟩, List.mem_of_getElem? (i := 869) (by decide +kernel), List.mem_of_getElem? (i := 1281) (by decide +kernel), List.mem_of_getElem? (i := 1282) (by decide +kernel)⟩
theorem lw_p73 : lw_okq (⟨"AlternatingAutomataModel", "nearest", "()I"⟩, 49) := ⟨⟨by decide +kernel, by decide +kernel⟩, List.mem_of_getElem? (i := 869) (by decide +kernel), List.mem_of_getElem? (i := 1285) (by decide +kernel), List.mem_of_getElem? (i := 1286) (by decide +kernel)⟩
theorem lw_p74 : lw_okq (⟨"AlternatingAutomataModel", "isAhead", "(II)Z"⟩, 49) := ⟨⟨by decide +kernel, by decide +kernel⟩, List.mem_of_getElem? (i := 869) (by decide +kernel), List.mem_of_getElem? (i := 1289) (by decide +kernel), List.mem_of_getElem? (i := 1290) (by decide +kernel)⟩
theorem lw_p75 : lw_okq (⟨"AlternatingAutomataModel", "notPaired", "(II)I"⟩, 49) := ⟨⟨by decide +kernel, by decide +kernel⟩, List.mem_of_getElem? (i := 869) (by decide +kernel), List.mem_of_getElem? (i := 1297) (by decide +kernel), List.mem_of_getElem? (i := 1298) (by decide +kernel)⟩
theorem lw_p76 : lw_okq (⟨"AlternatingAutomataModel", "findPair", "(IIZ)I"⟩, 49) := ⟨⟨by decide +kernel, by decide +kernel⟩, List.mem_of_getElem? (i := 869) (by decide +kernel), List.mem_of_getElem? (i := 1301) (by decide +kernel), List.mem_of_getElem? (i := 1302) (by decide +kernel)⟩
theorem lw_p77 : lw_okq (⟨"AlternatingAutomataModel", "copies", "(II)V"⟩, 49) := ⟨⟨by decide +kernel, by decide +kernel⟩, List.mem_of_getElem? (i := 869) (by decide +kernel), List.mem_of_getElem? (i := 1326) (by decide +kernel), List.mem_of_getElem? (i := 1327) (by decide +kernel)⟩
theorem lw_p78 : lw_okq (⟨"AlternatingAutomataModel", "adds", "(IIII)V"⟩, 49) := ⟨⟨by decide +kernel, by decide +kernel⟩, List.mem_of_getElem? (i := 869) (by decide +kernel), List.mem_of_getElem? (i := 1337) (by decide +kernel), List.mem_of_getElem? (i := 1338) (by decide +kernel)⟩
theorem lw_p79 : lw_okq (⟨"AlternatingAutomataModel", "allStates", "()I"⟩, 49) := ⟨⟨by decide +kernel, by decide +kernel⟩, List.mem_of_getElem? (i := 869) (by decide +kernel), List.mem_of_getElem? (i := 1345) (by decide +kernel), List.mem_of_getElem? (i := 1346) (by decide +kernel)⟩
def lw_privs_5 : List (MethodName × Nat) := [(⟨"AlternatingAutomataModel", "findNodeRanks", "(II)V"⟩, 49), (⟨"AlternatingAutomataModel", "findReverse", "(I)V"⟩, 49), (⟨"AlternatingAutomataModel", "forgets", "()V"⟩, 49), (⟨"AlternatingAutomataModel", "comes", "(I)Z"⟩, 49), (⟨"AlternatingAutomataModel", "isOneClass", "(III)Z"⟩, 49), (⟨"AlternatingAutomataModel", "modelsCome", "()V"⟩, 49), (⟨"AlternatingAutomataModel", "statesIn", "(II)I"⟩, 49), (⟨"AlternatingAutomataModel", "findBest", "(I)V"⟩, 49), (⟨"AlternatingAutomataModel", "isBetter", "(IIIII)Z"⟩, 49), (⟨"AlternatingAutomataModel", "nearest", "()I"⟩, 49), (⟨"AlternatingAutomataModel", "isAhead", "(II)Z"⟩, 49), (⟨"AlternatingAutomataModel", "notPaired", "(II)I"⟩, 49), (⟨"AlternatingAutomataModel", "findPair", "(IIZ)I"⟩, 49), (⟨"AlternatingAutomataModel", "copies", "(II)V"⟩, 49), (⟨"AlternatingAutomataModel", "adds", "(IIII)V"⟩, 49), (⟨"AlternatingAutomataModel", "allStates", "()I"⟩, 49)]
theorem lw_r5 : ∀ q ∈ lw_privs_5, lw_okq q := List.forall_mem_cons.mpr ⟨lw_p64, List.forall_mem_cons.mpr ⟨lw_p65, List.forall_mem_cons.mpr ⟨lw_p66, List.forall_mem_cons.mpr ⟨lw_p67, List.forall_mem_cons.mpr ⟨lw_p68, List.forall_mem_cons.mpr ⟨lw_p69, List.forall_mem_cons.mpr ⟨lw_p70, List.forall_mem_cons.mpr ⟨lw_p71, List.forall_mem_cons.mpr ⟨lw_p72, List.forall_mem_cons.mpr ⟨lw_p73, List.forall_mem_cons.mpr ⟨lw_p74, List.forall_mem_cons.mpr ⟨lw_p75, List.forall_mem_cons.mpr ⟨lw_p76, List.forall_mem_cons.mpr ⟨lw_p77, List.forall_mem_cons.mpr ⟨lw_p78, List.forall_mem_cons.mpr ⟨lw_p79, fun _ h => absurd h List.not_mem_nil⟩⟩⟩⟩⟩⟩⟩⟩⟩⟩⟩⟩⟩⟩⟩⟩
def lw_privs : List (MethodName × Nat) := lw_privs_1 ++ (lw_privs_2 ++ (lw_privs_3 ++ (lw_privs_4 ++ (lw_privs_5))))
def lw_tbl : List Cond := k2_sels lw_privs ++ tables_1
theorem lw_privs_ok : ∀ q ∈ lw_privs, lw_okq q := by
  show ∀ q ∈ lw_privs_1 ++ (lw_privs_2 ++ (lw_privs_3 ++ (lw_privs_4 ++ (lw_privs_5)))), lw_okq q
  exact List.forall_mem_append.mpr ⟨lw_r1, List.forall_mem_append.mpr ⟨lw_r2, List.forall_mem_append.mpr ⟨lw_r3, List.forall_mem_append.mpr ⟨lw_r4, lw_r5⟩⟩⟩⟩
def RX0 : String := "AlternatingAutomata$Automaton"
def TX0 : u_T := fun k => match k with
  | 0 => ("AlternatingAutomata$Automaton", "weights", "[I", true)
  | 1 => ("AlternatingAutomata$Automaton", "initial", "LAlternatingAutomata$Formula;", true)
  | 2 => ("AlternatingAutomata$Automaton", "moves", "[LAlternatingAutomata$Formula;", true)
  | 3 => ("AlternatingAutomata$Automaton", "states", "I", false)
  | 4 => ("AlternatingAutomata$Automaton", "letters", "I", false)
  | _ => ("AlternatingAutomata$Automaton", "finals", "I", false)
def tyX0 : Nat → FieldType := fun k => match k with
  | 0 => .array .int
  | 1 => .object "AlternatingAutomata$Formula"
  | 2 => .array (.object "AlternatingAutomata$Formula")
  | 3 => .int
  | 4 => .int
  | _ => .int
theorem nmX0 : ∀ a, a < 6 → ∀ b, b < 6 → a ≠ b → (TX0 a).2.1 ≠ (TX0 b).2.1 := by decide +kernel
theorem tyX0_ok : ∀ k, k < 6 → parseFieldDescriptor (TX0 k).2.2.1 = some (tyX0 k) := by decide +kernel
abbrev cX0_init : ByteArray := prog_2_method_1_code
def yX0_init : MethodName := ⟨RX0, "<init>", "()V"⟩
abbrev cX0_clear : ByteArray := prog_2_method_2_code
def yX0_clear : MethodName := ⟨RX0, "clear", "(II)V"⟩
abbrev cX0_hasState : ByteArray := prog_2_method_3_code
def yX0_hasState : MethodName := ⟨RX0, "hasState", "(I)Z"⟩
abbrev cX0_hasLetter : ByteArray := prog_2_method_4_code
def yX0_hasLetter : MethodName := ⟨RX0, "hasLetter", "(I)Z"⟩
abbrev cX0_hasSet : ByteArray := prog_2_method_5_code
def yX0_hasSet : MethodName := ⟨RX0, "hasSet", "(I)Z"⟩
abbrev cX0_formula : ByteArray := prog_2_method_6_code
def yX0_formula : MethodName := ⟨RX0, "formula", "(II)LAlternatingAutomata$Formula;"⟩
abbrev cX0_move : ByteArray := prog_2_method_7_code
def yX0_move : MethodName := ⟨RX0, "move", "(II)LAlternatingAutomata$Formula;"⟩
abbrev cX0_copy : ByteArray := prog_2_method_8_code
def yX0_copy : MethodName := ⟨RX0, "copy", "(LAlternatingAutomata$Automaton;)V"⟩
abbrev cX0_takeShape : ByteArray := prog_2_method_9_code
def yX0_takeShape : MethodName := ⟨RX0, "takeShape", "(LAlternatingAutomata$Automaton;I)V"⟩
abbrev cX0_copyMoves : ByteArray := prog_2_method_10_code
def yX0_copyMoves : MethodName := ⟨RX0, "copyMoves", "(LAlternatingAutomata$Automaton;)V"⟩
abbrev cX0_becomeDual : ByteArray := prog_2_method_11_code
def yX0_becomeDual : MethodName := ⟨RX0, "becomeDual", "(LAlternatingAutomata$Automaton;)V"⟩
abbrev cX0_becomeJoin : ByteArray := prog_2_method_12_code
def yX0_becomeJoin : MethodName := ⟨RX0, "becomeJoin", "(LAlternatingAutomata$Automaton;LAlternatingAutomata$Automaton;I)V"⟩
abbrev cX0_statesBefore : ByteArray := prog_2_method_13_code
def yX0_statesBefore : MethodName := ⟨RX0, "statesBefore", "(II)I"⟩
abbrev cX0_statesThatMatter : ByteArray := prog_2_method_14_code
def yX0_statesThatMatter : MethodName := ⟨RX0, "statesThatMatter", "()I"⟩
abbrev cX0_statesAfter : ByteArray := prog_2_method_15_code
def yX0_statesAfter : MethodName := ⟨RX0, "statesAfter", "(I)I"⟩
abbrev cX0_existentialReach : ByteArray := prog_2_method_16_code
def yX0_existentialReach : MethodName := ⟨RX0, "existentialReach", "()J"⟩
abbrev cX0_existentialNext : ByteArray := prog_2_method_17_code
def yX0_existentialNext : MethodName := ⟨RX0, "existentialNext", "(JI)J"⟩
abbrev cX0_tableOfAll : ByteArray := prog_2_method_18_code
def yX0_tableOfAll : MethodName := ⟨RX0, "tableOfAll", "(II)J"⟩
abbrev cX0_acceptingSets : ByteArray := prog_2_method_19_code
def yX0_acceptingSets : MethodName := ⟨RX0, "acceptingSets", "()J"⟩
def RX1 : String := "AlternatingAutomata$CheapestSearch"
def TX1 : u_T := fun k => match k with
  | 0 => ("AlternatingAutomata$CheapestSearch", "prices", "[I", true)
  | _ => ("AlternatingAutomata$CheapestSearch", "best", "I", false)
def tyX1 : Nat → FieldType := fun k => match k with
  | 0 => .array .int
  | _ => .int
theorem nmX1 : ∀ a, a < 2 → ∀ b, b < 2 → a ≠ b → (TX1 a).2.1 ≠ (TX1 b).2.1 := by decide +kernel
theorem tyX1_ok : ∀ k, k < 2 → parseFieldDescriptor (TX1 k).2.2.1 = some (tyX1 k) := by decide +kernel
abbrev cX1_init : ByteArray := prog_3_method_1_code
def yX1_init : MethodName := ⟨RX1, "<init>", "()V"⟩
abbrev cX1_search : ByteArray := prog_3_method_2_code
def yX1_search : MethodName := ⟨RX1, "search", "(LAlternatingAutomata$ReverseAutomaton;[I)Z"⟩
abbrev cX1_lowerPrices : ByteArray := prog_3_method_3_code
def yX1_lowerPrices : MethodName := ⟨RX1, "lowerPrices", "(LAlternatingAutomata$ReverseAutomaton;[I)Z"⟩
abbrev cX1_priceOf : ByteArray := prog_3_method_4_code
def yX1_priceOf : MethodName := ⟨RX1, "priceOf", "([II)I"⟩
abbrev cX1_spell : ByteArray := prog_3_method_5_code
def yX1_spell : MethodName := ⟨RX1, "spell", "(LAlternatingAutomata$ReverseAutomaton;[ILAlternatingAutomata$Word;)V"⟩
abbrev cX1_waysInto : ByteArray := prog_3_method_6_code
def yX1_waysInto : MethodName := ⟨RX1, "waysInto", "(LAlternatingAutomata$ReverseAutomaton;JII)J"⟩
def RX2 : String := "AlternatingAutomata$Formula"
def TX2 : u_T := fun k => match k with
  | 0 => ("AlternatingAutomata$Formula", "nodes", "[B", true)
  | 1 => ("AlternatingAutomata$Formula", "size", "I", false)
  | _ => ("AlternatingAutomata$Formula", "table", "J", false)
def tyX2 : Nat → FieldType := fun k => match k with
  | 0 => .array .byte
  | 1 => .int
  | _ => .long
theorem nmX2 : ∀ a, a < 3 → ∀ b, b < 3 → a ≠ b → (TX2 a).2.1 ≠ (TX2 b).2.1 := by decide +kernel
theorem tyX2_ok : ∀ k, k < 3 → parseFieldDescriptor (TX2 k).2.2.1 = some (tyX2 k) := by decide +kernel
abbrev cX2_init : ByteArray := prog_4_method_1_code
def yX2_init : MethodName := ⟨RX2, "<init>", "()V"⟩
abbrev cX2_becomeFalse : ByteArray := prog_4_method_2_code
def yX2_becomeFalse : MethodName := ⟨RX2, "becomeFalse", "()V"⟩
abbrev cX2_nodeAt : ByteArray := prog_4_method_3_code
def yX2_nodeAt : MethodName := ⟨RX2, "nodeAt", "(I)I"⟩
abbrev cX2_holdsIn : ByteArray := prog_4_method_4_code
def yX2_holdsIn : MethodName := ⟨RX2, "holdsIn", "(I)Z"⟩
abbrev cX2_statesInside : ByteArray := prog_4_method_5_code
def yX2_statesInside : MethodName := ⟨RX2, "statesInside", "()I"⟩
abbrev cX2_become : ByteArray := prog_4_method_6_code
def yX2_become : MethodName := ⟨RX2, "become", "([BIJ)V"⟩
abbrev cX2_copy : ByteArray := prog_4_method_7_code
def yX2_copy : MethodName := ⟨RX2, "copy", "(LAlternatingAutomata$Formula;)V"⟩
abbrev cX2_becomeDual : ByteArray := prog_4_method_8_code
def yX2_becomeDual : MethodName := ⟨RX2, "becomeDual", "(LAlternatingAutomata$Formula;)V"⟩
abbrev cX2_dualNode : ByteArray := prog_4_method_9_code
def yX2_dualNode : MethodName := ⟨RX2, "dualNode", "(B)B"⟩
abbrev cX2_dualTable : ByteArray := prog_4_method_10_code
def yX2_dualTable : MethodName := ⟨RX2, "dualTable", "(J)J"⟩
abbrev cX2_becomeShifted : ByteArray := prog_4_method_11_code
def yX2_becomeShifted : MethodName := ⟨RX2, "becomeShifted", "(LAlternatingAutomata$Formula;I)V"⟩
abbrev cX2_becomeJoin : ByteArray := prog_4_method_12_code
def yX2_becomeJoin : MethodName := ⟨RX2, "becomeJoin", "(LAlternatingAutomata$Formula;LAlternatingAutomata$Formula;II)V"⟩
abbrev cX2_addShifted : ByteArray := prog_4_method_13_code
def yX2_addShifted : MethodName := ⟨RX2, "addShifted", "(LAlternatingAutomata$Formula;I)V"⟩
abbrev cX2_shiftedTable : ByteArray := prog_4_method_14_code
def yX2_shiftedTable : MethodName := ⟨RX2, "shiftedTable", "(JI)J"⟩
def RX3 : String := "AlternatingAutomata$FormulaPrinter"
def TX3 : u_T := fun k => match k with
  | 0 => ("AlternatingAutomata$FormulaPrinter", "signs", "[C", true)
  | 1 => ("AlternatingAutomata$FormulaPrinter", "length", "I", false)
  | 2 => ("AlternatingAutomata$FormulaPrinter", "begins", "[I", true)
  | 3 => ("AlternatingAutomata$FormulaPrinter", "tops", "[I", true)
  | _ => ("AlternatingAutomata$FormulaPrinter", "partCount", "I", false)
def tyX3 : Nat → FieldType := fun k => match k with
  | 0 => .array .char
  | 1 => .int
  | 2 => .array .int
  | 3 => .array .int
  | _ => .int
theorem nmX3 : ∀ a, a < 5 → ∀ b, b < 5 → a ≠ b → (TX3 a).2.1 ≠ (TX3 b).2.1 := by decide +kernel
theorem tyX3_ok : ∀ k, k < 5 → parseFieldDescriptor (TX3 k).2.2.1 = some (tyX3 k) := by decide +kernel
abbrev cX3_init : ByteArray := prog_5_method_1_code
def yX3_init : MethodName := ⟨RX3, "<init>", "()V"⟩
abbrev cX3_write : ByteArray := prog_5_method_2_code
def yX3_write : MethodName := ⟨RX3, "write", "(LAlternatingAutomata$Formula;)V"⟩
abbrev cX3_addPart : ByteArray := prog_5_method_3_code
def yX3_addPart : MethodName := ⟨RX3, "addPart", "(I)V"⟩
abbrev cX3_leafSign : ByteArray := prog_5_method_4_code
def yX3_leafSign : MethodName := ⟨RX3, "leafSign", "(I)C"⟩
abbrev cX3_joinParts : ByteArray := prog_5_method_5_code
def yX3_joinParts : MethodName := ⟨RX3, "joinParts", "(I)V"⟩
abbrev cX3_insert : ByteArray := prog_5_method_6_code
def yX3_insert : MethodName := ⟨RX3, "insert", "(IC)V"⟩
def RX4 : String := "AlternatingAutomata$FormulaText"
def TX4 : u_T := fun k => match k with
  | 0 => ("AlternatingAutomata$FormulaText", "signs", "[C", true)
  | 1 => ("AlternatingAutomata$FormulaText", "nodes", "[B", true)
  | 2 => ("AlternatingAutomata$FormulaText", "tables", "[J", true)
  | 3 => ("AlternatingAutomata$FormulaText", "waiting", "[B", true)
  | 4 => ("AlternatingAutomata$FormulaText", "length", "I", false)
  | 5 => ("AlternatingAutomata$FormulaText", "nodeCount", "I", false)
  | 6 => ("AlternatingAutomata$FormulaText", "tableCount", "I", false)
  | 7 => ("AlternatingAutomata$FormulaText", "waitingCount", "I", false)
  | _ => ("AlternatingAutomata$FormulaText", "openCount", "I", false)
def tyX4 : Nat → FieldType := fun k => match k with
  | 0 => .array .char
  | 1 => .array .byte
  | 2 => .array .long
  | 3 => .array .byte
  | 4 => .int
  | 5 => .int
  | 6 => .int
  | 7 => .int
  | _ => .int
theorem nmX4 : ∀ a, a < 9 → ∀ b, b < 9 → a ≠ b → (TX4 a).2.1 ≠ (TX4 b).2.1 := by decide +kernel
theorem tyX4_ok : ∀ k, k < 9 → parseFieldDescriptor (TX4 k).2.2.1 = some (tyX4 k) := by decide +kernel
abbrev cX4_init : ByteArray := prog_6_method_1_code
def yX4_init : MethodName := ⟨RX4, "<init>", "()V"⟩
abbrev cX4_add : ByteArray := prog_6_method_2_code
def yX4_add : MethodName := ⟨RX4, "add", "(CI)V"⟩
abbrev cX4_readInto : ByteArray := prog_6_method_3_code
def yX4_readInto : MethodName := ⟨RX4, "readInto", "(LAlternatingAutomata$Formula;I)I"⟩
abbrev cX4_parse : ByteArray := prog_6_method_4_code
def yX4_parse : MethodName := ⟨RX4, "parse", "(I)I"⟩
abbrev cX4_leafFor : ByteArray := prog_6_method_5_code
def yX4_leafFor : MethodName := ⟨RX4, "leafFor", "(II)I"⟩
abbrev cX4_addLeaf : ByteArray := prog_6_method_6_code
def yX4_addLeaf : MethodName := ⟨RX4, "addLeaf", "(I)V"⟩
abbrev cX4_leafTable : ByteArray := prog_6_method_7_code
def yX4_leafTable : MethodName := ⟨RX4, "leafTable", "(I)J"⟩
abbrev cX4_addNode : ByteArray := prog_6_method_8_code
def yX4_addNode : MethodName := ⟨RX4, "addNode", "(I)V"⟩
abbrev cX4_addOperator : ByteArray := prog_6_method_9_code
def yX4_addOperator : MethodName := ⟨RX4, "addOperator", "(I)V"⟩
abbrev cX4_addWaiting : ByteArray := prog_6_method_10_code
def yX4_addWaiting : MethodName := ⟨RX4, "addWaiting", "(I)V"⟩
abbrev cX4_openGroup : ByteArray := prog_6_method_11_code
def yX4_openGroup : MethodName := ⟨RX4, "openGroup", "()V"⟩
abbrev cX4_closeGroup : ByteArray := prog_6_method_12_code
def yX4_closeGroup : MethodName := ⟨RX4, "closeGroup", "()V"⟩
abbrev cX4_applyWaiting : ByteArray := prog_6_method_13_code
def yX4_applyWaiting : MethodName := ⟨RX4, "applyWaiting", "(I)V"⟩
abbrev cX4_applyOperator : ByteArray := prog_6_method_14_code
def yX4_applyOperator : MethodName := ⟨RX4, "applyOperator", "(I)V"⟩
def RX5 : String := "AlternatingAutomata$Game"
def TX5 : u_T := fun k => match k with
  | 0 => ("AlternatingAutomata$Game", "values", "[I", true)
  | 1 => ("AlternatingAutomata$Game", "partValues", "[I", true)
  | _ => ("AlternatingAutomata$Game", "partStates", "[I", true)
def tyX5 : Nat → FieldType := fun k => match k with
  | 0 => .array .int
  | 1 => .array .int
  | _ => .array .int
theorem nmX5 : ∀ a, a < 3 → ∀ b, b < 3 → a ≠ b → (TX5 a).2.1 ≠ (TX5 b).2.1 := by decide +kernel
theorem tyX5_ok : ∀ k, k < 3 → parseFieldDescriptor (TX5 k).2.2.1 = some (tyX5 k) := by decide +kernel
abbrev cX5_init : ByteArray := prog_7_method_1_code
def yX5_init : MethodName := ⟨RX5, "<init>", "()V"⟩
abbrev cX5_solve : ByteArray := prog_7_method_2_code
def yX5_solve : MethodName := ⟨RX5, "solve", "(LAlternatingAutomata$Automaton;LAlternatingAutomata$Word;I)V"⟩
abbrev cX5_valueAt : ByteArray := prog_7_method_3_code
def yX5_valueAt : MethodName := ⟨RX5, "valueAt", "(II)I"⟩
abbrev cX5_setValue : ByteArray := prog_7_method_4_code
def yX5_setValue : MethodName := ⟨RX5, "setValue", "(III)V"⟩
abbrev cX5_isPosition : ByteArray := prog_7_method_5_code
def yX5_isPosition : MethodName := ⟨RX5, "isPosition", "(II)Z"⟩
abbrev cX5_statesLedTo : ByteArray := prog_7_method_6_code
def yX5_statesLedTo : MethodName := ⟨RX5, "statesLedTo", "(LAlternatingAutomata$Formula;I)I"⟩
abbrev cX5_evaluate : ByteArray := prog_7_method_7_code
def yX5_evaluate : MethodName := ⟨RX5, "evaluate", "(LAlternatingAutomata$Formula;I)V"⟩
abbrev cX5_leafValue : ByteArray := prog_7_method_8_code
def yX5_leafValue : MethodName := ⟨RX5, "leafValue", "(II)I"⟩
abbrev cX5_joinParts : ByteArray := prog_7_method_9_code
def yX5_joinParts : MethodName := ⟨RX5, "joinParts", "(III)V"⟩
def RX6 : String := "AlternatingAutomata$PairSearch"
def TX6 : u_T := fun k => match k with
  | 0 => ("AlternatingAutomata$PairSearch", "order", "[S", true)
  | 1 => ("AlternatingAutomata$PairSearch", "distances", "[S", true)
  | 2 => ("AlternatingAutomata$PairSearch", "leads", "[Z", true)
  | 3 => ("AlternatingAutomata$PairSearch", "count", "I", false)
  | _ => ("AlternatingAutomata$PairSearch", "firstDifference", "I", false)
def tyX6 : Nat → FieldType := fun k => match k with
  | 0 => .array .short
  | 1 => .array .short
  | 2 => .array .boolean
  | 3 => .int
  | _ => .int
theorem nmX6 : ∀ a, a < 5 → ∀ b, b < 5 → a ≠ b → (TX6 a).2.1 ≠ (TX6 b).2.1 := by decide +kernel
theorem tyX6_ok : ∀ k, k < 5 → parseFieldDescriptor (TX6 k).2.2.1 = some (tyX6 k) := by decide +kernel
abbrev cX6_init : ByteArray := prog_8_method_1_code
def yX6_init : MethodName := ⟨RX6, "<init>", "()V"⟩
abbrev cX6_search : ByteArray := prog_8_method_2_code
def yX6_search : MethodName := ⟨RX6, "search", "(LAlternatingAutomata$ReverseAutomaton;LAlternatingAutomata$ReverseAutomaton;Z)Z"⟩
abbrev cX6_forgetLast : ByteArray := prog_8_method_3_code
def yX6_forgetLast : MethodName := ⟨RX6, "forgetLast", "()V"⟩
abbrev cX6_reach : ByteArray := prog_8_method_4_code
def yX6_reach : MethodName := ⟨RX6, "reach", "(II)V"⟩
abbrev cX6_differs : ByteArray := prog_8_method_5_code
def yX6_differs : MethodName := ⟨RX6, "differs", "(LAlternatingAutomata$ReverseAutomaton;LAlternatingAutomata$ReverseAutomaton;I)Z"⟩
abbrev cX6_stepPair : ByteArray := prog_8_method_6_code
def yX6_stepPair : MethodName := ⟨RX6, "stepPair", "(LAlternatingAutomata$ReverseAutomaton;LAlternatingAutomata$ReverseAutomaton;II)I"⟩
abbrev cX6_spell : ByteArray := prog_8_method_7_code
def yX6_spell : MethodName := ⟨RX6, "spell", "(LAlternatingAutomata$ReverseAutomaton;LAlternatingAutomata$ReverseAutomaton;LAlternatingAutomata$Word;)V"⟩
abbrev cX6_levelBegin : ByteArray := prog_8_method_8_code
def yX6_levelBegin : MethodName := ⟨RX6, "levelBegin", "(II)I"⟩
abbrev cX6_markLeading : ByteArray := prog_8_method_9_code
def yX6_markLeading : MethodName := ⟨RX6, "markLeading", "(LAlternatingAutomata$ReverseAutomaton;LAlternatingAutomata$ReverseAutomaton;III)Z"⟩
def RX7 : String := "AlternatingAutomata$ReverseAutomaton"
def TX7 : u_T := fun k => match k with
  | 0 => ("AlternatingAutomata$ReverseAutomaton", "steps", "[I", true)
  | 1 => ("AlternatingAutomata$ReverseAutomaton", "classes", "[I", true)
  | 2 => ("AlternatingAutomata$ReverseAutomaton", "finerClasses", "[I", true)
  | 3 => ("AlternatingAutomata$ReverseAutomaton", "counts", "[J", true)
  | 4 => ("AlternatingAutomata$ReverseAutomaton", "nextCounts", "[J", true)
  | 5 => ("AlternatingAutomata$ReverseAutomaton", "letters", "I", false)
  | 6 => ("AlternatingAutomata$ReverseAutomaton", "first", "I", false)
  | _ => ("AlternatingAutomata$ReverseAutomaton", "accepting", "J", false)
def tyX7 : Nat → FieldType := fun k => match k with
  | 0 => .array .int
  | 1 => .array .int
  | 2 => .array .int
  | 3 => .array .long
  | 4 => .array .long
  | 5 => .int
  | 6 => .int
  | _ => .long
theorem nmX7 : ∀ a, a < 8 → ∀ b, b < 8 → a ≠ b → (TX7 a).2.1 ≠ (TX7 b).2.1 := by decide +kernel
theorem tyX7_ok : ∀ k, k < 8 → parseFieldDescriptor (TX7 k).2.2.1 = some (tyX7 k) := by decide +kernel
abbrev cX7_init : ByteArray := prog_9_method_1_code
def yX7_init : MethodName := ⟨RX7, "<init>", "()V"⟩
abbrev cX7_load : ByteArray := prog_9_method_2_code
def yX7_load : MethodName := ⟨RX7, "load", "(LAlternatingAutomata$Automaton;)V"⟩
abbrev cX7_step : ByteArray := prog_9_method_3_code
def yX7_step : MethodName := ⟨RX7, "step", "(II)I"⟩
abbrev cX7_isAccepting : ByteArray := prog_9_method_4_code
def yX7_isAccepting : MethodName := ⟨RX7, "isAccepting", "(I)Z"⟩
abbrev cX7_reachable : ByteArray := prog_9_method_5_code
def yX7_reachable : MethodName := ⟨RX7, "reachable", "()J"⟩
abbrev cX7_stepAll : ByteArray := prog_9_method_6_code
def yX7_stepAll : MethodName := ⟨RX7, "stepAll", "(J)J"⟩
abbrev cX7_countClasses : ByteArray := prog_9_method_7_code
def yX7_countClasses : MethodName := ⟨RX7, "countClasses", "()I"⟩
abbrev cX7_refine : ByteArray := prog_9_method_8_code
def yX7_refine : MethodName := ⟨RX7, "refine", "(J)I"⟩
abbrev cX7_earlierTwin : ByteArray := prog_9_method_9_code
def yX7_earlierTwin : MethodName := ⟨RX7, "earlierTwin", "(JI)I"⟩
abbrev cX7_areTwins : ByteArray := prog_9_method_10_code
def yX7_areTwins : MethodName := ⟨RX7, "areTwins", "(II)Z"⟩
abbrev cX7_countAccepted : ByteArray := prog_9_method_11_code
def yX7_countAccepted : MethodName := ⟨RX7, "countAccepted", "(I)J"⟩
abbrev cX7_countOneLetterMore : ByteArray := prog_9_method_12_code
def yX7_countOneLetterMore : MethodName := ⟨RX7, "countOneLetterMore", "()V"⟩
def RX8 : String := "AlternatingAutomata$Word"
def TX8 : u_T := fun k => match k with
  | 0 => ("AlternatingAutomata$Word", "letters", "[B", true)
  | _ => ("AlternatingAutomata$Word", "length", "I", false)
def tyX8 : Nat → FieldType := fun k => match k with
  | 0 => .array .byte
  | _ => .int
theorem nmX8 : ∀ a, a < 2 → ∀ b, b < 2 → a ≠ b → (TX8 a).2.1 ≠ (TX8 b).2.1 := by decide +kernel
theorem tyX8_ok : ∀ k, k < 2 → parseFieldDescriptor (TX8 k).2.2.1 = some (tyX8 k) := by decide +kernel
abbrev cX8_init : ByteArray := prog_10_method_1_code
def yX8_init : MethodName := ⟨RX8, "<init>", "(I)V"⟩
abbrev cX8_add : ByteArray := prog_10_method_2_code
def yX8_add : MethodName := ⟨RX8, "add", "(I)V"⟩
abbrev cX8_letterAt : ByteArray := prog_10_method_3_code
def yX8_letterAt : MethodName := ⟨RX8, "letterAt", "(I)I"⟩
abbrev cX8_fits : ByteArray := prog_10_method_4_code
def yX8_fits : MethodName := ⟨RX8, "fits", "(LAlternatingAutomata$Automaton;)Z"⟩
abbrev cX8_acceptedFrom : ByteArray := prog_10_method_5_code
def yX8_acceptedFrom : MethodName := ⟨RX8, "acceptedFrom", "(LAlternatingAutomata$Automaton;I)I"⟩
abbrev cX8_costIn : ByteArray := prog_10_method_6_code
def yX8_costIn : MethodName := ⟨RX8, "costIn", "(LAlternatingAutomata$Automaton;)I"⟩
def RX9 : String := "AlternatingAutomata"
def TX9 : u_T := fun k => match k with
  | 0 => ("AlternatingAutomata", "slots", "[LAlternatingAutomata$Automaton;", true)
  | 1 => ("AlternatingAutomata", "snapshot", "[LAlternatingAutomata$Automaton;", true)
  | 2 => ("AlternatingAutomata", "combined", "LAlternatingAutomata$Automaton;", true)
  | 3 => ("AlternatingAutomata", "text", "LAlternatingAutomata$FormulaText;", true)
  | 4 => ("AlternatingAutomata", "printer", "LAlternatingAutomata$FormulaPrinter;", true)
  | 5 => ("AlternatingAutomata", "word", "LAlternatingAutomata$Word;", true)
  | 6 => ("AlternatingAutomata", "found", "LAlternatingAutomata$Word;", true)
  | 7 => ("AlternatingAutomata", "game", "LAlternatingAutomata$Game;", true)
  | 8 => ("AlternatingAutomata", "reverseOne", "LAlternatingAutomata$ReverseAutomaton;", true)
  | 9 => ("AlternatingAutomata", "reverseOther", "LAlternatingAutomata$ReverseAutomaton;", true)
  | 10 => ("AlternatingAutomata", "cheapest", "LAlternatingAutomata$CheapestSearch;", true)
  | 11 => ("AlternatingAutomata", "pairs", "LAlternatingAutomata$PairSearch;", true)
  | 12 => ("AlternatingAutomata", "hasSnapshot", "Z", false)
  | _ => ("AlternatingAutomata", "costOfFound", "I", false)
def tyX9 : Nat → FieldType := fun k => match k with
  | 0 => .array (.object "AlternatingAutomata$Automaton")
  | 1 => .array (.object "AlternatingAutomata$Automaton")
  | 2 => .object "AlternatingAutomata$Automaton"
  | 3 => .object "AlternatingAutomata$FormulaText"
  | 4 => .object "AlternatingAutomata$FormulaPrinter"
  | 5 => .object "AlternatingAutomata$Word"
  | 6 => .object "AlternatingAutomata$Word"
  | 7 => .object "AlternatingAutomata$Game"
  | 8 => .object "AlternatingAutomata$ReverseAutomaton"
  | 9 => .object "AlternatingAutomata$ReverseAutomaton"
  | 10 => .object "AlternatingAutomata$CheapestSearch"
  | 11 => .object "AlternatingAutomata$PairSearch"
  | 12 => .boolean
  | _ => .int
theorem nmX9 : ∀ a, a < 14 → ∀ b, b < 14 → a ≠ b → (TX9 a).2.1 ≠ (TX9 b).2.1 := by decide +kernel
theorem tyX9_ok : ∀ k, k < 14 → parseFieldDescriptor (TX9 k).2.2.1 = some (tyX9 k) := by decide +kernel
abbrev cX9_init : ByteArray := prog_1_method_1_code
def yX9_init : MethodName := ⟨RX9, "<init>", "()V"⟩
abbrev cX9_create : ByteArray := prog_1_method_2_code
def yX9_create : MethodName := ⟨RX9, "create", "(III)I"⟩
abbrev cX9_setFinal : ByteArray := prog_1_method_3_code
def yX9_setFinal : MethodName := ⟨RX9, "setFinal", "(III)I"⟩
abbrev cX9_setWeight : ByteArray := prog_1_method_4_code
def yX9_setWeight : MethodName := ⟨RX9, "setWeight", "(III)I"⟩
abbrev cX9_append : ByteArray := prog_1_method_5_code
def yX9_append : MethodName := ⟨RX9, "append", "(II)I"⟩
abbrev cX9_setInitial : ByteArray := prog_1_method_6_code
def yX9_setInitial : MethodName := ⟨RX9, "setInitial", "(I)I"⟩
abbrev cX9_setTransition : ByteArray := prog_1_method_7_code
def yX9_setTransition : MethodName := ⟨RX9, "setTransition", "(III)I"⟩
abbrev cX9_property : ByteArray := prog_1_method_8_code
def yX9_property : MethodName := ⟨RX9, "property", "(II)I"⟩
abbrev cX9_print : ByteArray := prog_1_method_9_code
def yX9_print : MethodName := ⟨RX9, "print", "(III)I"⟩
abbrev cX9_printed : ByteArray := prog_1_method_10_code
def yX9_printed : MethodName := ⟨RX9, "printed", "(I)I"⟩
abbrev cX9_isSatisfied : ByteArray := prog_1_method_11_code
def yX9_isSatisfied : MethodName := ⟨RX9, "isSatisfied", "(IIII)I"⟩
abbrev cX9_model : ByteArray := prog_1_method_12_code
def yX9_model : MethodName := ⟨RX9, "model", "(IIII)I"⟩
abbrev cX9_push : ByteArray := prog_1_method_13_code
def yX9_push : MethodName := ⟨RX9, "push", "(I)I"⟩
abbrev cX9_clearWord : ByteArray := prog_1_method_14_code
def yX9_clearWord : MethodName := ⟨RX9, "clearWord", "()I"⟩
abbrev cX9_acceptingStates : ByteArray := prog_1_method_15_code
def yX9_acceptingStates : MethodName := ⟨RX9, "acceptingStates", "(II)I"⟩
abbrev cX9_accepts : ByteArray := prog_1_method_16_code
def yX9_accepts : MethodName := ⟨RX9, "accepts", "(I)I"⟩
abbrev cX9_rank : ByteArray := prog_1_method_17_code
def yX9_rank : MethodName := ⟨RX9, "rank", "(III)I"⟩
abbrev cX9_strategy : ByteArray := prog_1_method_18_code
def yX9_strategy : MethodName := ⟨RX9, "strategy", "(III)I"⟩
abbrev cX9_reverseStep : ByteArray := prog_1_method_19_code
def yX9_reverseStep : MethodName := ⟨RX9, "reverseStep", "(III)I"⟩
abbrev cX9_reverseStates : ByteArray := prog_1_method_20_code
def yX9_reverseStates : MethodName := ⟨RX9, "reverseStates", "(I)I"⟩
abbrev cX9_reverseClasses : ByteArray := prog_1_method_21_code
def yX9_reverseClasses : MethodName := ⟨RX9, "reverseClasses", "(I)I"⟩
abbrev cX9_existentialStates : ByteArray := prog_1_method_22_code
def yX9_existentialStates : MethodName := ⟨RX9, "existentialStates", "(I)I"⟩
abbrev cX9_existentialSets : ByteArray := prog_1_method_23_code
def yX9_existentialSets : MethodName := ⟨RX9, "existentialSets", "(II)I"⟩
abbrev cX9_relevantStates : ByteArray := prog_1_method_24_code
def yX9_relevantStates : MethodName := ⟨RX9, "relevantStates", "(I)I"⟩
abbrev cX9_findCheapest : ByteArray := prog_1_method_25_code
def yX9_findCheapest : MethodName := ⟨RX9, "findCheapest", "(I)I"⟩
abbrev cX9_findDifference : ByteArray := prog_1_method_26_code
def yX9_findDifference : MethodName := ⟨RX9, "findDifference", "(II)I"⟩
abbrev cX9_foundLetter : ByteArray := prog_1_method_27_code
def yX9_foundLetter : MethodName := ⟨RX9, "foundLetter", "(I)I"⟩
abbrev cX9_foundCost : ByteArray := prog_1_method_28_code
def yX9_foundCost : MethodName := ⟨RX9, "foundCost", "()I"⟩
abbrev cX9_isContained : ByteArray := prog_1_method_29_code
def yX9_isContained : MethodName := ⟨RX9, "isContained", "(II)I"⟩
abbrev cX9_countWords : ByteArray := prog_1_method_30_code
def yX9_countWords : MethodName := ⟨RX9, "countWords", "(II)J"⟩
abbrev cX9_dualize : ByteArray := prog_1_method_31_code
def yX9_dualize : MethodName := ⟨RX9, "dualize", "(II)I"⟩
abbrev cX9_combine : ByteArray := prog_1_method_32_code
def yX9_combine : MethodName := ⟨RX9, "combine", "(IIII)I"⟩
abbrev cX9_save : ByteArray := prog_1_method_33_code
def yX9_save : MethodName := ⟨RX9, "save", "()I"⟩
abbrev cX9_restore : ByteArray := prog_1_method_34_code
def yX9_restore : MethodName := ⟨RX9, "restore", "()I"⟩
abbrev cX9_isWithin : ByteArray := prog_1_method_35_code
def yX9_isWithin : MethodName := ⟨RX9, "isWithin", "(III)Z"⟩
abbrev cX9_automatonIn : ByteArray := prog_1_method_36_code
def yX9_automatonIn : MethodName := ⟨RX9, "automatonIn", "(I)LAlternatingAutomata$Automaton;"⟩
abbrev cX9_formulaIn : ByteArray := prog_1_method_37_code
def yX9_formulaIn : MethodName := ⟨RX9, "formulaIn", "(III)LAlternatingAutomata$Formula;"⟩
abbrev cX9_readFormula : ByteArray := prog_1_method_38_code
def yX9_readFormula : MethodName := ⟨RX9, "readFormula", "(III)I"⟩
abbrev cX9_searchPairs : ByteArray := prog_1_method_39_code
def yX9_searchPairs : MethodName := ⟨RX9, "searchPairs", "(LAlternatingAutomata$Automaton;LAlternatingAutomata$Automaton;Z)Z"⟩
abbrev cX9_copyAll : ByteArray := prog_1_method_40_code
def yX9_copyAll : MethodName := ⟨RX9, "copyAll", "([LAlternatingAutomata$Automaton;[LAlternatingAutomata$Automaton;)I"⟩
abbrev cX9_isIn : ByteArray := prog_1_method_41_code
def yX9_isIn : MethodName := ⟨RX9, "isIn", "(JI)Z"⟩
abbrev cX9_minimalSets : ByteArray := prog_1_method_42_code
def yX9_minimalSets : MethodName := ⟨RX9, "minimalSets", "(J)J"⟩
abbrev cX9_setAtPosition : ByteArray := prog_1_method_43_code
def yX9_setAtPosition : MethodName := ⟨RX9, "setAtPosition", "(JI)I"⟩
abbrev cX9_joinTables : ByteArray := prog_1_method_44_code
def yX9_joinTables : MethodName := ⟨RX9, "joinTables", "(IJJ)J"⟩
def RX10 : String := "AlternatingAutomataModel"
def TX10 : u_T := fun k => match k with
  | 0 => ("AlternatingAutomataModel", "states", "[I", true)
  | 1 => ("AlternatingAutomataModel", "letters", "[I", true)
  | 2 => ("AlternatingAutomataModel", "finals", "[I", true)
  | 3 => ("AlternatingAutomataModel", "weight", "[I", true)
  | 4 => ("AlternatingAutomataModel", "formulaSize", "[I", true)
  | 5 => ("AlternatingAutomataModel", "node", "[I", true)
  | 6 => ("AlternatingAutomataModel", "text", "[I", true)
  | 7 => ("AlternatingAutomataModel", "made", "[I", true)
  | 8 => ("AlternatingAutomataModel", "pending", "[I", true)
  | 9 => ("AlternatingAutomataModel", "length", "I", false)
  | 10 => ("AlternatingAutomataModel", "at", "I", false)
  | 11 => ("AlternatingAutomataModel", "madeMany", "I", false)
  | 12 => ("AlternatingAutomataModel", "pendings", "I", false)
  | 13 => ("AlternatingAutomataModel", "parens", "I", false)
  | 14 => ("AlternatingAutomataModel", "leftOf", "[I", true)
  | 15 => ("AlternatingAutomataModel", "begins", "[I", true)
  | 16 => ("AlternatingAutomataModel", "toTell", "[I", true)
  | 17 => ("AlternatingAutomataModel", "paper", "[I", true)
  | 18 => ("AlternatingAutomataModel", "printedMany", "I", false)
  | 19 => ("AlternatingAutomataModel", "told", "I", false)
  | 20 => ("AlternatingAutomataModel", "wantedSlot", "I", false)
  | 21 => ("AlternatingAutomataModel", "wantedFormula", "I", false)
  | 22 => ("AlternatingAutomataModel", "wantedStates", "I", false)
  | 23 => ("AlternatingAutomataModel", "wantedLetter", "I", false)
  | 24 => ("AlternatingAutomataModel", "word", "[I", true)
  | 25 => ("AlternatingAutomataModel", "wordLength", "I", false)
  | 26 => ("AlternatingAutomataModel", "stateRank", "[I", true)
  | 27 => ("AlternatingAutomataModel", "newRank", "[I", true)
  | 28 => ("AlternatingAutomataModel", "nodeRank", "[I", true)
  | 29 => ("AlternatingAutomataModel", "wins", "[I", true)
  | 30 => ("AlternatingAutomataModel", "found", "[I", true)
  | 31 => ("AlternatingAutomataModel", "placeOf", "[I", true)
  | 32 => ("AlternatingAutomataModel", "classOf", "[I", true)
  | 33 => ("AlternatingAutomataModel", "newClass", "[I", true)
  | 34 => ("AlternatingAutomataModel", "foundMany", "I", false)
  | 35 => ("AlternatingAutomataModel", "leads", "[I", true)
  | 36 => ("AlternatingAutomataModel", "foundWord", "[I", true)
  | 37 => ("AlternatingAutomataModel", "queue", "[I", true)
  | 38 => ("AlternatingAutomataModel", "from", "[I", true)
  | 39 => ("AlternatingAutomataModel", "cost", "[I", true)
  | 40 => ("AlternatingAutomataModel", "steps", "[I", true)
  | 41 => ("AlternatingAutomataModel", "first", "[I", true)
  | 42 => ("AlternatingAutomataModel", "rest", "[I", true)
  | 43 => ("AlternatingAutomataModel", "isDone", "[Z", true)
  | 44 => ("AlternatingAutomataModel", "foundLength", "I", false)
  | 45 => ("AlternatingAutomataModel", "foundCost", "I", false)
  | 46 => ("AlternatingAutomataModel", "words", "[J", true)
  | 47 => ("AlternatingAutomataModel", "moreWords", "[J", true)
  | _ => ("AlternatingAutomataModel", "isSaved", "Z", false)
def tyX10 : Nat → FieldType := fun k => match k with
  | 0 => .array .int
  | 1 => .array .int
  | 2 => .array .int
  | 3 => .array .int
  | 4 => .array .int
  | 5 => .array .int
  | 6 => .array .int
  | 7 => .array .int
  | 8 => .array .int
  | 9 => .int
  | 10 => .int
  | 11 => .int
  | 12 => .int
  | 13 => .int
  | 14 => .array .int
  | 15 => .array .int
  | 16 => .array .int
  | 17 => .array .int
  | 18 => .int
  | 19 => .int
  | 20 => .int
  | 21 => .int
  | 22 => .int
  | 23 => .int
  | 24 => .array .int
  | 25 => .int
  | 26 => .array .int
  | 27 => .array .int
  | 28 => .array .int
  | 29 => .array .int
  | 30 => .array .int
  | 31 => .array .int
  | 32 => .array .int
  | 33 => .array .int
  | 34 => .int
  | 35 => .array .int
  | 36 => .array .int
  | 37 => .array .int
  | 38 => .array .int
  | 39 => .array .int
  | 40 => .array .int
  | 41 => .array .int
  | 42 => .array .int
  | 43 => .array .boolean
  | 44 => .int
  | 45 => .int
  | 46 => .array .long
  | 47 => .array .long
  | _ => .boolean
theorem nmX10 : ∀ a, a < 49 → ∀ b, b < 49 → a ≠ b → (TX10 a).2.1 ≠ (TX10 b).2.1 := by decide +kernel
theorem tyX10_ok : ∀ k, k < 49 → parseFieldDescriptor (TX10 k).2.2.1 = some (tyX10 k) := by decide +kernel
abbrev cX10_init : ByteArray := prog_12_method_1_code
def yX10_init : MethodName := ⟨RX10, "<init>", "()V"⟩
abbrev cX10_isBetween : ByteArray := prog_12_method_2_code
def yX10_isBetween : MethodName := ⟨RX10, "isBetween", "(III)Z"⟩
abbrev cX10_bits : ByteArray := prog_12_method_3_code
def yX10_bits : MethodName := ⟨RX10, "bits", "(I)I"⟩
abbrev cX10_isSlot : ByteArray := prog_12_method_4_code
def yX10_isSlot : MethodName := ⟨RX10, "isSlot", "(I)Z"⟩
abbrev cX10_isState : ByteArray := prog_12_method_5_code
def yX10_isState : MethodName := ⟨RX10, "isState", "(II)Z"⟩
abbrev cX10_isLetter : ByteArray := prog_12_method_6_code
def yX10_isLetter : MethodName := ⟨RX10, "isLetter", "(II)Z"⟩
abbrev cX10_allOf : ByteArray := prog_12_method_7_code
def yX10_allOf : MethodName := ⟨RX10, "allOf", "(I)I"⟩
abbrev cX10_isSet : ByteArray := prog_12_method_8_code
def yX10_isSet : MethodName := ⟨RX10, "isSet", "(II)Z"⟩
abbrev cX10_formulaOf : ByteArray := prog_12_method_9_code
def yX10_formulaOf : MethodName := ⟨RX10, "formulaOf", "(II)I"⟩
abbrev cX10_at : ByteArray := prog_12_method_10_code
def yX10_at : MethodName := ⟨RX10, "at", "(II)I"⟩
abbrev cX10_sizeOf : ByteArray := prog_12_method_11_code
def yX10_sizeOf : MethodName := ⟨RX10, "sizeOf", "(II)I"⟩
abbrev cX10_empties : ByteArray := prog_12_method_12_code
def yX10_empties : MethodName := ⟨RX10, "empties", "(III)V"⟩
abbrev cX10_copies : ByteArray := prog_12_method_13_code
def yX10_copies : MethodName := ⟨RX10, "copies", "(II)V"⟩
abbrev cX10_create : ByteArray := prog_12_method_14_code
def yX10_create : MethodName := ⟨RX10, "create", "(III)I"⟩
abbrev cX10_setFinal : ByteArray := prog_12_method_15_code
def yX10_setFinal : MethodName := ⟨RX10, "setFinal", "(III)I"⟩
abbrev cX10_setWeight : ByteArray := prog_12_method_16_code
def yX10_setWeight : MethodName := ⟨RX10, "setWeight", "(III)I"⟩
abbrev cX10_property : ByteArray := prog_12_method_17_code
def yX10_property : MethodName := ⟨RX10, "property", "(II)I"⟩
abbrev cX10_append : ByteArray := prog_12_method_18_code
def yX10_append : MethodName := ⟨RX10, "append", "(II)I"⟩
abbrev cX10_next : ByteArray := prog_12_method_19_code
def yX10_next : MethodName := ⟨RX10, "next", "()I"⟩
abbrev cX10_makes : ByteArray := prog_12_method_20_code
def yX10_makes : MethodName := ⟨RX10, "makes", "(I)V"⟩
abbrev cX10_makesFrom : ByteArray := prog_12_method_21_code
def yX10_makesFrom : MethodName := ⟨RX10, "makesFrom", "(I)V"⟩
abbrev cX10_takesFactor : ByteArray := prog_12_method_22_code
def yX10_takesFactor : MethodName := ⟨RX10, "takesFactor", "(I)Z"⟩
abbrev cX10_takesText : ByteArray := prog_12_method_23_code
def yX10_takesText : MethodName := ⟨RX10, "takesText", "(I)Z"⟩
abbrev cX10_parses : ByteArray := prog_12_method_24_code
def yX10_parses : MethodName := ⟨RX10, "parses", "(II)I"⟩
abbrev cX10_refusesText : ByteArray := prog_12_method_25_code
def yX10_refusesText : MethodName := ⟨RX10, "refusesText", "()I"⟩
abbrev cX10_setInitial : ByteArray := prog_12_method_26_code
def yX10_setInitial : MethodName := ⟨RX10, "setInitial", "(I)I"⟩
abbrev cX10_setTransition : ByteArray := prog_12_method_27_code
def yX10_setTransition : MethodName := ⟨RX10, "setTransition", "(III)I"⟩
abbrev cX10_asked : ByteArray := prog_12_method_28_code
def yX10_asked : MethodName := ⟨RX10, "asked", "(III)I"⟩
abbrev cX10_findParts : ByteArray := prog_12_method_29_code
def yX10_findParts : MethodName := ⟨RX10, "findParts", "(II)V"⟩
abbrev cX10_puts : ByteArray := prog_12_method_30_code
def yX10_puts : MethodName := ⟨RX10, "puts", "(I)V"⟩
abbrev cX10_putsPart : ByteArray := prog_12_method_31_code
def yX10_putsPart : MethodName := ⟨RX10, "putsPart", "(IZ)V"⟩
abbrev cX10_tells : ByteArray := prog_12_method_32_code
def yX10_tells : MethodName := ⟨RX10, "tells", "(II)V"⟩
abbrev cX10_print : ByteArray := prog_12_method_33_code
def yX10_print : MethodName := ⟨RX10, "print", "(III)I"⟩
abbrev cX10_printed : ByteArray := prog_12_method_34_code
def yX10_printed : MethodName := ⟨RX10, "printed", "(I)I"⟩
abbrev cX10_satisfies : ByteArray := prog_12_method_35_code
def yX10_satisfies : MethodName := ⟨RX10, "satisfies", "(III)Z"⟩
abbrev cX10_isSatisfied : ByteArray := prog_12_method_36_code
def yX10_isSatisfied : MethodName := ⟨RX10, "isSatisfied", "(IIII)I"⟩
abbrev cX10_satisfiesWanted : ByteArray := prog_12_method_37_code
def yX10_satisfiesWanted : MethodName := ⟨RX10, "satisfiesWanted", "(I)Z"⟩
abbrev cX10_isMinimal : ByteArray := prog_12_method_38_code
def yX10_isMinimal : MethodName := ⟨RX10, "isMinimal", "(I)Z"⟩
abbrev cX10_wants : ByteArray := prog_12_method_39_code
def yX10_wants : MethodName := ⟨RX10, "wants", "(IIII)V"⟩
abbrev cX10_model : ByteArray := prog_12_method_40_code
def yX10_model : MethodName := ⟨RX10, "model", "(IIII)I"⟩
abbrev cX10_push : ByteArray := prog_12_method_41_code
def yX10_push : MethodName := ⟨RX10, "push", "(I)I"⟩
abbrev cX10_clearWord : ByteArray := prog_12_method_42_code
def yX10_clearWord : MethodName := ⟨RX10, "clearWord", "()I"⟩
abbrev cX10_isWordOf : ByteArray := prog_12_method_43_code
def yX10_isWordOf : MethodName := ⟨RX10, "isWordOf", "(I)Z"⟩
abbrev cX10_stepOf : ByteArray := prog_12_method_44_code
def yX10_stepOf : MethodName := ⟨RX10, "stepOf", "(III)I"⟩
abbrev cX10_acceptingFrom : ByteArray := prog_12_method_45_code
def yX10_acceptingFrom : MethodName := ⟨RX10, "acceptingFrom", "(II)I"⟩
abbrev cX10_acceptingStates : ByteArray := prog_12_method_46_code
def yX10_acceptingStates : MethodName := ⟨RX10, "acceptingStates", "(II)I"⟩
abbrev cX10_isAccepting : ByteArray := prog_12_method_47_code
def yX10_isAccepting : MethodName := ⟨RX10, "isAccepting", "(II)Z"⟩
abbrev cX10_accepts : ByteArray := prog_12_method_48_code
def yX10_accepts : MethodName := ⟨RX10, "accepts", "(I)I"⟩
abbrev cX10_isWon : ByteArray := prog_12_method_49_code
def yX10_isWon : MethodName := ⟨RX10, "isWon", "(I)Z"⟩
abbrev cX10_joined : ByteArray := prog_12_method_50_code
def yX10_joined : MethodName := ⟨RX10, "joined", "(III)I"⟩
abbrev cX10_findNodeRanks : ByteArray := prog_12_method_51_code
def yX10_findNodeRanks : MethodName := ⟨RX10, "findNodeRanks", "(II)V"⟩
abbrev cX10_findRanks : ByteArray := prog_12_method_52_code
def yX10_findRanks : MethodName := ⟨RX10, "findRanks", "(II)V"⟩
abbrev cX10_rank : ByteArray := prog_12_method_53_code
def yX10_rank : MethodName := ⟨RX10, "rank", "(III)I"⟩
abbrev cX10_strategy : ByteArray := prog_12_method_54_code
def yX10_strategy : MethodName := ⟨RX10, "strategy", "(III)I"⟩
abbrev cX10_comes : ByteArray := prog_12_method_55_code
def yX10_comes : MethodName := ⟨RX10, "comes", "(I)Z"⟩
abbrev cX10_forgets : ByteArray := prog_12_method_56_code
def yX10_forgets : MethodName := ⟨RX10, "forgets", "()V"⟩
abbrev cX10_findReverse : ByteArray := prog_12_method_57_code
def yX10_findReverse : MethodName := ⟨RX10, "findReverse", "(I)V"⟩
abbrev cX10_reverseStep : ByteArray := prog_12_method_58_code
def yX10_reverseStep : MethodName := ⟨RX10, "reverseStep", "(III)I"⟩
abbrev cX10_reverseStates : ByteArray := prog_12_method_59_code
def yX10_reverseStates : MethodName := ⟨RX10, "reverseStates", "(I)I"⟩
abbrev cX10_isOneClass : ByteArray := prog_12_method_60_code
def yX10_isOneClass : MethodName := ⟨RX10, "isOneClass", "(III)Z"⟩
abbrev cX10_reverseClasses : ByteArray := prog_12_method_61_code
def yX10_reverseClasses : MethodName := ⟨RX10, "reverseClasses", "(I)I"⟩
abbrev cX10_modelsCome : ByteArray := prog_12_method_62_code
def yX10_modelsCome : MethodName := ⟨RX10, "modelsCome", "()V"⟩
abbrev cX10_existentialStates : ByteArray := prog_12_method_63_code
def yX10_existentialStates : MethodName := ⟨RX10, "existentialStates", "(I)I"⟩
abbrev cX10_existentialSets : ByteArray := prog_12_method_64_code
def yX10_existentialSets : MethodName := ⟨RX10, "existentialSets", "(II)I"⟩
abbrev cX10_statesIn : ByteArray := prog_12_method_65_code
def yX10_statesIn : MethodName := ⟨RX10, "statesIn", "(II)I"⟩
abbrev cX10_relevantStates : ByteArray := prog_12_method_66_code
def yX10_relevantStates : MethodName := ⟨RX10, "relevantStates", "(I)I"⟩
abbrev cX10_isBetter : ByteArray := prog_12_method_67_code
def yX10_isBetter : MethodName := ⟨RX10, "isBetter", "(IIIII)Z"⟩
abbrev cX10_nearest : ByteArray := prog_12_method_68_code
def yX10_nearest : MethodName := ⟨RX10, "nearest", "()I"⟩
abbrev cX10_findBest : ByteArray := prog_12_method_69_code
def yX10_findBest : MethodName := ⟨RX10, "findBest", "(I)V"⟩
abbrev cX10_isAhead : ByteArray := prog_12_method_70_code
def yX10_isAhead : MethodName := ⟨RX10, "isAhead", "(II)Z"⟩
abbrev cX10_findCheapest : ByteArray := prog_12_method_71_code
def yX10_findCheapest : MethodName := ⟨RX10, "findCheapest", "(I)I"⟩
abbrev cX10_findPair : ByteArray := prog_12_method_72_code
def yX10_findPair : MethodName := ⟨RX10, "findPair", "(IIZ)I"⟩
abbrev cX10_notPaired : ByteArray := prog_12_method_73_code
def yX10_notPaired : MethodName := ⟨RX10, "notPaired", "(II)I"⟩
abbrev cX10_findDifference : ByteArray := prog_12_method_74_code
def yX10_findDifference : MethodName := ⟨RX10, "findDifference", "(II)I"⟩
abbrev cX10_foundLetter : ByteArray := prog_12_method_75_code
def yX10_foundLetter : MethodName := ⟨RX10, "foundLetter", "(I)I"⟩
abbrev cX10_foundCost : ByteArray := prog_12_method_76_code
def yX10_foundCost : MethodName := ⟨RX10, "foundCost", "()I"⟩
abbrev cX10_isContained : ByteArray := prog_12_method_77_code
def yX10_isContained : MethodName := ⟨RX10, "isContained", "(II)I"⟩
abbrev cX10_countWords : ByteArray := prog_12_method_78_code
def yX10_countWords : MethodName := ⟨RX10, "countWords", "(II)J"⟩
abbrev cX10_dualOf : ByteArray := prog_12_method_79_code
def yX10_dualOf : MethodName := ⟨RX10, "dualOf", "(I)I"⟩
abbrev cX10_dualize : ByteArray := prog_12_method_80_code
def yX10_dualize : MethodName := ⟨RX10, "dualize", "(II)I"⟩
abbrev cX10_adds : ByteArray := prog_12_method_81_code
def yX10_adds : MethodName := ⟨RX10, "adds", "(IIII)V"⟩
abbrev cX10_combine : ByteArray := prog_12_method_82_code
def yX10_combine : MethodName := ⟨RX10, "combine", "(IIII)I"⟩
abbrev cX10_allStates : ByteArray := prog_12_method_83_code
def yX10_allStates : MethodName := ⟨RX10, "allStates", "()I"⟩
abbrev cX10_save : ByteArray := prog_12_method_84_code
def yX10_save : MethodName := ⟨RX10, "save", "()I"⟩
abbrev cX10_restore : ByteArray := prog_12_method_85_code
def yX10_restore : MethodName := ⟨RX10, "restore", "()I"⟩
def RJ6 : String := "java/lang/Integer"
abbrev cJ6_bitCount_0f7a4 : ByteArray := prog_13_method_49_code
def yJ6_bitCount_0f7a4 : MethodName := ⟨RJ6, "bitCount", "(I)I"⟩
def RJ13 : String := "java/lang/Long"
abbrev cJ13_bitCount_95d88 : ByteArray := prog_14_method_50_code
def yJ13_bitCount_95d88 : MethodName := ⟨RJ13, "bitCount", "(J)I"⟩
def RJ9 : String := "java/lang/Math"
abbrev cJ9_max_7cf53 : ByteArray := prog_15_method_65_code
def yJ9_max_7cf53 : MethodName := ⟨RJ9, "max", "(II)I"⟩
abbrev cJ9_min_7cf53 : ByteArray := prog_15_method_69_code
def yJ9_min_7cf53 : MethodName := ⟨RJ9, "min", "(II)I"⟩
def RJ10 : String := "java/lang/System"
def RJ7 : String := "java/util/Arrays"
abbrev cJ7_fill_d0a16 : ByteArray := prog_17_method_101_code
def yJ7_fill_d0a16 : MethodName := ⟨RJ7, "fill", "([JJ)V"⟩
abbrev cJ7_fill_53178 : ByteArray := prog_17_method_103_code
def yJ7_fill_53178 : MethodName := ⟨RJ7, "fill", "([II)V"⟩
abbrev cJ7_fill_fb410 : ByteArray := prog_17_method_105_code
def yJ7_fill_fb410 : MethodName := ⟨RJ7, "fill", "([SS)V"⟩
def RL : String := "AlternatingAutomataLaw"
abbrev cL_law : ByteArray := code
abbrev vwCl : List vw_C := [(RX0, TX0, 6), (RX1, TX1, 2), (RX2, TX2, 3), (RX3, TX3, 5), (RX4, TX4, 9), (RX5, TX5, 3), (RX6, TX6, 5), (RX7, TX7, 8), (RX8, TX8, 2), (RX9, TX9, 14), (RX10, TX10, 49)]
