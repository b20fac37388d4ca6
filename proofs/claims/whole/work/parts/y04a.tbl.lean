-- ===== PART A: goes FIRST, ahead of the names: the tables' words, and 'selects' of the private methods out of them =====
/-- a private method of a class that the tables say can be made, by its rows of tables_1 -/
def lw_okq (q : MethodName × Nat) : Prop := (q.1.cls ≠ "java/lang/invoke/MethodHandle" ∧ q.1.cls ≠ "java/lang/invoke/VarHandle") ∧ Cond.instantiable q.1.cls q.2 ∈ tables_1 ∧ Cond.privateMethod q.1 ∈ tables_1 ∧ Cond.instanceMethod q.1 ∈ tables_1
theorem lw_p0 : lw_okq (⟨"SyntaxRules$Source", "readTerm", "()Z"⟩, 18) := ⟨⟨by decide +kernel, by decide +kernel⟩, List.mem_of_getElem? (i := 50) (by decide +kernel), List.mem_of_getElem? (i := 409) (by decide +kernel), List.mem_of_getElem? (i := 410) (by decide +kernel)⟩
theorem lw_p1 : lw_okq (⟨"SyntaxRules$Source", "passLayout", "()Z"⟩, 18) := ⟨⟨by decide +kernel, by decide +kernel⟩, List.mem_of_getElem? (i := 50) (by decide +kernel), List.mem_of_getElem? (i := 413) (by decide +kernel), List.mem_of_getElem? (i := 414) (by decide +kernel)⟩
theorem lw_p2 : lw_okq (⟨"SyntaxRules$Source", "passComment", "()Z"⟩, 18) := ⟨⟨by decide +kernel, by decide +kernel⟩, List.mem_of_getElem? (i := 50) (by decide +kernel), List.mem_of_getElem? (i := 421) (by decide +kernel), List.mem_of_getElem? (i := 422) (by decide +kernel)⟩
theorem lw_p3 : lw_okq (⟨"SyntaxRules$Source", "addComment", "(I)V"⟩, 18) := ⟨⟨by decide +kernel, by decide +kernel⟩, List.mem_of_getElem? (i := 50) (by decide +kernel), List.mem_of_getElem? (i := 425) (by decide +kernel), List.mem_of_getElem? (i := 426) (by decide +kernel)⟩
theorem lw_p4 : lw_okq (⟨"SyntaxRules$Source", "closeTerm", "()V"⟩, 18) := ⟨⟨by decide +kernel, by decide +kernel⟩, List.mem_of_getElem? (i := 50) (by decide +kernel), List.mem_of_getElem? (i := 429) (by decide +kernel), List.mem_of_getElem? (i := 430) (by decide +kernel)⟩
theorem lw_p5 : lw_okq (⟨"SyntaxRules$Source", "finishNode", "(I)Z"⟩, 18) := ⟨⟨by decide +kernel, by decide +kernel⟩, List.mem_of_getElem? (i := 50) (by decide +kernel), List.mem_of_getElem? (i := 433) (by decide +kernel), List.mem_of_getElem? (i := 434) (by decide +kernel)⟩
theorem lw_p6 : lw_okq (⟨"SyntaxRules$Source", "readNode", "(I)Z"⟩, 18) := ⟨⟨by decide +kernel, by decide +kernel⟩, List.mem_of_getElem? (i := 50) (by decide +kernel), List.mem_of_getElem? (i := 437) (by decide +kernel), List.mem_of_getElem? (i := 438) (by decide +kernel)⟩
theorem lw_p7 : lw_okq (⟨"SyntaxRules$Source", "hasRoom", "(Z)Z"⟩, 18) := ⟨⟨by decide +kernel, by decide +kernel⟩, List.mem_of_getElem? (i := 50) (by decide +kernel), List.mem_of_getElem? (i := 447) (by decide +kernel), List.mem_of_getElem? (i := 448) (by decide +kernel)⟩
theorem lw_p8 : lw_okq (⟨"SyntaxRules$Source", "addNode", "(I)I"⟩, 18) := ⟨⟨by decide +kernel, by decide +kernel⟩, List.mem_of_getElem? (i := 50) (by decide +kernel), List.mem_of_getElem? (i := 451) (by decide +kernel), List.mem_of_getElem? (i := 452) (by decide +kernel)⟩
theorem lw_p9 : lw_okq (⟨"SyntaxRules$Source", "readName", "(IZ)Z"⟩, 18) := ⟨⟨by decide +kernel, by decide +kernel⟩, List.mem_of_getElem? (i := 50) (by decide +kernel), List.mem_of_getElem? (i := 455) (by decide +kernel), List.mem_of_getElem? (i := 456) (by decide +kernel)⟩
theorem lw_p10 : lw_okq (⟨"SyntaxRules", "turn", "()V"⟩, 13) := ⟨⟨by decide +kernel, by decide +kernel⟩, List.mem_of_getElem? (i := 21) (by decide +kernel), List.mem_of_getElem? (i := 523) (by decide +kernel), List.mem_of_getElem? (i := 524) (by decide +kernel)⟩
theorem lw_p11 : lw_okq (⟨"SyntaxRules$RuleReader", "readSide", "()Z"⟩, 11) := ⟨⟨by decide +kernel, by decide +kernel⟩, List.mem_of_getElem? (i := 146) (by decide +kernel), List.mem_of_getElem? (i := 639) (by decide +kernel), List.mem_of_getElem? (i := 640) (by decide +kernel)⟩
theorem lw_p12 : lw_okq (⟨"SyntaxRules$RuleReader", "passBlanks", "()V"⟩, 11) := ⟨⟨by decide +kernel, by decide +kernel⟩, List.mem_of_getElem? (i := 146) (by decide +kernel), List.mem_of_getElem? (i := 643) (by decide +kernel), List.mem_of_getElem? (i := 644) (by decide +kernel)⟩
theorem lw_p13 : lw_okq (⟨"SyntaxRules$RuleReader", "isInTerm", "()Z"⟩, 11) := ⟨⟨by decide +kernel, by decide +kernel⟩, List.mem_of_getElem? (i := 146) (by decide +kernel), List.mem_of_getElem? (i := 648) (by decide +kernel), List.mem_of_getElem? (i := 649) (by decide +kernel)⟩
theorem lw_p14 : lw_okq (⟨"SyntaxRules$RuleReader", "finishItem", "(I)Z"⟩, 11) := ⟨⟨by decide +kernel, by decide +kernel⟩, List.mem_of_getElem? (i := 146) (by decide +kernel), List.mem_of_getElem? (i := 652) (by decide +kernel), List.mem_of_getElem? (i := 653) (by decide +kernel)⟩
theorem lw_p15 : lw_okq (⟨"SyntaxRules$RuleReader", "readItem", "(I)Z"⟩, 11) := ⟨⟨by decide +kernel, by decide +kernel⟩, List.mem_of_getElem? (i := 146) (by decide +kernel), List.mem_of_getElem? (i := 656) (by decide +kernel), List.mem_of_getElem? (i := 657) (by decide +kernel)⟩
def lw_privs_1 : List (MethodName × Nat) := [(⟨"SyntaxRules$Source", "readTerm", "()Z"⟩, 18), (⟨"SyntaxRules$Source", "passLayout", "()Z"⟩, 18), (⟨"SyntaxRules$Source", "passComment", "()Z"⟩, 18), (⟨"SyntaxRules$Source", "addComment", "(I)V"⟩, 18), (⟨"SyntaxRules$Source", "closeTerm", "()V"⟩, 18), (⟨"SyntaxRules$Source", "finishNode", "(I)Z"⟩, 18), (⟨"SyntaxRules$Source", "readNode", "(I)Z"⟩, 18), (⟨"SyntaxRules$Source", "hasRoom", "(Z)Z"⟩, 18), (⟨"SyntaxRules$Source", "addNode", "(I)I"⟩, 18), (⟨"SyntaxRules$Source", "readName", "(IZ)Z"⟩, 18), (⟨"SyntaxRules", "turn", "()V"⟩, 13), (⟨"SyntaxRules$RuleReader", "readSide", "()Z"⟩, 11), (⟨"SyntaxRules$RuleReader", "passBlanks", "()V"⟩, 11), (⟨"SyntaxRules$RuleReader", "isInTerm", "()Z"⟩, 11), (⟨"SyntaxRules$RuleReader", "finishItem", "(I)Z"⟩, 11), (⟨"SyntaxRules$RuleReader", "readItem", "(I)Z"⟩, 11)]
theorem lw_r1 : ∀ q ∈ lw_privs_1, lw_okq q := List.forall_mem_cons.mpr ⟨lw_p0, List.forall_mem_cons.mpr ⟨lw_p1, List.forall_mem_cons.mpr ⟨lw_p2, List.forall_mem_cons.mpr ⟨lw_p3, List.forall_mem_cons.mpr ⟨lw_p4, List.forall_mem_cons.mpr ⟨lw_p5, List.forall_mem_cons.mpr ⟨lw_p6, List.forall_mem_cons.mpr ⟨lw_p7, List.forall_mem_cons.mpr ⟨lw_p8, List.forall_mem_cons.mpr ⟨lw_p9, List.forall_mem_cons.mpr ⟨lw_p10, List.forall_mem_cons.mpr ⟨lw_p11, List.forall_mem_cons.mpr ⟨lw_p12, List.forall_mem_cons.mpr ⟨lw_p13, List.forall_mem_cons.mpr ⟨lw_p14, List.forall_mem_cons.mpr ⟨lw_p15, fun _ h => absurd h List.not_mem_nil⟩⟩⟩⟩⟩⟩⟩⟩⟩⟩⟩⟩⟩⟩⟩⟩
theorem lw_p16 : lw_okq (⟨"SyntaxRules$RuleReader", "mayStand", "(I)Z"⟩, 11) := ⟨⟨by decide +kernel, by decide +kernel⟩, List.mem_of_getElem? (i := 146) (by decide +kernel), List.mem_of_getElem? (i := 665) (by decide +kernel), List.mem_of_getElem? (i := 666) (by decide +kernel)⟩
theorem lw_p17 : lw_okq (⟨"SyntaxRules$RuleReader", "addItem", "(I)I"⟩, 11) := ⟨⟨by decide +kernel, by decide +kernel⟩, List.mem_of_getElem? (i := 146) (by decide +kernel), List.mem_of_getElem? (i := 669) (by decide +kernel), List.mem_of_getElem? (i := 670) (by decide +kernel)⟩
theorem lw_p18 : lw_okq (⟨"SyntaxRules$RuleReader", "hangItem", "(I)V"⟩, 11) := ⟨⟨by decide +kernel, by decide +kernel⟩, List.mem_of_getElem? (i := 146) (by decide +kernel), List.mem_of_getElem? (i := 673) (by decide +kernel), List.mem_of_getElem? (i := 674) (by decide +kernel)⟩
theorem lw_p19 : lw_okq (⟨"SyntaxRules$RuleReader", "readWord", "(IZ)Z"⟩, 11) := ⟨⟨by decide +kernel, by decide +kernel⟩, List.mem_of_getElem? (i := 146) (by decide +kernel), List.mem_of_getElem? (i := 677) (by decide +kernel), List.mem_of_getElem? (i := 678) (by decide +kernel)⟩
theorem lw_p20 : lw_okq (⟨"SyntaxRules$RuleReader", "readHole", "(I)Z"⟩, 11) := ⟨⟨by decide +kernel, by decide +kernel⟩, List.mem_of_getElem? (i := 146) (by decide +kernel), List.mem_of_getElem? (i := 682) (by decide +kernel), List.mem_of_getElem? (i := 683) (by decide +kernel)⟩
theorem lw_p21 : lw_okq (⟨"SyntaxRules$RuleReader", "mayBear", "(IZ)Z"⟩, 11) := ⟨⟨by decide +kernel, by decide +kernel⟩, List.mem_of_getElem? (i := 146) (by decide +kernel), List.mem_of_getElem? (i := 686) (by decide +kernel), List.mem_of_getElem? (i := 687) (by decide +kernel)⟩
theorem lw_p22 : lw_okq (⟨"SyntaxRules$RuleReader", "readKind", "(I)Z"⟩, 11) := ⟨⟨by decide +kernel, by decide +kernel⟩, List.mem_of_getElem? (i := 146) (by decide +kernel), List.mem_of_getElem? (i := 690) (by decide +kernel), List.mem_of_getElem? (i := 691) (by decide +kernel)⟩
theorem lw_p23 : lw_okq (⟨"SyntaxRules$RuleReader", "passEquals", "()Z"⟩, 11) := ⟨⟨by decide +kernel, by decide +kernel⟩, List.mem_of_getElem? (i := 146) (by decide +kernel), List.mem_of_getElem? (i := 694) (by decide +kernel), List.mem_of_getElem? (i := 695) (by decide +kernel)⟩
theorem lw_p24 : lw_okq (⟨"SyntaxRules", "isRule", "(I)Z"⟩, 13) := ⟨⟨by decide +kernel, by decide +kernel⟩, List.mem_of_getElem? (i := 21) (by decide +kernel), List.mem_of_getElem? (i := 702) (by decide +kernel), List.mem_of_getElem? (i := 703) (by decide +kernel)⟩
theorem lw_p25 : lw_okq (⟨"SyntaxRules", "ruleCount", "()I"⟩, 13) := ⟨⟨by decide +kernel, by decide +kernel⟩, List.mem_of_getElem? (i := 21) (by decide +kernel), List.mem_of_getElem? (i := 706) (by decide +kernel), List.mem_of_getElem? (i := 707) (by decide +kernel)⟩
theorem lw_p26 : lw_okq (⟨"SyntaxRules", "isNode", "(I)Z"⟩, 13) := ⟨⟨by decide +kernel, by decide +kernel⟩, List.mem_of_getElem? (i := 21) (by decide +kernel), List.mem_of_getElem? (i := 714) (by decide +kernel), List.mem_of_getElem? (i := 715) (by decide +kernel)⟩
theorem lw_p27 : lw_okq (⟨"SyntaxRules$TestTree", "layItem", "(LSyntaxRules$Rule;I)I"⟩, 16) := ⟨⟨by decide +kernel, by decide +kernel⟩, List.mem_of_getElem? (i := 234) (by decide +kernel), List.mem_of_getElem? (i := 755) (by decide +kernel), List.mem_of_getElem? (i := 756) (by decide +kernel)⟩
theorem lw_p28 : lw_okq (⟨"SyntaxRules$TestTree", "addTest", "(III)V"⟩, 16) := ⟨⟨by decide +kernel, by decide +kernel⟩, List.mem_of_getElem? (i := 234) (by decide +kernel), List.mem_of_getElem? (i := 759) (by decide +kernel), List.mem_of_getElem? (i := 760) (by decide +kernel)⟩
theorem lw_p29 : lw_okq (⟨"SyntaxRules$TestTree", "layHole", "(LSyntaxRules$Rule;I)V"⟩, 16) := ⟨⟨by decide +kernel, by decide +kernel⟩, List.mem_of_getElem? (i := 234) (by decide +kernel), List.mem_of_getElem? (i := 763) (by decide +kernel), List.mem_of_getElem? (i := 764) (by decide +kernel)⟩
theorem lw_p30 : lw_okq (⟨"SyntaxRules$Fitting", "enter", "(II)Z"⟩, 12) := ⟨⟨by decide +kernel, by decide +kernel⟩, List.mem_of_getElem? (i := 187) (by decide +kernel), List.mem_of_getElem? (i := 786) (by decide +kernel), List.mem_of_getElem? (i := 787) (by decide +kernel)⟩
theorem lw_p31 : lw_okq (⟨"SyntaxRules$Fitting", "reach", "(II)V"⟩, 12) := ⟨⟨by decide +kernel, by decide +kernel⟩, List.mem_of_getElem? (i := 187) (by decide +kernel), List.mem_of_getElem? (i := 790) (by decide +kernel), List.mem_of_getElem? (i := 791) (by decide +kernel)⟩
def lw_privs_2 : List (MethodName × Nat) := [(⟨"SyntaxRules$RuleReader", "mayStand", "(I)Z"⟩, 11), (⟨"SyntaxRules$RuleReader", "addItem", "(I)I"⟩, 11), (⟨"SyntaxRules$RuleReader", "hangItem", "(I)V"⟩, 11), (⟨"SyntaxRules$RuleReader", "readWord", "(IZ)Z"⟩, 11), (⟨"SyntaxRules$RuleReader", "readHole", "(I)Z"⟩, 11), (⟨"SyntaxRules$RuleReader", "mayBear", "(IZ)Z"⟩, 11), (⟨"SyntaxRules$RuleReader", "readKind", "(I)Z"⟩, 11), (⟨"SyntaxRules$RuleReader", "passEquals", "()Z"⟩, 11), (⟨"SyntaxRules", "isRule", "(I)Z"⟩, 13), (⟨"SyntaxRules", "ruleCount", "()I"⟩, 13), (⟨"SyntaxRules", "isNode", "(I)Z"⟩, 13), (⟨"SyntaxRules$TestTree", "layItem", "(LSyntaxRules$Rule;I)I"⟩, 16), (⟨"SyntaxRules$TestTree", "addTest", "(III)V"⟩, 16), (⟨"SyntaxRules$TestTree", "layHole", "(LSyntaxRules$Rule;I)V"⟩, 16), (⟨"SyntaxRules$Fitting", "enter", "(II)Z"⟩, 12), (⟨"SyntaxRules$Fitting", "reach", "(II)V"⟩, 12)]
theorem lw_r2 : ∀ q ∈ lw_privs_2, lw_okq q := List.forall_mem_cons.mpr ⟨lw_p16, List.forall_mem_cons.mpr ⟨lw_p17, List.forall_mem_cons.mpr ⟨lw_p18, List.forall_mem_cons.mpr ⟨lw_p19, List.forall_mem_cons.mpr ⟨lw_p20, List.forall_mem_cons.mpr ⟨lw_p21, List.forall_mem_cons.mpr ⟨lw_p22, List.forall_mem_cons.mpr ⟨lw_p23, List.forall_mem_cons.mpr ⟨lw_p24, List.forall_mem_cons.mpr ⟨lw_p25, List.forall_mem_cons.mpr ⟨lw_p26, List.forall_mem_cons.mpr ⟨lw_p27, List.forall_mem_cons.mpr ⟨lw_p28, List.forall_mem_cons.mpr ⟨lw_p29, List.forall_mem_cons.mpr ⟨lw_p30, List.forall_mem_cons.mpr ⟨lw_p31, fun _ h => absurd h List.not_mem_nil⟩⟩⟩⟩⟩⟩⟩⟩⟩⟩⟩⟩⟩⟩⟩⟩
theorem lw_p32 : lw_okq (⟨"SyntaxRules$Fitting", "enterRow", "(I)Z"⟩, 12) := ⟨⟨by decide +kernel, by decide +kernel⟩, List.mem_of_getElem? (i := 187) (by decide +kernel), List.mem_of_getElem? (i := 794) (by decide +kernel), List.mem_of_getElem? (i := 795) (by decide +kernel)⟩
theorem lw_p33 : lw_okq (⟨"SyntaxRules$Fitting", "openChoice", "(I)Z"⟩, 12) := ⟨⟨by decide +kernel, by decide +kernel⟩, List.mem_of_getElem? (i := 187) (by decide +kernel), List.mem_of_getElem? (i := 802) (by decide +kernel), List.mem_of_getElem? (i := 803) (by decide +kernel)⟩
theorem lw_p34 : lw_okq (⟨"SyntaxRules$Fitting", "takePart", "(I)V"⟩, 12) := ⟨⟨by decide +kernel, by decide +kernel⟩, List.mem_of_getElem? (i := 187) (by decide +kernel), List.mem_of_getElem? (i := 810) (by decide +kernel), List.mem_of_getElem? (i := 811) (by decide +kernel)⟩
theorem lw_p35 : lw_okq (⟨"SyntaxRules$Fitting", "hasParts", "(I)Z"⟩, 12) := ⟨⟨by decide +kernel, by decide +kernel⟩, List.mem_of_getElem? (i := 187) (by decide +kernel), List.mem_of_getElem? (i := 818) (by decide +kernel), List.mem_of_getElem? (i := 819) (by decide +kernel)⟩
theorem lw_p36 : lw_okq (⟨"SyntaxRules$Fitting", "isAsBefore", "(I)Z"⟩, 12) := ⟨⟨by decide +kernel, by decide +kernel⟩, List.mem_of_getElem? (i := 187) (by decide +kernel), List.mem_of_getElem? (i := 822) (by decide +kernel), List.mem_of_getElem? (i := 823) (by decide +kernel)⟩
theorem lw_p37 : lw_okq (⟨"SyntaxRules$Fitting", "nextChoice", "()I"⟩, 12) := ⟨⟨by decide +kernel, by decide +kernel⟩, List.mem_of_getElem? (i := 187) (by decide +kernel), List.mem_of_getElem? (i := 831) (by decide +kernel), List.mem_of_getElem? (i := 832) (by decide +kernel)⟩
theorem lw_p38 : lw_okq (⟨"SyntaxRules$Fitting", "choosesMore", "(I)Z"⟩, 12) := ⟨⟨by decide +kernel, by decide +kernel⟩, List.mem_of_getElem? (i := 187) (by decide +kernel), List.mem_of_getElem? (i := 835) (by decide +kernel), List.mem_of_getElem? (i := 836) (by decide +kernel)⟩
theorem lw_p39 : lw_okq (⟨"SyntaxRules", "testsOfAll", "()I"⟩, 13) := ⟨⟨by decide +kernel, by decide +kernel⟩, List.mem_of_getElem? (i := 21) (by decide +kernel), List.mem_of_getElem? (i := 869) (by decide +kernel), List.mem_of_getElem? (i := 870) (by decide +kernel)⟩
theorem lw_p40 : lw_okq (⟨"SyntaxRules$TestTree", "hangRow", "(LSyntaxRules$Rule;)V"⟩, 16) := ⟨⟨by decide +kernel, by decide +kernel⟩, List.mem_of_getElem? (i := 234) (by decide +kernel), List.mem_of_getElem? (i := 877) (by decide +kernel), List.mem_of_getElem? (i := 878) (by decide +kernel)⟩
theorem lw_p41 : lw_okq (⟨"SyntaxRules$TestTree", "findBelow", "(ILSyntaxRules$Rule;I)I"⟩, 16) := ⟨⟨by decide +kernel, by decide +kernel⟩, List.mem_of_getElem? (i := 234) (by decide +kernel), List.mem_of_getElem? (i := 882) (by decide +kernel), List.mem_of_getElem? (i := 883) (by decide +kernel)⟩
theorem lw_p42 : lw_okq (⟨"SyntaxRules$TestTree", "asksSame", "(ILSyntaxRules$Rule;I)Z"⟩, 16) := ⟨⟨by decide +kernel, by decide +kernel⟩, List.mem_of_getElem? (i := 234) (by decide +kernel), List.mem_of_getElem? (i := 886) (by decide +kernel), List.mem_of_getElem? (i := 887) (by decide +kernel)⟩
theorem lw_p43 : lw_okq (⟨"SyntaxRules$TestTree", "hangTest", "(ILSyntaxRules$Rule;I)I"⟩, 16) := ⟨⟨by decide +kernel, by decide +kernel⟩, List.mem_of_getElem? (i := 234) (by decide +kernel), List.mem_of_getElem? (i := 904) (by decide +kernel), List.mem_of_getElem? (i := 905) (by decide +kernel)⟩
theorem lw_p44 : lw_okq (⟨"SyntaxRules$TestTree", "holds", "(ILSyntaxRules$Source;ILSyntaxRules$Fitting;)Z"⟩, 16) := ⟨⟨by decide +kernel, by decide +kernel⟩, List.mem_of_getElem? (i := 234) (by decide +kernel), List.mem_of_getElem? (i := 916) (by decide +kernel), List.mem_of_getElem? (i := 917) (by decide +kernel)⟩
theorem lw_p45 : lw_okq (⟨"SyntaxRules$TestTree", "follow", "(LSyntaxRules$Rule;ILSyntaxRules$Source;I)I"⟩, 16) := ⟨⟨by decide +kernel, by decide +kernel⟩, List.mem_of_getElem? (i := 234) (by decide +kernel), List.mem_of_getElem? (i := 920) (by decide +kernel), List.mem_of_getElem? (i := 921) (by decide +kernel)⟩
theorem lw_p46 : lw_okq (⟨"SyntaxRules$Walk", "fromOutside", "(LSyntaxRules$Source;)V"⟩, 5) := ⟨⟨by decide +kernel, by decide +kernel⟩, List.mem_of_getElem? (i := 291) (by decide +kernel), List.mem_of_getElem? (i := 946) (by decide +kernel), List.mem_of_getElem? (i := 947) (by decide +kernel)⟩
theorem lw_p47 : lw_okq (⟨"SyntaxRules$Walk", "fromInside", "(LSyntaxRules$Source;)V"⟩, 5) := ⟨⟨by decide +kernel, by decide +kernel⟩, List.mem_of_getElem? (i := 291) (by decide +kernel), List.mem_of_getElem? (i := 954) (by decide +kernel), List.mem_of_getElem? (i := 955) (by decide +kernel)⟩
def lw_privs_3 : List (MethodName × Nat) := [(⟨"SyntaxRules$Fitting", "enterRow", "(I)Z"⟩, 12), (⟨"SyntaxRules$Fitting", "openChoice", "(I)Z"⟩, 12), (⟨"SyntaxRules$Fitting", "takePart", "(I)V"⟩, 12), (⟨"SyntaxRules$Fitting", "hasParts", "(I)Z"⟩, 12), (⟨"SyntaxRules$Fitting", "isAsBefore", "(I)Z"⟩, 12), (⟨"SyntaxRules$Fitting", "nextChoice", "()I"⟩, 12), (⟨"SyntaxRules$Fitting", "choosesMore", "(I)Z"⟩, 12), (⟨"SyntaxRules", "testsOfAll", "()I"⟩, 13), (⟨"SyntaxRules$TestTree", "hangRow", "(LSyntaxRules$Rule;)V"⟩, 16), (⟨"SyntaxRules$TestTree", "findBelow", "(ILSyntaxRules$Rule;I)I"⟩, 16), (⟨"SyntaxRules$TestTree", "asksSame", "(ILSyntaxRules$Rule;I)Z"⟩, 16), (⟨"SyntaxRules$TestTree", "hangTest", "(ILSyntaxRules$Rule;I)I"⟩, 16), (⟨"SyntaxRules$TestTree", "holds", "(ILSyntaxRules$Source;ILSyntaxRules$Fitting;)Z"⟩, 16), (⟨"SyntaxRules$TestTree", "follow", "(LSyntaxRules$Rule;ILSyntaxRules$Source;I)I"⟩, 16), (⟨"SyntaxRules$Walk", "fromOutside", "(LSyntaxRules$Source;)V"⟩, 5), (⟨"SyntaxRules$Walk", "fromInside", "(LSyntaxRules$Source;)V"⟩, 5)]
theorem lw_r3 : ∀ q ∈ lw_privs_3, lw_okq q := List.forall_mem_cons.mpr ⟨lw_p32, List.forall_mem_cons.mpr ⟨lw_p33, List.forall_mem_cons.mpr ⟨lw_p34, List.forall_mem_cons.mpr ⟨lw_p35, List.forall_mem_cons.mpr ⟨lw_p36, List.forall_mem_cons.mpr ⟨lw_p37, List.forall_mem_cons.mpr ⟨lw_p38, List.forall_mem_cons.mpr ⟨lw_p39, List.forall_mem_cons.mpr ⟨lw_p40, List.forall_mem_cons.mpr ⟨lw_p41, List.forall_mem_cons.mpr ⟨lw_p42, List.forall_mem_cons.mpr ⟨lw_p43, List.forall_mem_cons.mpr ⟨lw_p44, List.forall_mem_cons.mpr ⟨lw_p45, List.forall_mem_cons.mpr ⟨lw_p46, List.forall_mem_cons.mpr ⟨lw_p47, fun _ h => absurd h List.not_mem_nil⟩⟩⟩⟩⟩⟩⟩⟩⟩⟩⟩⟩⟩⟩⟩⟩
theorem lw_p48 : lw_okq (⟨"SyntaxRules", "writtenAlone", "(II)LSyntaxRules$Writer;"⟩, 13) := ⟨⟨by decide +kernel, by decide +kernel⟩, List.mem_of_getElem? (i := 21) (by decide +kernel), List.mem_of_getElem? (i := 962) (by decide +kernel), List.mem_of_getElem? (i := 963) (by decide +kernel)⟩
theorem lw_p49 : lw_okq (⟨"SyntaxRules", "writeEdit", "(LSyntaxRules$Source;I)V"⟩, 13) := ⟨⟨by decide +kernel, by decide +kernel⟩, List.mem_of_getElem? (i := 21) (by decide +kernel), List.mem_of_getElem? (i := 970) (by decide +kernel), List.mem_of_getElem? (i := 971) (by decide +kernel)⟩
theorem lw_p50 : lw_okq (⟨"SyntaxRules$Writer", "findHeld", "(LSyntaxRules$Source;LSyntaxRules$Rule;ILSyntaxRules$Fitting;)V"⟩, 9) := ⟨⟨by decide +kernel, by decide +kernel⟩, List.mem_of_getElem? (i := 317) (by decide +kernel), List.mem_of_getElem? (i := 978) (by decide +kernel), List.mem_of_getElem? (i := 979) (by decide +kernel)⟩
theorem lw_p51 : lw_okq (⟨"SyntaxRules$Writer", "isHeld", "(LSyntaxRules$Rule;II)Z"⟩, 9) := ⟨⟨by decide +kernel, by decide +kernel⟩, List.mem_of_getElem? (i := 317) (by decide +kernel), List.mem_of_getElem? (i := 983) (by decide +kernel), List.mem_of_getElem? (i := 984) (by decide +kernel)⟩
theorem lw_p52 : lw_okq (⟨"SyntaxRules$Writer", "putSign", "(I)V"⟩, 9) := ⟨⟨by decide +kernel, by decide +kernel⟩, List.mem_of_getElem? (i := 317) (by decide +kernel), List.mem_of_getElem? (i := 992) (by decide +kernel), List.mem_of_getElem? (i := 993) (by decide +kernel)⟩
theorem lw_p53 : lw_okq (⟨"SyntaxRules$Writer", "append", "(I)V"⟩, 9) := ⟨⟨by decide +kernel, by decide +kernel⟩, List.mem_of_getElem? (i := 317) (by decide +kernel), List.mem_of_getElem? (i := 998) (by decide +kernel), List.mem_of_getElem? (i := 999) (by decide +kernel)⟩
theorem lw_p54 : lw_okq (⟨"SyntaxRules$Writer", "writePut", "(LSyntaxRules$Source;LSyntaxRules$Rule;)V"⟩, 9) := ⟨⟨by decide +kernel, by decide +kernel⟩, List.mem_of_getElem? (i := 317) (by decide +kernel), List.mem_of_getElem? (i := 1002) (by decide +kernel), List.mem_of_getElem? (i := 1003) (by decide +kernel)⟩
theorem lw_p55 : lw_okq (⟨"SyntaxRules$Writer", "closeTerms", "(LSyntaxRules$Rule;I)V"⟩, 9) := ⟨⟨by decide +kernel, by decide +kernel⟩, List.mem_of_getElem? (i := 317) (by decide +kernel), List.mem_of_getElem? (i := 1006) (by decide +kernel), List.mem_of_getElem? (i := 1007) (by decide +kernel)⟩
theorem lw_p56 : lw_okq (⟨"SyntaxRules", "step", "(LSyntaxRules$Source;LSyntaxRules$Source;I)I"⟩, 13) := ⟨⟨by decide +kernel, by decide +kernel⟩, List.mem_of_getElem? (i := 21) (by decide +kernel), List.mem_of_getElem? (i := 1022) (by decide +kernel), List.mem_of_getElem? (i := 1023) (by decide +kernel)⟩
theorem lw_p57 : lw_okq (⟨"SyntaxRules", "wasSeen", "(LSyntaxRules$Text;I)Z"⟩, 13) := ⟨⟨by decide +kernel, by decide +kernel⟩, List.mem_of_getElem? (i := 21) (by decide +kernel), List.mem_of_getElem? (i := 1051) (by decide +kernel), List.mem_of_getElem? (i := 1052) (by decide +kernel)⟩
theorem lw_p58 : lw_okq (⟨"java/lang/Throwable", "fillInStackTrace", "(I)Ljava/lang/Throwable;"⟩, 6) := ⟨⟨by decide +kernel, by decide +kernel⟩, List.mem_of_getElem? (i := 1138) (by decide +kernel), List.mem_of_getElem? (i := 1136) (by decide +kernel), List.mem_of_getElem? (i := 1137) (by decide +kernel)⟩
theorem lw_p59 : lw_okq (⟨"SyntaxRulesModel", "parseRow", "()V"⟩, 68) := ⟨⟨by decide +kernel, by decide +kernel⟩, List.mem_of_getElem? (i := 1163) (by decide +kernel), List.mem_of_getElem? (i := 1169) (by decide +kernel), List.mem_of_getElem? (i := 1170) (by decide +kernel)⟩
theorem lw_p60 : lw_okq (⟨"SyntaxRulesModel", "parses", "()Z"⟩, 68) := ⟨⟨by decide +kernel, by decide +kernel⟩, List.mem_of_getElem? (i := 1163) (by decide +kernel), List.mem_of_getElem? (i := 1173) (by decide +kernel), List.mem_of_getElem? (i := 1174) (by decide +kernel)⟩
theorem lw_p61 : lw_okq (⟨"SyntaxRulesModel", "skipLayout", "()V"⟩, 68) := ⟨⟨by decide +kernel, by decide +kernel⟩, List.mem_of_getElem? (i := 1163) (by decide +kernel), List.mem_of_getElem? (i := 1177) (by decide +kernel), List.mem_of_getElem? (i := 1178) (by decide +kernel)⟩
theorem lw_p62 : lw_okq (⟨"SyntaxRulesModel", "here", "()I"⟩, 68) := ⟨⟨by decide +kernel, by decide +kernel⟩, List.mem_of_getElem? (i := 1163) (by decide +kernel), List.mem_of_getElem? (i := 1181) (by decide +kernel), List.mem_of_getElem? (i := 1182) (by decide +kernel)⟩
theorem lw_p63 : lw_okq (⟨"SyntaxRulesModel", "readNote", "()V"⟩, 68) := ⟨⟨by decide +kernel, by decide +kernel⟩, List.mem_of_getElem? (i := 1163) (by decide +kernel), List.mem_of_getElem? (i := 1185) (by decide +kernel), List.mem_of_getElem? (i := 1186) (by decide +kernel)⟩
def lw_privs_4 : List (MethodName × Nat) := [(⟨"SyntaxRules", "writtenAlone", "(II)LSyntaxRules$Writer;"⟩, 13), (⟨"SyntaxRules", "writeEdit", "(LSyntaxRules$Source;I)V"⟩, 13), (⟨"SyntaxRules$Writer", "findHeld", "(LSyntaxRules$Source;LSyntaxRules$Rule;ILSyntaxRules$Fitting;)V"⟩, 9), (⟨"SyntaxRules$Writer", "isHeld", "(LSyntaxRules$Rule;II)Z"⟩, 9), (⟨"SyntaxRules$Writer", "putSign", "(I)V"⟩, 9), (⟨"SyntaxRules$Writer", "append", "(I)V"⟩, 9), (⟨"SyntaxRules$Writer", "writePut", "(LSyntaxRules$Source;LSyntaxRules$Rule;)V"⟩, 9), (⟨"SyntaxRules$Writer", "closeTerms", "(LSyntaxRules$Rule;I)V"⟩, 9), (⟨"SyntaxRules", "step", "(LSyntaxRules$Source;LSyntaxRules$Source;I)I"⟩, 13), (⟨"SyntaxRules", "wasSeen", "(LSyntaxRules$Text;I)Z"⟩, 13), (⟨"java/lang/Throwable", "fillInStackTrace", "(I)Ljava/lang/Throwable;"⟩, 6), (⟨"SyntaxRulesModel", "parseRow", "()V"⟩, 68), (⟨"SyntaxRulesModel", "parses", "()Z"⟩, 68), (⟨"SyntaxRulesModel", "skipLayout", "()V"⟩, 68), (⟨"SyntaxRulesModel", "here", "()I"⟩, 68), (⟨"SyntaxRulesModel", "readNote", "()V"⟩, 68)]
theorem lw_r4 : ∀ q ∈ lw_privs_4, lw_okq q := List.forall_mem_cons.mpr ⟨lw_p48, List.forall_mem_cons.mpr ⟨lw_p49, List.forall_mem_cons.mpr ⟨lw_p50, List.forall_mem_cons.mpr ⟨lw_p51, List.forall_mem_cons.mpr ⟨lw_p52, List.forall_mem_cons.mpr ⟨lw_p53, List.forall_mem_cons.mpr ⟨lw_p54, List.forall_mem_cons.mpr ⟨lw_p55, List.forall_mem_cons.mpr ⟨lw_p56, List.forall_mem_cons.mpr ⟨lw_p57, List.forall_mem_cons.mpr ⟨lw_p58, List.forall_mem_cons.mpr ⟨lw_p59, List.forall_mem_cons.mpr ⟨lw_p60, List.forall_mem_cons.mpr ⟨lw_p61, List.forall_mem_cons.mpr ⟨lw_p62, List.forall_mem_cons.mpr ⟨lw_p63, fun _ h => absurd h List.not_mem_nil⟩⟩⟩⟩⟩⟩⟩⟩⟩⟩⟩⟩⟩⟩⟩⟩
theorem lw_p64 : lw_okq (⟨"SyntaxRulesModel", "wrong", "()V"⟩, 68) := ⟨⟨by decide +kernel, by decide +kernel⟩, List.mem_of_getElem? (i := 1163) (by decide +kernel), List.mem_of_getElem? (i := 1194) (by decide +kernel), List.mem_of_getElem? (i := 1195) (by decide +kernel)⟩
theorem lw_p65 : lw_okq (⟨"SyntaxRulesModel", "close", "()V"⟩, 68) := ⟨⟨by decide +kernel, by decide +kernel⟩, List.mem_of_getElem? (i := 1163) (by decide +kernel), List.mem_of_getElem? (i := 1198) (by decide +kernel), List.mem_of_getElem? (i := 1199) (by decide +kernel)⟩
theorem lw_p66 : lw_okq (⟨"SyntaxRulesModel", "readNode", "()V"⟩, 68) := ⟨⟨by decide +kernel, by decide +kernel⟩, List.mem_of_getElem? (i := 1163) (by decide +kernel), List.mem_of_getElem? (i := 1202) (by decide +kernel), List.mem_of_getElem? (i := 1203) (by decide +kernel)⟩
theorem lw_p67 : lw_okq (⟨"SyntaxRulesModel", "readRow", "(ZI)I"⟩, 68) := ⟨⟨by decide +kernel, by decide +kernel⟩, List.mem_of_getElem? (i := 1163) (by decide +kernel), List.mem_of_getElem? (i := 1216) (by decide +kernel), List.mem_of_getElem? (i := 1217) (by decide +kernel)⟩
theorem lw_p68 : lw_okq (⟨"SyntaxRulesModel", "takeText", "()V"⟩, 68) := ⟨⟨by decide +kernel, by decide +kernel⟩, List.mem_of_getElem? (i := 1163) (by decide +kernel), List.mem_of_getElem? (i := 1442) (by decide +kernel), List.mem_of_getElem? (i := 1443) (by decide +kernel)⟩
theorem lw_p69 : lw_okq (⟨"SyntaxRulesModel", "remember", "([I)V"⟩, 68) := ⟨⟨by decide +kernel, by decide +kernel⟩, List.mem_of_getElem? (i := 1163) (by decide +kernel), List.mem_of_getElem? (i := 1446) (by decide +kernel), List.mem_of_getElem? (i := 1447) (by decide +kernel)⟩
theorem lw_p70 : lw_okq (⟨"SyntaxRulesModel", "become", "()V"⟩, 68) := ⟨⟨by decide +kernel, by decide +kernel⟩, List.mem_of_getElem? (i := 1163) (by decide +kernel), List.mem_of_getElem? (i := 1450) (by decide +kernel), List.mem_of_getElem? (i := 1451) (by decide +kernel)⟩
theorem lw_p71 : lw_okq (⟨"SyntaxRulesModel", "readsRule", "()Z"⟩, 68) := ⟨⟨by decide +kernel, by decide +kernel⟩, List.mem_of_getElem? (i := 1163) (by decide +kernel), List.mem_of_getElem? (i := 1458) (by decide +kernel), List.mem_of_getElem? (i := 1459) (by decide +kernel)⟩
theorem lw_p72 : lw_okq (⟨"SyntaxRulesModel", "readSide", "(I)V"⟩, 68) := ⟨⟨by decide +kernel, by decide +kernel⟩, List.mem_of_getElem? (i := 1163) (by decide +kernel), List.mem_of_getElem? (i := 1462) (by decide +kernel), List.mem_of_getElem? (i := 1463) (by decide +kernel)⟩
theorem lw_p73 : lw_okq (⟨"SyntaxRulesModel", "peek", "()I"⟩, 68) := ⟨⟨by decide +kernel, by decide +kernel⟩, List.mem_of_getElem? (i := 1163) (by decide +kernel), List.mem_of_getElem? (i := 1466) (by decide +kernel), List.mem_of_getElem? (i := 1467) (by decide +kernel)⟩
theorem lw_p74 : lw_okq (⟨"SyntaxRulesModel", "put", "(III)I"⟩, 68) := ⟨⟨by decide +kernel, by decide +kernel⟩, List.mem_of_getElem? (i := 1163) (by decide +kernel), List.mem_of_getElem? (i := 1470) (by decide +kernel), List.mem_of_getElem? (i := 1471) (by decide +kernel)⟩
theorem lw_p75 : lw_okq (⟨"SyntaxRulesModel", "readItem", "()V"⟩, 68) := ⟨⟨by decide +kernel, by decide +kernel⟩, List.mem_of_getElem? (i := 1163) (by decide +kernel), List.mem_of_getElem? (i := 1474) (by decide +kernel), List.mem_of_getElem? (i := 1475) (by decide +kernel)⟩
theorem lw_p76 : lw_okq (⟨"SyntaxRulesModel", "canBegin", "(I)Z"⟩, 68) := ⟨⟨by decide +kernel, by decide +kernel⟩, List.mem_of_getElem? (i := 1163) (by decide +kernel), List.mem_of_getElem? (i := 1478) (by decide +kernel), List.mem_of_getElem? (i := 1479) (by decide +kernel)⟩
theorem lw_p77 : lw_okq (⟨"SyntaxRulesModel", "countItem", "(Z)V"⟩, 68) := ⟨⟨by decide +kernel, by decide +kernel⟩, List.mem_of_getElem? (i := 1163) (by decide +kernel), List.mem_of_getElem? (i := 1482) (by decide +kernel), List.mem_of_getElem? (i := 1483) (by decide +kernel)⟩
theorem lw_p78 : lw_okq (⟨"SyntaxRulesModel", "readHole", "(I)I"⟩, 68) := ⟨⟨by decide +kernel, by decide +kernel⟩, List.mem_of_getElem? (i := 1163) (by decide +kernel), List.mem_of_getElem? (i := 1486) (by decide +kernel), List.mem_of_getElem? (i := 1487) (by decide +kernel)⟩
theorem lw_p79 : lw_okq (⟨"SyntaxRulesModel", "readKind", "(I)V"⟩, 68) := ⟨⟨by decide +kernel, by decide +kernel⟩, List.mem_of_getElem? (i := 1163) (by decide +kernel), List.mem_of_getElem? (i := 1492) (by decide +kernel), List.mem_of_getElem? (i := 1493) (by decide +kernel)⟩
def lw_privs_5 : List (MethodName × Nat) := [(⟨"SyntaxRulesModel", "wrong", "()V"⟩, 68), (⟨"SyntaxRulesModel", "close", "()V"⟩, 68), (⟨"SyntaxRulesModel", "readNode", "()V"⟩, 68), (⟨"SyntaxRulesModel", "readRow", "(ZI)I"⟩, 68), (⟨"SyntaxRulesModel", "takeText", "()V"⟩, 68), (⟨"SyntaxRulesModel", "remember", "([I)V"⟩, 68), (⟨"SyntaxRulesModel", "become", "()V"⟩, 68), (⟨"SyntaxRulesModel", "readsRule", "()Z"⟩, 68), (⟨"SyntaxRulesModel", "readSide", "(I)V"⟩, 68), (⟨"SyntaxRulesModel", "peek", "()I"⟩, 68), (⟨"SyntaxRulesModel", "put", "(III)I"⟩, 68), (⟨"SyntaxRulesModel", "readItem", "()V"⟩, 68), (⟨"SyntaxRulesModel", "canBegin", "(I)Z"⟩, 68), (⟨"SyntaxRulesModel", "countItem", "(Z)V"⟩, 68), (⟨"SyntaxRulesModel", "readHole", "(I)I"⟩, 68), (⟨"SyntaxRulesModel", "readKind", "(I)V"⟩, 68)]
theorem lw_r5 : ∀ q ∈ lw_privs_5, lw_okq q := List.forall_mem_cons.mpr ⟨lw_p64, List.forall_mem_cons.mpr ⟨lw_p65, List.forall_mem_cons.mpr ⟨lw_p66, List.forall_mem_cons.mpr ⟨lw_p67, List.forall_mem_cons.mpr ⟨lw_p68, List.forall_mem_cons.mpr ⟨lw_p69, List.forall_mem_cons.mpr ⟨lw_p70, List.forall_mem_cons.mpr ⟨lw_p71, List.forall_mem_cons.mpr ⟨lw_p72, List.forall_mem_cons.mpr ⟨lw_p73, List.forall_mem_cons.mpr ⟨lw_p74, List.forall_mem_cons.mpr ⟨lw_p75, List.forall_mem_cons.mpr ⟨lw_p76, List.forall_mem_cons.mpr ⟨lw_p77, List.forall_mem_cons.mpr ⟨lw_p78, List.forall_mem_cons.mpr ⟨lw_p79, fun _ h => absurd h List.not_mem_nil⟩⟩⟩⟩⟩⟩⟩⟩⟩⟩⟩⟩⟩⟩⟩⟩
theorem lw_p80 : lw_okq (⟨"SyntaxRulesModel", "readOpen", "()V"⟩, 68) := ⟨⟨by decide +kernel, by decide +kernel⟩, List.mem_of_getElem? (i := 1163) (by decide +kernel), List.mem_of_getElem? (i := 1496) (by decide +kernel), List.mem_of_getElem? (i := 1497) (by decide +kernel)⟩
theorem lw_p81 : lw_okq (⟨"SyntaxRulesModel", "readName", "(II)V"⟩, 68) := ⟨⟨by decide +kernel, by decide +kernel⟩, List.mem_of_getElem? (i := 1163) (by decide +kernel), List.mem_of_getElem? (i := 1500) (by decide +kernel), List.mem_of_getElem? (i := 1501) (by decide +kernel)⟩
theorem lw_p82 : lw_okq (⟨"SyntaxRulesModel", "isRule", "(I)Z"⟩, 68) := ⟨⟨by decide +kernel, by decide +kernel⟩, List.mem_of_getElem? (i := 1163) (by decide +kernel), List.mem_of_getElem? (i := 1504) (by decide +kernel), List.mem_of_getElem? (i := 1505) (by decide +kernel)⟩
theorem lw_p83 : lw_okq (⟨"SyntaxRulesModel", "takeRule", "(I)V"⟩, 68) := ⟨⟨by decide +kernel, by decide +kernel⟩, List.mem_of_getElem? (i := 1163) (by decide +kernel), List.mem_of_getElem? (i := 1512) (by decide +kernel), List.mem_of_getElem? (i := 1513) (by decide +kernel)⟩
theorem lw_p84 : lw_okq (⟨"SyntaxRulesModel", "layTests", "()V"⟩, 68) := ⟨⟨by decide +kernel, by decide +kernel⟩, List.mem_of_getElem? (i := 1163) (by decide +kernel), List.mem_of_getElem? (i := 1516) (by decide +kernel), List.mem_of_getElem? (i := 1517) (by decide +kernel)⟩
theorem lw_p85 : lw_okq (⟨"SyntaxRulesModel", "layTestsOf", "(I)V"⟩, 68) := ⟨⟨by decide +kernel, by decide +kernel⟩, List.mem_of_getElem? (i := 1163) (by decide +kernel), List.mem_of_getElem? (i := 1520) (by decide +kernel), List.mem_of_getElem? (i := 1521) (by decide +kernel)⟩
theorem lw_p86 : lw_okq (⟨"SyntaxRulesModel", "token", "(IIII)I"⟩, 68) := ⟨⟨by decide +kernel, by decide +kernel⟩, List.mem_of_getElem? (i := 1163) (by decide +kernel), List.mem_of_getElem? (i := 1524) (by decide +kernel), List.mem_of_getElem? (i := 1525) (by decide +kernel)⟩
theorem lw_p87 : lw_okq (⟨"SyntaxRulesModel", "testItem", "(II)I"⟩, 68) := ⟨⟨by decide +kernel, by decide +kernel⟩, List.mem_of_getElem? (i := 1163) (by decide +kernel), List.mem_of_getElem? (i := 1528) (by decide +kernel), List.mem_of_getElem? (i := 1529) (by decide +kernel)⟩
theorem lw_p88 : lw_okq (⟨"SyntaxRulesModel", "addTest", "(III)I"⟩, 68) := ⟨⟨by decide +kernel, by decide +kernel⟩, List.mem_of_getElem? (i := 1163) (by decide +kernel), List.mem_of_getElem? (i := 1532) (by decide +kernel), List.mem_of_getElem? (i := 1533) (by decide +kernel)⟩
theorem lw_p89 : lw_okq (⟨"SyntaxRulesModel", "behind", "(II)I"⟩, 68) := ⟨⟨by decide +kernel, by decide +kernel⟩, List.mem_of_getElem? (i := 1163) (by decide +kernel), List.mem_of_getElem? (i := 1536) (by decide +kernel), List.mem_of_getElem? (i := 1537) (by decide +kernel)⟩
theorem lw_p90 : lw_okq (⟨"SyntaxRulesModel", "testHole", "(II)V"⟩, 68) := ⟨⟨by decide +kernel, by decide +kernel⟩, List.mem_of_getElem? (i := 1163) (by decide +kernel), List.mem_of_getElem? (i := 1540) (by decide +kernel), List.mem_of_getElem? (i := 1541) (by decide +kernel)⟩
theorem lw_p91 : lw_okq (⟨"SyntaxRulesModel", "childOf", "(II)I"⟩, 68) := ⟨⟨by decide +kernel, by decide +kernel⟩, List.mem_of_getElem? (i := 1163) (by decide +kernel), List.mem_of_getElem? (i := 1544) (by decide +kernel), List.mem_of_getElem? (i := 1545) (by decide +kernel)⟩
theorem lw_p92 : lw_okq (⟨"SyntaxRulesModel", "isSameTest", "(II)Z"⟩, 68) := ⟨⟨by decide +kernel, by decide +kernel⟩, List.mem_of_getElem? (i := 1163) (by decide +kernel), List.mem_of_getElem? (i := 1548) (by decide +kernel), List.mem_of_getElem? (i := 1549) (by decide +kernel)⟩
theorem lw_p93 : lw_okq (⟨"SyntaxRulesModel", "isSameAsked", "(II)Z"⟩, 68) := ⟨⟨by decide +kernel, by decide +kernel⟩, List.mem_of_getElem? (i := 1163) (by decide +kernel), List.mem_of_getElem? (i := 1552) (by decide +kernel), List.mem_of_getElem? (i := 1553) (by decide +kernel)⟩
theorem lw_p94 : lw_okq (⟨"SyntaxRulesModel", "isSameWord", "(IIII)Z"⟩, 68) := ⟨⟨by decide +kernel, by decide +kernel⟩, List.mem_of_getElem? (i := 1163) (by decide +kernel), List.mem_of_getElem? (i := 1556) (by decide +kernel), List.mem_of_getElem? (i := 1557) (by decide +kernel)⟩
theorem lw_p95 : lw_okq (⟨"SyntaxRulesModel", "isSameOther", "(II)Z"⟩, 68) := ⟨⟨by decide +kernel, by decide +kernel⟩, List.mem_of_getElem? (i := 1163) (by decide +kernel), List.mem_of_getElem? (i := 1560) (by decide +kernel), List.mem_of_getElem? (i := 1561) (by decide +kernel)⟩
def lw_privs_6 : List (MethodName × Nat) := [(⟨"SyntaxRulesModel", "readOpen", "()V"⟩, 68), (⟨"SyntaxRulesModel", "readName", "(II)V"⟩, 68), (⟨"SyntaxRulesModel", "isRule", "(I)Z"⟩, 68), (⟨"SyntaxRulesModel", "takeRule", "(I)V"⟩, 68), (⟨"SyntaxRulesModel", "layTests", "()V"⟩, 68), (⟨"SyntaxRulesModel", "layTestsOf", "(I)V"⟩, 68), (⟨"SyntaxRulesModel", "token", "(IIII)I"⟩, 68), (⟨"SyntaxRulesModel", "testItem", "(II)I"⟩, 68), (⟨"SyntaxRulesModel", "addTest", "(III)I"⟩, 68), (⟨"SyntaxRulesModel", "behind", "(II)I"⟩, 68), (⟨"SyntaxRulesModel", "testHole", "(II)V"⟩, 68), (⟨"SyntaxRulesModel", "childOf", "(II)I"⟩, 68), (⟨"SyntaxRulesModel", "isSameTest", "(II)Z"⟩, 68), (⟨"SyntaxRulesModel", "isSameAsked", "(II)Z"⟩, 68), (⟨"SyntaxRulesModel", "isSameWord", "(IIII)Z"⟩, 68), (⟨"SyntaxRulesModel", "isSameOther", "(II)Z"⟩, 68)]
theorem lw_r6 : ∀ q ∈ lw_privs_6, lw_okq q := List.forall_mem_cons.mpr ⟨lw_p80, List.forall_mem_cons.mpr ⟨lw_p81, List.forall_mem_cons.mpr ⟨lw_p82, List.forall_mem_cons.mpr ⟨lw_p83, List.forall_mem_cons.mpr ⟨lw_p84, List.forall_mem_cons.mpr ⟨lw_p85, List.forall_mem_cons.mpr ⟨lw_p86, List.forall_mem_cons.mpr ⟨lw_p87, List.forall_mem_cons.mpr ⟨lw_p88, List.forall_mem_cons.mpr ⟨lw_p89, List.forall_mem_cons.mpr ⟨lw_p90, List.forall_mem_cons.mpr ⟨lw_p91, List.forall_mem_cons.mpr ⟨lw_p92, List.forall_mem_cons.mpr ⟨lw_p93, List.forall_mem_cons.mpr ⟨lw_p94, List.forall_mem_cons.mpr ⟨lw_p95, fun _ h => absurd h List.not_mem_nil⟩⟩⟩⟩⟩⟩⟩⟩⟩⟩⟩⟩⟩⟩⟩⟩
theorem lw_p96 : lw_okq (⟨"SyntaxRulesModel", "areSameTokens", "(IIII)Z"⟩, 68) := ⟨⟨by decide +kernel, by decide +kernel⟩, List.mem_of_getElem? (i := 1163) (by decide +kernel), List.mem_of_getElem? (i := 1564) (by decide +kernel), List.mem_of_getElem? (i := 1565) (by decide +kernel)⟩
theorem lw_p97 : lw_okq (⟨"SyntaxRulesModel", "isSameToken", "(IIII)Z"⟩, 68) := ⟨⟨by decide +kernel, by decide +kernel⟩, List.mem_of_getElem? (i := 1163) (by decide +kernel), List.mem_of_getElem? (i := 1568) (by decide +kernel), List.mem_of_getElem? (i := 1569) (by decide +kernel)⟩
theorem lw_p98 : lw_okq (⟨"SyntaxRulesModel", "rulesMany", "()I"⟩, 68) := ⟨⟨by decide +kernel, by decide +kernel⟩, List.mem_of_getElem? (i := 1163) (by decide +kernel), List.mem_of_getElem? (i := 1576) (by decide +kernel), List.mem_of_getElem? (i := 1577) (by decide +kernel)⟩
theorem lw_p99 : lw_okq (⟨"SyntaxRulesModel", "isNode", "(I)Z"⟩, 68) := ⟨⟨by decide +kernel, by decide +kernel⟩, List.mem_of_getElem? (i := 1163) (by decide +kernel), List.mem_of_getElem? (i := 1584) (by decide +kernel), List.mem_of_getElem? (i := 1585) (by decide +kernel)⟩
theorem lw_p100 : lw_okq (⟨"SyntaxRulesModel", "startChoices", "()V"⟩, 68) := ⟨⟨by decide +kernel, by decide +kernel⟩, List.mem_of_getElem? (i := 1163) (by decide +kernel), List.mem_of_getElem? (i := 1588) (by decide +kernel), List.mem_of_getElem? (i := 1589) (by decide +kernel)⟩
theorem lw_p101 : lw_okq (⟨"SyntaxRulesModel", "goesAlong", "(III)Z"⟩, 68) := ⟨⟨by decide +kernel, by decide +kernel⟩, List.mem_of_getElem? (i := 1163) (by decide +kernel), List.mem_of_getElem? (i := 1592) (by decide +kernel), List.mem_of_getElem? (i := 1593) (by decide +kernel)⟩
theorem lw_p102 : lw_okq (⟨"SyntaxRulesModel", "fitsRow", "(III)Z"⟩, 68) := ⟨⟨by decide +kernel, by decide +kernel⟩, List.mem_of_getElem? (i := 1163) (by decide +kernel), List.mem_of_getElem? (i := 1596) (by decide +kernel), List.mem_of_getElem? (i := 1597) (by decide +kernel)⟩
theorem lw_p103 : lw_okq (⟨"SyntaxRulesModel", "of", "(II)I"⟩, 68) := ⟨⟨by decide +kernel, by decide +kernel⟩, List.mem_of_getElem? (i := 1163) (by decide +kernel), List.mem_of_getElem? (i := 1600) (by decide +kernel), List.mem_of_getElem? (i := 1601) (by decide +kernel)⟩
theorem lw_p104 : lw_okq (⟨"SyntaxRulesModel", "areRowsAlike", "(III)Z"⟩, 68) := ⟨⟨by decide +kernel, by decide +kernel⟩, List.mem_of_getElem? (i := 1163) (by decide +kernel), List.mem_of_getElem? (i := 1604) (by decide +kernel), List.mem_of_getElem? (i := 1605) (by decide +kernel)⟩
theorem lw_p105 : lw_okq (⟨"SyntaxRulesModel", "areAlike", "(II)Z"⟩, 68) := ⟨⟨by decide +kernel, by decide +kernel⟩, List.mem_of_getElem? (i := 1163) (by decide +kernel), List.mem_of_getElem? (i := 1608) (by decide +kernel), List.mem_of_getElem? (i := 1609) (by decide +kernel)⟩
theorem lw_p106 : lw_okq (⟨"SyntaxRulesModel", "isSame", "(II)Z"⟩, 68) := ⟨⟨by decide +kernel, by decide +kernel⟩, List.mem_of_getElem? (i := 1163) (by decide +kernel), List.mem_of_getElem? (i := 1612) (by decide +kernel), List.mem_of_getElem? (i := 1613) (by decide +kernel)⟩
theorem lw_p107 : lw_okq (⟨"SyntaxRulesModel", "isName", "(IIII)Z"⟩, 68) := ⟨⟨by decide +kernel, by decide +kernel⟩, List.mem_of_getElem? (i := 1163) (by decide +kernel), List.mem_of_getElem? (i := 1616) (by decide +kernel), List.mem_of_getElem? (i := 1617) (by decide +kernel)⟩
theorem lw_p108 : lw_okq (⟨"SyntaxRulesModel", "fitsLeaf", "(III)Z"⟩, 68) := ⟨⟨by decide +kernel, by decide +kernel⟩, List.mem_of_getElem? (i := 1163) (by decide +kernel), List.mem_of_getElem? (i := 1620) (by decide +kernel), List.mem_of_getElem? (i := 1621) (by decide +kernel)⟩
theorem lw_p109 : lw_okq (⟨"SyntaxRulesModel", "fitsHole", "(III)Z"⟩, 68) := ⟨⟨by decide +kernel, by decide +kernel⟩, List.mem_of_getElem? (i := 1163) (by decide +kernel), List.mem_of_getElem? (i := 1624) (by decide +kernel), List.mem_of_getElem? (i := 1625) (by decide +kernel)⟩
theorem lw_p110 : lw_okq (⟨"SyntaxRulesModel", "goesOn", "()Z"⟩, 68) := ⟨⟨by decide +kernel, by decide +kernel⟩, List.mem_of_getElem? (i := 1163) (by decide +kernel), List.mem_of_getElem? (i := 1628) (by decide +kernel), List.mem_of_getElem? (i := 1629) (by decide +kernel)⟩
theorem lw_p111 : lw_okq (⟨"SyntaxRulesModel", "fits", "(II)Z"⟩, 68) := ⟨⟨by decide +kernel, by decide +kernel⟩, List.mem_of_getElem? (i := 1163) (by decide +kernel), List.mem_of_getElem? (i := 1637) (by decide +kernel), List.mem_of_getElem? (i := 1638) (by decide +kernel)⟩
def lw_privs_7 : List (MethodName × Nat) := [(⟨"SyntaxRulesModel", "areSameTokens", "(IIII)Z"⟩, 68), (⟨"SyntaxRulesModel", "isSameToken", "(IIII)Z"⟩, 68), (⟨"SyntaxRulesModel", "rulesMany", "()I"⟩, 68), (⟨"SyntaxRulesModel", "isNode", "(I)Z"⟩, 68), (⟨"SyntaxRulesModel", "startChoices", "()V"⟩, 68), (⟨"SyntaxRulesModel", "goesAlong", "(III)Z"⟩, 68), (⟨"SyntaxRulesModel", "fitsRow", "(III)Z"⟩, 68), (⟨"SyntaxRulesModel", "of", "(II)I"⟩, 68), (⟨"SyntaxRulesModel", "areRowsAlike", "(III)Z"⟩, 68), (⟨"SyntaxRulesModel", "areAlike", "(II)Z"⟩, 68), (⟨"SyntaxRulesModel", "isSame", "(II)Z"⟩, 68), (⟨"SyntaxRulesModel", "isName", "(IIII)Z"⟩, 68), (⟨"SyntaxRulesModel", "fitsLeaf", "(III)Z"⟩, 68), (⟨"SyntaxRulesModel", "fitsHole", "(III)Z"⟩, 68), (⟨"SyntaxRulesModel", "goesOn", "()Z"⟩, 68), (⟨"SyntaxRulesModel", "fits", "(II)Z"⟩, 68)]
theorem lw_r7 : ∀ q ∈ lw_privs_7, lw_okq q := List.forall_mem_cons.mpr ⟨lw_p96, List.forall_mem_cons.mpr ⟨lw_p97, List.forall_mem_cons.mpr ⟨lw_p98, List.forall_mem_cons.mpr ⟨lw_p99, List.forall_mem_cons.mpr ⟨lw_p100, List.forall_mem_cons.mpr ⟨lw_p101, List.forall_mem_cons.mpr ⟨lw_p102, List.forall_mem_cons.mpr ⟨lw_p103, List.forall_mem_cons.mpr ⟨lw_p104, List.forall_mem_cons.mpr ⟨lw_p105, List.forall_mem_cons.mpr ⟨lw_p106, List.forall_mem_cons.mpr ⟨lw_p107, List.forall_mem_cons.mpr ⟨lw_p108, List.forall_mem_cons.mpr ⟨lw_p109, List.forall_mem_cons.mpr ⟨lw_p110, List.forall_mem_cons.mpr ⟨lw_p111, fun _ h => absurd h List.not_mem_nil⟩⟩⟩⟩⟩⟩⟩⟩⟩⟩⟩⟩⟩⟩⟩⟩
theorem lw_p112 : lw_okq (⟨"SyntaxRulesModel", "fits", "(III)Z"⟩, 68) := ⟨⟨by decide +kernel, by decide +kernel⟩, List.mem_of_getElem? (i := 1163) (by decide +kernel), List.mem_of_getElem? (i := 1641) (by decide +kernel), List.mem_of_getElem? (i := 1642) (by decide +kernel)⟩
theorem lw_p113 : lw_okq (⟨"SyntaxRulesModel", "fitting", "(I)I"⟩, 68) := ⟨⟨by decide +kernel, by decide +kernel⟩, List.mem_of_getElem? (i := 1163) (by decide +kernel), List.mem_of_getElem? (i := 1653) (by decide +kernel), List.mem_of_getElem? (i := 1654) (by decide +kernel)⟩
theorem lw_p114 : lw_okq (⟨"SyntaxRulesModel", "tokensOf", "(III)I"⟩, 68) := ⟨⟨by decide +kernel, by decide +kernel⟩, List.mem_of_getElem? (i := 1163) (by decide +kernel), List.mem_of_getElem? (i := 1686) (by decide +kernel), List.mem_of_getElem? (i := 1687) (by decide +kernel)⟩
theorem lw_p115 : lw_okq (⟨"SyntaxRulesModel", "lettersOf", "(I)I"⟩, 68) := ⟨⟨by decide +kernel, by decide +kernel⟩, List.mem_of_getElem? (i := 1163) (by decide +kernel), List.mem_of_getElem? (i := 1690) (by decide +kernel), List.mem_of_getElem? (i := 1691) (by decide +kernel)⟩
theorem lw_p116 : lw_okq (⟨"SyntaxRulesModel", "isSo", "(II)Z"⟩, 68) := ⟨⟨by decide +kernel, by decide +kernel⟩, List.mem_of_getElem? (i := 1163) (by decide +kernel), List.mem_of_getElem? (i := 1702) (by decide +kernel), List.mem_of_getElem? (i := 1703) (by decide +kernel)⟩
theorem lw_p117 : lw_okq (⟨"SyntaxRulesModel", "nodeAt", "(I[III)I"⟩, 68) := ⟨⟨by decide +kernel, by decide +kernel⟩, List.mem_of_getElem? (i := 1163) (by decide +kernel), List.mem_of_getElem? (i := 1706) (by decide +kernel), List.mem_of_getElem? (i := 1707) (by decide +kernel)⟩
theorem lw_p118 : lw_okq (⟨"SyntaxRulesModel", "walk", "(I)V"⟩, 68) := ⟨⟨by decide +kernel, by decide +kernel⟩, List.mem_of_getElem? (i := 1163) (by decide +kernel), List.mem_of_getElem? (i := 1717) (by decide +kernel), List.mem_of_getElem? (i := 1718) (by decide +kernel)⟩
theorem lw_p119 : lw_okq (⟨"SyntaxRulesModel", "walkOutside", "()V"⟩, 68) := ⟨⟨by decide +kernel, by decide +kernel⟩, List.mem_of_getElem? (i := 1163) (by decide +kernel), List.mem_of_getElem? (i := 1721) (by decide +kernel), List.mem_of_getElem? (i := 1722) (by decide +kernel)⟩
theorem lw_p120 : lw_okq (⟨"SyntaxRulesModel", "leastRule", "(I)I"⟩, 68) := ⟨⟨by decide +kernel, by decide +kernel⟩, List.mem_of_getElem? (i := 1163) (by decide +kernel), List.mem_of_getElem? (i := 1725) (by decide +kernel), List.mem_of_getElem? (i := 1726) (by decide +kernel)⟩
theorem lw_p121 : lw_okq (⟨"SyntaxRulesModel", "addEdit", "(II)V"⟩, 68) := ⟨⟨by decide +kernel, by decide +kernel⟩, List.mem_of_getElem? (i := 1163) (by decide +kernel), List.mem_of_getElem? (i := 1729) (by decide +kernel), List.mem_of_getElem? (i := 1730) (by decide +kernel)⟩
theorem lw_p122 : lw_okq (⟨"SyntaxRulesModel", "walkInside", "()V"⟩, 68) := ⟨⟨by decide +kernel, by decide +kernel⟩, List.mem_of_getElem? (i := 1163) (by decide +kernel), List.mem_of_getElem? (i := 1733) (by decide +kernel), List.mem_of_getElem? (i := 1734) (by decide +kernel)⟩
theorem lw_p123 : lw_okq (⟨"SyntaxRulesModel", "hasEdit", "(I)Z"⟩, 68) := ⟨⟨by decide +kernel, by decide +kernel⟩, List.mem_of_getElem? (i := 1163) (by decide +kernel), List.mem_of_getElem? (i := 1737) (by decide +kernel), List.mem_of_getElem? (i := 1738) (by decide +kernel)⟩
theorem lw_p124 : lw_okq (⟨"SyntaxRulesModel", "layComing", "(I)V"⟩, 68) := ⟨⟨by decide +kernel, by decide +kernel⟩, List.mem_of_getElem? (i := 1163) (by decide +kernel), List.mem_of_getElem? (i := 1742) (by decide +kernel), List.mem_of_getElem? (i := 1743) (by decide +kernel)⟩
theorem lw_p125 : lw_okq (⟨"SyntaxRulesModel", "layHeld", "()V"⟩, 68) := ⟨⟨by decide +kernel, by decide +kernel⟩, List.mem_of_getElem? (i := 1163) (by decide +kernel), List.mem_of_getElem? (i := 1746) (by decide +kernel), List.mem_of_getElem? (i := 1747) (by decide +kernel)⟩
theorem lw_p126 : lw_okq (⟨"SyntaxRulesModel", "isHeld", "(II)Z"⟩, 68) := ⟨⟨by decide +kernel, by decide +kernel⟩, List.mem_of_getElem? (i := 1163) (by decide +kernel), List.mem_of_getElem? (i := 1750) (by decide +kernel), List.mem_of_getElem? (i := 1751) (by decide +kernel)⟩
theorem lw_p127 : lw_okq (⟨"SyntaxRulesModel", "putsRow", "(II)V"⟩, 68) := ⟨⟨by decide +kernel, by decide +kernel⟩, List.mem_of_getElem? (i := 1163) (by decide +kernel), List.mem_of_getElem? (i := 1754) (by decide +kernel), List.mem_of_getElem? (i := 1755) (by decide +kernel)⟩
def lw_privs_8 : List (MethodName × Nat) := [(⟨"SyntaxRulesModel", "fits", "(III)Z"⟩, 68), (⟨"SyntaxRulesModel", "fitting", "(I)I"⟩, 68), (⟨"SyntaxRulesModel", "tokensOf", "(III)I"⟩, 68), (⟨"SyntaxRulesModel", "lettersOf", "(I)I"⟩, 68), (⟨"SyntaxRulesModel", "isSo", "(II)Z"⟩, 68), (⟨"SyntaxRulesModel", "nodeAt", "(I[III)I"⟩, 68), (⟨"SyntaxRulesModel", "walk", "(I)V"⟩, 68), (⟨"SyntaxRulesModel", "walkOutside", "()V"⟩, 68), (⟨"SyntaxRulesModel", "leastRule", "(I)I"⟩, 68), (⟨"SyntaxRulesModel", "addEdit", "(II)V"⟩, 68), (⟨"SyntaxRulesModel", "walkInside", "()V"⟩, 68), (⟨"SyntaxRulesModel", "hasEdit", "(I)Z"⟩, 68), (⟨"SyntaxRulesModel", "layComing", "(I)V"⟩, 68), (⟨"SyntaxRulesModel", "layHeld", "()V"⟩, 68), (⟨"SyntaxRulesModel", "isHeld", "(II)Z"⟩, 68), (⟨"SyntaxRulesModel", "putsRow", "(II)V"⟩, 68)]
theorem lw_r8 : ∀ q ∈ lw_privs_8, lw_okq q := List.forall_mem_cons.mpr ⟨lw_p112, List.forall_mem_cons.mpr ⟨lw_p113, List.forall_mem_cons.mpr ⟨lw_p114, List.forall_mem_cons.mpr ⟨lw_p115, List.forall_mem_cons.mpr ⟨lw_p116, List.forall_mem_cons.mpr ⟨lw_p117, List.forall_mem_cons.mpr ⟨lw_p118, List.forall_mem_cons.mpr ⟨lw_p119, List.forall_mem_cons.mpr ⟨lw_p120, List.forall_mem_cons.mpr ⟨lw_p121, List.forall_mem_cons.mpr ⟨lw_p122, List.forall_mem_cons.mpr ⟨lw_p123, List.forall_mem_cons.mpr ⟨lw_p124, List.forall_mem_cons.mpr ⟨lw_p125, List.forall_mem_cons.mpr ⟨lw_p126, List.forall_mem_cons.mpr ⟨lw_p127, fun _ h => absurd h List.not_mem_nil⟩⟩⟩⟩⟩⟩⟩⟩⟩⟩⟩⟩⟩⟩⟩⟩
theorem lw_p128 : lw_okq (⟨"SyntaxRulesModel", "puts", "(I)V"⟩, 68) := ⟨⟨by decide +kernel, by decide +kernel⟩, List.mem_of_getElem? (i := 1163) (by decide +kernel), List.mem_of_getElem? (i := 1758) (by decide +kernel), List.mem_of_getElem? (i := 1759) (by decide +kernel)⟩
theorem lw_p129 : lw_okq (⟨"SyntaxRulesModel", "putsToken", "(IIZ)V"⟩, 68) := ⟨⟨by decide +kernel, by decide +kernel⟩, List.mem_of_getElem? (i := 1163) (by decide +kernel), List.mem_of_getElem? (i := 1762) (by decide +kernel), List.mem_of_getElem? (i := 1763) (by decide +kernel)⟩
theorem lw_p130 : lw_okq (⟨"SyntaxRulesModel", "isEdit", "(I)Z"⟩, 68) := ⟨⟨by decide +kernel, by decide +kernel⟩, List.mem_of_getElem? (i := 1163) (by decide +kernel), List.mem_of_getElem? (i := 1774) (by decide +kernel), List.mem_of_getElem? (i := 1775) (by decide +kernel)⟩
theorem lw_p131 : lw_okq (⟨"SyntaxRulesModel", "rulesIn", "(I)I"⟩, 68) := ⟨⟨by decide +kernel, by decide +kernel⟩, List.mem_of_getElem? (i := 1163) (by decide +kernel), List.mem_of_getElem? (i := 1778) (by decide +kernel), List.mem_of_getElem? (i := 1779) (by decide +kernel)⟩
theorem lw_p132 : lw_okq (⟨"SyntaxRulesModel", "layApplied", "(I)Z"⟩, 68) := ⟨⟨by decide +kernel, by decide +kernel⟩, List.mem_of_getElem? (i := 1163) (by decide +kernel), List.mem_of_getElem? (i := 1786) (by decide +kernel), List.mem_of_getElem? (i := 1787) (by decide +kernel)⟩
theorem lw_p133 : lw_okq (⟨"SyntaxRulesModel", "brings", "(IZ)V"⟩, 68) := ⟨⟨by decide +kernel, by decide +kernel⟩, List.mem_of_getElem? (i := 1163) (by decide +kernel), List.mem_of_getElem? (i := 1790) (by decide +kernel), List.mem_of_getElem? (i := 1791) (by decide +kernel)⟩
theorem lw_p134 : lw_okq (⟨"SyntaxRulesModel", "bytesThen", "()I"⟩, 68) := ⟨⟨by decide +kernel, by decide +kernel⟩, List.mem_of_getElem? (i := 1163) (by decide +kernel), List.mem_of_getElem? (i := 1797) (by decide +kernel), List.mem_of_getElem? (i := 1798) (by decide +kernel)⟩
theorem lw_p135 : lw_okq (⟨"SyntaxRulesModel", "goRounds", "(II)I"⟩, 68) := ⟨⟨by decide +kernel, by decide +kernel⟩, List.mem_of_getElem? (i := 1163) (by decide +kernel), List.mem_of_getElem? (i := 1810) (by decide +kernel), List.mem_of_getElem? (i := 1811) (by decide +kernel)⟩
theorem lw_p136 : lw_okq (⟨"SyntaxRulesModel", "keepCame", "(I)V"⟩, 68) := ⟨⟨by decide +kernel, by decide +kernel⟩, List.mem_of_getElem? (i := 1163) (by decide +kernel), List.mem_of_getElem? (i := 1814) (by decide +kernel), List.mem_of_getElem? (i := 1815) (by decide +kernel)⟩
theorem lw_p137 : lw_okq (⟨"SyntaxRulesModel", "cameAhead", "(I)Z"⟩, 68) := ⟨⟨by decide +kernel, by decide +kernel⟩, List.mem_of_getElem? (i := 1163) (by decide +kernel), List.mem_of_getElem? (i := 1822) (by decide +kernel), List.mem_of_getElem? (i := 1823) (by decide +kernel)⟩
theorem lw_p138 : lw_okq (⟨"SyntaxRulesModel", "readRules", "()V"⟩, 68) := ⟨⟨by decide +kernel, by decide +kernel⟩, List.mem_of_getElem? (i := 1163) (by decide +kernel), List.mem_of_getElem? (i := 1838) (by decide +kernel), List.mem_of_getElem? (i := 1839) (by decide +kernel)⟩
theorem lw_p139 : lw_okq (⟨"SyntaxRulesModel", "deepest", "()I"⟩, 68) := ⟨⟨by decide +kernel, by decide +kernel⟩, List.mem_of_getElem? (i := 1163) (by decide +kernel), List.mem_of_getElem? (i := 1846) (by decide +kernel), List.mem_of_getElem? (i := 1847) (by decide +kernel)⟩
def lw_privs_9 : List (MethodName × Nat) := [(⟨"SyntaxRulesModel", "puts", "(I)V"⟩, 68), (⟨"SyntaxRulesModel", "putsToken", "(IIZ)V"⟩, 68), (⟨"SyntaxRulesModel", "isEdit", "(I)Z"⟩, 68), (⟨"SyntaxRulesModel", "rulesIn", "(I)I"⟩, 68), (⟨"SyntaxRulesModel", "layApplied", "(I)Z"⟩, 68), (⟨"SyntaxRulesModel", "brings", "(IZ)V"⟩, 68), (⟨"SyntaxRulesModel", "bytesThen", "()I"⟩, 68), (⟨"SyntaxRulesModel", "goRounds", "(II)I"⟩, 68), (⟨"SyntaxRulesModel", "keepCame", "(I)V"⟩, 68), (⟨"SyntaxRulesModel", "cameAhead", "(I)Z"⟩, 68), (⟨"SyntaxRulesModel", "readRules", "()V"⟩, 68), (⟨"SyntaxRulesModel", "deepest", "()I"⟩, 68)]
theorem lw_r9 : ∀ q ∈ lw_privs_9, lw_okq q := List.forall_mem_cons.mpr ⟨lw_p128, List.forall_mem_cons.mpr ⟨lw_p129, List.forall_mem_cons.mpr ⟨lw_p130, List.forall_mem_cons.mpr ⟨lw_p131, List.forall_mem_cons.mpr ⟨lw_p132, List.forall_mem_cons.mpr ⟨lw_p133, List.forall_mem_cons.mpr ⟨lw_p134, List.forall_mem_cons.mpr ⟨lw_p135, List.forall_mem_cons.mpr ⟨lw_p136, List.forall_mem_cons.mpr ⟨lw_p137, List.forall_mem_cons.mpr ⟨lw_p138, List.forall_mem_cons.mpr ⟨lw_p139, fun _ h => absurd h List.not_mem_nil⟩⟩⟩⟩⟩⟩⟩⟩⟩⟩⟩⟩
def lw_privs : List (MethodName × Nat) := lw_privs_1 ++ (lw_privs_2 ++ (lw_privs_3 ++ (lw_privs_4 ++ (lw_privs_5 ++ (lw_privs_6 ++ (lw_privs_7 ++ (lw_privs_8 ++ (lw_privs_9))))))))
def lw_tbl : List Cond := k2_sels lw_privs ++ tables_1
theorem lw_privs_ok : ∀ q ∈ lw_privs, lw_okq q := by
  show ∀ q ∈ lw_privs_1 ++ (lw_privs_2 ++ (lw_privs_3 ++ (lw_privs_4 ++ (lw_privs_5 ++ (lw_privs_6 ++ (lw_privs_7 ++ (lw_privs_8 ++ (lw_privs_9)))))))), lw_okq q
  exact List.forall_mem_append.mpr ⟨lw_r1, List.forall_mem_append.mpr ⟨lw_r2, List.forall_mem_append.mpr ⟨lw_r3, List.forall_mem_append.mpr ⟨lw_r4, List.forall_mem_append.mpr ⟨lw_r5, List.forall_mem_append.mpr ⟨lw_r6, List.forall_mem_append.mpr ⟨lw_r7, List.forall_mem_append.mpr ⟨lw_r8, lw_r9⟩⟩⟩⟩⟩⟩⟩⟩
-- ===== end of PART A; then your names; then what follows =====
/-- the words that go along into every call -/
def zwd : List Cond := lw_tbl.filter goodWord
theorem zwd_mem {i : Nat} {w : Cond} (h : tables_1[i]? = some w) (g : goodWord w = true) : w ∈ zwd := List.mem_filter.mpr ⟨List.mem_append_right _ (List.mem_of_getElem? h), g⟩
theorem zwd_sel {q : MethodName × Nat} (h : q ∈ lw_privs) : Cond.selects q.1.cls q.1 q.1 ∈ zwd := List.mem_filter.mpr ⟨List.mem_append_left _ (List.mem_map.mpr ⟨q, h, rfl⟩), rfl⟩
theorem zwd_good : ∀ w ∈ zwd, (w.onTables && w.keeps) = true ∨ ∃ ty, w = .arrayClass ty := fun _ h => good_of_word (List.mem_filter.mp h).2
/-! The classes, by number: names, fields in order, types. -/
def zT0 : u_T := fun k => match k with
  | 0 => ("SyntaxRules", "typed", "LSyntaxRules$Text;", true)
  | 1 => ("SyntaxRules", "now", "LSyntaxRules$Source;", false)
  | 2 => ("SyntaxRules", "spare", "LSyntaxRules$Source;", false)
  | 3 => ("SyntaxRules", "paper", "LSyntaxRules$Source;", true)
  | 4 => ("SyntaxRules", "rules", "[LSyntaxRules$Rule;", true)
  | 5 => ("SyntaxRules", "reader", "LSyntaxRules$RuleReader;", true)
  | 6 => ("SyntaxRules", "fitting", "LSyntaxRules$Fitting;", true)
  | 7 => ("SyntaxRules", "tree", "LSyntaxRules$TestTree;", true)
  | 8 => ("SyntaxRules", "walk", "LSyntaxRules$Walk;", true)
  | 9 => ("SyntaxRules", "writer", "LSyntaxRules$Writer;", true)
  | 10 => ("SyntaxRules", "past", "LSyntaxRules$Past;", true)
  | 11 => ("SyntaxRules", "kept", "[LSyntaxRules$Kept;", true)
  | _ => ("SyntaxRules", "seen", "[LSyntaxRules$Text;", true)
def zY0 : Nat → FieldType := fun k => match k with
  | 0 => .object "SyntaxRules$Text"
  | 1 => .object "SyntaxRules$Source"
  | 2 => .object "SyntaxRules$Source"
  | 3 => .object "SyntaxRules$Source"
  | 4 => .array (.object "SyntaxRules$Rule")
  | 5 => .object "SyntaxRules$RuleReader"
  | 6 => .object "SyntaxRules$Fitting"
  | 7 => .object "SyntaxRules$TestTree"
  | 8 => .object "SyntaxRules$Walk"
  | 9 => .object "SyntaxRules$Writer"
  | 10 => .object "SyntaxRules$Past"
  | 11 => .array (.object "SyntaxRules$Kept")
  | _ => .array (.object "SyntaxRules$Text")
def zT1 : u_T := fun k => match k with
  | 0 => ("SyntaxRules$Text", "signs", "[I", true)
  | _ => ("SyntaxRules$Text", "length", "I", false)
def zY1 : Nat → FieldType := fun k => match k with
  | 0 => .array (.int)
  | _ => .int
def zT2 : u_T := fun k => match k with
  | 0 => ("SyntaxRules$Source", "text", "LSyntaxRules$Text;", true)
  | 1 => ("SyntaxRules$Source", "kind", "[I", true)
  | 2 => ("SyntaxRules$Source", "parent", "[I", true)
  | 3 => ("SyntaxRules$Source", "part", "[I", true)
  | 4 => ("SyntaxRules$Source", "parts", "[I", true)
  | 5 => ("SyntaxRules$Source", "begin", "[I", true)
  | 6 => ("SyntaxRules$Source", "behind", "[I", true)
  | 7 => ("SyntaxRules$Source", "size", "[I", true)
  | 8 => ("SyntaxRules$Source", "depth", "[I", true)
  | 9 => ("SyntaxRules$Source", "nameAt", "[I", true)
  | 10 => ("SyntaxRules$Source", "nameLength", "[I", true)
  | 11 => ("SyntaxRules$Source", "commentAt", "[I", true)
  | 12 => ("SyntaxRules$Source", "commentLength", "[I", true)
  | 13 => ("SyntaxRules$Source", "commentIn", "[I", true)
  | 14 => ("SyntaxRules$Source", "nodes", "I", false)
  | 15 => ("SyntaxRules$Source", "comments", "I", false)
  | 16 => ("SyntaxRules$Source", "at", "I", false)
  | _ => ("SyntaxRules$Source", "open", "I", false)
def zY2 : Nat → FieldType := fun k => match k with
  | 0 => .object "SyntaxRules$Text"
  | 1 => .array (.int)
  | 2 => .array (.int)
  | 3 => .array (.int)
  | 4 => .array (.int)
  | 5 => .array (.int)
  | 6 => .array (.int)
  | 7 => .array (.int)
  | 8 => .array (.int)
  | 9 => .array (.int)
  | 10 => .array (.int)
  | 11 => .array (.int)
  | 12 => .array (.int)
  | 13 => .array (.int)
  | 14 => .int
  | 15 => .int
  | 16 => .int
  | _ => .int
def zT3 : u_T := fun k => match k with
  | 0 => ("SyntaxRules$Rule", "text", "LSyntaxRules$Text;", true)
  | 1 => ("SyntaxRules$Rule", "op", "[I", true)
  | 2 => ("SyntaxRules$Rule", "hole", "[I", true)
  | 3 => ("SyntaxRules$Rule", "kind", "[I", true)
  | 4 => ("SyntaxRules$Rule", "parent", "[I", true)
  | 5 => ("SyntaxRules$Rule", "before", "[I", true)
  | 6 => ("SyntaxRules$Rule", "part", "[I", true)
  | 7 => ("SyntaxRules$Rule", "parts", "[I", true)
  | 8 => ("SyntaxRules$Rule", "rows", "[I", true)
  | 9 => ("SyntaxRules$Rule", "rowsSoFar", "[I", true)
  | 10 => ("SyntaxRules$Rule", "span", "[I", true)
  | 11 => ("SyntaxRules$Rule", "wordAt", "[I", true)
  | 12 => ("SyntaxRules$Rule", "wordLength", "[I", true)
  | 13 => ("SyntaxRules$Rule", "items", "I", false)
  | 14 => ("SyntaxRules$Rule", "patternEnd", "I", false)
  | _ => ("SyntaxRules$Rule", "holeBits", "I", false)
def zY3 : Nat → FieldType := fun k => match k with
  | 0 => .object "SyntaxRules$Text"
  | 1 => .array (.int)
  | 2 => .array (.int)
  | 3 => .array (.int)
  | 4 => .array (.int)
  | 5 => .array (.int)
  | 6 => .array (.int)
  | 7 => .array (.int)
  | 8 => .array (.int)
  | 9 => .array (.int)
  | 10 => .array (.int)
  | 11 => .array (.int)
  | 12 => .array (.int)
  | 13 => .int
  | 14 => .int
  | _ => .int
def zT4 : u_T := fun k => match k with
  | 0 => ("SyntaxRules$RuleReader", "at", "I", false)
  | 1 => ("SyntaxRules$RuleReader", "text", "LSyntaxRules$Text;", false)
  | 2 => ("SyntaxRules$RuleReader", "rule", "LSyntaxRules$Rule;", false)
  | 3 => ("SyntaxRules$RuleReader", "open", "I", false)
  | 4 => ("SyntaxRules$RuleReader", "sideBegin", "I", false)
  | 5 => ("SyntaxRules$RuleReader", "inPut", "Z", false)
  | 6 => ("SyntaxRules$RuleReader", "rowsRead", "I", false)
  | 7 => ("SyntaxRules$RuleReader", "deepsRead", "I", false)
  | 8 => ("SyntaxRules$RuleReader", "singleHoles", "I", false)
  | 9 => ("SyntaxRules$RuleReader", "rowHoles", "I", false)
  | _ => ("SyntaxRules$RuleReader", "latestPart", "[I", true)
def zY4 : Nat → FieldType := fun k => match k with
  | 0 => .int
  | 1 => .object "SyntaxRules$Text"
  | 2 => .object "SyntaxRules$Rule"
  | 3 => .int
  | 4 => .int
  | 5 => .boolean
  | 6 => .int
  | 7 => .int
  | 8 => .int
  | 9 => .int
  | _ => .array (.int)
def zT5 : u_T := fun k => match k with
  | 0 => ("SyntaxRules$Fitting", "at", "[I", true)
  | 1 => ("SyntaxRules$Fitting", "last", "[I", true)
  | 2 => ("SyntaxRules$Fitting", "rowLength", "[I", true)
  | 3 => ("SyntaxRules$Fitting", "next", "[I", true)
  | 4 => ("SyntaxRules$Fitting", "left", "[I", true)
  | 5 => ("SyntaxRules$Fitting", "choices", "[I", true)
  | 6 => ("SyntaxRules$Fitting", "choicesOpen", "I", false)
  | 7 => ("SyntaxRules$Fitting", "source", "LSyntaxRules$Source;", false)
  | 8 => ("SyntaxRules$Fitting", "rule", "LSyntaxRules$Rule;", false)
  | 9 => ("SyntaxRules$Fitting", "base", "I", false)
  | 10 => ("SyntaxRules$Fitting", "start", "I", false)
  | _ => ("SyntaxRules$Fitting", "room", "I", false)
def zY5 : Nat → FieldType := fun k => match k with
  | 0 => .array (.int)
  | 1 => .array (.int)
  | 2 => .array (.int)
  | 3 => .array (.int)
  | 4 => .array (.int)
  | 5 => .array (.int)
  | 6 => .int
  | 7 => .object "SyntaxRules$Source"
  | 8 => .object "SyntaxRules$Rule"
  | 9 => .int
  | 10 => .int
  | _ => .int
def zT6 : u_T := fun k => match k with
  | 0 => ("SyntaxRules$TestTree", "rowLength", "I", false)
  | 1 => ("SyntaxRules$TestTree", "rowType", "[I", true)
  | 2 => ("SyntaxRules$TestTree", "rowItem", "[I", true)
  | 3 => ("SyntaxRules$TestTree", "rowOther", "[I", true)
  | 4 => ("SyntaxRules$TestTree", "firstAt", "[I", true)
  | 5 => ("SyntaxRules$TestTree", "tests", "I", false)
  | 6 => ("SyntaxRules$TestTree", "topmost", "I", false)
  | 7 => ("SyntaxRules$TestTree", "type", "[I", true)
  | 8 => ("SyntaxRules$TestTree", "rule", "[LSyntaxRules$Rule;", true)
  | 9 => ("SyntaxRules$TestTree", "item", "[I", true)
  | 10 => ("SyntaxRules$TestTree", "other", "[I", true)
  | 11 => ("SyntaxRules$TestTree", "above", "[I", true)
  | 12 => ("SyntaxRules$TestTree", "below", "[I", true)
  | 13 => ("SyntaxRules$TestTree", "beside", "[I", true)
  | 14 => ("SyntaxRules$TestTree", "isSo", "[Z", true)
  | _ => ("SyntaxRules$TestTree", "path", "[I", true)
def zY6 : Nat → FieldType := fun k => match k with
  | 0 => .int
  | 1 => .array (.int)
  | 2 => .array (.int)
  | 3 => .array (.int)
  | 4 => .array (.int)
  | 5 => .int
  | 6 => .int
  | 7 => .array (.int)
  | 8 => .array (.object "SyntaxRules$Rule")
  | 9 => .array (.int)
  | 10 => .array (.int)
  | 11 => .array (.int)
  | 12 => .array (.int)
  | 13 => .array (.int)
  | 14 => .array (.boolean)
  | _ => .array (.int)
def zT7 : u_T := fun k => match k with
  | 0 => ("SyntaxRules$Walk", "edits", "I", false)
  | 1 => ("SyntaxRules$Walk", "editNode", "[I", true)
  | 2 => ("SyntaxRules$Walk", "ruleAt", "[I", true)
  | 3 => ("SyntaxRules$Walk", "fitBits", "[I", true)
  | _ => ("SyntaxRules$Walk", "hasEdit", "[Z", true)
def zY7 : Nat → FieldType := fun k => match k with
  | 0 => .int
  | 1 => .array (.int)
  | 2 => .array (.int)
  | 3 => .array (.int)
  | _ => .array (.boolean)
def zT8 : u_T := fun k => match k with
  | 0 => ("SyntaxRules$Writer", "length", "I", false)
  | 1 => ("SyntaxRules$Writer", "carried", "I", false)
  | 2 => ("SyntaxRules$Writer", "caught", "I", false)
  | 3 => ("SyntaxRules$Writer", "caughtAt", "I", false)
  | 4 => ("SyntaxRules$Writer", "latest", "I", false)
  | 5 => ("SyntaxRules$Writer", "atSeam", "Z", false)
  | 6 => ("SyntaxRules$Writer", "out", "LSyntaxRules$Text;", true)
  | 7 => ("SyntaxRules$Writer", "heldFrom", "[I", true)
  | _ => ("SyntaxRules$Writer", "heldBehind", "[I", true)
def zY8 : Nat → FieldType := fun k => match k with
  | 0 => .int
  | 1 => .int
  | 2 => .int
  | 3 => .int
  | 4 => .int
  | 5 => .boolean
  | 6 => .object "SyntaxRules$Text"
  | 7 => .array (.int)
  | _ => .array (.int)
def zT9 : u_T := fun k => match k with
  | 0 => ("SyntaxRules$Past", "held", "I", false)
  | 1 => ("SyntaxRules$Past", "oldest", "I", false)
  | _ => ("SyntaxRules$Past", "texts", "[LSyntaxRules$Text;", true)
def zY9 : Nat → FieldType := fun k => match k with
  | 0 => .int
  | 1 => .int
  | _ => .array (.object "SyntaxRules$Text")
def zT10 : u_T := fun k => match k with
  | 0 => ("SyntaxRules$Kept", "filled", "Z", false)
  | 1 => ("SyntaxRules$Kept", "text", "LSyntaxRules$Text;", true)
  | _ => ("SyntaxRules$Kept", "rules", "[LSyntaxRules$Rule;", true)
def zY10 : Nat → FieldType := fun k => match k with
  | 0 => .boolean
  | 1 => .object "SyntaxRules$Text"
  | _ => .array (.object "SyntaxRules$Rule")
def zT11 : u_T := fun k => match k with
  | 0 => ("SyntaxRulesModel", "thrown", "I", false)
  | 1 => ("SyntaxRulesModel", "row", "[I", true)
  | 2 => ("SyntaxRulesModel", "kept", "[I", true)
  | 3 => ("SyntaxRulesModel", "isKept", "[Z", true)
  | 4 => ("SyntaxRulesModel", "undos", "[I", true)
  | 5 => ("SyntaxRulesModel", "nUndo", "I", false)
  | 6 => ("SyntaxRulesModel", "text", "[B", true)
  | 7 => ("SyntaxRulesModel", "texted", "I", false)
  | 8 => ("SyntaxRulesModel", "bytes", "[I", true)
  | 9 => ("SyntaxRulesModel", "byteMany", "I", false)
  | 10 => ("SyntaxRulesModel", "draft", "[I", true)
  | 11 => ("SyntaxRulesModel", "draftMany", "I", false)
  | 12 => ("SyntaxRulesModel", "draftNote", "[I", true)
  | 13 => ("SyntaxRulesModel", "draftNotes", "I", false)
  | 14 => ("SyntaxRulesModel", "open", "[I", true)
  | 15 => ("SyntaxRulesModel", "deep", "I", false)
  | 16 => ("SyntaxRulesModel", "reading", "I", false)
  | 17 => ("SyntaxRulesModel", "fault", "I", false)
  | 18 => ("SyntaxRulesModel", "isGood", "Z", false)
  | 19 => ("SyntaxRulesModel", "tree", "[I", true)
  | 20 => ("SyntaxRulesModel", "nodes", "I", false)
  | 21 => ("SyntaxRulesModel", "note", "[I", true)
  | 22 => ("SyntaxRulesModel", "notes", "I", false)
  | 23 => ("SyntaxRulesModel", "tokens", "[I", true)
  | 24 => ("SyntaxRulesModel", "tokenMany", "[I", true)
  | 25 => ("SyntaxRulesModel", "read", "[I", true)
  | 26 => ("SyntaxRulesModel", "readMany", "[I", true)
  | 27 => ("SyntaxRulesModel", "items", "I", false)
  | 28 => ("SyntaxRulesModel", "rowsRead", "I", false)
  | 29 => ("SyntaxRulesModel", "belowRead", "I", false)
  | 30 => ("SyntaxRulesModel", "stood", "[I", true)
  | 31 => ("SyntaxRulesModel", "openToken", "[I", true)
  | 32 => ("SyntaxRulesModel", "side", "I", false)
  | 33 => ("SyntaxRulesModel", "behindBelow", "Z", false)
  | 34 => ("SyntaxRulesModel", "choice", "[I", true)
  | 35 => ("SyntaxRulesModel", "chosen", "I", false)
  | 36 => ("SyntaxRulesModel", "isBeyond", "Z", false)
  | 37 => ("SyntaxRulesModel", "heldFrom", "[I", true)
  | 38 => ("SyntaxRulesModel", "heldMany", "[I", true)
  | 39 => ("SyntaxRulesModel", "partNext", "[I", true)
  | 40 => ("SyntaxRulesModel", "partLeft", "[I", true)
  | 41 => ("SyntaxRulesModel", "testMany", "[I", true)
  | 42 => ("SyntaxRulesModel", "testWhat", "[I", true)
  | 43 => ("SyntaxRulesModel", "testToken", "[I", true)
  | 44 => ("SyntaxRulesModel", "testDeep", "[I", true)
  | 45 => ("SyntaxRulesModel", "testPath", "[I", true)
  | 46 => ("SyntaxRulesModel", "testOther", "[I", true)
  | 47 => ("SyntaxRulesModel", "otherPath", "[I", true)
  | 48 => ("SyntaxRulesModel", "partAt", "[I", true)
  | 49 => ("SyntaxRulesModel", "opens", "I", false)
  | 50 => ("SyntaxRulesModel", "stoodDeep", "[I", true)
  | 51 => ("SyntaxRulesModel", "stoodPath", "[I", true)
  | 52 => ("SyntaxRulesModel", "shared", "[I", true)
  | 53 => ("SyntaxRulesModel", "sharedUp", "[I", true)
  | 54 => ("SyntaxRulesModel", "sharedMany", "I", false)
  | 55 => ("SyntaxRulesModel", "allTests", "I", false)
  | 56 => ("SyntaxRulesModel", "wasSo", "[Z", true)
  | 57 => ("SyntaxRulesModel", "editNode", "[I", true)
  | 58 => ("SyntaxRulesModel", "editRule", "[I", true)
  | 59 => ("SyntaxRulesModel", "edits", "I", false)
  | 60 => ("SyntaxRulesModel", "byEnd", "[I", true)
  | 61 => ("SyntaxRulesModel", "coming", "[B", true)
  | 62 => ("SyntaxRulesModel", "comingMany", "I", false)
  | 63 => ("SyntaxRulesModel", "carried", "I", false)
  | 64 => ("SyntaxRulesModel", "heldBegin", "[I", true)
  | 65 => ("SyntaxRulesModel", "heldEnd", "[I", true)
  | 66 => ("SyntaxRulesModel", "isFull", "Z", false)
  | _ => ("SyntaxRulesModel", "came", "[I", true)
def zY11 : Nat → FieldType := fun k => match k with
  | 0 => .int
  | 1 => .array (.int)
  | 2 => .array (.int)
  | 3 => .array (.boolean)
  | 4 => .array (.int)
  | 5 => .int
  | 6 => .array (.byte)
  | 7 => .int
  | 8 => .array (.int)
  | 9 => .int
  | 10 => .array (.int)
  | 11 => .int
  | 12 => .array (.int)
  | 13 => .int
  | 14 => .array (.int)
  | 15 => .int
  | 16 => .int
  | 17 => .int
  | 18 => .boolean
  | 19 => .array (.int)
  | 20 => .int
  | 21 => .array (.int)
  | 22 => .int
  | 23 => .array (.int)
  | 24 => .array (.int)
  | 25 => .array (.int)
  | 26 => .array (.int)
  | 27 => .int
  | 28 => .int
  | 29 => .int
  | 30 => .array (.int)
  | 31 => .array (.int)
  | 32 => .int
  | 33 => .boolean
  | 34 => .array (.int)
  | 35 => .int
  | 36 => .boolean
  | 37 => .array (.int)
  | 38 => .array (.int)
  | 39 => .array (.int)
  | 40 => .array (.int)
  | 41 => .array (.int)
  | 42 => .array (.int)
  | 43 => .array (.int)
  | 44 => .array (.int)
  | 45 => .array (.int)
  | 46 => .array (.int)
  | 47 => .array (.int)
  | 48 => .array (.int)
  | 49 => .int
  | 50 => .array (.int)
  | 51 => .array (.int)
  | 52 => .array (.int)
  | 53 => .array (.int)
  | 54 => .int
  | 55 => .int
  | 56 => .array (.boolean)
  | 57 => .array (.int)
  | 58 => .array (.int)
  | 59 => .int
  | 60 => .array (.int)
  | 61 => .array (.byte)
  | 62 => .int
  | 63 => .int
  | 64 => .array (.int)
  | 65 => .array (.int)
  | 66 => .boolean
  | _ => .array (.int)
abbrev zcl : List vw_C := [("SyntaxRules", zT0, 13), ("SyntaxRules$Text", zT1, 2), ("SyntaxRules$Source", zT2, 18), ("SyntaxRules$Rule", zT3, 16), ("SyntaxRules$RuleReader", zT4, 11), ("SyntaxRules$Fitting", zT5, 12), ("SyntaxRules$TestTree", zT6, 16), ("SyntaxRules$Walk", zT7, 5), ("SyntaxRules$Writer", zT8, 9), ("SyntaxRules$Past", zT9, 3), ("SyntaxRules$Kept", zT10, 3), ("SyntaxRulesModel", zT11, 68)]
def zfty (c : Nat) : Nat → FieldType := match c with
  | 0 => zY0
  | 1 => zY1
  | 2 => zY2
  | 3 => zY3
  | 4 => zY4
  | 5 => zY5
  | 6 => zY6
  | 7 => zY7
  | 8 => zY8
  | 9 => zY9
  | 10 => zY10
  | _ => zY11
/-- what the words say of a class -/
def zclOK (c : Nat) (r : vw_C) : Prop := (∀ w ∈ u_ws r.1 r.2.1 r.2.2, w ∈ zwd) ∧ (∀ k, k < r.2.2 → parseFieldDescriptor (r.2.1 k).2.2.1 = some (zfty c k)) ∧ (∀ a, a < r.2.2 → ∀ b, b < r.2.2 → a ≠ b → (r.2.1 a).2.1 ≠ (r.2.1 b).2.1) ∧ (∀ k, k < r.2.2 → (r.2.1 k).1 = r.1) ∧ Cond.instantiable r.1 r.2.2 ∈ zwd ∧ Cond.initialized r.1 ∈ zwd
set_option maxRecDepth 100000 in
theorem zi0 : ∀ w ∈ u_ws "SyntaxRules" zT0 13, w ∈ zwd := by
  have hg : (u_ws "SyntaxRules" zT0 13).all goodWord = true := by decide +kernel
  have h : u_ws "SyntaxRules" zT0 13 = [478, 480, 482, 484, 486, 488, 490, 492, 494, 496, 498, 500, 502].filterMap (fun i => tables_1[i]?) := by decide +kernel
  intro w hw
  have hg1 := List.all_eq_true.mp hg w hw
  rw [h] at hw
  obtain ⟨i, -, hi⟩ := List.mem_filterMap.mp hw
  exact zwd_mem hi hg1
set_option maxRecDepth 100000 in
theorem zo0 : zclOK 0 ("SyntaxRules", zT0, 13) := ⟨zi0, by decide +kernel, by decide +kernel, by decide +kernel, zwd_mem (i := 21) (by decide +kernel) (by decide +kernel), zwd_mem (i := 1) (by decide +kernel) (by decide +kernel)⟩
set_option maxRecDepth 100000 in
theorem zi1 : ∀ w ∈ u_ws "SyntaxRules$Text" zT1 2, w ∈ zwd := by
  have hg : (u_ws "SyntaxRules$Text" zT1 2).all goodWord = true := by decide +kernel
  have h : u_ws "SyntaxRules$Text" zT1 2 = [43, 45].filterMap (fun i => tables_1[i]?) := by decide +kernel
  intro w hw
  have hg1 := List.all_eq_true.mp hg w hw
  rw [h] at hw
  obtain ⟨i, -, hi⟩ := List.mem_filterMap.mp hw
  exact zwd_mem hi hg1
set_option maxRecDepth 100000 in
theorem zo1 : zclOK 1 ("SyntaxRules$Text", zT1, 2) := ⟨zi1, by decide +kernel, by decide +kernel, by decide +kernel, zwd_mem (i := 29) (by decide +kernel) (by decide +kernel), zwd_mem (i := 2) (by decide +kernel) (by decide +kernel)⟩
set_option maxRecDepth 100000 in
theorem zi2 : ∀ w ∈ u_ws "SyntaxRules$Source" zT2 18, w ∈ zwd := by
  have hg : (u_ws "SyntaxRules$Source" zT2 18).all goodWord = true := by decide +kernel
  have h : u_ws "SyntaxRules$Source" zT2 18 = [106, 108, 110, 112, 114, 116, 118, 120, 122, 124, 126, 128, 130, 132, 134, 136, 138, 140].filterMap (fun i => tables_1[i]?) := by decide +kernel
  intro w hw
  have hg1 := List.all_eq_true.mp hg w hw
  rw [h] at hw
  obtain ⟨i, -, hi⟩ := List.mem_filterMap.mp hw
  exact zwd_mem hi hg1
set_option maxRecDepth 100000 in
theorem zo2 : zclOK 2 ("SyntaxRules$Source", zT2, 18) := ⟨zi2, by decide +kernel, by decide +kernel, by decide +kernel, zwd_mem (i := 50) (by decide +kernel) (by decide +kernel), zwd_mem (i := 3) (by decide +kernel) (by decide +kernel)⟩
set_option maxRecDepth 100000 in
theorem zi3 : ∀ w ∈ u_ws "SyntaxRules$Rule" zT3 16, w ∈ zwd := by
  have hg : (u_ws "SyntaxRules$Rule" zT3 16).all goodWord = true := by decide +kernel
  have h : u_ws "SyntaxRules$Rule" zT3 16 = [604, 606, 608, 610, 612, 614, 616, 618, 620, 622, 624, 626, 628, 630, 632, 634].filterMap (fun i => tables_1[i]?) := by decide +kernel
  intro w hw
  have hg1 := List.all_eq_true.mp hg w hw
  rw [h] at hw
  obtain ⟨i, -, hi⟩ := List.mem_filterMap.mp hw
  exact zwd_mem hi hg1
set_option maxRecDepth 100000 in
theorem zo3 : zclOK 3 ("SyntaxRules$Rule", zT3, 16) := ⟨zi3, by decide +kernel, by decide +kernel, by decide +kernel, zwd_mem (i := 535) (by decide +kernel) (by decide +kernel), zwd_mem (i := 13) (by decide +kernel) (by decide +kernel)⟩
set_option maxRecDepth 100000 in
theorem zi4 : ∀ w ∈ u_ws "SyntaxRules$RuleReader" zT4 11, w ∈ zwd := by
  have hg : (u_ws "SyntaxRules$RuleReader" zT4 11).all goodWord = true := by decide +kernel
  have h : u_ws "SyntaxRules$RuleReader" zT4 11 = [163, 165, 167, 169, 171, 173, 175, 177, 179, 181, 183].filterMap (fun i => tables_1[i]?) := by decide +kernel
  intro w hw
  have hg1 := List.all_eq_true.mp hg w hw
  rw [h] at hw
  obtain ⟨i, -, hi⟩ := List.mem_filterMap.mp hw
  exact zwd_mem hi hg1
set_option maxRecDepth 100000 in
theorem zo4 : zclOK 4 ("SyntaxRules$RuleReader", zT4, 11) := ⟨zi4, by decide +kernel, by decide +kernel, by decide +kernel, zwd_mem (i := 146) (by decide +kernel) (by decide +kernel), zwd_mem (i := 4) (by decide +kernel) (by decide +kernel)⟩
set_option maxRecDepth 100000 in
theorem zi5 : ∀ w ∈ u_ws "SyntaxRules$Fitting" zT5 12, w ∈ zwd := by
  have hg : (u_ws "SyntaxRules$Fitting" zT5 12).all goodWord = true := by decide +kernel
  have h : u_ws "SyntaxRules$Fitting" zT5 12 = [208, 210, 212, 214, 216, 218, 220, 222, 224, 226, 228, 230].filterMap (fun i => tables_1[i]?) := by decide +kernel
  intro w hw
  have hg1 := List.all_eq_true.mp hg w hw
  rw [h] at hw
  obtain ⟨i, -, hi⟩ := List.mem_filterMap.mp hw
  exact zwd_mem hi hg1
set_option maxRecDepth 100000 in
theorem zo5 : zclOK 5 ("SyntaxRules$Fitting", zT5, 12) := ⟨zi5, by decide +kernel, by decide +kernel, by decide +kernel, zwd_mem (i := 187) (by decide +kernel) (by decide +kernel), zwd_mem (i := 5) (by decide +kernel) (by decide +kernel)⟩
set_option maxRecDepth 100000 in
theorem zi6 : ∀ w ∈ u_ws "SyntaxRules$TestTree" zT6 16, w ∈ zwd := by
  have hg : (u_ws "SyntaxRules$TestTree" zT6 16).all goodWord = true := by decide +kernel
  have h : u_ws "SyntaxRules$TestTree" zT6 16 = [256, 258, 260, 262, 264, 266, 268, 270, 272, 274, 276, 278, 280, 282, 284, 286].filterMap (fun i => tables_1[i]?) := by decide +kernel
  intro w hw
  have hg1 := List.all_eq_true.mp hg w hw
  rw [h] at hw
  obtain ⟨i, -, hi⟩ := List.mem_filterMap.mp hw
  exact zwd_mem hi hg1
set_option maxRecDepth 100000 in
theorem zo6 : zclOK 6 ("SyntaxRules$TestTree", zT6, 16) := ⟨zi6, by decide +kernel, by decide +kernel, by decide +kernel, zwd_mem (i := 234) (by decide +kernel) (by decide +kernel), zwd_mem (i := 6) (by decide +kernel) (by decide +kernel)⟩
set_option maxRecDepth 100000 in
theorem zi7 : ∀ w ∈ u_ws "SyntaxRules$Walk" zT7 5, w ∈ zwd := by
  have hg : (u_ws "SyntaxRules$Walk" zT7 5).all goodWord = true := by decide +kernel
  have h : u_ws "SyntaxRules$Walk" zT7 5 = [305, 307, 309, 311, 313].filterMap (fun i => tables_1[i]?) := by decide +kernel
  intro w hw
  have hg1 := List.all_eq_true.mp hg w hw
  rw [h] at hw
  obtain ⟨i, -, hi⟩ := List.mem_filterMap.mp hw
  exact zwd_mem hi hg1
set_option maxRecDepth 100000 in
theorem zo7 : zclOK 7 ("SyntaxRules$Walk", zT7, 5) := ⟨zi7, by decide +kernel, by decide +kernel, by decide +kernel, zwd_mem (i := 291) (by decide +kernel) (by decide +kernel), zwd_mem (i := 7) (by decide +kernel) (by decide +kernel)⟩
set_option maxRecDepth 100000 in
theorem zi8 : ∀ w ∈ u_ws "SyntaxRules$Writer" zT8 9, w ∈ zwd := by
  have hg : (u_ws "SyntaxRules$Writer" zT8 9).all goodWord = true := by decide +kernel
  have h : u_ws "SyntaxRules$Writer" zT8 9 = [336, 338, 340, 342, 344, 346, 348, 350, 352].filterMap (fun i => tables_1[i]?) := by decide +kernel
  intro w hw
  have hg1 := List.all_eq_true.mp hg w hw
  rw [h] at hw
  obtain ⟨i, -, hi⟩ := List.mem_filterMap.mp hw
  exact zwd_mem hi hg1
set_option maxRecDepth 100000 in
theorem zo8 : zclOK 8 ("SyntaxRules$Writer", zT8, 9) := ⟨zi8, by decide +kernel, by decide +kernel, by decide +kernel, zwd_mem (i := 317) (by decide +kernel) (by decide +kernel), zwd_mem (i := 8) (by decide +kernel) (by decide +kernel)⟩
set_option maxRecDepth 100000 in
theorem zi9 : ∀ w ∈ u_ws "SyntaxRules$Past" zT9 3, w ∈ zwd := by
  have hg : (u_ws "SyntaxRules$Past" zT9 3).all goodWord = true := by decide +kernel
  have h : u_ws "SyntaxRules$Past" zT9 3 = [368, 370, 372].filterMap (fun i => tables_1[i]?) := by decide +kernel
  intro w hw
  have hg1 := List.all_eq_true.mp hg w hw
  rw [h] at hw
  obtain ⟨i, -, hi⟩ := List.mem_filterMap.mp hw
  exact zwd_mem hi hg1
set_option maxRecDepth 100000 in
theorem zo9 : zclOK 9 ("SyntaxRules$Past", zT9, 3) := ⟨zi9, by decide +kernel, by decide +kernel, by decide +kernel, zwd_mem (i := 356) (by decide +kernel) (by decide +kernel), zwd_mem (i := 9) (by decide +kernel) (by decide +kernel)⟩
set_option maxRecDepth 100000 in
theorem zi10 : ∀ w ∈ u_ws "SyntaxRules$Kept" zT10 3, w ∈ zwd := by
  have hg : (u_ws "SyntaxRules$Kept" zT10 3).all goodWord = true := by decide +kernel
  have h : u_ws "SyntaxRules$Kept" zT10 3 = [390, 392, 394].filterMap (fun i => tables_1[i]?) := by decide +kernel
  intro w hw
  have hg1 := List.all_eq_true.mp hg w hw
  rw [h] at hw
  obtain ⟨i, -, hi⟩ := List.mem_filterMap.mp hw
  exact zwd_mem hi hg1
set_option maxRecDepth 100000 in
theorem zo10 : zclOK 10 ("SyntaxRules$Kept", zT10, 3) := ⟨zi10, by decide +kernel, by decide +kernel, by decide +kernel, zwd_mem (i := 377) (by decide +kernel) (by decide +kernel), zwd_mem (i := 10) (by decide +kernel) (by decide +kernel)⟩
set_option maxRecDepth 100000 in
theorem zi11 : ∀ w ∈ u_ws "SyntaxRulesModel" zT11 68, w ∈ zwd := by
  have hg : (u_ws "SyntaxRulesModel" zT11 68).all goodWord = true := by decide +kernel
  have h : u_ws "SyntaxRulesModel" zT11 68 = [1287, 1289, 1291, 1293, 1295, 1297, 1299, 1301, 1303, 1305, 1307, 1309, 1311, 1313, 1315, 1317, 1319, 1321, 1323, 1325, 1327, 1329, 1331, 1333, 1335, 1337, 1339, 1341, 1343, 1345, 1347, 1349, 1351, 1353, 1355, 1357, 1359, 1361, 1363, 1365, 1367, 1369, 1371, 1373, 1375, 1377, 1379, 1381, 1383, 1385, 1387, 1389, 1391, 1393, 1395, 1397, 1399, 1401, 1403, 1405, 1407, 1409, 1411, 1413, 1415, 1417, 1419, 1421].filterMap (fun i => tables_1[i]?) := by decide +kernel
  intro w hw
  have hg1 := List.all_eq_true.mp hg w hw
  rw [h] at hw
  obtain ⟨i, -, hi⟩ := List.mem_filterMap.mp hw
  exact zwd_mem hi hg1
set_option maxRecDepth 100000 in
theorem zo11 : zclOK 11 ("SyntaxRulesModel", zT11, 68) := ⟨zi11, by decide +kernel, by decide +kernel, by decide +kernel, zwd_mem (i := 1163) (by decide +kernel) (by decide +kernel), zwd_mem (i := 12) (by decide +kernel) (by decide +kernel)⟩
theorem zcl_ok : ∀ (c : Nat) (r : vw_C), zcl[c]? = some r → zclOK c r := by
  intro c r h
  match c, h with
  | 0, h => cases h; exact zo0
  | 1, h => cases h; exact zo1
  | 2, h => cases h; exact zo2
  | 3, h => cases h; exact zo3
  | 4, h => cases h; exact zo4
  | 5, h => cases h; exact zo5
  | 6, h => cases h; exact zo6
  | 7, h => cases h; exact zo7
  | 8, h => cases h; exact zo8
  | 9, h => cases h; exact zo9
  | 10, h => cases h; exact zo10
  | 11, h => cases h; exact zo11
  | c + 12, h => simp [zcl] at h
