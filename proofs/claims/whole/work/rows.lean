section
-- ===== PART A: goes FIRST, ahead of the names: the tables' words, and 'selects' of the private methods out of them =====
/-- a private method of a class that the tables say can be made, by its rows of tables_1 -/
def lw_okq (q : MethodName × Nat) : Prop := (q.1.cls ≠ "java/lang/invoke/MethodHandle" ∧ q.1.cls ≠ "java/lang/invoke/VarHandle") ∧ Cond.instantiable q.1.cls q.2 ∈ tables_1 ∧ Cond.privateMethod q.1 ∈ tables_1 ∧ Cond.instanceMethod q.1 ∈ tables_1
theorem lw_p0 : lw_okq (⟨"RuleTables$Tape", "passName", "()Z"⟩, 7) := ⟨⟨by decide +kernel, by decide +kernel⟩, List.mem_of_getElem? (i := 27) (by decide +kernel), List.mem_of_getElem? (i := 248) (by decide +kernel), List.mem_of_getElem? (i := 249) (by decide +kernel)⟩
theorem lw_p1 : lw_okq (⟨"RuleTables$Tape", "look", "()I"⟩, 7) := ⟨⟨by decide +kernel, by decide +kernel⟩, List.mem_of_getElem? (i := 27) (by decide +kernel), List.mem_of_getElem? (i := 252) (by decide +kernel), List.mem_of_getElem? (i := 253) (by decide +kernel)⟩
theorem lw_p2 : lw_okq (⟨"RuleTables$Tape", "byteAt", "(I)I"⟩, 7) := ⟨⟨by decide +kernel, by decide +kernel⟩, List.mem_of_getElem? (i := 27) (by decide +kernel), List.mem_of_getElem? (i := 256) (by decide +kernel), List.mem_of_getElem? (i := 257) (by decide +kernel)⟩
theorem lw_p3 : lw_okq (⟨"RuleTables$Tape", "fail", "(II)Z"⟩, 7) := ⟨⟨by decide +kernel, by decide +kernel⟩, List.mem_of_getElem? (i := 27) (by decide +kernel), List.mem_of_getElem? (i := 260) (by decide +kernel), List.mem_of_getElem? (i := 261) (by decide +kernel)⟩
theorem lw_p4 : lw_okq (⟨"RuleTables$Tape", "isWord", "(J)Z"⟩, 7) := ⟨⟨by decide +kernel, by decide +kernel⟩, List.mem_of_getElem? (i := 27) (by decide +kernel), List.mem_of_getElem? (i := 268) (by decide +kernel), List.mem_of_getElem? (i := 269) (by decide +kernel)⟩
theorem lw_p5 : lw_okq (⟨"RuleTables$Tape", "passConditions", "(LRuleTables$Table;)Z"⟩, 7) := ⟨⟨by decide +kernel, by decide +kernel⟩, List.mem_of_getElem? (i := 27) (by decide +kernel), List.mem_of_getElem? (i := 272) (by decide +kernel), List.mem_of_getElem? (i := 273) (by decide +kernel)⟩
theorem lw_p6 : lw_okq (⟨"RuleTables$Tape", "passCondition", "(LRuleTables$Names;)Z"⟩, 7) := ⟨⟨by decide +kernel, by decide +kernel⟩, List.mem_of_getElem? (i := 27) (by decide +kernel), List.mem_of_getElem? (i := 276) (by decide +kernel), List.mem_of_getElem? (i := 277) (by decide +kernel)⟩
theorem lw_p7 : lw_okq (⟨"RuleTables$Tape", "passByte", "(I)Z"⟩, 7) := ⟨⟨by decide +kernel, by decide +kernel⟩, List.mem_of_getElem? (i := 27) (by decide +kernel), List.mem_of_getElem? (i := 288) (by decide +kernel), List.mem_of_getElem? (i := 289) (by decide +kernel)⟩
theorem lw_p8 : lw_okq (⟨"RuleTables$Tape", "passRules", "(LRuleTables$Table;)Z"⟩, 7) := ⟨⟨by decide +kernel, by decide +kernel⟩, List.mem_of_getElem? (i := 27) (by decide +kernel), List.mem_of_getElem? (i := 292) (by decide +kernel), List.mem_of_getElem? (i := 293) (by decide +kernel)⟩
theorem lw_p9 : lw_okq (⟨"RuleTables$Tape", "passRule", "(LRuleTables$Table;)Z"⟩, 7) := ⟨⟨by decide +kernel, by decide +kernel⟩, List.mem_of_getElem? (i := 27) (by decide +kernel), List.mem_of_getElem? (i := 296) (by decide +kernel), List.mem_of_getElem? (i := 297) (by decide +kernel)⟩
theorem lw_p10 : lw_okq (⟨"RuleTables$Tape", "passAction", "(LRuleTables$Names;)Z"⟩, 7) := ⟨⟨by decide +kernel, by decide +kernel⟩, List.mem_of_getElem? (i := 27) (by decide +kernel), List.mem_of_getElem? (i := 301) (by decide +kernel), List.mem_of_getElem? (i := 302) (by decide +kernel)⟩
theorem lw_p11 : lw_okq (⟨"RuleTables", "judge", "()I"⟩, 11) := ⟨⟨by decide +kernel, by decide +kernel⟩, List.mem_of_getElem? (i := 19) (by decide +kernel), List.mem_of_getElem? (i := 309) (by decide +kernel), List.mem_of_getElem? (i := 310) (by decide +kernel)⟩
theorem lw_p12 : lw_okq (⟨"RuleTables", "findAmiss", "()I"⟩, 11) := ⟨⟨by decide +kernel, by decide +kernel⟩, List.mem_of_getElem? (i := 19) (by decide +kernel), List.mem_of_getElem? (i := 317) (by decide +kernel), List.mem_of_getElem? (i := 318) (by decide +kernel)⟩
theorem lw_p13 : lw_okq (⟨"RuleTables", "findContradiction", "()Z"⟩, 11) := ⟨⟨by decide +kernel, by decide +kernel⟩, List.mem_of_getElem? (i := 19) (by decide +kernel), List.mem_of_getElem? (i := 321) (by decide +kernel), List.mem_of_getElem? (i := 322) (by decide +kernel)⟩
theorem lw_p14 : lw_okq (⟨"RuleTables$Way", "splittingBit", "(II)I"⟩, 8) := ⟨⟨by decide +kernel, by decide +kernel⟩, List.mem_of_getElem? (i := 113) (by decide +kernel), List.mem_of_getElem? (i := 344) (by decide +kernel), List.mem_of_getElem? (i := 345) (by decide +kernel)⟩
theorem lw_p15 : lw_okq (⟨"RuleTables$Tree", "addLeaf", "(II)V"⟩, 7) := ⟨⟨by decide +kernel, by decide +kernel⟩, List.mem_of_getElem? (i := 147) (by decide +kernel), List.mem_of_getElem? (i := 364) (by decide +kernel), List.mem_of_getElem? (i := 365) (by decide +kernel)⟩
def lw_privs_1 : List (MethodName × Nat) := [(⟨"RuleTables$Tape", "passName", "()Z"⟩, 7), (⟨"RuleTables$Tape", "look", "()I"⟩, 7), (⟨"RuleTables$Tape", "byteAt", "(I)I"⟩, 7), (⟨"RuleTables$Tape", "fail", "(II)Z"⟩, 7), (⟨"RuleTables$Tape", "isWord", "(J)Z"⟩, 7), (⟨"RuleTables$Tape", "passConditions", "(LRuleTables$Table;)Z"⟩, 7), (⟨"RuleTables$Tape", "passCondition", "(LRuleTables$Names;)Z"⟩, 7), (⟨"RuleTables$Tape", "passByte", "(I)Z"⟩, 7), (⟨"RuleTables$Tape", "passRules", "(LRuleTables$Table;)Z"⟩, 7), (⟨"RuleTables$Tape", "passRule", "(LRuleTables$Table;)Z"⟩, 7), (⟨"RuleTables$Tape", "passAction", "(LRuleTables$Names;)Z"⟩, 7), (⟨"RuleTables", "judge", "()I"⟩, 11), (⟨"RuleTables", "findAmiss", "()I"⟩, 11), (⟨"RuleTables", "findContradiction", "()Z"⟩, 11), (⟨"RuleTables$Way", "splittingBit", "(II)I"⟩, 8), (⟨"RuleTables$Tree", "addLeaf", "(II)V"⟩, 7)]
theorem lw_r1 : ∀ q ∈ lw_privs_1, lw_okq q := List.forall_mem_cons.mpr ⟨lw_p0, List.forall_mem_cons.mpr ⟨lw_p1, List.forall_mem_cons.mpr ⟨lw_p2, List.forall_mem_cons.mpr ⟨lw_p3, List.forall_mem_cons.mpr ⟨lw_p4, List.forall_mem_cons.mpr ⟨lw_p5, List.forall_mem_cons.mpr ⟨lw_p6, List.forall_mem_cons.mpr ⟨lw_p7, List.forall_mem_cons.mpr ⟨lw_p8, List.forall_mem_cons.mpr ⟨lw_p9, List.forall_mem_cons.mpr ⟨lw_p10, List.forall_mem_cons.mpr ⟨lw_p11, List.forall_mem_cons.mpr ⟨lw_p12, List.forall_mem_cons.mpr ⟨lw_p13, List.forall_mem_cons.mpr ⟨lw_p14, List.forall_mem_cons.mpr ⟨lw_p15, fun _ h => absurd h List.not_mem_nil⟩⟩⟩⟩⟩⟩⟩⟩⟩⟩⟩⟩⟩⟩⟩⟩
theorem lw_p16 : lw_okq (⟨"RuleTables$Tree", "addNode", "(I)V"⟩, 7) := ⟨⟨by decide +kernel, by decide +kernel⟩, List.mem_of_getElem? (i := 147) (by decide +kernel), List.mem_of_getElem? (i := 368) (by decide +kernel), List.mem_of_getElem? (i := 369) (by decide +kernel)⟩
theorem lw_p17 : lw_okq (⟨"RuleTables$Way", "weigh", "(II)V"⟩, 8) := ⟨⟨by decide +kernel, by decide +kernel⟩, List.mem_of_getElem? (i := 113) (by decide +kernel), List.mem_of_getElem? (i := 379) (by decide +kernel), List.mem_of_getElem? (i := 380) (by decide +kernel)⟩
theorem lw_p18 : lw_okq (⟨"RuleTables$Way", "addWeight", "(II)V"⟩, 8) := ⟨⟨by decide +kernel, by decide +kernel⟩, List.mem_of_getElem? (i := 113) (by decide +kernel), List.mem_of_getElem? (i := 389) (by decide +kernel), List.mem_of_getElem? (i := 390) (by decide +kernel)⟩
theorem lw_p19 : lw_okq (⟨"RuleTables$Way", "isBetter", "(II)Z"⟩, 8) := ⟨⟨by decide +kernel, by decide +kernel⟩, List.mem_of_getElem? (i := 113) (by decide +kernel), List.mem_of_getElem? (i := 393) (by decide +kernel), List.mem_of_getElem? (i := 394) (by decide +kernel)⟩
theorem lw_p20 : lw_okq (⟨"RuleTables$Code", "setPlaces", "(LRuleTables$Tree;)V"⟩, 3) := ⟨⟨by decide +kernel, by decide +kernel⟩, List.mem_of_getElem? (i := 184) (by decide +kernel), List.mem_of_getElem? (i := 407) (by decide +kernel), List.mem_of_getElem? (i := 408) (by decide +kernel)⟩
theorem lw_p21 : lw_okq (⟨"RuleTables$Code", "append", "(I)V"⟩, 3) := ⟨⟨by decide +kernel, by decide +kernel⟩, List.mem_of_getElem? (i := 184) (by decide +kernel), List.mem_of_getElem? (i := 415) (by decide +kernel), List.mem_of_getElem? (i := 416) (by decide +kernel)⟩
theorem lw_p22 : lw_okq (⟨"java/lang/Throwable", "fillInStackTrace", "(I)Ljava/lang/Throwable;"⟩, 6) := ⟨⟨by decide +kernel, by decide +kernel⟩, List.mem_of_getElem? (i := 471) (by decide +kernel), List.mem_of_getElem? (i := 469) (by decide +kernel), List.mem_of_getElem? (i := 470) (by decide +kernel)⟩
theorem lw_p23 : lw_okq (⟨"RuleTables", "needTable", "()V"⟩, 11) := ⟨⟨by decide +kernel, by decide +kernel⟩, List.mem_of_getElem? (i := 19) (by decide +kernel), List.mem_of_getElem? (i := 540) (by decide +kernel), List.mem_of_getElem? (i := 541) (by decide +kernel)⟩
theorem lw_p24 : lw_okq (⟨"RuleTables$Names", "letterAt", "(II)I"⟩, 2) := ⟨⟨by decide +kernel, by decide +kernel⟩, List.mem_of_getElem? (i := 65) (by decide +kernel), List.mem_of_getElem? (i := 608) (by decide +kernel), List.mem_of_getElem? (i := 609) (by decide +kernel)⟩
theorem lw_p25 : lw_okq (⟨"RuleTables", "needCase", "(I)V"⟩, 11) := ⟨⟨by decide +kernel, by decide +kernel⟩, List.mem_of_getElem? (i := 19) (by decide +kernel), List.mem_of_getElem? (i := 624) (by decide +kernel), List.mem_of_getElem? (i := 625) (by decide +kernel)⟩
theorem lw_p26 : lw_okq (⟨"RuleTables", "needTree", "()V"⟩, 11) := ⟨⟨by decide +kernel, by decide +kernel⟩, List.mem_of_getElem? (i := 19) (by decide +kernel), List.mem_of_getElem? (i := 656) (by decide +kernel), List.mem_of_getElem? (i := 657) (by decide +kernel)⟩
theorem lw_p27 : lw_okq (⟨"RuleTablesModel", "word", "(II)V"⟩, 34) := ⟨⟨by decide +kernel, by decide +kernel⟩, List.mem_of_getElem? (i := 689) (by decide +kernel), List.mem_of_getElem? (i := 814) (by decide +kernel), List.mem_of_getElem? (i := 815) (by decide +kernel)⟩
theorem lw_p28 : lw_okq (⟨"RuleTablesModel", "nameEnd", "()I"⟩, 34) := ⟨⟨by decide +kernel, by decide +kernel⟩, List.mem_of_getElem? (i := 689) (by decide +kernel), List.mem_of_getElem? (i := 818) (by decide +kernel), List.mem_of_getElem? (i := 819) (by decide +kernel)⟩
theorem lw_p29 : lw_okq (⟨"RuleTablesModel", "look", "()I"⟩, 34) := ⟨⟨by decide +kernel, by decide +kernel⟩, List.mem_of_getElem? (i := 689) (by decide +kernel), List.mem_of_getElem? (i := 822) (by decide +kernel), List.mem_of_getElem? (i := 823) (by decide +kernel)⟩
theorem lw_p30 : lw_okq (⟨"RuleTablesModel", "bad", "(II)V"⟩, 34) := ⟨⟨by decide +kernel, by decide +kernel⟩, List.mem_of_getElem? (i := 689) (by decide +kernel), List.mem_of_getElem? (i := 829) (by decide +kernel), List.mem_of_getElem? (i := 830) (by decide +kernel)⟩
theorem lw_p31 : lw_okq (⟨"RuleTablesModel", "readCondition", "()V"⟩, 34) := ⟨⟨by decide +kernel, by decide +kernel⟩, List.mem_of_getElem? (i := 689) (by decide +kernel), List.mem_of_getElem? (i := 836) (by decide +kernel), List.mem_of_getElem? (i := 837) (by decide +kernel)⟩
def lw_privs_2 : List (MethodName × Nat) := [(⟨"RuleTables$Tree", "addNode", "(I)V"⟩, 7), (⟨"RuleTables$Way", "weigh", "(II)V"⟩, 8), (⟨"RuleTables$Way", "addWeight", "(II)V"⟩, 8), (⟨"RuleTables$Way", "isBetter", "(II)Z"⟩, 8), (⟨"RuleTables$Code", "setPlaces", "(LRuleTables$Tree;)V"⟩, 3), (⟨"RuleTables$Code", "append", "(I)V"⟩, 3), (⟨"java/lang/Throwable", "fillInStackTrace", "(I)Ljava/lang/Throwable;"⟩, 6), (⟨"RuleTables", "needTable", "()V"⟩, 11), (⟨"RuleTables$Names", "letterAt", "(II)I"⟩, 2), (⟨"RuleTables", "needCase", "(I)V"⟩, 11), (⟨"RuleTables", "needTree", "()V"⟩, 11), (⟨"RuleTablesModel", "word", "(II)V"⟩, 34), (⟨"RuleTablesModel", "nameEnd", "()I"⟩, 34), (⟨"RuleTablesModel", "look", "()I"⟩, 34), (⟨"RuleTablesModel", "bad", "(II)V"⟩, 34), (⟨"RuleTablesModel", "readCondition", "()V"⟩, 34)]
theorem lw_r2 : ∀ q ∈ lw_privs_2, lw_okq q := List.forall_mem_cons.mpr ⟨lw_p16, List.forall_mem_cons.mpr ⟨lw_p17, List.forall_mem_cons.mpr ⟨lw_p18, List.forall_mem_cons.mpr ⟨lw_p19, List.forall_mem_cons.mpr ⟨lw_p20, List.forall_mem_cons.mpr ⟨lw_p21, List.forall_mem_cons.mpr ⟨lw_p22, List.forall_mem_cons.mpr ⟨lw_p23, List.forall_mem_cons.mpr ⟨lw_p24, List.forall_mem_cons.mpr ⟨lw_p25, List.forall_mem_cons.mpr ⟨lw_p26, List.forall_mem_cons.mpr ⟨lw_p27, List.forall_mem_cons.mpr ⟨lw_p28, List.forall_mem_cons.mpr ⟨lw_p29, List.forall_mem_cons.mpr ⟨lw_p30, List.forall_mem_cons.mpr ⟨lw_p31, fun _ h => absurd h List.not_mem_nil⟩⟩⟩⟩⟩⟩⟩⟩⟩⟩⟩⟩⟩⟩⟩⟩
theorem lw_p32 : lw_okq (⟨"RuleTablesModel", "find", "(III)I"⟩, 34) := ⟨⟨by decide +kernel, by decide +kernel⟩, List.mem_of_getElem? (i := 689) (by decide +kernel), List.mem_of_getElem? (i := 840) (by decide +kernel), List.mem_of_getElem? (i := 841) (by decide +kernel)⟩
theorem lw_p33 : lw_okq (⟨"RuleTablesModel", "store", "(II)V"⟩, 34) := ⟨⟨by decide +kernel, by decide +kernel⟩, List.mem_of_getElem? (i := 689) (by decide +kernel), List.mem_of_getElem? (i := 844) (by decide +kernel), List.mem_of_getElem? (i := 845) (by decide +kernel)⟩
theorem lw_p34 : lw_okq (⟨"RuleTablesModel", "sign", "(I)V"⟩, 34) := ⟨⟨by decide +kernel, by decide +kernel⟩, List.mem_of_getElem? (i := 689) (by decide +kernel), List.mem_of_getElem? (i := 848) (by decide +kernel), List.mem_of_getElem? (i := 849) (by decide +kernel)⟩
theorem lw_p35 : lw_okq (⟨"RuleTablesModel", "readRule", "()V"⟩, 34) := ⟨⟨by decide +kernel, by decide +kernel⟩, List.mem_of_getElem? (i := 689) (by decide +kernel), List.mem_of_getElem? (i := 852) (by decide +kernel), List.mem_of_getElem? (i := 853) (by decide +kernel)⟩
theorem lw_p36 : lw_okq (⟨"RuleTablesModel", "take", "()V"⟩, 34) := ⟨⟨by decide +kernel, by decide +kernel⟩, List.mem_of_getElem? (i := 689) (by decide +kernel), List.mem_of_getElem? (i := 856) (by decide +kernel), List.mem_of_getElem? (i := 857) (by decide +kernel)⟩
theorem lw_p37 : lw_okq (⟨"RuleTablesModel", "judge", "()I"⟩, 34) := ⟨⟨by decide +kernel, by decide +kernel⟩, List.mem_of_getElem? (i := 689) (by decide +kernel), List.mem_of_getElem? (i := 860) (by decide +kernel), List.mem_of_getElem? (i := 861) (by decide +kernel)⟩
theorem lw_p38 : lw_okq (⟨"RuleTablesModel", "allCases", "()I"⟩, 34) := ⟨⟨by decide +kernel, by decide +kernel⟩, List.mem_of_getElem? (i := 689) (by decide +kernel), List.mem_of_getElem? (i := 864) (by decide +kernel), List.mem_of_getElem? (i := 865) (by decide +kernel)⟩
theorem lw_p39 : lw_okq (⟨"RuleTablesModel", "firstMet", "(I)I"⟩, 34) := ⟨⟨by decide +kernel, by decide +kernel⟩, List.mem_of_getElem? (i := 689) (by decide +kernel), List.mem_of_getElem? (i := 868) (by decide +kernel), List.mem_of_getElem? (i := 869) (by decide +kernel)⟩
theorem lw_p40 : lw_okq (⟨"RuleTablesModel", "isMet", "(II)Z"⟩, 34) := ⟨⟨by decide +kernel, by decide +kernel⟩, List.mem_of_getElem? (i := 689) (by decide +kernel), List.mem_of_getElem? (i := 872) (by decide +kernel), List.mem_of_getElem? (i := 873) (by decide +kernel)⟩
theorem lw_p41 : lw_okq (⟨"RuleTablesModel", "grow", "()V"⟩, 34) := ⟨⟨by decide +kernel, by decide +kernel⟩, List.mem_of_getElem? (i := 689) (by decide +kernel), List.mem_of_getElem? (i := 876) (by decide +kernel), List.mem_of_getElem? (i := 877) (by decide +kernel)⟩
theorem lw_p42 : lw_okq (⟨"RuleTablesModel", "onlyAction", "(II)I"⟩, 34) := ⟨⟨by decide +kernel, by decide +kernel⟩, List.mem_of_getElem? (i := 689) (by decide +kernel), List.mem_of_getElem? (i := 880) (by decide +kernel), List.mem_of_getElem? (i := 881) (by decide +kernel)⟩
theorem lw_p43 : lw_okq (⟨"RuleTablesModel", "canMeet", "(III)Z"⟩, 34) := ⟨⟨by decide +kernel, by decide +kernel⟩, List.mem_of_getElem? (i := 689) (by decide +kernel), List.mem_of_getElem? (i := 884) (by decide +kernel), List.mem_of_getElem? (i := 885) (by decide +kernel)⟩
theorem lw_p44 : lw_okq (⟨"RuleTablesModel", "bestCondition", "(II)I"⟩, 34) := ⟨⟨by decide +kernel, by decide +kernel⟩, List.mem_of_getElem? (i := 689) (by decide +kernel), List.mem_of_getElem? (i := 888) (by decide +kernel), List.mem_of_getElem? (i := 889) (by decide +kernel)⟩
theorem lw_p45 : lw_okq (⟨"RuleTablesModel", "write", "()V"⟩, 34) := ⟨⟨by decide +kernel, by decide +kernel⟩, List.mem_of_getElem? (i := 689) (by decide +kernel), List.mem_of_getElem? (i := 895) (by decide +kernel), List.mem_of_getElem? (i := 896) (by decide +kernel)⟩
theorem lw_p46 : lw_okq (⟨"RuleTablesModel", "isCase", "(I)Z"⟩, 34) := ⟨⟨by decide +kernel, by decide +kernel⟩, List.mem_of_getElem? (i := 689) (by decide +kernel), List.mem_of_getElem? (i := 923) (by decide +kernel), List.mem_of_getElem? (i := 924) (by decide +kernel)⟩
def lw_privs_3 : List (MethodName × Nat) := [(⟨"RuleTablesModel", "find", "(III)I"⟩, 34), (⟨"RuleTablesModel", "store", "(II)V"⟩, 34), (⟨"RuleTablesModel", "sign", "(I)V"⟩, 34), (⟨"RuleTablesModel", "readRule", "()V"⟩, 34), (⟨"RuleTablesModel", "take", "()V"⟩, 34), (⟨"RuleTablesModel", "judge", "()I"⟩, 34), (⟨"RuleTablesModel", "allCases", "()I"⟩, 34), (⟨"RuleTablesModel", "firstMet", "(I)I"⟩, 34), (⟨"RuleTablesModel", "isMet", "(II)Z"⟩, 34), (⟨"RuleTablesModel", "grow", "()V"⟩, 34), (⟨"RuleTablesModel", "onlyAction", "(II)I"⟩, 34), (⟨"RuleTablesModel", "canMeet", "(III)Z"⟩, 34), (⟨"RuleTablesModel", "bestCondition", "(II)I"⟩, 34), (⟨"RuleTablesModel", "write", "()V"⟩, 34), (⟨"RuleTablesModel", "isCase", "(I)Z"⟩, 34)]
theorem lw_r3 : ∀ q ∈ lw_privs_3, lw_okq q := List.forall_mem_cons.mpr ⟨lw_p32, List.forall_mem_cons.mpr ⟨lw_p33, List.forall_mem_cons.mpr ⟨lw_p34, List.forall_mem_cons.mpr ⟨lw_p35, List.forall_mem_cons.mpr ⟨lw_p36, List.forall_mem_cons.mpr ⟨lw_p37, List.forall_mem_cons.mpr ⟨lw_p38, List.forall_mem_cons.mpr ⟨lw_p39, List.forall_mem_cons.mpr ⟨lw_p40, List.forall_mem_cons.mpr ⟨lw_p41, List.forall_mem_cons.mpr ⟨lw_p42, List.forall_mem_cons.mpr ⟨lw_p43, List.forall_mem_cons.mpr ⟨lw_p44, List.forall_mem_cons.mpr ⟨lw_p45, List.forall_mem_cons.mpr ⟨lw_p46, fun _ h => absurd h List.not_mem_nil⟩⟩⟩⟩⟩⟩⟩⟩⟩⟩⟩⟩⟩⟩⟩
def lw_privs : List (MethodName × Nat) := lw_privs_1 ++ (lw_privs_2 ++ (lw_privs_3))
def lw_tbl : List Cond := k2_sels lw_privs ++ tables_1
theorem lw_privs_ok : ∀ q ∈ lw_privs, lw_okq q := by
  show ∀ q ∈ lw_privs_1 ++ (lw_privs_2 ++ (lw_privs_3)), lw_okq q
  exact List.forall_mem_append.mpr ⟨lw_r1, List.forall_mem_append.mpr ⟨lw_r2, lw_r3⟩⟩
end
section
/-! ===== BEGIN printed: names, fields, word lists, decode rows ===== -/
def RX0 : String := "RuleTables$Code"
def TX0 : u_T := fun k => match k with
  | 0 => ("RuleTables$Code", "bytes", "[I", true)
  | 1 => ("RuleTables$Code", "places", "[I", true)
  | _ => ("RuleTables$Code", "length", "I", false)
def tyX0 : Nat → FieldType := fun k => match k with
  | 0 => .array .int
  | 1 => .array .int
  | _ => .int
abbrev wsX00 : List Cond := u_ws RX0 TX0 3
theorem nmX0 : ∀ a, a < 3 → ∀ b, b < 3 → a ≠ b → (TX0 a).2.1 ≠ (TX0 b).2.1 := by decide +kernel
theorem tyX0_ok : ∀ k, k < 3 → parseFieldDescriptor (TX0 k).2.2.1 = some (tyX0 k) := by decide +kernel
abbrev cX0_init : ByteArray := prog_2_method_1_code
def yX0_init : MethodName := ⟨RX0, "<init>", "()V"⟩
abbrev cX0_write : ByteArray := prog_2_method_2_code
def yX0_write : MethodName := ⟨RX0, "write", "(LRuleTables$Tree;)V"⟩
abbrev cX0_setPlaces : ByteArray := prog_2_method_3_code
def yX0_setPlaces : MethodName := ⟨RX0, "setPlaces", "(LRuleTables$Tree;)V"⟩
abbrev cX0_append : ByteArray := prog_2_method_4_code
def yX0_append : MethodName := ⟨RX0, "append", "(I)V"⟩
abbrev cX0_follow : ByteArray := prog_2_method_5_code
def yX0_follow : MethodName := ⟨RX0, "follow", "(IZ)I"⟩
def RX1 : String := "RuleTables$Names"
def TX1 : u_T := fun k => match k with
  | 0 => ("RuleTables$Names", "names", "[J", true)
  | _ => ("RuleTables$Names", "size", "I", false)
def tyX1 : Nat → FieldType := fun k => match k with
  | 0 => .array .long
  | _ => .int
abbrev wsX10 : List Cond := u_ws RX1 TX1 2
theorem nmX1 : ∀ a, a < 2 → ∀ b, b < 2 → a ≠ b → (TX1 a).2.1 ≠ (TX1 b).2.1 := by decide +kernel
theorem tyX1_ok : ∀ k, k < 2 → parseFieldDescriptor (TX1 k).2.2.1 = some (tyX1 k) := by decide +kernel
abbrev cX1_init : ByteArray := prog_3_method_1_code
def yX1_init : MethodName := ⟨RX1, "<init>", "(I)V"⟩
abbrev cX1_letterOf : ByteArray := prog_3_method_2_code
def yX1_letterOf : MethodName := ⟨RX1, "letterOf", "(I)I"⟩
abbrev cX1_find : ByteArray := prog_3_method_3_code
def yX1_find : MethodName := ⟨RX1, "find", "(J)I"⟩
abbrev cX1_add : ByteArray := prog_3_method_4_code
def yX1_add : MethodName := ⟨RX1, "add", "(J)Z"⟩
abbrev cX1_letterAt : ByteArray := prog_3_method_5_code
def yX1_letterAt : MethodName := ⟨RX1, "letterAt", "(II)I"⟩
abbrev cX1_lengthOf : ByteArray := prog_3_method_6_code
def yX1_lengthOf : MethodName := ⟨RX1, "lengthOf", "(I)I"⟩
abbrev cX1_byteOf : ByteArray := prog_3_method_7_code
def yX1_byteOf : MethodName := ⟨RX1, "byteOf", "(II)I"⟩
def RX2 : String := "RuleTables$Table"
def TX2 : u_T := fun k => match k with
  | 0 => ("RuleTables$Table", "conditions", "LRuleTables$Names;", true)
  | 1 => ("RuleTables$Table", "actions", "LRuleTables$Names;", true)
  | 2 => ("RuleTables$Table", "yes", "[I", true)
  | 3 => ("RuleTables$Table", "no", "[I", true)
  | 4 => ("RuleTables$Table", "action", "[I", true)
  | _ => ("RuleTables$Table", "rules", "I", false)
def tyX2 : Nat → FieldType := fun k => match k with
  | 0 => .object "RuleTables$Names"
  | 1 => .object "RuleTables$Names"
  | 2 => .array .int
  | 3 => .array .int
  | 4 => .array .int
  | _ => .int
abbrev wsX20 : List Cond := u_ws RX2 TX2 6
theorem nmX2 : ∀ a, a < 6 → ∀ b, b < 6 → a ≠ b → (TX2 a).2.1 ≠ (TX2 b).2.1 := by decide +kernel
theorem tyX2_ok : ∀ k, k < 6 → parseFieldDescriptor (TX2 k).2.2.1 = some (tyX2 k) := by decide +kernel
abbrev cX2_init : ByteArray := prog_4_method_1_code
def yX2_init : MethodName := ⟨RX2, "<init>", "()V"⟩
abbrev cX2_clear : ByteArray := prog_4_method_2_code
def yX2_clear : MethodName := ⟨RX2, "clear", "()V"⟩
abbrev cX2_add : ByteArray := prog_4_method_3_code
def yX2_add : MethodName := ⟨RX2, "add", "(III)V"⟩
abbrev cX2_caseCount : ByteArray := prog_4_method_4_code
def yX2_caseCount : MethodName := ⟨RX2, "caseCount", "()I"⟩
abbrev cX2_markOf : ByteArray := prog_4_method_5_code
def yX2_markOf : MethodName := ⟨RX2, "markOf", "(II)I"⟩
abbrev cX2_firstThatMeets : ByteArray := prog_4_method_6_code
def yX2_firstThatMeets : MethodName := ⟨RX2, "firstThatMeets", "(I)I"⟩
abbrev cX2_contradict : ByteArray := prog_4_method_7_code
def yX2_contradict : MethodName := ⟨RX2, "contradict", "(II)Z"⟩
def RX3 : String := "RuleTables$Tape"
def TX3 : u_T := fun k => match k with
  | 0 => ("RuleTables$Tape", "words", "[J", true)
  | 1 => ("RuleTables$Tape", "length", "I", false)
  | 2 => ("RuleTables$Tape", "at", "I", false)
  | 3 => ("RuleTables$Tape", "nameFrom", "I", false)
  | 4 => ("RuleTables$Tape", "name", "J", false)
  | 5 => ("RuleTables$Tape", "fault", "I", false)
  | _ => ("RuleTables$Tape", "faultPlace", "I", false)
def tyX3 : Nat → FieldType := fun k => match k with
  | 0 => .array .long
  | 1 => .int
  | 2 => .int
  | 3 => .int
  | 4 => .long
  | 5 => .int
  | _ => .int
abbrev wsX30 : List Cond := u_ws RX3 TX3 7
theorem nmX3 : ∀ a, a < 7 → ∀ b, b < 7 → a ≠ b → (TX3 a).2.1 ≠ (TX3 b).2.1 := by decide +kernel
theorem tyX3_ok : ∀ k, k < 7 → parseFieldDescriptor (TX3 k).2.2.1 = some (tyX3 k) := by decide +kernel
abbrev cX3_init : ByteArray := prog_5_method_1_code
def yX3_init : MethodName := ⟨RX3, "<init>", "()V"⟩
abbrev cX3_append : ByteArray := prog_5_method_2_code
def yX3_append : MethodName := ⟨RX3, "append", "(I)V"⟩
abbrev cX3_byteAt : ByteArray := prog_5_method_3_code
def yX3_byteAt : MethodName := ⟨RX3, "byteAt", "(I)I"⟩
abbrev cX3_parse : ByteArray := prog_5_method_4_code
def yX3_parse : MethodName := ⟨RX3, "parse", "(LRuleTables$Table;)Z"⟩
abbrev cX3_fail : ByteArray := prog_5_method_5_code
def yX3_fail : MethodName := ⟨RX3, "fail", "(II)Z"⟩
abbrev cX3_look : ByteArray := prog_5_method_6_code
def yX3_look : MethodName := ⟨RX3, "look", "()I"⟩
abbrev cX3_passByte : ByteArray := prog_5_method_7_code
def yX3_passByte : MethodName := ⟨RX3, "passByte", "(I)Z"⟩
abbrev cX3_passName : ByteArray := prog_5_method_8_code
def yX3_passName : MethodName := ⟨RX3, "passName", "()Z"⟩
abbrev cX3_isWord : ByteArray := prog_5_method_9_code
def yX3_isWord : MethodName := ⟨RX3, "isWord", "(J)Z"⟩
abbrev cX3_passConditions : ByteArray := prog_5_method_10_code
def yX3_passConditions : MethodName := ⟨RX3, "passConditions", "(LRuleTables$Table;)Z"⟩
abbrev cX3_passCondition : ByteArray := prog_5_method_11_code
def yX3_passCondition : MethodName := ⟨RX3, "passCondition", "(LRuleTables$Names;)Z"⟩
abbrev cX3_passRules : ByteArray := prog_5_method_12_code
def yX3_passRules : MethodName := ⟨RX3, "passRules", "(LRuleTables$Table;)Z"⟩
abbrev cX3_passRule : ByteArray := prog_5_method_13_code
def yX3_passRule : MethodName := ⟨RX3, "passRule", "(LRuleTables$Table;)Z"⟩
abbrev cX3_passAction : ByteArray := prog_5_method_14_code
def yX3_passAction : MethodName := ⟨RX3, "passAction", "(LRuleTables$Names;)Z"⟩
def RX4 : String := "RuleTables$Tree"
def TX4 : u_T := fun k => match k with
  | 0 => ("RuleTables$Tree", "heads", "[I", true)
  | 1 => ("RuleTables$Tree", "otherwise", "[I", true)
  | 2 => ("RuleTables$Tree", "size", "I", false)
  | 3 => ("RuleTables$Tree", "leaves", "I", false)
  | 4 => ("RuleTables$Tree", "mostTests", "I", false)
  | 5 => ("RuleTables$Tree", "allTests", "J", false)
  | _ => ("RuleTables$Tree", "tooBig", "Z", false)
def tyX4 : Nat → FieldType := fun k => match k with
  | 0 => .array .int
  | 1 => .array .int
  | 2 => .int
  | 3 => .int
  | 4 => .int
  | 5 => .long
  | _ => .boolean
abbrev wsX40 : List Cond := u_ws RX4 TX4 7
theorem nmX4 : ∀ a, a < 7 → ∀ b, b < 7 → a ≠ b → (TX4 a).2.1 ≠ (TX4 b).2.1 := by decide +kernel
theorem tyX4_ok : ∀ k, k < 7 → parseFieldDescriptor (TX4 k).2.2.1 = some (tyX4 k) := by decide +kernel
abbrev cX4_init : ByteArray := prog_6_method_1_code
def yX4_init : MethodName := ⟨RX4, "<init>", "()V"⟩
abbrev cX4_clear : ByteArray := prog_6_method_2_code
def yX4_clear : MethodName := ⟨RX4, "clear", "()V"⟩
abbrev cX4_isLeaf : ByteArray := prog_6_method_3_code
def yX4_isLeaf : MethodName := ⟨RX4, "isLeaf", "(I)Z"⟩
abbrev cX4_build : ByteArray := prog_6_method_4_code
def yX4_build : MethodName := ⟨RX4, "build", "(LRuleTables$Way;)V"⟩
abbrev cX4_grow : ByteArray := prog_6_method_5_code
def yX4_grow : MethodName := ⟨RX4, "grow", "(LRuleTables$Tree;LRuleTables$Way;II)V"⟩
abbrev cX4_addLeaf : ByteArray := prog_6_method_6_code
def yX4_addLeaf : MethodName := ⟨RX4, "addLeaf", "(II)V"⟩
abbrev cX4_addNode : ByteArray := prog_6_method_7_code
def yX4_addNode : MethodName := ⟨RX4, "addNode", "(I)V"⟩
def RX5 : String := "RuleTables$Way"
def TX5 : u_T := fun k => match k with
  | 0 => ("RuleTables$Way", "yes", "[I", true)
  | 1 => ("RuleTables$Way", "no", "[I", true)
  | 2 => ("RuleTables$Way", "action", "[I", true)
  | 3 => ("RuleTables$Way", "allOpen", "I", false)
  | 4 => ("RuleTables$Way", "lists", "[[I", true)
  | 5 => ("RuleTables$Way", "sizes", "[I", true)
  | 6 => ("RuleTables$Way", "blanks", "[I", true)
  | _ => ("RuleTables$Way", "differences", "[I", true)
def tyX5 : Nat → FieldType := fun k => match k with
  | 0 => .array .int
  | 1 => .array .int
  | 2 => .array .int
  | 3 => .int
  | 4 => .array (.array .int)
  | 5 => .array .int
  | 6 => .array .int
  | _ => .array .int
abbrev wsX50 : List Cond := u_ws RX5 TX5 8
theorem nmX5 : ∀ a, a < 8 → ∀ b, b < 8 → a ≠ b → (TX5 a).2.1 ≠ (TX5 b).2.1 := by decide +kernel
theorem tyX5_ok : ∀ k, k < 8 → parseFieldDescriptor (TX5 k).2.2.1 = some (tyX5 k) := by decide +kernel
abbrev cX5_init : ByteArray := prog_7_method_1_code
def yX5_init : MethodName := ⟨RX5, "<init>", "()V"⟩
abbrev cX5_start : ByteArray := prog_7_method_2_code
def yX5_start : MethodName := ⟨RX5, "start", "(LRuleTables$Table;I)V"⟩
abbrev cX5_step : ByteArray := prog_7_method_3_code
def yX5_step : MethodName := ⟨RX5, "step", "(IIZ)V"⟩
abbrev cX5_splittingBit : ByteArray := prog_7_method_4_code
def yX5_splittingBit : MethodName := ⟨RX5, "splittingBit", "(II)I"⟩
abbrev cX5_leastGap : ByteArray := prog_7_method_5_code
def yX5_leastGap : MethodName := ⟨RX5, "leastGap", "()I"⟩
abbrev cX5_leastGapFrom : ByteArray := prog_7_method_6_code
def yX5_leastGapFrom : MethodName := ⟨RX5, "leastGapFrom", "(LRuleTables$Way;III)I"⟩
abbrev cX5_casesMet : ByteArray := prog_7_method_7_code
def yX5_casesMet : MethodName := ⟨RX5, "casesMet", "()I"⟩
abbrev cX5_casesMetFrom : ByteArray := prog_7_method_8_code
def yX5_casesMetFrom : MethodName := ⟨RX5, "casesMetFrom", "(LRuleTables$Way;II)I"⟩
abbrev cX5_oneAction : ByteArray := prog_7_method_9_code
def yX5_oneAction : MethodName := ⟨RX5, "oneAction", "(I)I"⟩
abbrev cX5_choose : ByteArray := prog_7_method_10_code
def yX5_choose : MethodName := ⟨RX5, "choose", "(II)I"⟩
abbrev cX5_isBetter : ByteArray := prog_7_method_11_code
def yX5_isBetter : MethodName := ⟨RX5, "isBetter", "(II)Z"⟩
abbrev cX5_weigh : ByteArray := prog_7_method_12_code
def yX5_weigh : MethodName := ⟨RX5, "weigh", "(II)V"⟩
abbrev cX5_addWeight : ByteArray := prog_7_method_13_code
def yX5_addWeight : MethodName := ⟨RX5, "addWeight", "(II)V"⟩
def RX6 : String := "RuleTables"
def TX6 : u_T := fun k => match k with
  | 0 => ("RuleTables", "tape", "LRuleTables$Tape;", true)
  | 1 => ("RuleTables", "table", "LRuleTables$Table;", false)
  | 2 => ("RuleTables", "spare", "LRuleTables$Table;", false)
  | 3 => ("RuleTables", "hasTable", "Z", false)
  | 4 => ("RuleTables", "latestFault", "I", false)
  | 5 => ("RuleTables", "firstAmiss", "I", false)
  | 6 => ("RuleTables", "secondAmiss", "I", false)
  | 7 => ("RuleTables", "caseAmiss", "I", false)
  | 8 => ("RuleTables", "way", "LRuleTables$Way;", true)
  | 9 => ("RuleTables", "tree", "LRuleTables$Tree;", true)
  | _ => ("RuleTables", "code", "LRuleTables$Code;", true)
def tyX6 : Nat → FieldType := fun k => match k with
  | 0 => .object "RuleTables$Tape"
  | 1 => .object "RuleTables$Table"
  | 2 => .object "RuleTables$Table"
  | 3 => .boolean
  | 4 => .int
  | 5 => .int
  | 6 => .int
  | 7 => .int
  | 8 => .object "RuleTables$Way"
  | 9 => .object "RuleTables$Tree"
  | _ => .object "RuleTables$Code"
abbrev wsX60 : List Cond := u_ws RX6 TX6 11
theorem nmX6 : ∀ a, a < 11 → ∀ b, b < 11 → a ≠ b → (TX6 a).2.1 ≠ (TX6 b).2.1 := by decide +kernel
theorem tyX6_ok : ∀ k, k < 11 → parseFieldDescriptor (TX6 k).2.2.1 = some (tyX6 k) := by decide +kernel
abbrev cX6_init : ByteArray := prog_1_method_1_code
def yX6_init : MethodName := ⟨RX6, "<init>", "()V"⟩
abbrev cX6_type : ByteArray := prog_1_method_2_code
def yX6_type : MethodName := ⟨RX6, "type", "(JI)I"⟩
abbrev cX6_keep : ByteArray := prog_1_method_3_code
def yX6_keep : MethodName := ⟨RX6, "keep", "(I)V"⟩
abbrev cX6_read : ByteArray := prog_1_method_4_code
def yX6_read : MethodName := ⟨RX6, "read", "()I"⟩
abbrev cX6_fault : ByteArray := prog_1_method_5_code
def yX6_fault : MethodName := ⟨RX6, "fault", "()I"⟩
abbrev cX6_amiss : ByteArray := prog_1_method_6_code
def yX6_amiss : MethodName := ⟨RX6, "amiss", "(I)I"⟩
abbrev cX6_count : ByteArray := prog_1_method_7_code
def yX6_count : MethodName := ⟨RX6, "count", "(I)I"⟩
abbrev cX6_rule : ByteArray := prog_1_method_8_code
def yX6_rule : MethodName := ⟨RX6, "rule", "(II)I"⟩
abbrev cX6_name : ByteArray := prog_1_method_9_code
def yX6_name : MethodName := ⟨RX6, "name", "(ZII)I"⟩
abbrev cX6_meets : ByteArray := prog_1_method_10_code
def yX6_meets : MethodName := ⟨RX6, "meets", "(I)I"⟩
abbrev cX6_cases : ByteArray := prog_1_method_11_code
def yX6_cases : MethodName := ⟨RX6, "cases", "(I)I"⟩
abbrev cX6_node : ByteArray := prog_1_method_12_code
def yX6_node : MethodName := ⟨RX6, "node", "(II)I"⟩
abbrev cX6_code : ByteArray := prog_1_method_13_code
def yX6_code : MethodName := ⟨RX6, "code", "(I)I"⟩
abbrev cX6_run : ByteArray := prog_1_method_14_code
def yX6_run : MethodName := ⟨RX6, "run", "(IZ)I"⟩
abbrev cX6_tests : ByteArray := prog_1_method_15_code
def yX6_tests : MethodName := ⟨RX6, "tests", "()J"⟩
abbrev cX6_needTable : ByteArray := prog_1_method_16_code
def yX6_needTable : MethodName := ⟨RX6, "needTable", "()V"⟩
abbrev cX6_needTree : ByteArray := prog_1_method_17_code
def yX6_needTree : MethodName := ⟨RX6, "needTree", "()V"⟩
abbrev cX6_needCase : ByteArray := prog_1_method_18_code
def yX6_needCase : MethodName := ⟨RX6, "needCase", "(I)V"⟩
abbrev cX6_judge : ByteArray := prog_1_method_19_code
def yX6_judge : MethodName := ⟨RX6, "judge", "()I"⟩
abbrev cX6_findAmiss : ByteArray := prog_1_method_20_code
def yX6_findAmiss : MethodName := ⟨RX6, "findAmiss", "()I"⟩
abbrev cX6_findContradiction : ByteArray := prog_1_method_21_code
def yX6_findContradiction : MethodName := ⟨RX6, "findContradiction", "()Z"⟩
def RX7 : String := "RuleTablesModel"
def TX7 : u_T := fun k => match k with
  | 0 => ("RuleTablesModel", "thrown", "I", false)
  | 1 => ("RuleTablesModel", "tape", "[B", true)
  | 2 => ("RuleTablesModel", "size", "I", false)
  | 3 => ("RuleTablesModel", "at", "I", false)
  | 4 => ("RuleTablesModel", "fault", "I", false)
  | 5 => ("RuleTablesModel", "names", "[B", true)
  | 6 => ("RuleTablesModel", "sizes", "[I", true)
  | 7 => ("RuleTablesModel", "yes", "[I", true)
  | 8 => ("RuleTablesModel", "no", "[I", true)
  | 9 => ("RuleTablesModel", "does", "[I", true)
  | 10 => ("RuleTablesModel", "isTable", "Z", false)
  | 11 => ("RuleTablesModel", "conditions", "I", false)
  | 12 => ("RuleTablesModel", "rules", "I", false)
  | 13 => ("RuleTablesModel", "actions", "I", false)
  | 14 => ("RuleTablesModel", "newConditions", "I", false)
  | 15 => ("RuleTablesModel", "newRules", "I", false)
  | 16 => ("RuleTablesModel", "newActions", "I", false)
  | 17 => ("RuleTablesModel", "first", "I", false)
  | 18 => ("RuleTablesModel", "second", "I", false)
  | 19 => ("RuleTablesModel", "amissCase", "I", false)
  | 20 => ("RuleTablesModel", "isTree", "Z", false)
  | 21 => ("RuleTablesModel", "nodes", "I", false)
  | 22 => ("RuleTablesModel", "asks", "[I", true)
  | 23 => ("RuleTablesModel", "thens", "[I", true)
  | 24 => ("RuleTablesModel", "elses", "[I", true)
  | 25 => ("RuleTablesModel", "acts", "[I", true)
  | 26 => ("RuleTablesModel", "depths", "[I", true)
  | 27 => ("RuleTablesModel", "places", "[I", true)
  | 28 => ("RuleTablesModel", "holdsAt", "[I", true)
  | 29 => ("RuleTablesModel", "failsAt", "[I", true)
  | 30 => ("RuleTablesModel", "parentAt", "[I", true)
  | 31 => ("RuleTablesModel", "depthAt", "[I", true)
  | 32 => ("RuleTablesModel", "code", "[I", true)
  | _ => ("RuleTablesModel", "codeSize", "I", false)
def tyX7 : Nat → FieldType := fun k => match k with
  | 0 => .int
  | 1 => .array .byte
  | 2 => .int
  | 3 => .int
  | 4 => .int
  | 5 => .array .byte
  | 6 => .array .int
  | 7 => .array .int
  | 8 => .array .int
  | 9 => .array .int
  | 10 => .boolean
  | 11 => .int
  | 12 => .int
  | 13 => .int
  | 14 => .int
  | 15 => .int
  | 16 => .int
  | 17 => .int
  | 18 => .int
  | 19 => .int
  | 20 => .boolean
  | 21 => .int
  | 22 => .array .int
  | 23 => .array .int
  | 24 => .array .int
  | 25 => .array .int
  | 26 => .array .int
  | 27 => .array .int
  | 28 => .array .int
  | 29 => .array .int
  | 30 => .array .int
  | 31 => .array .int
  | 32 => .array .int
  | _ => .int
abbrev wsX70 : List Cond := u_ws RX7 TX7 34
theorem nmX7 : ∀ a, a < 34 → ∀ b, b < 34 → a ≠ b → (TX7 a).2.1 ≠ (TX7 b).2.1 := by decide +kernel
theorem tyX7_ok : ∀ k, k < 34 → parseFieldDescriptor (TX7 k).2.2.1 = some (tyX7 k) := by decide +kernel
abbrev cX7_init : ByteArray := prog_9_method_1_code
def yX7_init : MethodName := ⟨RX7, "<init>", "()V"⟩
abbrev cX7_thrown : ByteArray := prog_9_method_2_code
def yX7_thrown : MethodName := ⟨RX7, "thrown", "()I"⟩
abbrev cX7_type : ByteArray := prog_9_method_3_code
def yX7_type : MethodName := ⟨RX7, "type", "(JI)I"⟩
abbrev cX7_keep : ByteArray := prog_9_method_4_code
def yX7_keep : MethodName := ⟨RX7, "keep", "(I)V"⟩
abbrev cX7_look : ByteArray := prog_9_method_5_code
def yX7_look : MethodName := ⟨RX7, "look", "()I"⟩
abbrev cX7_bad : ByteArray := prog_9_method_6_code
def yX7_bad : MethodName := ⟨RX7, "bad", "(II)V"⟩
abbrev cX7_isLetter : ByteArray := prog_9_method_7_code
def yX7_isLetter : MethodName := ⟨RX7, "isLetter", "(I)Z"⟩
abbrev cX7_isDigit : ByteArray := prog_9_method_8_code
def yX7_isDigit : MethodName := ⟨RX7, "isDigit", "(I)Z"⟩
abbrev cX7_nameEnd : ByteArray := prog_9_method_9_code
def yX7_nameEnd : MethodName := ⟨RX7, "nameEnd", "()I"⟩
abbrev cX7_word : ByteArray := prog_9_method_10_code
def yX7_word : MethodName := ⟨RX7, "word", "(II)V"⟩
abbrev cX7_sign : ByteArray := prog_9_method_11_code
def yX7_sign : MethodName := ⟨RX7, "sign", "(I)V"⟩
abbrev cX7_find : ByteArray := prog_9_method_12_code
def yX7_find : MethodName := ⟨RX7, "find", "(III)I"⟩
abbrev cX7_store : ByteArray := prog_9_method_13_code
def yX7_store : MethodName := ⟨RX7, "store", "(II)V"⟩
abbrev cX7_readCondition : ByteArray := prog_9_method_14_code
def yX7_readCondition : MethodName := ⟨RX7, "readCondition", "()V"⟩
abbrev cX7_readRule : ByteArray := prog_9_method_15_code
def yX7_readRule : MethodName := ⟨RX7, "readRule", "()V"⟩
abbrev cX7_take : ByteArray := prog_9_method_16_code
def yX7_take : MethodName := ⟨RX7, "take", "()V"⟩
abbrev cX7_read : ByteArray := prog_9_method_17_code
def yX7_read : MethodName := ⟨RX7, "read", "()I"⟩
abbrev cX7_fault : ByteArray := prog_9_method_18_code
def yX7_fault : MethodName := ⟨RX7, "fault", "()I"⟩
abbrev cX7_allCases : ByteArray := prog_9_method_19_code
def yX7_allCases : MethodName := ⟨RX7, "allCases", "()I"⟩
abbrev cX7_isMet : ByteArray := prog_9_method_20_code
def yX7_isMet : MethodName := ⟨RX7, "isMet", "(II)Z"⟩
abbrev cX7_firstMet : ByteArray := prog_9_method_21_code
def yX7_firstMet : MethodName := ⟨RX7, "firstMet", "(I)I"⟩
abbrev cX7_judge : ByteArray := prog_9_method_22_code
def yX7_judge : MethodName := ⟨RX7, "judge", "()I"⟩
abbrev cX7_bits : ByteArray := prog_9_method_23_code
def yX7_bits : MethodName := ⟨RX7, "bits", "(I)I"⟩
abbrev cX7_canMeet : ByteArray := prog_9_method_24_code
def yX7_canMeet : MethodName := ⟨RX7, "canMeet", "(III)Z"⟩
abbrev cX7_onlyAction : ByteArray := prog_9_method_25_code
def yX7_onlyAction : MethodName := ⟨RX7, "onlyAction", "(II)I"⟩
abbrev cX7_bestCondition : ByteArray := prog_9_method_26_code
def yX7_bestCondition : MethodName := ⟨RX7, "bestCondition", "(II)I"⟩
abbrev cX7_grow : ByteArray := prog_9_method_27_code
def yX7_grow : MethodName := ⟨RX7, "grow", "()V"⟩
abbrev cX7_write : ByteArray := prog_9_method_28_code
def yX7_write : MethodName := ⟨RX7, "write", "()V"⟩
abbrev cX7_amiss : ByteArray := prog_9_method_29_code
def yX7_amiss : MethodName := ⟨RX7, "amiss", "(I)I"⟩
abbrev cX7_count : ByteArray := prog_9_method_30_code
def yX7_count : MethodName := ⟨RX7, "count", "(I)I"⟩
abbrev cX7_rule : ByteArray := prog_9_method_31_code
def yX7_rule : MethodName := ⟨RX7, "rule", "(II)I"⟩
abbrev cX7_name : ByteArray := prog_9_method_32_code
def yX7_name : MethodName := ⟨RX7, "name", "(ZII)I"⟩
abbrev cX7_isCase : ByteArray := prog_9_method_33_code
def yX7_isCase : MethodName := ⟨RX7, "isCase", "(I)Z"⟩
abbrev cX7_meets : ByteArray := prog_9_method_34_code
def yX7_meets : MethodName := ⟨RX7, "meets", "(I)I"⟩
abbrev cX7_cases : ByteArray := prog_9_method_35_code
def yX7_cases : MethodName := ⟨RX7, "cases", "(I)I"⟩
abbrev cX7_node : ByteArray := prog_9_method_36_code
def yX7_node : MethodName := ⟨RX7, "node", "(II)I"⟩
abbrev cX7_code : ByteArray := prog_9_method_37_code
def yX7_code : MethodName := ⟨RX7, "code", "(I)I"⟩
abbrev cX7_run : ByteArray := prog_9_method_38_code
def yX7_run : MethodName := ⟨RX7, "run", "(IZ)I"⟩
abbrev cX7_tests : ByteArray := prog_9_method_39_code
def yX7_tests : MethodName := ⟨RX7, "tests", "()J"⟩
def RJ6 : String := "java/lang/Integer"
def TJ6 : u_T := fun k => match k with
  | _ => ("", "", "", false)
def tyJ6 : Nat → FieldType := fun k => match k with
  | _ => .int
abbrev wsJ60 : List Cond := u_ws RJ6 TJ6 0
theorem nmJ6 : ∀ a, a < 0 → ∀ b, b < 0 → a ≠ b → (TJ6 a).2.1 ≠ (TJ6 b).2.1 := by decide +kernel
theorem tyJ6_ok : ∀ k, k < 0 → parseFieldDescriptor (TJ6 k).2.2.1 = some (tyJ6 k) := by decide +kernel
abbrev cJ6_bitCount_0f7a4 : ByteArray := prog_14_method_49_code
def yJ6_bitCount_0f7a4 : MethodName := ⟨RJ6, "bitCount", "(I)I"⟩
def RJ9 : String := "java/lang/Math"
def TJ9 : u_T := fun k => match k with
  | _ => ("", "", "", false)
def tyJ9 : Nat → FieldType := fun k => match k with
  | _ => .int
abbrev wsJ90 : List Cond := u_ws RJ9 TJ9 0
theorem nmJ9 : ∀ a, a < 0 → ∀ b, b < 0 → a ≠ b → (TJ9 a).2.1 ≠ (TJ9 b).2.1 := by decide +kernel
theorem tyJ9_ok : ∀ k, k < 0 → parseFieldDescriptor (TJ9 k).2.2.1 = some (tyJ9 k) := by decide +kernel
abbrev cJ9_abs_0f7a4 : ByteArray := prog_15_method_59_code
def yJ9_abs_0f7a4 : MethodName := ⟨RJ9, "abs", "(I)I"⟩
abbrev cJ9_max_7cf53 : ByteArray := prog_15_method_65_code
def yJ9_max_7cf53 : MethodName := ⟨RJ9, "max", "(II)I"⟩
def RJ0 : String := "java/lang/String"
def TJ0 : u_T := fun k => match k with
  | _ => ("", "", "", false)
def tyJ0 : Nat → FieldType := fun k => match k with
  | _ => .int
abbrev wsJ00 : List Cond := u_ws RJ0 TJ0 0
theorem nmJ0 : ∀ a, a < 0 → ∀ b, b < 0 → a ≠ b → (TJ0 a).2.1 ≠ (TJ0 b).2.1 := by decide +kernel
theorem tyJ0_ok : ∀ k, k < 0 → parseFieldDescriptor (TJ0 k).2.2.1 = some (tyJ0 k) := by decide +kernel
def RL : String := "RuleTablesLaw"
abbrev cL_type : ByteArray := method_3_code
def yL_type : MethodName := ⟨RL, "type", "(LRuleTables;JI[J)I"⟩
abbrev cL_keep : ByteArray := method_4_code
def yL_keep : MethodName := ⟨RL, "keep", "(LRuleTables;I)I"⟩
abbrev cL_amiss : ByteArray := method_5_code
def yL_amiss : MethodName := ⟨RL, "amiss", "(LRuleTables;I[J)I"⟩
abbrev cL_count : ByteArray := method_6_code
def yL_count : MethodName := ⟨RL, "count", "(LRuleTables;I[J)I"⟩
abbrev cL_rule : ByteArray := method_7_code
def yL_rule : MethodName := ⟨RL, "rule", "(LRuleTables;II[J)I"⟩
abbrev cL_name : ByteArray := method_8_code
def yL_name : MethodName := ⟨RL, "name", "(LRuleTables;ZII[J)I"⟩
abbrev cL_meets : ByteArray := method_9_code
def yL_meets : MethodName := ⟨RL, "meets", "(LRuleTables;I[J)I"⟩
abbrev cL_cases : ByteArray := method_10_code
def yL_cases : MethodName := ⟨RL, "cases", "(LRuleTables;I[J)I"⟩
abbrev cL_node : ByteArray := method_11_code
def yL_node : MethodName := ⟨RL, "node", "(LRuleTables;II[J)I"⟩
abbrev cL_code : ByteArray := method_12_code
def yL_code : MethodName := ⟨RL, "code", "(LRuleTables;I[J)I"⟩
abbrev cL_run : ByteArray := method_13_code
def yL_run : MethodName := ⟨RL, "run", "(LRuleTables;IZ[J)I"⟩
abbrev cL_tests : ByteArray := method_14_code
def yL_tests : MethodName := ⟨RL, "tests", "(LRuleTables;[J)I"⟩
abbrev cL_law : ByteArray := code
def yL_law : MethodName := ⟨RL, "law", "([I)Z"⟩
abbrev vwCl : List vw_C := [(RX0, TX0, 3), (RX1, TX1, 2), (RX2, TX2, 6), (RX3, TX3, 7), (RX4, TX4, 7), (RX5, TX5, 8), (RX6, TX6, 11), (RX7, TX7, 34)]
end
section
/-! THE STATE: ints, longs, rows of ints (bytes too), rows of longs, places; one type for the class and for the reference -/
abbrev ST : Type := (Nat → Int32) × (Nat → Int64) × (Nat → Nat → Int32) × (Nat → Nat → Int64) × (Nat → Nat)
def gI (u : ST) (k : Nat) : Int32 := u.1 k
def gJ (u : ST) (k : Nat) : Int64 := u.2.1 k
def gR (u : ST) (k : Nat) : Nat → Int32 := u.2.2.1 k
def gB (u : ST) (k : Nat) : Nat → Int64 := u.2.2.2.1 k
def gZ (u : ST) (k : Nat) : Nat := u.2.2.2.2 k
def sI (u : ST) (k : Nat) (v : Int32) : ST := (fun j => if j = k then v else u.1 j, u.2.1, u.2.2.1, u.2.2.2.1, u.2.2.2.2)
def sJ (u : ST) (k : Nat) (v : Int64) : ST := (u.1, fun j => if j = k then v else u.2.1 j, u.2.2.1, u.2.2.2.1, u.2.2.2.2)
def sR (u : ST) (k i : Nat) (v : Int32) : ST := (u.1, u.2.1, fun j => if j = k then upd (u.2.2.1 k) i v else u.2.2.1 j, u.2.2.2.1, u.2.2.2.2)
def sB (u : ST) (k i : Nat) (v : Int64) : ST := (u.1, u.2.1, u.2.2.1, fun j => if j = k then vp_updL (u.2.2.2.1 k) i v else u.2.2.2.1 j, u.2.2.2.2)
def sZ (u : ST) (k : Nat) (v : Nat) : ST := (u.1, u.2.1, u.2.2.1, u.2.2.2.1, fun j => if j = k then v else u.2.2.2.2 j)
theorem gI_sI (u : ST) (k j : Nat) (v : Int32) : gI (sI u k v) j = if j = k then v else gI u j := rfl
theorem gI_sJ (u : ST) (k j : Nat) (v : Int64) : gI (sJ u k v) j = gI u j := rfl
theorem gI_sR (u : ST) (k i j : Nat) (v : Int32) : gI (sR u k i v) j = gI u j := rfl
theorem gI_sB (u : ST) (k i j : Nat) (v : Int64) : gI (sB u k i v) j = gI u j := rfl
theorem gI_sZ (u : ST) (k j : Nat) (v : Nat) : gI (sZ u k v) j = gI u j := rfl
theorem gJ_sI (u : ST) (k j : Nat) (v : Int32) : gJ (sI u k v) j = gJ u j := rfl
theorem gJ_sJ (u : ST) (k j : Nat) (v : Int64) : gJ (sJ u k v) j = if j = k then v else gJ u j := rfl
theorem gJ_sR (u : ST) (k i j : Nat) (v : Int32) : gJ (sR u k i v) j = gJ u j := rfl
theorem gJ_sB (u : ST) (k i j : Nat) (v : Int64) : gJ (sB u k i v) j = gJ u j := rfl
theorem gJ_sZ (u : ST) (k j : Nat) (v : Nat) : gJ (sZ u k v) j = gJ u j := rfl
theorem gR_sI (u : ST) (k j : Nat) (v : Int32) : gR (sI u k v) j = gR u j := rfl
theorem gR_sJ (u : ST) (k j : Nat) (v : Int64) : gR (sJ u k v) j = gR u j := rfl
theorem gR_sR (u : ST) (k i j : Nat) (v : Int32) : gR (sR u k i v) j = if j = k then upd (gR u k) i v else gR u j := rfl
theorem gR_sB (u : ST) (k i j : Nat) (v : Int64) : gR (sB u k i v) j = gR u j := rfl
theorem gR_sZ (u : ST) (k j : Nat) (v : Nat) : gR (sZ u k v) j = gR u j := rfl
theorem gB_sI (u : ST) (k j : Nat) (v : Int32) : gB (sI u k v) j = gB u j := rfl
theorem gB_sJ (u : ST) (k j : Nat) (v : Int64) : gB (sJ u k v) j = gB u j := rfl
theorem gB_sR (u : ST) (k i j : Nat) (v : Int32) : gB (sR u k i v) j = gB u j := rfl
theorem gB_sB (u : ST) (k i j : Nat) (v : Int64) : gB (sB u k i v) j = if j = k then vp_updL (gB u k) i v else gB u j := rfl
theorem gB_sZ (u : ST) (k j : Nat) (v : Nat) : gB (sZ u k v) j = gB u j := rfl
theorem gZ_sI (u : ST) (k j : Nat) (v : Int32) : gZ (sI u k v) j = gZ u j := rfl
theorem gZ_sJ (u : ST) (k j : Nat) (v : Int64) : gZ (sJ u k v) j = gZ u j := rfl
theorem gZ_sR (u : ST) (k i j : Nat) (v : Int32) : gZ (sR u k i v) j = gZ u j := rfl
theorem gZ_sB (u : ST) (k i j : Nat) (v : Int64) : gZ (sB u k i v) j = gZ u j := rfl
theorem gZ_sZ (u : ST) (k j : Nat) (v : Nat) : gZ (sZ u k v) j = if j = k then v else gZ u j := rfl
/-! THE CLASS's WORLD. Places of addresses: 0 RuleTables, 1 Tape, 2+t Table t, 4+n Names n (2t conditions, 2t+1 actions), 8 Way, 9 Tree, 10 Code, 11+j rows of longs (0 words, 1+n names), 16 the lists, 17+k rows of ints (3t yes, 3t+1 no, 3t+2 action; 6 7 8 the way's; 9 sizes, 10 blanks, 11 differences, 12 heads, 13 otherwise, 14 bytes, 15 places, 16+d list d). -/
abbrev aT (ad : Nat → Nat) (t : Nat) : Nat := ad (2 + t)
abbrev aN (ad : Nat → Nat) (n : Nat) : Nat := ad (4 + n)
abbrev aL (ad : Nat → Nat) (j : Nat) : Nat := ad (11 + j)
abbrev aR (ad : Nat → Nat) (k : Nat) : Nat := ad (17 + k)
def lenL (j : Nat) : Nat := if j = 0 then 1000 else if j = 1 ∨ j = 3 then 16 else 64
def lenR (k : Nat) : Nat := if k < 9 then 256 else if k = 9 then 17 else if k < 12 then 16 else if k = 14 then 2000 else if k < 16 then 1000 else 256
/-- the classes of arrays: bytes, ints, longs, rows of rows -/
abbrev CY : Type := ClassId × ClassId × ClassId × ClassId
abbrev tyS (cy : CY) : List (ClassId × FieldType) := [(cy.1, .byte), (cy.2.1, .int), (cy.2.2.1, .long), (cy.2.2.2, .array .int)]
abbrev fRT (ad : Nat → Nat) (u : ST) : List Value := [.ref (ad 1), .ref (aT ad (gZ u 0)), .ref (aT ad (gZ u 1)), .int (gI u 0), .int (gI u 1), .int (gI u 2), .int (gI u 3), .int (gI u 4), .ref (ad 8), .ref (ad 9), .ref (ad 10)]
abbrev fTP (ad : Nat → Nat) (u : ST) : List Value := [.ref (aL ad 0), .int (gI u 5), .int (gI u 6), .int (gI u 7), .long (gJ u 0), .int (gI u 8), .int (gI u 9)]
abbrev fTB (ad : Nat → Nat) (u : ST) (t : Nat) : List Value := [.ref (aN ad (2 * t)), .ref (aN ad (2 * t + 1)), .ref (aR ad (3 * t)), .ref (aR ad (3 * t + 1)), .ref (aR ad (3 * t + 2)), .int (gI u (10 + t))]
abbrev fNM (ad : Nat → Nat) (u : ST) (n : Nat) : List Value := [.ref (aL ad (1 + n)), .int (gI u (12 + n))]
abbrev fWY (ad : Nat → Nat) (u : ST) : List Value := [.ref (aR ad 6), .ref (aR ad 7), .ref (aR ad 8), .int (gI u 16), .ref (ad 16), .ref (aR ad 9), .ref (aR ad 10), .ref (aR ad 11)]
abbrev fTR (ad : Nat → Nat) (u : ST) : List Value := [.ref (aR ad 12), .ref (aR ad 13), .int (gI u 17), .int (gI u 18), .int (gI u 19), .long (gJ u 1), .int (gI u 20)]
abbrev fCD (ad : Nat → Nat) (u : ST) : List Value := [.ref (aR ad 14), .ref (aR ad 15), .int (gI u 21)]
abbrev eL (cy : CY) (u : ST) (j : Nat) : va_E := .inl (cy.2.2.1, lenL j, .inr (.inl (gB u j)))
abbrev eR (cy : CY) (u : ST) (k : Nat) : va_E := .inl (cy.2.1, lenR k, .inl (gR u k))
abbrev eO (cy : CY) (ad : Nat → Nat) : va_E := .inl (cy.2.2.2, 17, .inr (.inr (.inr (.inr (fun d => some (aR ad (16 + d)))))))
def cW (cy : CY) (ad : Nat → Nat) (u : ST) : va_W := [(ad 0, .inr (6, fRT ad u)), (ad 1, .inr (3, fTP ad u)), (aT ad 0, .inr (2, fTB ad u 0)), (aT ad 1, .inr (2, fTB ad u 1)), (aN ad 0, .inr (1, fNM ad u 0)), (aN ad 1, .inr (1, fNM ad u 1)), (aN ad 2, .inr (1, fNM ad u 2)), (aN ad 3, .inr (1, fNM ad u 3)), (ad 8, .inr (5, fWY ad u)), (ad 9, .inr (4, fTR ad u)), (ad 10, .inr (0, fCD ad u)), (aL ad 0, eL cy u 0), (aL ad 1, eL cy u 1), (aL ad 2, eL cy u 2), (aL ad 3, eL cy u 3), (aL ad 4, eL cy u 4), (ad 16, eO cy ad), (aR ad 0, eR cy u 0), (aR ad 1, eR cy u 1), (aR ad 2, eR cy u 2), (aR ad 3, eR cy u 3), (aR ad 4, eR cy u 4), (aR ad 5, eR cy u 5), (aR ad 6, eR cy u 6), (aR ad 7, eR cy u 7), (aR ad 8, eR cy u 8), (aR ad 9, eR cy u 9), (aR ad 10, eR cy u 10), (aR ad 11, eR cy u 11), (aR ad 12, eR cy u 12), (aR ad 13, eR cy u 13), (aR ad 14, eR cy u 14), (aR ad 15, eR cy u 15), (aR ad 16, eR cy u 16), (aR ad 17, eR cy u 17), (aR ad 18, eR cy u 18), (aR ad 19, eR cy u 19), (aR ad 20, eR cy u 20), (aR ad 21, eR cy u 21), (aR ad 22, eR cy u 22), (aR ad 23, eR cy u 23), (aR ad 24, eR cy u 24), (aR ad 25, eR cy u 25), (aR ad 26, eR cy u 26), (aR ad 27, eR cy u 27), (aR ad 28, eR cy u 28), (aR ad 29, eR cy u 29), (aR ad 30, eR cy u 30), (aR ad 31, eR cy u 31), (aR ad 32, eR cy u 32)]
theorem cW_T (cy : CY) (ad : Nat → Nat) (u : ST) : ∀ t : Nat, t < 2 → (cW cy ad u)[2 + t]? = some (aT ad t, .inr (2, fTB ad u t))
  | 0, _ => rfl
  | 1, _ => rfl
  | t + 2, h => absurd h (by omega)
theorem cW_N (cy : CY) (ad : Nat → Nat) (u : ST) : ∀ t : Nat, t < 4 → (cW cy ad u)[4 + t]? = some (aN ad t, .inr (1, fNM ad u t))
  | 0, _ => rfl
  | 1, _ => rfl
  | 2, _ => rfl
  | 3, _ => rfl
  | t + 4, h => absurd h (by omega)
theorem cW_L (cy : CY) (ad : Nat → Nat) (u : ST) : ∀ t : Nat, t < 5 → (cW cy ad u)[11 + t]? = some (aL ad t, eL cy u t)
  | 0, _ => rfl
  | 1, _ => rfl
  | 2, _ => rfl
  | 3, _ => rfl
  | 4, _ => rfl
  | t + 5, h => absurd h (by omega)
theorem cW_R (cy : CY) (ad : Nat → Nat) (u : ST) : ∀ t : Nat, t < 33 → (cW cy ad u)[17 + t]? = some (aR ad t, eR cy u t)
  | 0, _ => rfl
  | 1, _ => rfl
  | 2, _ => rfl
  | 3, _ => rfl
  | 4, _ => rfl
  | 5, _ => rfl
  | 6, _ => rfl
  | 7, _ => rfl
  | 8, _ => rfl
  | 9, _ => rfl
  | 10, _ => rfl
  | 11, _ => rfl
  | 12, _ => rfl
  | 13, _ => rfl
  | 14, _ => rfl
  | 15, _ => rfl
  | 16, _ => rfl
  | 17, _ => rfl
  | 18, _ => rfl
  | 19, _ => rfl
  | 20, _ => rfl
  | 21, _ => rfl
  | 22, _ => rfl
  | 23, _ => rfl
  | 24, _ => rfl
  | 25, _ => rfl
  | 26, _ => rfl
  | 27, _ => rfl
  | 28, _ => rfl
  | 29, _ => rfl
  | 30, _ => rfl
  | 31, _ => rfl
  | 32, _ => rfl
  | t + 33, h => absurd h (by omega)
theorem cS_RT_3 (cy : CY) (ad : Nat → Nat) (u : ST) (v : Int32) : (cW cy ad u).set 0 (ad 0, .inr (6, (fRT ad u).set 3 (.int v))) = cW cy ad (sI u 0 v) := rfl
theorem cS_RT_4 (cy : CY) (ad : Nat → Nat) (u : ST) (v : Int32) : (cW cy ad u).set 0 (ad 0, .inr (6, (fRT ad u).set 4 (.int v))) = cW cy ad (sI u 1 v) := rfl
theorem cS_RT_5 (cy : CY) (ad : Nat → Nat) (u : ST) (v : Int32) : (cW cy ad u).set 0 (ad 0, .inr (6, (fRT ad u).set 5 (.int v))) = cW cy ad (sI u 2 v) := rfl
theorem cS_RT_6 (cy : CY) (ad : Nat → Nat) (u : ST) (v : Int32) : (cW cy ad u).set 0 (ad 0, .inr (6, (fRT ad u).set 6 (.int v))) = cW cy ad (sI u 3 v) := rfl
theorem cS_RT_7 (cy : CY) (ad : Nat → Nat) (u : ST) (v : Int32) : (cW cy ad u).set 0 (ad 0, .inr (6, (fRT ad u).set 7 (.int v))) = cW cy ad (sI u 4 v) := rfl
theorem cS_TP_1 (cy : CY) (ad : Nat → Nat) (u : ST) (v : Int32) : (cW cy ad u).set 1 (ad 1, .inr (3, (fTP ad u).set 1 (.int v))) = cW cy ad (sI u 5 v) := rfl
theorem cS_TP_2 (cy : CY) (ad : Nat → Nat) (u : ST) (v : Int32) : (cW cy ad u).set 1 (ad 1, .inr (3, (fTP ad u).set 2 (.int v))) = cW cy ad (sI u 6 v) := rfl
theorem cS_TP_3 (cy : CY) (ad : Nat → Nat) (u : ST) (v : Int32) : (cW cy ad u).set 1 (ad 1, .inr (3, (fTP ad u).set 3 (.int v))) = cW cy ad (sI u 7 v) := rfl
theorem cS_TP_5 (cy : CY) (ad : Nat → Nat) (u : ST) (v : Int32) : (cW cy ad u).set 1 (ad 1, .inr (3, (fTP ad u).set 5 (.int v))) = cW cy ad (sI u 8 v) := rfl
theorem cS_TP_6 (cy : CY) (ad : Nat → Nat) (u : ST) (v : Int32) : (cW cy ad u).set 1 (ad 1, .inr (3, (fTP ad u).set 6 (.int v))) = cW cy ad (sI u 9 v) := rfl
theorem cS_WY_3 (cy : CY) (ad : Nat → Nat) (u : ST) (v : Int32) : (cW cy ad u).set 8 (ad 8, .inr (5, (fWY ad u).set 3 (.int v))) = cW cy ad (sI u 16 v) := rfl
theorem cS_TR_2 (cy : CY) (ad : Nat → Nat) (u : ST) (v : Int32) : (cW cy ad u).set 9 (ad 9, .inr (4, (fTR ad u).set 2 (.int v))) = cW cy ad (sI u 17 v) := rfl
theorem cS_TR_3 (cy : CY) (ad : Nat → Nat) (u : ST) (v : Int32) : (cW cy ad u).set 9 (ad 9, .inr (4, (fTR ad u).set 3 (.int v))) = cW cy ad (sI u 18 v) := rfl
theorem cS_TR_4 (cy : CY) (ad : Nat → Nat) (u : ST) (v : Int32) : (cW cy ad u).set 9 (ad 9, .inr (4, (fTR ad u).set 4 (.int v))) = cW cy ad (sI u 19 v) := rfl
theorem cS_TR_6 (cy : CY) (ad : Nat → Nat) (u : ST) (v : Int32) : (cW cy ad u).set 9 (ad 9, .inr (4, (fTR ad u).set 6 (.int v))) = cW cy ad (sI u 20 v) := rfl
theorem cS_CD_2 (cy : CY) (ad : Nat → Nat) (u : ST) (v : Int32) : (cW cy ad u).set 10 (ad 10, .inr (0, (fCD ad u).set 2 (.int v))) = cW cy ad (sI u 21 v) := rfl
theorem cS_TP_4 (cy : CY) (ad : Nat → Nat) (u : ST) (v : Int64) : (cW cy ad u).set 1 (ad 1, .inr (3, (fTP ad u).set 4 (.long v))) = cW cy ad (sJ u 0 v) := rfl
theorem cS_TR_5 (cy : CY) (ad : Nat → Nat) (u : ST) (v : Int64) : (cW cy ad u).set 9 (ad 9, .inr (4, (fTR ad u).set 5 (.long v))) = cW cy ad (sJ u 1 v) := rfl
theorem cS_RT_1 (cy : CY) (ad : Nat → Nat) (u : ST) (v : Nat) : (cW cy ad u).set 0 (ad 0, .inr (6, (fRT ad u).set 1 (.ref (aT ad v)))) = cW cy ad (sZ u 0 v) := rfl
theorem cS_RT_2 (cy : CY) (ad : Nat → Nat) (u : ST) (v : Nat) : (cW cy ad u).set 0 (ad 0, .inr (6, (fRT ad u).set 2 (.ref (aT ad v)))) = cW cy ad (sZ u 1 v) := rfl
theorem cS_TB_5 (cy : CY) (ad : Nat → Nat) (u : ST) (v : Int32) : ∀ t : Nat, t < 2 → (cW cy ad u).set (2 + t) (aT ad t, .inr (2, (fTB ad u t).set 5 (.int v))) = cW cy ad (sI u (10 + t) v)
  | 0, _ => rfl
  | 1, _ => rfl
  | t + 2, h => absurd h (by omega)
theorem cS_NM_1 (cy : CY) (ad : Nat → Nat) (u : ST) (v : Int32) : ∀ t : Nat, t < 4 → (cW cy ad u).set (4 + t) (aN ad t, .inr (1, (fNM ad u t).set 1 (.int v))) = cW cy ad (sI u (12 + t) v)
  | 0, _ => rfl
  | 1, _ => rfl
  | 2, _ => rfl
  | 3, _ => rfl
  | t + 4, h => absurd h (by omega)
theorem cS_L (cy : CY) (ad : Nat → Nat) (u : ST) (i : Nat) (v : Int64) : ∀ t : Nat, t < 5 → (cW cy ad u).set (11 + t) (aL ad t, .inl (cy.2.2.1, lenL t, .inr (.inl (vp_updL (gB u t) i v)))) = cW cy ad (sB u t i v)
  | 0, _ => rfl
  | 1, _ => rfl
  | 2, _ => rfl
  | 3, _ => rfl
  | 4, _ => rfl
  | t + 5, h => absurd h (by omega)
theorem cS_R (cy : CY) (ad : Nat → Nat) (u : ST) (i : Nat) (v : Int32) : ∀ t : Nat, t < 33 → (cW cy ad u).set (17 + t) (aR ad t, .inl (cy.2.1, lenR t, .inl (upd (gR u t) i v))) = cW cy ad (sR u t i v)
  | 0, _ => rfl
  | 1, _ => rfl
  | 2, _ => rfl
  | 3, _ => rfl
  | 4, _ => rfl
  | 5, _ => rfl
  | 6, _ => rfl
  | 7, _ => rfl
  | 8, _ => rfl
  | 9, _ => rfl
  | 10, _ => rfl
  | 11, _ => rfl
  | 12, _ => rfl
  | 13, _ => rfl
  | 14, _ => rfl
  | 15, _ => rfl
  | 16, _ => rfl
  | 17, _ => rfl
  | 18, _ => rfl
  | 19, _ => rfl
  | 20, _ => rfl
  | 21, _ => rfl
  | 22, _ => rfl
  | 23, _ => rfl
  | 24, _ => rfl
  | 25, _ => rfl
  | 26, _ => rfl
  | 27, _ => rfl
  | 28, _ => rfl
  | 29, _ => rfl
  | 30, _ => rfl
  | 31, _ => rfl
  | 32, _ => rfl
  | t + 33, h => absurd h (by omega)
/-! THE REFERENCE's WORLD: its object at am 0, the array of slot k at am k; ints gI u slot, rows gR u slot -/
abbrev fMD (am : Nat → Nat) (u : ST) : List Value := [.int (gI u 0), .ref (am 1), .int (gI u 2), .int (gI u 3), .int (gI u 4), .ref (am 5), .ref (am 6), .ref (am 7), .ref (am 8), .ref (am 9), .int (gI u 10), .int (gI u 11), .int (gI u 12), .int (gI u 13), .int (gI u 14), .int (gI u 15), .int (gI u 16), .int (gI u 17), .int (gI u 18), .int (gI u 19), .int (gI u 20), .int (gI u 21), .ref (am 22), .ref (am 23), .ref (am 24), .ref (am 25), .ref (am 26), .ref (am 27), .ref (am 28), .ref (am 29), .ref (am 30), .ref (am 31), .ref (am 32), .int (gI u 33)]
def mLen (k : Nat) : Nat := match k with
  | 1 => 8000
  | 5 => 1600
  | 6 => 160
  | 7 => 512
  | 8 => 512
  | 9 => 512
  | 22 => 1000
  | 23 => 1000
  | 24 => 1000
  | 25 => 1000
  | 26 => 1000
  | 27 => 1000
  | 28 => 40
  | 29 => 40
  | 30 => 40
  | 31 => 40
  | 32 => 3000
  | _ => 0
abbrev mPos (k : Nat) : Nat := match k with
  | 1 => 1
  | 5 => 2
  | 6 => 3
  | 7 => 4
  | 8 => 5
  | 9 => 6
  | 22 => 7
  | 23 => 8
  | 24 => 9
  | 25 => 10
  | 26 => 11
  | 27 => 12
  | 28 => 13
  | 29 => 14
  | 30 => 15
  | 31 => 16
  | 32 => 17
  | _ => 0
def mW (cy : CY) (am : Nat → Nat) (u : ST) : va_W := [(am 0, .inr (7, fMD am u)), (am 1, .inl (cy.1, 8000, .inl (gR u 1))), (am 5, .inl (cy.1, 1600, .inl (gR u 5))), (am 6, .inl (cy.2.1, 160, .inl (gR u 6))), (am 7, .inl (cy.2.1, 512, .inl (gR u 7))), (am 8, .inl (cy.2.1, 512, .inl (gR u 8))), (am 9, .inl (cy.2.1, 512, .inl (gR u 9))), (am 22, .inl (cy.2.1, 1000, .inl (gR u 22))), (am 23, .inl (cy.2.1, 1000, .inl (gR u 23))), (am 24, .inl (cy.2.1, 1000, .inl (gR u 24))), (am 25, .inl (cy.2.1, 1000, .inl (gR u 25))), (am 26, .inl (cy.2.1, 1000, .inl (gR u 26))), (am 27, .inl (cy.2.1, 1000, .inl (gR u 27))), (am 28, .inl (cy.2.1, 40, .inl (gR u 28))), (am 29, .inl (cy.2.1, 40, .inl (gR u 29))), (am 30, .inl (cy.2.1, 40, .inl (gR u 30))), (am 31, .inl (cy.2.1, 40, .inl (gR u 31))), (am 32, .inl (cy.2.1, 3000, .inl (gR u 32)))]
theorem mS_0 (cy : CY) (am : Nat → Nat) (u : ST) (v : Int32) : (mW cy am u).set 0 (am 0, .inr (7, (fMD am u).set 0 (.int v))) = mW cy am (sI u 0 v) := rfl
theorem mS_2 (cy : CY) (am : Nat → Nat) (u : ST) (v : Int32) : (mW cy am u).set 0 (am 0, .inr (7, (fMD am u).set 2 (.int v))) = mW cy am (sI u 2 v) := rfl
theorem mS_3 (cy : CY) (am : Nat → Nat) (u : ST) (v : Int32) : (mW cy am u).set 0 (am 0, .inr (7, (fMD am u).set 3 (.int v))) = mW cy am (sI u 3 v) := rfl
theorem mS_4 (cy : CY) (am : Nat → Nat) (u : ST) (v : Int32) : (mW cy am u).set 0 (am 0, .inr (7, (fMD am u).set 4 (.int v))) = mW cy am (sI u 4 v) := rfl
theorem mS_10 (cy : CY) (am : Nat → Nat) (u : ST) (v : Int32) : (mW cy am u).set 0 (am 0, .inr (7, (fMD am u).set 10 (.int v))) = mW cy am (sI u 10 v) := rfl
theorem mS_11 (cy : CY) (am : Nat → Nat) (u : ST) (v : Int32) : (mW cy am u).set 0 (am 0, .inr (7, (fMD am u).set 11 (.int v))) = mW cy am (sI u 11 v) := rfl
theorem mS_12 (cy : CY) (am : Nat → Nat) (u : ST) (v : Int32) : (mW cy am u).set 0 (am 0, .inr (7, (fMD am u).set 12 (.int v))) = mW cy am (sI u 12 v) := rfl
theorem mS_13 (cy : CY) (am : Nat → Nat) (u : ST) (v : Int32) : (mW cy am u).set 0 (am 0, .inr (7, (fMD am u).set 13 (.int v))) = mW cy am (sI u 13 v) := rfl
theorem mS_14 (cy : CY) (am : Nat → Nat) (u : ST) (v : Int32) : (mW cy am u).set 0 (am 0, .inr (7, (fMD am u).set 14 (.int v))) = mW cy am (sI u 14 v) := rfl
theorem mS_15 (cy : CY) (am : Nat → Nat) (u : ST) (v : Int32) : (mW cy am u).set 0 (am 0, .inr (7, (fMD am u).set 15 (.int v))) = mW cy am (sI u 15 v) := rfl
theorem mS_16 (cy : CY) (am : Nat → Nat) (u : ST) (v : Int32) : (mW cy am u).set 0 (am 0, .inr (7, (fMD am u).set 16 (.int v))) = mW cy am (sI u 16 v) := rfl
theorem mS_17 (cy : CY) (am : Nat → Nat) (u : ST) (v : Int32) : (mW cy am u).set 0 (am 0, .inr (7, (fMD am u).set 17 (.int v))) = mW cy am (sI u 17 v) := rfl
theorem mS_18 (cy : CY) (am : Nat → Nat) (u : ST) (v : Int32) : (mW cy am u).set 0 (am 0, .inr (7, (fMD am u).set 18 (.int v))) = mW cy am (sI u 18 v) := rfl
theorem mS_19 (cy : CY) (am : Nat → Nat) (u : ST) (v : Int32) : (mW cy am u).set 0 (am 0, .inr (7, (fMD am u).set 19 (.int v))) = mW cy am (sI u 19 v) := rfl
theorem mS_20 (cy : CY) (am : Nat → Nat) (u : ST) (v : Int32) : (mW cy am u).set 0 (am 0, .inr (7, (fMD am u).set 20 (.int v))) = mW cy am (sI u 20 v) := rfl
theorem mS_21 (cy : CY) (am : Nat → Nat) (u : ST) (v : Int32) : (mW cy am u).set 0 (am 0, .inr (7, (fMD am u).set 21 (.int v))) = mW cy am (sI u 21 v) := rfl
theorem mS_33 (cy : CY) (am : Nat → Nat) (u : ST) (v : Int32) : (mW cy am u).set 0 (am 0, .inr (7, (fMD am u).set 33 (.int v))) = mW cy am (sI u 33 v) := rfl
theorem mR_1 (cy : CY) (am : Nat → Nat) (u : ST) (i : Nat) (v : Int32) : (mW cy am u).set 1 (am 1, .inl (cy.1, 8000, .inl (upd (gR u 1) i v))) = mW cy am (sR u 1 i v) := rfl
theorem mR_5 (cy : CY) (am : Nat → Nat) (u : ST) (i : Nat) (v : Int32) : (mW cy am u).set 2 (am 5, .inl (cy.1, 1600, .inl (upd (gR u 5) i v))) = mW cy am (sR u 5 i v) := rfl
theorem mR_6 (cy : CY) (am : Nat → Nat) (u : ST) (i : Nat) (v : Int32) : (mW cy am u).set 3 (am 6, .inl (cy.2.1, 160, .inl (upd (gR u 6) i v))) = mW cy am (sR u 6 i v) := rfl
theorem mR_7 (cy : CY) (am : Nat → Nat) (u : ST) (i : Nat) (v : Int32) : (mW cy am u).set 4 (am 7, .inl (cy.2.1, 512, .inl (upd (gR u 7) i v))) = mW cy am (sR u 7 i v) := rfl
theorem mR_8 (cy : CY) (am : Nat → Nat) (u : ST) (i : Nat) (v : Int32) : (mW cy am u).set 5 (am 8, .inl (cy.2.1, 512, .inl (upd (gR u 8) i v))) = mW cy am (sR u 8 i v) := rfl
theorem mR_9 (cy : CY) (am : Nat → Nat) (u : ST) (i : Nat) (v : Int32) : (mW cy am u).set 6 (am 9, .inl (cy.2.1, 512, .inl (upd (gR u 9) i v))) = mW cy am (sR u 9 i v) := rfl
theorem mR_22 (cy : CY) (am : Nat → Nat) (u : ST) (i : Nat) (v : Int32) : (mW cy am u).set 7 (am 22, .inl (cy.2.1, 1000, .inl (upd (gR u 22) i v))) = mW cy am (sR u 22 i v) := rfl
theorem mR_23 (cy : CY) (am : Nat → Nat) (u : ST) (i : Nat) (v : Int32) : (mW cy am u).set 8 (am 23, .inl (cy.2.1, 1000, .inl (upd (gR u 23) i v))) = mW cy am (sR u 23 i v) := rfl
theorem mR_24 (cy : CY) (am : Nat → Nat) (u : ST) (i : Nat) (v : Int32) : (mW cy am u).set 9 (am 24, .inl (cy.2.1, 1000, .inl (upd (gR u 24) i v))) = mW cy am (sR u 24 i v) := rfl
theorem mR_25 (cy : CY) (am : Nat → Nat) (u : ST) (i : Nat) (v : Int32) : (mW cy am u).set 10 (am 25, .inl (cy.2.1, 1000, .inl (upd (gR u 25) i v))) = mW cy am (sR u 25 i v) := rfl
theorem mR_26 (cy : CY) (am : Nat → Nat) (u : ST) (i : Nat) (v : Int32) : (mW cy am u).set 11 (am 26, .inl (cy.2.1, 1000, .inl (upd (gR u 26) i v))) = mW cy am (sR u 26 i v) := rfl
theorem mR_27 (cy : CY) (am : Nat → Nat) (u : ST) (i : Nat) (v : Int32) : (mW cy am u).set 12 (am 27, .inl (cy.2.1, 1000, .inl (upd (gR u 27) i v))) = mW cy am (sR u 27 i v) := rfl
theorem mR_28 (cy : CY) (am : Nat → Nat) (u : ST) (i : Nat) (v : Int32) : (mW cy am u).set 13 (am 28, .inl (cy.2.1, 40, .inl (upd (gR u 28) i v))) = mW cy am (sR u 28 i v) := rfl
theorem mR_29 (cy : CY) (am : Nat → Nat) (u : ST) (i : Nat) (v : Int32) : (mW cy am u).set 14 (am 29, .inl (cy.2.1, 40, .inl (upd (gR u 29) i v))) = mW cy am (sR u 29 i v) := rfl
theorem mR_30 (cy : CY) (am : Nat → Nat) (u : ST) (i : Nat) (v : Int32) : (mW cy am u).set 15 (am 30, .inl (cy.2.1, 40, .inl (upd (gR u 30) i v))) = mW cy am (sR u 30 i v) := rfl
theorem mR_31 (cy : CY) (am : Nat → Nat) (u : ST) (i : Nat) (v : Int32) : (mW cy am u).set 16 (am 31, .inl (cy.2.1, 40, .inl (upd (gR u 31) i v))) = mW cy am (sR u 31 i v) := rfl
theorem mR_32 (cy : CY) (am : Nat → Nat) (u : ST) (i : Nat) (v : Int32) : (mW cy am u).set 17 (am 32, .inl (cy.2.1, 3000, .inl (upd (gR u 32) i v))) = mW cy am (sR u 32 i v) := rfl
end
section
/-! THE WORDS: those of the tables that stay good; every method's list is its own code, then all of them -/
def wB : List Cond := lw_tbl.filter goodWord
def wM (y : MethodName) (b : ByteArray) (n : Nat) (r : Option FieldType) : List Cond := .code y b n r :: wB
theorem wB_good : ∀ w ∈ wB, goodWord w = true := fun _ h => (List.mem_filter.mp h).2
theorem wB_of {w : Cond} (h : w ∈ lw_tbl) (g : goodWord w = true) : w ∈ wB := List.mem_filter.mpr ⟨h, g⟩
theorem wB_t (i : Nat) {w : Cond} (h : tables_1[i]? = some w) (g : goodWord w = true) : w ∈ wB := wB_of (List.mem_append_right _ (List.mem_of_getElem? h)) g
theorem wB_s (i : Nat) {w : Cond} (h : (k2_sels lw_privs)[i]? = some w) (g : goodWord w = true) : w ∈ wB := wB_of (List.mem_append_left _ (List.mem_of_getElem? h)) g
theorem gd_ws {ws : List Cond} (h : ∀ w ∈ ws, w ∈ wB) : GoodIn wB ws := fun w hw => ⟨h w hw, good_of_word (wB_good w (h w hw))⟩
theorem gd_M {y : MethodName} {b : ByteArray} {n : Nat} {r : Option FieldType} (h : Cond.code y b n r ∈ wB) : GoodIn wB (wM y b n r) := gd_ws (fun w hw => (List.mem_cons.mp hw).elim (fun e => e ▸ h) id)
theorem gd_V {own C : String} {idx : Nat} {y : MethodName} {b : ByteArray} {n : Nat} {r : Option FieldType} (h1 : Cond.methodLink own idx y ∈ wB) (h2 : Cond.instanceMethod y ∈ wB) (h3 : Cond.selects C y y ∈ wB) (h4 : Cond.initialized C ∈ wB) (h5 : Cond.code y b n r ∈ wB) : GoodIn wB (wsV own idx C y (wM y b n r)) := by
  refine gd_ws (fun w hw => ?_)
  rcases List.mem_append.mp hw with hw | hw
  · simp only [List.mem_cons, List.not_mem_nil, or_false] at hw
    rcases hw with rfl | rfl | rfl | rfl
    · exact h1
    · exact h2
    · exact h3
    · exact h4
  · exact (gd_M h5 w hw).1
theorem gd_S {own : String} {idx : Nat} {y : MethodName} {b : ByteArray} {n : Nat} {r : Option FieldType} (h1 : Cond.methodLink own idx y ∈ wB) (h2 : Cond.static y ∈ wB) (h4 : Cond.initialized y.cls ∈ wB) (h5 : Cond.code y b n r ∈ wB) : GoodIn wB (va_wsS own idx y (wM y b n r)) := by
  refine gd_ws (fun w hw => ?_)
  rcases List.mem_append.mp hw with hw | hw
  · simp only [List.mem_cons, List.not_mem_nil, or_false] at hw
    rcases hw with rfl | rfl | rfl
    · exact h1
    · exact h2
    · exact h4
  · exact (gd_M h5 w hw).1
/-! CONTRACTS over a world w of one state -/
abbrev kRm (n : Nat) : Room := { frames := n, cells := 0, slots := 0, locals := 40 * n }
def kPc (D : va_G) (w : ST → va_W) (cy : CY) (u : ST) (sz : Nat) (av : List Value) : Array Value → State → Prop := va_Pc av (fun U => U.heap.size = sz ∧ va_P D vwCl (w u) U.heap ∧ va_K D vwCl (tyS cy) U ∧ va_D (fun _ => True) (w u))
def kAt (D : va_G) (w : ST → va_W) (cy : CY) (A : Nat → Prop) (u : ST) (t : State) : Prop := va_P D vwCl (w u) t.heap ∧ va_K D vwCl (tyS cy) t ∧ va_D A (w u)
abbrev kQi (D : va_G) (w : ST → va_W) (cy : CY) (A : Nat → Prop) (Q : Int32 → ST → Prop) : Array Value → State → Outcome → State → Prop := va_Qi Q (kAt D w cy A) A
abbrev kQl (D : va_G) (w : ST → va_W) (cy : CY) (A : Nat → Prop) (Q : Int64 → ST → Prop) : Array Value → State → Outcome → State → Prop := va_Ql Q (kAt D w cy A) A
abbrev kQv (D : va_G) (w : ST → va_W) (cy : CY) (A : Nat → Prop) (Q : ST → Prop) : Array Value → State → Outcome → State → Prop := va_Qv Q (kAt D w cy A) A
theorem kBlind (D : va_G) (w : ST → va_W) (cy : CY) (u : ST) (sz : Nat) (av : List Value) : FrameBlind (kPc D w cy u sz av) := fun a U g mk q => by
  obtain ⟨q0, q1, qP, qK, qD⟩ := q
  exact ⟨q0, q1, qP, va_K.moved (u := U) (U := U.calling g mk a) (Vm.Alike.refl U.vm) qK, qD⟩
def kC (p : Program) (m : MethodId) (c : Code) (cc : ByteArray) (nL : Nat) (s : State) (args : Array Value) (own : String) (D : va_G) (cy : CY) (A : Nat → Prop) : Prop := CallFix p m c cc nL s args wB own ∧ va_K D vwCl (tyS cy) s ∧ ∀ q, s.heap.size ≤ q → A q
def kH (D : va_G) (w : ST → va_W) (A : Nat → Prop) (s : State) (u : ST) (H : Heap) (locs : List Loc) : Prop := va_P D vwCl (w u) H ∧ va_D A (w u) ∧ va_S A s.heap H locs
theorem vp_lt {i : Int32} {n : Nat} (h : vp_in i n) : i.toNatClampNeg < n := Nat.not_le.mp fun q => h (Or.inr q)
section KR
variable {p : Program} {l : Launch} {e : Env} {R : Room} {s : State} {m : MethodId} {args : Array Value} {below : List Frame} {meth : Method} {c : Code} {H : Heap} {locs : List Loc} {cells slots : Nat} {Q : State → Prop} {cc : ByteArray} {pc nL : Nat} {ls : Array Slot} {rest st0 : List Value} {D : va_G} {cy : CY} {A : Nat → Prop} {own : String} {w : ST → va_W} {u u1 : ST}
theorem kfree (h : kH D w A s u H locs) (hA : ∀ q, s.heap.size ≤ q → A q) : ∀ q, va_A (w u) H.size q → A q := by
  intro q hq
  rcases hq with ⟨k, e, hk⟩ | hq
  · exact h.2.1.2 k (q, e) hk
  · exact hA q (Nat.le_trans h.2.2.1 hq)
theorem kget (C : kC p m c cc nL s args own D cy A) (h : kH D w A s u H locs) (q0 : Nat) {a ci : Nat} {fs : List Value} (he : (w u)[q0]? = some (a, .inr (ci, fs))) {Cn : String} {T : u_T} {N : Nat} (hc : vwCl[ci]? = some (Cn, T, N)) (hin : ∀ x ∈ u_ws Cn T N, x ∈ wB) (k : Nat) (hk : k < N) {index : Nat} (hl : Cond.fieldLink own index (T k).1 (T k).2.1 (T k).2.2.1 ∈ wB) {v : Value} (hv : fs[k]? = some v) (hdg : decode cc pc = .ok (.getfield index, 3))
    (kk : W p l e R s m args below meth c H locs cells slots Q (F0 m (pc + 3) ls (v :: rest))) : W p l e R s m args below meth c H locs cells slots Q (F0 m pc ls (.ref a :: rest)) := by
  obtain ⟨⟨hx, hb, hml, hown, hts⟩, hK, hA⟩ := C
  exact va_get hx hb hts hin hown hK h.1 q0 he hc k hk (hts _ hl) (fun _ z => z) hv hdg kk
theorem kput (C : kC p m c cc nL s args own D cy A) (h : kH D w A s u H locs) (q0 : Nat) {a ci : Nat} {fs : List Value} (he : (w u)[q0]? = some (a, .inr (ci, fs))) {Cn : String} {T : u_T} {N : Nat} (hc : vwCl[ci]? = some (Cn, T, N)) (hin : ∀ x ∈ u_ws Cn T N, x ∈ wB) {ty0 : Nat → FieldType} (hty : ∀ k, k < N → parseFieldDescriptor (T k).2.2.1 = some (ty0 k)) (hnm : ∀ a, a < N → ∀ b, b < N → a ≠ b → (T a).2.1 ≠ (T b).2.1) (k : Nat) (hk : k < N) {index : Nat} (hl : Cond.fieldLink own index (T k).1 (T k).2.1 (T k).2.2.1 ∈ wB) (hfin : (T k).2.2.2 = false) {v : Value} (hn : narrow (ty0 k) v = v) (hfit : fits (ty0 k) v = true) (hlen : k < fs.length) (hset : (w u).set q0 (a, .inr (ci, fs.set k v)) = w u1) (hdg : decode cc pc = .ok (.putfield index, 3))
    (kk : ∀ (H1 : Heap) (locs1 : List Loc), kH D w A s u1 H1 locs1 → W p l e R s m args below meth c H1 locs1 cells slots Q (F0 m (pc + 3) ls rest)) : W p l e R s m args below meth c H locs cells slots Q (F0 m pc ls (v :: .ref a :: rest)) := by
  obtain ⟨⟨hx, hb, hml, hown, hts⟩, hK, hA⟩ := C
  refine va_put hx hb hts hin ty0 hty hnm hown hK h.1 h.2.1 h.2.2 q0 he hc k hk (hts _ hl) (fun _ z => z) hfin (hty k hk) hn hfit hlen hdg (fun H1 locs1 hP hD hS => ?_)
  rw [hset] at hP hD
  exact kk H1 locs1 ⟨hP, hD, hS⟩
theorem kiald (C : kC p m c cc nL s args own D cy A) (h : kH D w A s u H locs) (q0 : Nat) {a n : Nat} {f : Nat → Int32} (ha : (w u)[q0]? = some (a, .inl (cy.2.1, n, .inl f))) {i : Int32} (hin : vp_in i n) (hdg : decode cc pc = .ok (.iaload, 1))
    (kk : W p l e R s m args below meth c H locs cells slots Q (F0 m (pc + 1) ls (.int (f i.toNatClampNeg) :: rest))) : W p l e R s m args below meth c H locs cells slots Q (F0 m pc ls (.int i :: .ref a :: rest)) := by
  obtain ⟨⟨hx, hb, hml, hown, hts⟩, hK, hA⟩ := C
  exact va_iald hx hb hK h.1 q0 1 ha rfl hin hdg kk
theorem kbald (C : kC p m c cc nL s args own D cy A) (h : kH D w A s u H locs) (q0 : Nat) {a n : Nat} {f : Nat → Int32} (ha : (w u)[q0]? = some (a, .inl (cy.1, n, .inl f))) {i : Int32} (hin : vp_in i n) (hdg : decode cc pc = .ok (.baload, 1))
    (kk : W p l e R s m args below meth c H locs cells slots Q (F0 m (pc + 1) ls (.int (f i.toNatClampNeg) :: rest))) : W p l e R s m args below meth c H locs cells slots Q (F0 m pc ls (.int i :: .ref a :: rest)) := by
  obtain ⟨⟨hx, hb, hml, hown, hts⟩, hK, hA⟩ := C
  exact va_bald hx hb hK h.1 q0 0 ha rfl hin hdg kk
theorem klald (C : kC p m c cc nL s args own D cy A) (h : kH D w A s u H locs) (q0 : Nat) {a n : Nat} {f : Nat → Int64} (ha : (w u)[q0]? = some (a, .inl (cy.2.2.1, n, .inr (.inl f)))) {i : Int32} (hin : vp_in i n) (hdg : decode cc pc = .ok (.laload, 1))
    (kk : W p l e R s m args below meth c H locs cells slots Q (F0 m (pc + 1) ls (.long (f i.toNatClampNeg) :: rest))) : W p l e R s m args below meth c H locs cells slots Q (F0 m pc ls (.int i :: .ref a :: rest)) := by
  obtain ⟨⟨hx, hb, hml, hown, hts⟩, hK, hA⟩ := C
  exact va_lald hx hb hK h.1 q0 2 ha rfl hin hdg kk
theorem kaald (C : kC p m c cc nL s args own D cy A) (h : kH D w A s u H locs) (q0 : Nat) {a n : Nat} {f : Nat → Nat} (ha : (w u)[q0]? = some (a, .inl (cy.2.2.2, n, .inr (.inr (.inr (.inr (fun d => some (f d)))))))) {i : Int32} (hin : vp_in i n) (hdg : decode cc pc = .ok (.aaload, 1))
    (kk : W p l e R s m args below meth c H locs cells slots Q (F0 m (pc + 1) ls (.ref (f i.toNatClampNeg) :: rest))) : W p l e R s m args below meth c H locs cells slots Q (F0 m pc ls (.int i :: .ref a :: rest)) := by
  obtain ⟨⟨hx, hb, hml, hown, hts⟩, hK, hA⟩ := C
  have hlt : i.toNatClampNeg < n := vp_lt hin
  exact W.aald (v := .ref (f i.toNatClampNeg)) (ty := .array .int) hx hb (h.1 q0 _ ha) ((hK.2 3 _ rfl).1 n (fun j => va_rf (some (f j)))) rfl (fun q => by cases q) (by show ¬ (i < 0 ∨ (arrV _ _ _).slots.size ≤ _); rw [arrV_size]; exact hin) (by show (arrV _ _ _).slots[_]? = _; rw [arrV_read _ _ hlt]; rfl) rfl rfl hdg kk
theorem kiast (C : kC p m c cc nL s args own D cy A) (h : kH D w A s u H locs) (q0 : Nat) {a n : Nat} {f : Nat → Int32} (ha : (w u)[q0]? = some (a, .inl (cy.2.1, n, .inl f))) {i x : Int32} (hin : vp_in i n) (hset : (w u).set q0 (a, .inl (cy.2.1, n, .inl (upd f i.toNatClampNeg x))) = w u1) (hdg : decode cc pc = .ok (.iastore, 1))
    (kk : ∀ (H1 : Heap) (locs1 : List Loc), kH D w A s u1 H1 locs1 → W p l e R s m args below meth c H1 locs1 cells slots Q (F0 m (pc + 1) ls rest)) : W p l e R s m args below meth c H locs cells slots Q (F0 m pc ls (.int x :: .int i :: .ref a :: rest)) := by
  obtain ⟨⟨hx, hb, hml, hown, hts⟩, hK, hA⟩ := C
  refine va_iast hx hb hK h.1 h.2.1 h.2.2 q0 1 ha rfl hin hdg (fun H1 locs1 hP hD hS => ?_)
  rw [hset] at hP hD
  exact kk H1 locs1 ⟨hP, hD, hS⟩
theorem kbast (C : kC p m c cc nL s args own D cy A) (h : kH D w A s u H locs) (q0 : Nat) {a n : Nat} {f : Nat → Int32} (ha : (w u)[q0]? = some (a, .inl (cy.1, n, .inl f))) {i x : Int32} (hin : vp_in i n) (hset : (w u).set q0 (a, .inl (cy.1, n, .inl (upd f i.toNatClampNeg (x.toInt8.toInt32)))) = w u1) (hdg : decode cc pc = .ok (.bastore, 1))
    (kk : ∀ (H1 : Heap) (locs1 : List Loc), kH D w A s u1 H1 locs1 → W p l e R s m args below meth c H1 locs1 cells slots Q (F0 m (pc + 1) ls rest)) : W p l e R s m args below meth c H locs cells slots Q (F0 m pc ls (.int x :: .int i :: .ref a :: rest)) := by
  obtain ⟨⟨hx, hb, hml, hown, hts⟩, hK, hA⟩ := C
  refine va_bast hx hb hK h.1 h.2.1 h.2.2 q0 0 ha rfl hin hdg (fun H1 locs1 hP hD hS => ?_)
  rw [vp_nar_byte, hset] at hP hD
  exact kk H1 locs1 ⟨hP, hD, hS⟩
theorem klast (C : kC p m c cc nL s args own D cy A) (h : kH D w A s u H locs) (q0 : Nat) {a n : Nat} {f : Nat → Int64} (ha : (w u)[q0]? = some (a, .inl (cy.2.2.1, n, .inr (.inl f)))) {i : Int32} {x : Int64} (hin : vp_in i n) (hset : (w u).set q0 (a, .inl (cy.2.2.1, n, .inr (.inl (vp_updL f i.toNatClampNeg x)))) = w u1) (hdg : decode cc pc = .ok (.lastore, 1))
    (kk : ∀ (H1 : Heap) (locs1 : List Loc), kH D w A s u1 H1 locs1 → W p l e R s m args below meth c H1 locs1 cells slots Q (F0 m (pc + 1) ls rest)) : W p l e R s m args below meth c H locs cells slots Q (F0 m pc ls (.long x :: .int i :: .ref a :: rest)) := by
  obtain ⟨⟨hx, hb, hml, hown, hts⟩, hK, hA⟩ := C
  refine va_last hx hb hK h.1 h.2.1 h.2.2 q0 2 ha rfl hin hdg (fun H1 locs1 hP hD hS => ?_)
  rw [hset] at hP hD
  exact kk H1 locs1 ⟨hP, hD, hS⟩
theorem kalenI (C : kC p m c cc nL s args own D cy A) (h : kH D w A s u H locs) (q0 : Nat) {a n : Nat} {f : Nat → Int32} (ha : (w u)[q0]? = some (a, .inl (cy.2.1, n, .inl f))) (hdg : decode cc pc = .ok (.arraylength, 1))
    (kk : W p l e R s m args below meth c H locs cells slots Q (F0 m (pc + 1) ls (.int (nI n) :: rest))) : W p l e R s m args below meth c H locs cells slots Q (F0 m pc ls (.ref a :: rest)) := by
  obtain ⟨⟨hx, hb, hml, hown, hts⟩, hK, hA⟩ := C
  exact va_alen hx hb hK h.1 q0 1 ha rfl rfl hdg kk
theorem kalenL (C : kC p m c cc nL s args own D cy A) (h : kH D w A s u H locs) (q0 : Nat) {a n : Nat} {f : Nat → Int64} (ha : (w u)[q0]? = some (a, .inl (cy.2.2.1, n, .inr (.inl f)))) (hdg : decode cc pc = .ok (.arraylength, 1))
    (kk : W p l e R s m args below meth c H locs cells slots Q (F0 m (pc + 1) ls (.int (nI n) :: rest))) : W p l e R s m args below meth c H locs cells slots Q (F0 m pc ls (.ref a :: rest)) := by
  obtain ⟨⟨hx, hb, hml, hown, hts⟩, hK, hA⟩ := C
  exact va_alen hx hb hK h.1 q0 2 ha rfl rfl hdg kk
theorem kretI {Qf : Int32 → ST → Prop} {v : Int32} (C : kC p m c cc nL s args own D cy A) (hr : meth.sig.returnType = some .int) (hlocks : meth.locks = false) (h : kH D w A s u H locs) (hq : Qf v u) (hdg : decode cc pc = .ok (.ireturn, 1)) : W p l e R s m args below meth c H locs cells slots (MQ below (kQi D w cy A Qf) args s cells slots A) (F0 m pc ls [.int v]) := by
  obtain ⟨⟨hx, hb, hml, hown, hts⟩, hK, hA⟩ := C
  obtain ⟨hP, hD, hS⟩ := h
  exact W.iret (v := v) hx hb hr (fun t ht hW => ⟨⟨v, u, rfl, hq, by rw [ht]; exact hP, va_K.moved hW.alike hK, hD⟩, hS.F ht⟩) hS.2.2 hdg hlocks
theorem kretZ {Qf : Int32 → ST → Prop} {v : Int32} (C : kC p m c cc nL s args own D cy A) (hr : meth.sig.returnType = some .boolean) (hlocks : meth.locks = false) (h : kH D w A s u H locs) (hv : v = 0 ∨ v = 1) (hq : Qf v u) (hdg : decode cc pc = .ok (.ireturn, 1)) : W p l e R s m args below meth c H locs cells slots (MQ below (kQi D w cy A Qf) args s cells slots A) (F0 m pc ls [.int v]) := by
  obtain ⟨⟨hx, hb, hml, hown, hts⟩, hK, hA⟩ := C
  obtain ⟨hP, hD, hS⟩ := h
  exact W.zret (v := v) hx hb hr (by rcases hv with rfl | rfl <;> rfl) (fun t ht hW => ⟨⟨v, u, rfl, hq, by rw [ht]; exact hP, va_K.moved hW.alike hK, hD⟩, hS.F ht⟩) hS.2.2 hdg hlocks
theorem kretL {Qf : Int64 → ST → Prop} {v : Int64} (C : kC p m c cc nL s args own D cy A) (hr : meth.sig.returnType = some .long) (hlocks : meth.locks = false) (h : kH D w A s u H locs) (hq : Qf v u) (hdg : decode cc pc = .ok (.lreturn, 1)) : W p l e R s m args below meth c H locs cells slots (MQ below (kQl D w cy A Qf) args s cells slots A) (F0 m pc ls [.long v]) := by
  obtain ⟨⟨hx, hb, hml, hown, hts⟩, hK, hA⟩ := C
  obtain ⟨hP, hD, hS⟩ := h
  exact W.lret (v := v) hx hb hr (fun t ht hW => ⟨⟨v, u, rfl, hq, by rw [ht]; exact hP, va_K.moved hW.alike hK, hD⟩, hS.F ht⟩) hS.2.2 hdg hlocks
theorem kretV {Qf : ST → Prop} (C : kC p m c cc nL s args own D cy A) (hr : meth.sig.returnType = none) (hlocks : meth.locks = false) (h : kH D w A s u H locs) (hq : Qf u) (hdg : decode cc pc = .ok (.return_, 1)) : W p l e R s m args below meth c H locs cells slots (MQ below (kQv D w cy A Qf) args s cells slots A) (F0 m pc ls []) := by
  obtain ⟨⟨hx, hb, hml, hown, hts⟩, hK, hA⟩ := C
  obtain ⟨hP, hD, hS⟩ := h
  exact W.vret hx hb hr (fun t ht hW => ⟨⟨u, rfl, hq, by rw [ht]; exact hP, va_K.moved hW.alike hK, hD⟩, hS.F ht⟩) hS.2.2 hdg hlocks
/-- the tables of a callee's start -/
theorem kpre (C : kC p m c cc nL s args own D cy A) (h : kH D w A s u H locs) (av : List Value) : ∀ U : State, U.heap = H → s.WarmedH U.vm → kPc D w cy u H.size av av.toArray U := fun U hU hW => ⟨rfl, by rw [hU], by rw [hU]; exact h.1, va_K.moved hW.alike C.2.1, h.2.1.weaken (fun _ _ _ _ => trivial)⟩
theorem kafter {t : State} {H1 : Heap} {locs1 : List Loc} (C : kC p m c cc nL s args own D cy A) (h : kH D w A s u H locs) (ht : t.heap = H1) (hB : kAt D w cy (va_A (w u) H.size) u1 t) (hS : va_S A s.heap H1 locs1) : kH D w A s u1 H1 locs1 := by
  obtain ⟨hP1, hK1, hD1⟩ := hB
  rw [ht] at hP1
  exact ⟨hP1, hD1.weaken (fun k q _ hq => kfree h C.2.2 q.1 hq), hS⟩
variable {y : MethodName} {bytes : ByteArray} {maxL n index : Nat} {ret : Option FieldType} {ws : List Cond} {rm : Room} {Cn : String} {b : Addr} {As : List Value}
theorem kVi {Q1 : Int32 → ST → Prop} (C : kC p m c cc nL s args own D cy A) (h : kH D w A s u H locs) (cw : CallW R s args own Cn index y bytes maxL ret ws rm 0 0 n) (q0 : Nat) {ci : Nat} {qc : vw_C} {fs : List Value} (he : (w u)[q0]? = some (b, .inr (ci, fs))) (hc : vwCl[ci]? = some qc) (hqc : qc.1 = Cn) (hM : Met l y ws rm (kPc D w cy u H.size (.ref b :: As)) (kQi D w cy (va_A (w u) H.size) Q1) 0 0 (va_A (w u) H.size)) (hn : As.length = n) (hsz : ls.size = nL) (hst : st0 = As.reverse ++ .ref b :: rest) (hrs : (rest.map fun v => v.category).sum ≤ 8) (hf : cells ≤ R.cells ∧ slots ≤ R.slots) (hdg : decode cc pc = .ok (.invokevirtual index, 3))
    (kk : ∀ (r : Int32) (u1 : ST) (H1 : Heap) (locs1 : List Loc), Q1 r u1 → kH D w A s u1 H1 locs1 → W p l e R s m args below meth c H1 locs1 cells slots Q (F0 m (pc + 3) ls (.int r :: rest))) : W p l e R s m args below meth c H locs cells slots Q (F0 m pc ls st0) := by
  subst hqc
  refine va_calli (va_runV (As := As) (rest := rest) C.1 hM cw ⟨kBlind _ _ _ _ _ _, va_recv C.2.1 h.1 hc he, kpre C h _⟩ rfl hn hsz hst (lv_room (m := m) (pc := pc) (ls := ls) (rest := st0) hrs) hdg hf) h.2.2 (fun q _ hq => kfree h C.2.2 q hq) (kfree h C.2.2) (fun r u1 t H1 locs1 ht hvm hw hB hz1 hk1 hS => ?_)
  exact kk r u1 H1 locs1 hw (kafter C h ht hB hS)
theorem kVl {Q1 : Int64 → ST → Prop} (C : kC p m c cc nL s args own D cy A) (h : kH D w A s u H locs) (cw : CallW R s args own Cn index y bytes maxL ret ws rm 0 0 n) (q0 : Nat) {ci : Nat} {qc : vw_C} {fs : List Value} (he : (w u)[q0]? = some (b, .inr (ci, fs))) (hc : vwCl[ci]? = some qc) (hqc : qc.1 = Cn) (hM : Met l y ws rm (kPc D w cy u H.size (.ref b :: As)) (kQl D w cy (va_A (w u) H.size) Q1) 0 0 (va_A (w u) H.size)) (hn : As.length = n) (hsz : ls.size = nL) (hst : st0 = As.reverse ++ .ref b :: rest) (hrs : (rest.map fun v => v.category).sum ≤ 8) (hf : cells ≤ R.cells ∧ slots ≤ R.slots) (hdg : decode cc pc = .ok (.invokevirtual index, 3))
    (kk : ∀ (r : Int64) (u1 : ST) (H1 : Heap) (locs1 : List Loc), Q1 r u1 → kH D w A s u1 H1 locs1 → W p l e R s m args below meth c H1 locs1 cells slots Q (F0 m (pc + 3) ls (.long r :: rest))) : W p l e R s m args below meth c H locs cells slots Q (F0 m pc ls st0) := by
  subst hqc
  refine va_calll (va_runV (As := As) (rest := rest) C.1 hM cw ⟨kBlind _ _ _ _ _ _, va_recv C.2.1 h.1 hc he, kpre C h _⟩ rfl hn hsz hst (lv_room (m := m) (pc := pc) (ls := ls) (rest := st0) hrs) hdg hf) h.2.2 (fun q _ hq => kfree h C.2.2 q hq) (kfree h C.2.2) (fun r u1 t H1 locs1 ht hvm hw hB hz1 hk1 hS => ?_)
  exact kk r u1 H1 locs1 hw (kafter C h ht hB hS)
theorem kVv {Q1 : ST → Prop} (C : kC p m c cc nL s args own D cy A) (h : kH D w A s u H locs) (cw : CallW R s args own Cn index y bytes maxL ret ws rm 0 0 n) (q0 : Nat) {ci : Nat} {qc : vw_C} {fs : List Value} (he : (w u)[q0]? = some (b, .inr (ci, fs))) (hc : vwCl[ci]? = some qc) (hqc : qc.1 = Cn) (hM : Met l y ws rm (kPc D w cy u H.size (.ref b :: As)) (kQv D w cy (va_A (w u) H.size) Q1) 0 0 (va_A (w u) H.size)) (hn : As.length = n) (hsz : ls.size = nL) (hst : st0 = As.reverse ++ .ref b :: rest) (hrs : (rest.map fun v => v.category).sum ≤ 8) (hf : cells ≤ R.cells ∧ slots ≤ R.slots) (hdg : decode cc pc = .ok (.invokevirtual index, 3))
    (kk : ∀ (u1 : ST) (H1 : Heap) (locs1 : List Loc), Q1 u1 → kH D w A s u1 H1 locs1 → W p l e R s m args below meth c H1 locs1 cells slots Q (F0 m (pc + 3) ls rest)) : W p l e R s m args below meth c H locs cells slots Q (F0 m pc ls st0) := by
  subst hqc
  refine va_callv (va_runV (As := As) (rest := rest) C.1 hM cw ⟨kBlind _ _ _ _ _ _, va_recv C.2.1 h.1 hc he, kpre C h _⟩ rfl hn hsz hst (lv_room (m := m) (pc := pc) (ls := ls) (rest := st0) hrs) hdg hf) h.2.2 (fun q _ hq => kfree h C.2.2 q hq) (kfree h C.2.2) (fun u1 t H1 locs1 ht hvm hw hB hz1 hk1 hS => ?_)
  exact kk u1 H1 locs1 hw (kafter C h ht hB hS)
theorem kSi {Q1 : Int32 → ST → Prop} (C : kC p m c cc nL s args own D cy A) (h : kH D w A s u H locs) (cw : CallB R s args own index y bytes maxL ret ws rm 0 0 n ∧ (Cond.static y).before args s = true) (hM : Met l y ws rm (kPc D w cy u H.size As) (kQi D w cy (va_A (w u) H.size) Q1) 0 0 (va_A (w u) H.size)) (hn : As.length = n) (hsz : ls.size = nL) (hst : st0 = As.reverse ++ rest) (hrs : (rest.map fun v => v.category).sum ≤ 8) (hf : cells ≤ R.cells ∧ slots ≤ R.slots) (hdg : decode cc pc = .ok (.invokestatic index, 3))
    (kk : ∀ (r : Int32) (u1 : ST) (H1 : Heap) (locs1 : List Loc), Q1 r u1 → kH D w A s u1 H1 locs1 → W p l e R s m args below meth c H1 locs1 cells slots Q (F0 m (pc + 3) ls (.int r :: rest))) : W p l e R s m args below meth c H locs cells slots Q (F0 m pc ls st0) := by
  refine va_calli (va_runS (As := As) (rest := rest) C.1 hM cw ⟨kBlind _ _ _ _ _ _, kpre C h _⟩ rfl hn hsz hst (lv_room (m := m) (pc := pc) (ls := ls) (rest := st0) hrs) hdg hf) h.2.2 (fun q _ hq => kfree h C.2.2 q hq) (kfree h C.2.2) (fun r u1 t H1 locs1 ht hvm hw hB hz1 hk1 hS => ?_)
  exact kk r u1 H1 locs1 hw (kafter C h ht hB hS)
theorem kSv {Q1 : ST → Prop} (C : kC p m c cc nL s args own D cy A) (h : kH D w A s u H locs) (cw : CallB R s args own index y bytes maxL ret ws rm 0 0 n ∧ (Cond.static y).before args s = true) (hM : Met l y ws rm (kPc D w cy u H.size As) (kQv D w cy (va_A (w u) H.size) Q1) 0 0 (va_A (w u) H.size)) (hn : As.length = n) (hsz : ls.size = nL) (hst : st0 = As.reverse ++ rest) (hrs : (rest.map fun v => v.category).sum ≤ 8) (hf : cells ≤ R.cells ∧ slots ≤ R.slots) (hdg : decode cc pc = .ok (.invokestatic index, 3))
    (kk : ∀ (u1 : ST) (H1 : Heap) (locs1 : List Loc), Q1 u1 → kH D w A s u1 H1 locs1 → W p l e R s m args below meth c H1 locs1 cells slots Q (F0 m (pc + 3) ls rest)) : W p l e R s m args below meth c H locs cells slots Q (F0 m pc ls st0) := by
  refine va_callv (va_runS (As := As) (rest := rest) C.1 hM cw ⟨kBlind _ _ _ _ _ _, kpre C h _⟩ rfl hn hsz hst (lv_room (m := m) (pc := pc) (ls := ls) (rest := st0) hrs) hdg hf) h.2.2 (fun q _ hq => kfree h C.2.2 q hq) (kfree h C.2.2) (fun u1 t H1 locs1 ht hvm hw hB hz1 hk1 hS => ?_)
  exact kk u1 H1 locs1 hw (kafter C h ht hB hS)
end KR
/-- a method's contract out of the walk of its body -/
theorem kMet {l : Launch} {y : MethodName} {cc : ByteArray} {nL : Nat} {ret : Option FieldType} {rm : Room} {D : va_G} {w : ST → va_W} {cy : CY} {u : ST} {sz : Nat} {av : List Value} {Qc : Array Value → State → Outcome → State → Prop} {mc ms : Nat} (hy : plainName y.cls = true) (hlen : (lg_sl av).length ≤ nL)
    (body : ∀ (p : Program) (e : Env) (s : State) (m : MethodId) (below : List Frame) (meth : Method) (c : Code) (ls : Array Slot), s.heap.size = sz → kC p m c cc nL s av.toArray y.cls D cy (va_A (w u) sz) → meth.sig.returnType = ret → meth.locks = false → c.exceptionTable.isEmpty = true → kH D w (va_A (w u) sz) s u s.heap [] → lv_has ls nL (lv_args 0 av) → W p l e rm s m av.toArray below meth c s.heap [] 0 0 (MQ below Qc av.toArray s mc ms (va_A (w u) sz)) (F0 m 0 ls [])) : Met l y (wM y cc nL ret) rm (kPc D w cy u sz av) Qc mc ms (va_A (w u) sz) := by
  refine Met.ofW (cc := cc) (maxL := nL) (ret := ret) hy rfl ?_
  intro p e s m args below meth c s₁ B hml hv
  obtain ⟨rfl, hsz, hP, hK, hD0⟩ := hv
  have hts := atoms_spec (ws := wM y cc nL ret) B.pre
  have hown : s.vm.findClass y.cls = some m.cls := findClass_of_methodNamed B.named
  have hl := lv_entry av (n := nL) hlen
  rw [lg_entry_eq]
  refine body p e s m below meth c _ hsz ⟨⟨B.exec, B.bytes, hml, hown, fun w hw => hts w (List.mem_cons_of_mem _ hw)⟩, hK, fun q hq => Or.inr (by rw [← hsz]; exact hq)⟩ B.returns B.notSynchronized (B.noHandlers (hts _ List.mem_cons_self)) ⟨hP, hD0.self, va_S.rf⟩ hl
end
section
theorem wi_in_L : Cond.initialized RL ∈ wB := wB_t 0 (by decide +kernel) (by decide +kernel)
theorem wi_in_X6 : Cond.initialized RX6 ∈ wB := wB_t 1 (by decide +kernel) (by decide +kernel)
theorem wi_in_X3 : Cond.initialized RX3 ∈ wB := wB_t 2 (by decide +kernel) (by decide +kernel)
theorem wi_in_X2 : Cond.initialized RX2 ∈ wB := wB_t 3 (by decide +kernel) (by decide +kernel)
theorem wi_in_X1 : Cond.initialized RX1 ∈ wB := wB_t 4 (by decide +kernel) (by decide +kernel)
theorem wi_in_X5 : Cond.initialized RX5 ∈ wB := wB_t 5 (by decide +kernel) (by decide +kernel)
theorem wi_in_X4 : Cond.initialized RX4 ∈ wB := wB_t 6 (by decide +kernel) (by decide +kernel)
theorem wi_in_X0 : Cond.initialized RX0 ∈ wB := wB_t 7 (by decide +kernel) (by decide +kernel)
theorem wi_in_X7 : Cond.initialized RX7 ∈ wB := wB_t 8 (by decide +kernel) (by decide +kernel)
theorem wi_in_J9 : Cond.initialized RJ9 ∈ wB := wB_t 14 (by decide +kernel) (by decide +kernel)
theorem wi_in_J6 : Cond.initialized RJ6 ∈ wB := wB_t 15 (by decide +kernel) (by decide +kernel)
theorem wi_cl_L_8 : Cond.classLink RL 8 RX6 ∈ wB := wB_t 18 (by decide +kernel) (by decide +kernel)
theorem wi_it_X6 : Cond.instantiable RX6 11 ∈ wB := wB_t 19 (by decide +kernel) (by decide +kernel)
theorem wi_ml_L_60 : Cond.methodLink RL 60 yX6_init ∈ wB := wB_t 20 (by decide +kernel) (by decide +kernel)
theorem wi_im_X6_init : Cond.instanceMethod yX6_init ∈ wB := wB_t 21 (by decide +kernel) (by decide +kernel)
theorem wi_co_X6_init : Cond.code yX6_init cX6_init 1 none ∈ wB := wB_t 22 (by decide +kernel) (by decide +kernel)
theorem wi_ml_X6_3 : Cond.methodLink RX6 3 objectInit ∈ wB := wB_t 23 (by decide +kernel) (by decide +kernel)
theorem wi_im_bjectInit : Cond.instanceMethod objectInit ∈ wB := wB_t 24 (by decide +kernel) (by decide +kernel)
theorem wi_co_objectInit : Cond.code objectInit ⟨#[0xb1]⟩ 1 none ∈ wB := wB_t 25 (by decide +kernel) (by decide +kernel)
theorem wi_cl_X6_9 : Cond.classLink RX6 9 RX3 ∈ wB := wB_t 26 (by decide +kernel) (by decide +kernel)
theorem wi_it_X3 : Cond.instantiable RX3 7 ∈ wB := wB_t 27 (by decide +kernel) (by decide +kernel)
theorem wi_im_X3_init : Cond.instanceMethod yX3_init ∈ wB := wB_t 29 (by decide +kernel) (by decide +kernel)
theorem wi_co_X3_init : Cond.code yX3_init cX3_init 1 none ∈ wB := wB_t 30 (by decide +kernel) (by decide +kernel)
theorem wi_ml_X3_3 : Cond.methodLink RX3 3 objectInit ∈ wB := wB_t 31 (by decide +kernel) (by decide +kernel)
theorem wi_fl_X3_9 : Cond.fieldLink RX3 9 "RuleTables$Tape" "words" "[J" ∈ wB := wB_t 32 (by decide +kernel) (by decide +kernel)
theorem wi_fl_X3_15 : Cond.fieldLink RX3 15 "RuleTables$Tape" "length" "I" ∈ wB := wB_t 33 (by decide +kernel) (by decide +kernel)
theorem wi_fl_X6_54 : Cond.fieldLink RX6 54 "RuleTables$Tape" "length" "I" ∈ wB := wB_t 34 (by decide +kernel) (by decide +kernel)
theorem wi_fl_X3_23 : Cond.fieldLink RX3 23 "RuleTables$Tape" "at" "I" ∈ wB := wB_t 35 (by decide +kernel) (by decide +kernel)
theorem wi_fl_X3_66 : Cond.fieldLink RX3 66 "RuleTables$Tape" "nameFrom" "I" ∈ wB := wB_t 36 (by decide +kernel) (by decide +kernel)
theorem wi_fl_X3_69 : Cond.fieldLink RX3 69 "RuleTables$Tape" "name" "J" ∈ wB := wB_t 37 (by decide +kernel) (by decide +kernel)
theorem wi_fl_X3_26 : Cond.fieldLink RX3 26 "RuleTables$Tape" "fault" "I" ∈ wB := wB_t 38 (by decide +kernel) (by decide +kernel)
theorem wi_fl_X6_73 : Cond.fieldLink RX6 73 "RuleTables$Tape" "fault" "I" ∈ wB := wB_t 39 (by decide +kernel) (by decide +kernel)
theorem wi_fl_X6_79 : Cond.fieldLink RX6 79 "RuleTables$Tape" "faultPlace" "I" ∈ wB := wB_t 40 (by decide +kernel) (by decide +kernel)
theorem wi_fl_X3_51 : Cond.fieldLink RX3 51 "RuleTables$Tape" "faultPlace" "I" ∈ wB := wB_t 41 (by decide +kernel) (by decide +kernel)
theorem wi_cl_X6_16 : Cond.classLink RX6 16 RX2 ∈ wB := wB_t 58 (by decide +kernel) (by decide +kernel)
theorem wi_it_X2 : Cond.instantiable RX2 6 ∈ wB := wB_t 59 (by decide +kernel) (by decide +kernel)
theorem wi_im_X2_init : Cond.instanceMethod yX2_init ∈ wB := wB_t 61 (by decide +kernel) (by decide +kernel)
theorem wi_co_X2_init : Cond.code yX2_init cX2_init 1 none ∈ wB := wB_t 62 (by decide +kernel) (by decide +kernel)
theorem wi_ml_X2_3 : Cond.methodLink RX2 3 objectInit ∈ wB := wB_t 63 (by decide +kernel) (by decide +kernel)
theorem wi_cl_X2_9 : Cond.classLink RX2 9 RX1 ∈ wB := wB_t 64 (by decide +kernel) (by decide +kernel)
theorem wi_it_X1 : Cond.instantiable RX1 2 ∈ wB := wB_t 65 (by decide +kernel) (by decide +kernel)
theorem wi_ml_X2_11 : Cond.methodLink RX2 11 yX1_init ∈ wB := wB_t 66 (by decide +kernel) (by decide +kernel)
theorem wi_im_X1_init : Cond.instanceMethod yX1_init ∈ wB := wB_t 67 (by decide +kernel) (by decide +kernel)
theorem wi_co_X1_init : Cond.code yX1_init cX1_init 2 none ∈ wB := wB_t 68 (by decide +kernel) (by decide +kernel)
theorem wi_ml_X1_3 : Cond.methodLink RX1 3 objectInit ∈ wB := wB_t 69 (by decide +kernel) (by decide +kernel)
theorem wi_fl_X1_9 : Cond.fieldLink RX1 9 "RuleTables$Names" "names" "[J" ∈ wB := wB_t 70 (by decide +kernel) (by decide +kernel)
theorem wi_fl_X2_33 : Cond.fieldLink RX2 33 "RuleTables$Names" "size" "I" ∈ wB := wB_t 71 (by decide +kernel) (by decide +kernel)
theorem wi_fl_X1_15 : Cond.fieldLink RX1 15 "RuleTables$Names" "size" "I" ∈ wB := wB_t 72 (by decide +kernel) (by decide +kernel)
theorem wi_fl_X6_111 : Cond.fieldLink RX6 111 "RuleTables$Names" "size" "I" ∈ wB := wB_t 73 (by decide +kernel) (by decide +kernel)
theorem wi_fl_X3_100 : Cond.fieldLink RX3 100 "RuleTables$Names" "size" "I" ∈ wB := wB_t 74 (by decide +kernel) (by decide +kernel)
theorem wi_fl_X2_14 : Cond.fieldLink RX2 14 "RuleTables$Table" "conditions" "LRuleTables$Names;" ∈ wB := wB_t 80 (by decide +kernel) (by decide +kernel)
theorem wi_fl_X6_107 : Cond.fieldLink RX6 107 "RuleTables$Table" "conditions" "LRuleTables$Names;" ∈ wB := wB_t 81 (by decide +kernel) (by decide +kernel)
theorem wi_fl_X3_78 : Cond.fieldLink RX3 78 "RuleTables$Table" "conditions" "LRuleTables$Names;" ∈ wB := wB_t 82 (by decide +kernel) (by decide +kernel)
theorem wi_fl_X2_20 : Cond.fieldLink RX2 20 "RuleTables$Table" "actions" "LRuleTables$Names;" ∈ wB := wB_t 83 (by decide +kernel) (by decide +kernel)
theorem wi_fl_X6_119 : Cond.fieldLink RX6 119 "RuleTables$Table" "actions" "LRuleTables$Names;" ∈ wB := wB_t 84 (by decide +kernel) (by decide +kernel)
theorem wi_fl_X3_108 : Cond.fieldLink RX3 108 "RuleTables$Table" "actions" "LRuleTables$Names;" ∈ wB := wB_t 85 (by decide +kernel) (by decide +kernel)
theorem wi_fl_X2_23 : Cond.fieldLink RX2 23 "RuleTables$Table" "yes" "[I" ∈ wB := wB_t 86 (by decide +kernel) (by decide +kernel)
theorem wi_fl_X5_49 : Cond.fieldLink RX5 49 "RuleTables$Table" "yes" "[I" ∈ wB := wB_t 87 (by decide +kernel) (by decide +kernel)
theorem wi_fl_X6_233 : Cond.fieldLink RX6 233 "RuleTables$Table" "yes" "[I" ∈ wB := wB_t 88 (by decide +kernel) (by decide +kernel)
theorem wi_fl_X2_27 : Cond.fieldLink RX2 27 "RuleTables$Table" "no" "[I" ∈ wB := wB_t 89 (by decide +kernel) (by decide +kernel)
theorem wi_fl_X5_50 : Cond.fieldLink RX5 50 "RuleTables$Table" "no" "[I" ∈ wB := wB_t 90 (by decide +kernel) (by decide +kernel)
theorem wi_fl_X2_30 : Cond.fieldLink RX2 30 "RuleTables$Table" "action" "[I" ∈ wB := wB_t 91 (by decide +kernel) (by decide +kernel)
theorem wi_fl_X5_48 : Cond.fieldLink RX5 48 "RuleTables$Table" "action" "[I" ∈ wB := wB_t 92 (by decide +kernel) (by decide +kernel)
theorem wi_fl_X6_132 : Cond.fieldLink RX6 132 "RuleTables$Table" "action" "[I" ∈ wB := wB_t 93 (by decide +kernel) (by decide +kernel)
theorem wi_fl_X2_37 : Cond.fieldLink RX2 37 "RuleTables$Table" "rules" "I" ∈ wB := wB_t 94 (by decide +kernel) (by decide +kernel)
theorem wi_fl_X5_45 : Cond.fieldLink RX5 45 "RuleTables$Table" "rules" "I" ∈ wB := wB_t 95 (by decide +kernel) (by decide +kernel)
theorem wi_fl_X6_116 : Cond.fieldLink RX6 116 "RuleTables$Table" "rules" "I" ∈ wB := wB_t 96 (by decide +kernel) (by decide +kernel)
theorem wi_fl_X3_103 : Cond.fieldLink RX3 103 "RuleTables$Table" "rules" "I" ∈ wB := wB_t 97 (by decide +kernel) (by decide +kernel)
theorem wi_cl_X6_26 : Cond.classLink RX6 26 RX5 ∈ wB := wB_t 112 (by decide +kernel) (by decide +kernel)
theorem wi_it_X5 : Cond.instantiable RX5 8 ∈ wB := wB_t 113 (by decide +kernel) (by decide +kernel)
theorem wi_im_X5_init : Cond.instanceMethod yX5_init ∈ wB := wB_t 115 (by decide +kernel) (by decide +kernel)
theorem wi_co_X5_init : Cond.code yX5_init cX5_init 1 none ∈ wB := wB_t 116 (by decide +kernel) (by decide +kernel)
theorem wi_ml_X5_3 : Cond.methodLink RX5 3 objectInit ∈ wB := wB_t 117 (by decide +kernel) (by decide +kernel)
theorem wi_cl_X5_21 : Cond.classLink RX5 21 "[[I" ∈ wB := wB_t 118 (by decide +kernel) (by decide +kernel)
theorem wi_fl_X5_9 : Cond.fieldLink RX5 9 "RuleTables$Way" "yes" "[I" ∈ wB := wB_t 120 (by decide +kernel) (by decide +kernel)
theorem wi_fl_X5_15 : Cond.fieldLink RX5 15 "RuleTables$Way" "no" "[I" ∈ wB := wB_t 121 (by decide +kernel) (by decide +kernel)
theorem wi_fl_X5_18 : Cond.fieldLink RX5 18 "RuleTables$Way" "action" "[I" ∈ wB := wB_t 122 (by decide +kernel) (by decide +kernel)
theorem wi_fl_X5_41 : Cond.fieldLink RX5 41 "RuleTables$Way" "allOpen" "I" ∈ wB := wB_t 123 (by decide +kernel) (by decide +kernel)
theorem wi_fl_X4_36 : Cond.fieldLink RX4 36 "RuleTables$Way" "allOpen" "I" ∈ wB := wB_t 124 (by decide +kernel) (by decide +kernel)
theorem wi_fl_X5_23 : Cond.fieldLink RX5 23 "RuleTables$Way" "lists" "[[I" ∈ wB := wB_t 125 (by decide +kernel) (by decide +kernel)
theorem wi_fl_X5_26 : Cond.fieldLink RX5 26 "RuleTables$Way" "sizes" "[I" ∈ wB := wB_t 126 (by decide +kernel) (by decide +kernel)
theorem wi_fl_X5_29 : Cond.fieldLink RX5 29 "RuleTables$Way" "blanks" "[I" ∈ wB := wB_t 127 (by decide +kernel) (by decide +kernel)
theorem wi_fl_X5_32 : Cond.fieldLink RX5 32 "RuleTables$Way" "differences" "[I" ∈ wB := wB_t 128 (by decide +kernel) (by decide +kernel)
theorem wi_cl_X6_33 : Cond.classLink RX6 33 RX4 ∈ wB := wB_t 146 (by decide +kernel) (by decide +kernel)
theorem wi_it_X4 : Cond.instantiable RX4 7 ∈ wB := wB_t 147 (by decide +kernel) (by decide +kernel)
theorem wi_im_X4_init : Cond.instanceMethod yX4_init ∈ wB := wB_t 149 (by decide +kernel) (by decide +kernel)
theorem wi_co_X4_init : Cond.code yX4_init cX4_init 1 none ∈ wB := wB_t 150 (by decide +kernel) (by decide +kernel)
theorem wi_ml_X4_3 : Cond.methodLink RX4 3 objectInit ∈ wB := wB_t 151 (by decide +kernel) (by decide +kernel)
theorem wi_fl_X4_9 : Cond.fieldLink RX4 9 "RuleTables$Tree" "heads" "[I" ∈ wB := wB_t 152 (by decide +kernel) (by decide +kernel)
theorem wi_fl_X0_31 : Cond.fieldLink RX0 31 "RuleTables$Tree" "heads" "[I" ∈ wB := wB_t 153 (by decide +kernel) (by decide +kernel)
theorem wi_fl_X6_180 : Cond.fieldLink RX6 180 "RuleTables$Tree" "heads" "[I" ∈ wB := wB_t 154 (by decide +kernel) (by decide +kernel)
theorem wi_fl_X4_15 : Cond.fieldLink RX4 15 "RuleTables$Tree" "otherwise" "[I" ∈ wB := wB_t 155 (by decide +kernel) (by decide +kernel)
theorem wi_fl_X0_42 : Cond.fieldLink RX0 42 "RuleTables$Tree" "otherwise" "[I" ∈ wB := wB_t 156 (by decide +kernel) (by decide +kernel)
theorem wi_fl_X6_183 : Cond.fieldLink RX6 183 "RuleTables$Tree" "otherwise" "[I" ∈ wB := wB_t 157 (by decide +kernel) (by decide +kernel)
theorem wi_fl_X4_18 : Cond.fieldLink RX4 18 "RuleTables$Tree" "size" "I" ∈ wB := wB_t 158 (by decide +kernel) (by decide +kernel)
theorem wi_fl_X0_26 : Cond.fieldLink RX0 26 "RuleTables$Tree" "size" "I" ∈ wB := wB_t 159 (by decide +kernel) (by decide +kernel)
theorem wi_fl_X6_122 : Cond.fieldLink RX6 122 "RuleTables$Tree" "size" "I" ∈ wB := wB_t 160 (by decide +kernel) (by decide +kernel)
theorem wi_fl_X4_22 : Cond.fieldLink RX4 22 "RuleTables$Tree" "leaves" "I" ∈ wB := wB_t 161 (by decide +kernel) (by decide +kernel)
theorem wi_fl_X6_123 : Cond.fieldLink RX6 123 "RuleTables$Tree" "leaves" "I" ∈ wB := wB_t 162 (by decide +kernel) (by decide +kernel)
theorem wi_fl_X4_25 : Cond.fieldLink RX4 25 "RuleTables$Tree" "mostTests" "I" ∈ wB := wB_t 163 (by decide +kernel) (by decide +kernel)
theorem wi_fl_X6_127 : Cond.fieldLink RX6 127 "RuleTables$Tree" "mostTests" "I" ∈ wB := wB_t 164 (by decide +kernel) (by decide +kernel)
theorem wi_fl_X4_28 : Cond.fieldLink RX4 28 "RuleTables$Tree" "allTests" "J" ∈ wB := wB_t 165 (by decide +kernel) (by decide +kernel)
theorem wi_fl_X6_195 : Cond.fieldLink RX6 195 "RuleTables$Tree" "allTests" "J" ∈ wB := wB_t 166 (by decide +kernel) (by decide +kernel)
theorem wi_fl_X4_32 : Cond.fieldLink RX4 32 "RuleTables$Tree" "tooBig" "Z" ∈ wB := wB_t 167 (by decide +kernel) (by decide +kernel)
theorem wi_cl_X6_40 : Cond.classLink RX6 40 RX0 ∈ wB := wB_t 183 (by decide +kernel) (by decide +kernel)
theorem wi_it_X0 : Cond.instantiable RX0 3 ∈ wB := wB_t 184 (by decide +kernel) (by decide +kernel)
theorem wi_im_X0_init : Cond.instanceMethod yX0_init ∈ wB := wB_t 186 (by decide +kernel) (by decide +kernel)
theorem wi_co_X0_init : Cond.code yX0_init cX0_init 1 none ∈ wB := wB_t 187 (by decide +kernel) (by decide +kernel)
theorem wi_ml_X0_3 : Cond.methodLink RX0 3 objectInit ∈ wB := wB_t 188 (by decide +kernel) (by decide +kernel)
theorem wi_fl_X0_9 : Cond.fieldLink RX0 9 "RuleTables$Code" "bytes" "[I" ∈ wB := wB_t 189 (by decide +kernel) (by decide +kernel)
theorem wi_fl_X6_188 : Cond.fieldLink RX6 188 "RuleTables$Code" "bytes" "[I" ∈ wB := wB_t 190 (by decide +kernel) (by decide +kernel)
theorem wi_fl_X0_15 : Cond.fieldLink RX0 15 "RuleTables$Code" "places" "[I" ∈ wB := wB_t 191 (by decide +kernel) (by decide +kernel)
theorem wi_fl_X0_22 : Cond.fieldLink RX0 22 "RuleTables$Code" "length" "I" ∈ wB := wB_t 192 (by decide +kernel) (by decide +kernel)
theorem wi_fl_X6_126 : Cond.fieldLink RX6 126 "RuleTables$Code" "length" "I" ∈ wB := wB_t 193 (by decide +kernel) (by decide +kernel)
theorem wi_fl_X6_12 : Cond.fieldLink RX6 12 "RuleTables" "tape" "LRuleTables$Tape;" ∈ wB := wB_t 201 (by decide +kernel) (by decide +kernel)
theorem wi_fl_X6_19 : Cond.fieldLink RX6 19 "RuleTables" "table" "LRuleTables$Table;" ∈ wB := wB_t 202 (by decide +kernel) (by decide +kernel)
theorem wi_fl_X6_23 : Cond.fieldLink RX6 23 "RuleTables" "spare" "LRuleTables$Table;" ∈ wB := wB_t 203 (by decide +kernel) (by decide +kernel)
theorem wi_fl_X6_82 : Cond.fieldLink RX6 82 "RuleTables" "hasTable" "Z" ∈ wB := wB_t 204 (by decide +kernel) (by decide +kernel)
theorem wi_fl_X6_76 : Cond.fieldLink RX6 76 "RuleTables" "latestFault" "I" ∈ wB := wB_t 205 (by decide +kernel) (by decide +kernel)
theorem wi_fl_X6_93 : Cond.fieldLink RX6 93 "RuleTables" "firstAmiss" "I" ∈ wB := wB_t 206 (by decide +kernel) (by decide +kernel)
theorem wi_fl_X6_96 : Cond.fieldLink RX6 96 "RuleTables" "secondAmiss" "I" ∈ wB := wB_t 207 (by decide +kernel) (by decide +kernel)
theorem wi_fl_X6_99 : Cond.fieldLink RX6 99 "RuleTables" "caseAmiss" "I" ∈ wB := wB_t 208 (by decide +kernel) (by decide +kernel)
theorem wi_fl_X6_29 : Cond.fieldLink RX6 29 "RuleTables" "way" "LRuleTables$Way;" ∈ wB := wB_t 209 (by decide +kernel) (by decide +kernel)
theorem wi_fl_X6_36 : Cond.fieldLink RX6 36 "RuleTables" "tree" "LRuleTables$Tree;" ∈ wB := wB_t 210 (by decide +kernel) (by decide +kernel)
theorem wi_fl_X6_43 : Cond.fieldLink RX6 43 "RuleTables" "code" "LRuleTables$Code;" ∈ wB := wB_t 211 (by decide +kernel) (by decide +kernel)
theorem wi_ml_L_80 : Cond.methodLink RL 80 yX6_read ∈ wB := wB_t 235 (by decide +kernel) (by decide +kernel)
theorem wi_im_X6_read : Cond.instanceMethod yX6_read ∈ wB := wB_t 236 (by decide +kernel) (by decide +kernel)
theorem wi_se_X6_read : Cond.selects RX6 yX6_read yX6_read ∈ wB := wB_t 237 (by decide +kernel) (by decide +kernel)
theorem wi_co_X6_read : Cond.code yX6_read cX6_read 3 (some .int) ∈ wB := wB_t 238 (by decide +kernel) (by decide +kernel)
theorem wi_ml_X6_69 : Cond.methodLink RX6 69 yX3_parse ∈ wB := wB_t 239 (by decide +kernel) (by decide +kernel)
theorem wi_im_X3_parse : Cond.instanceMethod yX3_parse ∈ wB := wB_t 240 (by decide +kernel) (by decide +kernel)
theorem wi_se_X3_parse : Cond.selects RX3 yX3_parse yX3_parse ∈ wB := wB_t 241 (by decide +kernel) (by decide +kernel)
theorem wi_co_X3_parse : Cond.code yX3_parse cX3_parse 2 (some .boolean) ∈ wB := wB_t 242 (by decide +kernel) (by decide +kernel)
theorem wi_ml_X3_29 : Cond.methodLink RX3 29 yX2_clear ∈ wB := wB_t 243 (by decide +kernel) (by decide +kernel)
theorem wi_im_X2_clear : Cond.instanceMethod yX2_clear ∈ wB := wB_t 244 (by decide +kernel) (by decide +kernel)
theorem wi_se_X2_clear : Cond.selects RX2 yX2_clear yX2_clear ∈ wB := wB_t 245 (by decide +kernel) (by decide +kernel)
theorem wi_co_X2_clear : Cond.code yX2_clear cX2_clear 1 none ∈ wB := wB_t 246 (by decide +kernel) (by decide +kernel)
theorem wi_ml_X3_34 : Cond.methodLink RX3 34 yX3_passName ∈ wB := wB_t 247 (by decide +kernel) (by decide +kernel)
theorem wi_im_X3_passName : Cond.instanceMethod yX3_passName ∈ wB := wB_t 249 (by decide +kernel) (by decide +kernel)
theorem wi_co_X3_passName : Cond.code yX3_passName cX3_passName 2 (some .boolean) ∈ wB := wB_t 250 (by decide +kernel) (by decide +kernel)
theorem wi_ml_X3_58 : Cond.methodLink RX3 58 yX3_look ∈ wB := wB_t 251 (by decide +kernel) (by decide +kernel)
theorem wi_im_X3_look : Cond.instanceMethod yX3_look ∈ wB := wB_t 253 (by decide +kernel) (by decide +kernel)
theorem wi_co_X3_look : Cond.code yX3_look cX3_look 2 (some .int) ∈ wB := wB_t 254 (by decide +kernel) (by decide +kernel)
theorem wi_ml_X3_54 : Cond.methodLink RX3 54 yX3_byteAt ∈ wB := wB_t 255 (by decide +kernel) (by decide +kernel)
theorem wi_im_X3_byteAt : Cond.instanceMethod yX3_byteAt ∈ wB := wB_t 257 (by decide +kernel) (by decide +kernel)
theorem wi_co_X3_byteAt : Cond.code yX3_byteAt cX3_byteAt 2 (some .int) ∈ wB := wB_t 258 (by decide +kernel) (by decide +kernel)
theorem wi_ml_X3_62 : Cond.methodLink RX3 62 yX3_fail ∈ wB := wB_t 259 (by decide +kernel) (by decide +kernel)
theorem wi_im_X3_fail : Cond.instanceMethod yX3_fail ∈ wB := wB_t 261 (by decide +kernel) (by decide +kernel)
theorem wi_co_X3_fail : Cond.code yX3_fail cX3_fail 3 (some .boolean) ∈ wB := wB_t 262 (by decide +kernel) (by decide +kernel)
theorem wi_ml_X3_73 : Cond.methodLink RX3 73 yX1_letterOf ∈ wB := wB_t 263 (by decide +kernel) (by decide +kernel)
theorem wi_st_X1_letterOf : Cond.static yX1_letterOf ∈ wB := wB_t 264 (by decide +kernel) (by decide +kernel)
theorem wi_co_X1_letterOf : Cond.code yX1_letterOf cX1_letterOf 1 (some .int) ∈ wB := wB_t 265 (by decide +kernel) (by decide +kernel)
theorem wi_ld_X3_38 : Cond.constantLong RX3 38 393 ∈ wB := wB_t 266 (by decide +kernel) (by decide +kernel)
theorem wi_ml_X3_40 : Cond.methodLink RX3 40 yX3_isWord ∈ wB := wB_t 267 (by decide +kernel) (by decide +kernel)
theorem wi_im_X3_isWord : Cond.instanceMethod yX3_isWord ∈ wB := wB_t 269 (by decide +kernel) (by decide +kernel)
theorem wi_co_X3_isWord : Cond.code yX3_isWord cX3_isWord 3 (some .boolean) ∈ wB := wB_t 270 (by decide +kernel) (by decide +kernel)
theorem wi_ml_X3_44 : Cond.methodLink RX3 44 yX3_passConditions ∈ wB := wB_t 271 (by decide +kernel) (by decide +kernel)
theorem wi_im_X3_passConditions : Cond.instanceMethod yX3_passConditions ∈ wB := wB_t 273 (by decide +kernel) (by decide +kernel)
theorem wi_co_X3_passConditions : Cond.code yX3_passConditions cX3_passConditions 3 (some .boolean) ∈ wB := wB_t 274 (by decide +kernel) (by decide +kernel)
theorem wi_ml_X3_82 : Cond.methodLink RX3 82 yX3_passCondition ∈ wB := wB_t 275 (by decide +kernel) (by decide +kernel)
theorem wi_im_X3_passCondition : Cond.instanceMethod yX3_passCondition ∈ wB := wB_t 277 (by decide +kernel) (by decide +kernel)
theorem wi_co_X3_passCondition : Cond.code yX3_passCondition cX3_passCondition 2 (some .boolean) ∈ wB := wB_t 278 (by decide +kernel) (by decide +kernel)
theorem wi_ml_X3_90 : Cond.methodLink RX3 90 yX1_find ∈ wB := wB_t 279 (by decide +kernel) (by decide +kernel)
theorem wi_im_X1_find : Cond.instanceMethod yX1_find ∈ wB := wB_t 280 (by decide +kernel) (by decide +kernel)
theorem wi_se_X1_find : Cond.selects RX1 yX1_find yX1_find ∈ wB := wB_t 281 (by decide +kernel) (by decide +kernel)
theorem wi_co_X1_find : Cond.code yX1_find cX1_find 4 (some .int) ∈ wB := wB_t 282 (by decide +kernel) (by decide +kernel)
theorem wi_ml_X3_94 : Cond.methodLink RX3 94 yX1_add ∈ wB := wB_t 283 (by decide +kernel) (by decide +kernel)
theorem wi_im_X1_add : Cond.instanceMethod yX1_add ∈ wB := wB_t 284 (by decide +kernel) (by decide +kernel)
theorem wi_se_X1_add : Cond.selects RX1 yX1_add yX1_add ∈ wB := wB_t 285 (by decide +kernel) (by decide +kernel)
theorem wi_co_X1_add : Cond.code yX1_add cX1_add 3 (some .boolean) ∈ wB := wB_t 286 (by decide +kernel) (by decide +kernel)
theorem wi_ml_X3_86 : Cond.methodLink RX3 86 yX3_passByte ∈ wB := wB_t 287 (by decide +kernel) (by decide +kernel)
theorem wi_im_X3_passByte : Cond.instanceMethod yX3_passByte ∈ wB := wB_t 289 (by decide +kernel) (by decide +kernel)
theorem wi_co_X3_passByte : Cond.code yX3_passByte cX3_passByte 2 (some .boolean) ∈ wB := wB_t 290 (by decide +kernel) (by decide +kernel)
theorem wi_ml_X3_48 : Cond.methodLink RX3 48 yX3_passRules ∈ wB := wB_t 291 (by decide +kernel) (by decide +kernel)
theorem wi_im_X3_passRules : Cond.instanceMethod yX3_passRules ∈ wB := wB_t 293 (by decide +kernel) (by decide +kernel)
theorem wi_co_X3_passRules : Cond.code yX3_passRules cX3_passRules 3 (some .boolean) ∈ wB := wB_t 294 (by decide +kernel) (by decide +kernel)
theorem wi_ml_X3_97 : Cond.methodLink RX3 97 yX3_passRule ∈ wB := wB_t 295 (by decide +kernel) (by decide +kernel)
theorem wi_im_X3_passRule : Cond.instanceMethod yX3_passRule ∈ wB := wB_t 297 (by decide +kernel) (by decide +kernel)
theorem wi_co_X3_passRule : Cond.code yX3_passRule cX3_passRule 6 (some .boolean) ∈ wB := wB_t 298 (by decide +kernel) (by decide +kernel)
theorem wi_ld_X3_106 : Cond.constantLong RX3 106 964 ∈ wB := wB_t 299 (by decide +kernel) (by decide +kernel)
theorem wi_ml_X3_111 : Cond.methodLink RX3 111 yX3_passAction ∈ wB := wB_t 300 (by decide +kernel) (by decide +kernel)
theorem wi_im_X3_passAction : Cond.instanceMethod yX3_passAction ∈ wB := wB_t 302 (by decide +kernel) (by decide +kernel)
theorem wi_co_X3_passAction : Cond.code yX3_passAction cX3_passAction 2 (some .boolean) ∈ wB := wB_t 303 (by decide +kernel) (by decide +kernel)
theorem wi_ml_X3_114 : Cond.methodLink RX3 114 yX2_add ∈ wB := wB_t 304 (by decide +kernel) (by decide +kernel)
theorem wi_im_X2_add : Cond.instanceMethod yX2_add ∈ wB := wB_t 305 (by decide +kernel) (by decide +kernel)
theorem wi_se_X2_add : Cond.selects RX2 yX2_add yX2_add ∈ wB := wB_t 306 (by decide +kernel) (by decide +kernel)
theorem wi_co_X2_add : Cond.code yX2_add cX2_add 4 none ∈ wB := wB_t 307 (by decide +kernel) (by decide +kernel)
theorem wi_ml_X6_86 : Cond.methodLink RX6 86 yX6_judge ∈ wB := wB_t 308 (by decide +kernel) (by decide +kernel)
theorem wi_im_X6_judge : Cond.instanceMethod yX6_judge ∈ wB := wB_t 310 (by decide +kernel) (by decide +kernel)
theorem wi_co_X6_judge : Cond.code yX6_judge cX6_judge 2 (some .int) ∈ wB := wB_t 311 (by decide +kernel) (by decide +kernel)
theorem wi_ml_X6_208 : Cond.methodLink RX6 208 yX4_clear ∈ wB := wB_t 312 (by decide +kernel) (by decide +kernel)
theorem wi_im_X4_clear : Cond.instanceMethod yX4_clear ∈ wB := wB_t 313 (by decide +kernel) (by decide +kernel)
theorem wi_se_X4_clear : Cond.selects RX4 yX4_clear yX4_clear ∈ wB := wB_t 314 (by decide +kernel) (by decide +kernel)
theorem wi_co_X4_clear : Cond.code yX4_clear cX4_clear 1 none ∈ wB := wB_t 315 (by decide +kernel) (by decide +kernel)
theorem wi_ml_X6_211 : Cond.methodLink RX6 211 yX6_findAmiss ∈ wB := wB_t 316 (by decide +kernel) (by decide +kernel)
theorem wi_im_X6_findAmiss : Cond.instanceMethod yX6_findAmiss ∈ wB := wB_t 318 (by decide +kernel) (by decide +kernel)
theorem wi_co_X6_findAmiss : Cond.code yX6_findAmiss cX6_findAmiss 1 (some .int) ∈ wB := wB_t 319 (by decide +kernel) (by decide +kernel)
theorem wi_ml_X6_222 : Cond.methodLink RX6 222 yX6_findContradiction ∈ wB := wB_t 320 (by decide +kernel) (by decide +kernel)
theorem wi_im_X6_findContradiction : Cond.instanceMethod yX6_findContradiction ∈ wB := wB_t 322 (by decide +kernel) (by decide +kernel)
theorem wi_co_X6_findContradiction : Cond.code yX6_findContradiction cX6_findContradiction 3 (some .boolean) ∈ wB := wB_t 323 (by decide +kernel) (by decide +kernel)
theorem wi_ml_X6_229 : Cond.methodLink RX6 229 yX2_contradict ∈ wB := wB_t 324 (by decide +kernel) (by decide +kernel)
theorem wi_im_X2_contradict : Cond.instanceMethod yX2_contradict ∈ wB := wB_t 325 (by decide +kernel) (by decide +kernel)
theorem wi_se_X2_contradict : Cond.selects RX2 yX2_contradict yX2_contradict ∈ wB := wB_t 326 (by decide +kernel) (by decide +kernel)
theorem wi_co_X2_contradict : Cond.code yX2_contradict cX2_contradict 3 (some .boolean) ∈ wB := wB_t 327 (by decide +kernel) (by decide +kernel)
theorem wi_ml_X6_161 : Cond.methodLink RX6 161 yX5_start ∈ wB := wB_t 328 (by decide +kernel) (by decide +kernel)
theorem wi_im_X5_start : Cond.instanceMethod yX5_start ∈ wB := wB_t 329 (by decide +kernel) (by decide +kernel)
theorem wi_se_X5_start : Cond.selects RX5 yX5_start yX5_start ∈ wB := wB_t 330 (by decide +kernel) (by decide +kernel)
theorem wi_co_X5_start : Cond.code yX5_start cX5_start 5 none ∈ wB := wB_t 331 (by decide +kernel) (by decide +kernel)
theorem wi_ml_X5_35 : Cond.methodLink RX5 35 yX2_caseCount ∈ wB := wB_t 332 (by decide +kernel) (by decide +kernel)
theorem wi_im_X2_caseCount : Cond.instanceMethod yX2_caseCount ∈ wB := wB_t 333 (by decide +kernel) (by decide +kernel)
theorem wi_se_X2_caseCount : Cond.selects RX2 yX2_caseCount yX2_caseCount ∈ wB := wB_t 334 (by decide +kernel) (by decide +kernel)
theorem wi_co_X2_caseCount : Cond.code yX2_caseCount cX2_caseCount 1 (some .int) ∈ wB := wB_t 335 (by decide +kernel) (by decide +kernel)
theorem wi_ml_X6_226 : Cond.methodLink RX6 226 yX5_leastGap ∈ wB := wB_t 336 (by decide +kernel) (by decide +kernel)
theorem wi_im_X5_leastGap : Cond.instanceMethod yX5_leastGap ∈ wB := wB_t 337 (by decide +kernel) (by decide +kernel)
theorem wi_se_X5_leastGap : Cond.selects RX5 yX5_leastGap yX5_leastGap ∈ wB := wB_t 338 (by decide +kernel) (by decide +kernel)
theorem wi_co_X5_leastGap : Cond.code yX5_leastGap cX5_leastGap 1 (some .int) ∈ wB := wB_t 339 (by decide +kernel) (by decide +kernel)
theorem wi_ml_X5_52 : Cond.methodLink RX5 52 yX5_leastGapFrom ∈ wB := wB_t 340 (by decide +kernel) (by decide +kernel)
theorem wi_st_X5_leastGapFrom : Cond.static yX5_leastGapFrom ∈ wB := wB_t 341 (by decide +kernel) (by decide +kernel)
theorem wi_co_X5_leastGapFrom : Cond.code yX5_leastGapFrom cX5_leastGapFrom 6 (some .int) ∈ wB := wB_t 342 (by decide +kernel) (by decide +kernel)
theorem wi_ml_X5_56 : Cond.methodLink RX5 56 yX5_splittingBit ∈ wB := wB_t 343 (by decide +kernel) (by decide +kernel)
theorem wi_im_X5_splittingBit : Cond.instanceMethod yX5_splittingBit ∈ wB := wB_t 345 (by decide +kernel) (by decide +kernel)
theorem wi_co_X5_splittingBit : Cond.code yX5_splittingBit cX5_splittingBit 7 (some .int) ∈ wB := wB_t 346 (by decide +kernel) (by decide +kernel)
theorem wi_ld_X5_51 : Cond.constant RX5 51 32768 ∈ wB := wB_t 347 (by decide +kernel) (by decide +kernel)
theorem wi_ml_X5_60 : Cond.methodLink RX5 60 yX5_step ∈ wB := wB_t 348 (by decide +kernel) (by decide +kernel)
theorem wi_im_X5_step : Cond.instanceMethod yX5_step ∈ wB := wB_t 349 (by decide +kernel) (by decide +kernel)
theorem wi_se_X5_step : Cond.selects RX5 yX5_step yX5_step ∈ wB := wB_t 350 (by decide +kernel) (by decide +kernel)
theorem wi_co_X5_step : Cond.code yX5_step cX5_step 9 none ∈ wB := wB_t 351 (by decide +kernel) (by decide +kernel)
theorem wi_ml_X6_214 : Cond.methodLink RX6 214 yX4_build ∈ wB := wB_t 352 (by decide +kernel) (by decide +kernel)
theorem wi_im_X4_build : Cond.instanceMethod yX4_build ∈ wB := wB_t 353 (by decide +kernel) (by decide +kernel)
theorem wi_se_X4_build : Cond.selects RX4 yX4_build yX4_build ∈ wB := wB_t 354 (by decide +kernel) (by decide +kernel)
theorem wi_co_X4_build : Cond.code yX4_build cX4_build 2 none ∈ wB := wB_t 355 (by decide +kernel) (by decide +kernel)
theorem wi_ml_X4_41 : Cond.methodLink RX4 41 yX4_grow ∈ wB := wB_t 356 (by decide +kernel) (by decide +kernel)
theorem wi_st_X4_grow : Cond.static yX4_grow ∈ wB := wB_t 357 (by decide +kernel) (by decide +kernel)
theorem wi_co_X4_grow : Cond.code yX4_grow cX4_grow 8 none ∈ wB := wB_t 358 (by decide +kernel) (by decide +kernel)
theorem wi_ml_X4_48 : Cond.methodLink RX4 48 yX5_oneAction ∈ wB := wB_t 359 (by decide +kernel) (by decide +kernel)
theorem wi_im_X5_oneAction : Cond.instanceMethod yX5_oneAction ∈ wB := wB_t 360 (by decide +kernel) (by decide +kernel)
theorem wi_se_X5_oneAction : Cond.selects RX5 yX5_oneAction yX5_oneAction ∈ wB := wB_t 361 (by decide +kernel) (by decide +kernel)
theorem wi_co_X5_oneAction : Cond.code yX5_oneAction cX5_oneAction 4 (some .int) ∈ wB := wB_t 362 (by decide +kernel) (by decide +kernel)
theorem wi_ml_X4_52 : Cond.methodLink RX4 52 yX4_addLeaf ∈ wB := wB_t 363 (by decide +kernel) (by decide +kernel)
theorem wi_im_X4_addLeaf : Cond.instanceMethod yX4_addLeaf ∈ wB := wB_t 365 (by decide +kernel) (by decide +kernel)
theorem wi_co_X4_addLeaf : Cond.code yX4_addLeaf cX4_addLeaf 3 none ∈ wB := wB_t 366 (by decide +kernel) (by decide +kernel)
theorem wi_ml_X4_60 : Cond.methodLink RX4 60 yX4_addNode ∈ wB := wB_t 367 (by decide +kernel) (by decide +kernel)
theorem wi_im_X4_addNode : Cond.instanceMethod yX4_addNode ∈ wB := wB_t 369 (by decide +kernel) (by decide +kernel)
theorem wi_co_X4_addNode : Cond.code yX4_addNode cX4_addNode 2 none ∈ wB := wB_t 370 (by decide +kernel) (by decide +kernel)
theorem wi_ml_X4_73 : Cond.methodLink RX4 73 yJ9_max_7cf53 ∈ wB := wB_t 371 (by decide +kernel) (by decide +kernel)
theorem wi_st_J9_max_7cf53 : Cond.static yJ9_max_7cf53 ∈ wB := wB_t 372 (by decide +kernel) (by decide +kernel)
theorem wi_co_J9_max_7cf53 : Cond.code yJ9_max_7cf53 cJ9_max_7cf53 2 (some .int) ∈ wB := wB_t 373 (by decide +kernel) (by decide +kernel)
theorem wi_ml_X4_56 : Cond.methodLink RX4 56 yX5_choose ∈ wB := wB_t 374 (by decide +kernel) (by decide +kernel)
theorem wi_im_X5_choose : Cond.instanceMethod yX5_choose ∈ wB := wB_t 375 (by decide +kernel) (by decide +kernel)
theorem wi_se_X5_choose : Cond.selects RX5 yX5_choose yX5_choose ∈ wB := wB_t 376 (by decide +kernel) (by decide +kernel)
theorem wi_co_X5_choose : Cond.code yX5_choose cX5_choose 5 (some .int) ∈ wB := wB_t 377 (by decide +kernel) (by decide +kernel)
theorem wi_ml_X5_74 : Cond.methodLink RX5 74 yX5_weigh ∈ wB := wB_t 378 (by decide +kernel) (by decide +kernel)
theorem wi_im_X5_weigh : Cond.instanceMethod yX5_weigh ∈ wB := wB_t 380 (by decide +kernel) (by decide +kernel)
theorem wi_co_X5_weigh : Cond.code yX5_weigh cX5_weigh 5 none ∈ wB := wB_t 381 (by decide +kernel) (by decide +kernel)
theorem wi_ml_X5_68 : Cond.methodLink RX5 68 yJ6_bitCount_0f7a4 ∈ wB := wB_t 382 (by decide +kernel) (by decide +kernel)
theorem wi_st_J6_bitCount_0f7a4 : Cond.static yJ6_bitCount_0f7a4 ∈ wB := wB_t 383 (by decide +kernel) (by decide +kernel)
theorem wi_co_J6_bitCount_0f7a4 : Cond.code yJ6_bitCount_0f7a4 cJ6_bitCount_0f7a4 1 (some .int) ∈ wB := wB_t 384 (by decide +kernel) (by decide +kernel)
theorem wi_ld_J6_265 : Cond.constant RJ6 265 1431655765 ∈ wB := wB_t 385 (by decide +kernel) (by decide +kernel)
theorem wi_ld_J6_266 : Cond.constant RJ6 266 858993459 ∈ wB := wB_t 386 (by decide +kernel) (by decide +kernel)
theorem wi_ld_J6_267 : Cond.constant RJ6 267 252645135 ∈ wB := wB_t 387 (by decide +kernel) (by decide +kernel)
theorem wi_ml_X5_87 : Cond.methodLink RX5 87 yX5_addWeight ∈ wB := wB_t 388 (by decide +kernel) (by decide +kernel)
theorem wi_im_X5_addWeight : Cond.instanceMethod yX5_addWeight ∈ wB := wB_t 390 (by decide +kernel) (by decide +kernel)
theorem wi_co_X5_addWeight : Cond.code yX5_addWeight cX5_addWeight 5 none ∈ wB := wB_t 391 (by decide +kernel) (by decide +kernel)
theorem wi_ml_X5_78 : Cond.methodLink RX5 78 yX5_isBetter ∈ wB := wB_t 392 (by decide +kernel) (by decide +kernel)
theorem wi_im_X5_isBetter : Cond.instanceMethod yX5_isBetter ∈ wB := wB_t 394 (by decide +kernel) (by decide +kernel)
theorem wi_co_X5_isBetter : Cond.code yX5_isBetter cX5_isBetter 3 (some .boolean) ∈ wB := wB_t 395 (by decide +kernel) (by decide +kernel)
theorem wi_ml_X5_82 : Cond.methodLink RX5 82 yJ9_abs_0f7a4 ∈ wB := wB_t 396 (by decide +kernel) (by decide +kernel)
theorem wi_st_J9_abs_0f7a4 : Cond.static yJ9_abs_0f7a4 ∈ wB := wB_t 397 (by decide +kernel) (by decide +kernel)
theorem wi_co_J9_abs_0f7a4 : Cond.code yJ9_abs_0f7a4 cJ9_abs_0f7a4 1 (some .int) ∈ wB := wB_t 398 (by decide +kernel) (by decide +kernel)
theorem wi_ml_X4_64 : Cond.methodLink RX4 64 yJ6_bitCount_0f7a4 ∈ wB := wB_t 399 (by decide +kernel) (by decide +kernel)
theorem wi_ml_X4_69 : Cond.methodLink RX4 69 yX5_step ∈ wB := wB_t 400 (by decide +kernel) (by decide +kernel)
theorem wi_ml_X4_45 : Cond.methodLink RX4 45 yX4_clear ∈ wB := wB_t 401 (by decide +kernel) (by decide +kernel)
theorem wi_ml_X6_218 : Cond.methodLink RX6 218 yX0_write ∈ wB := wB_t 402 (by decide +kernel) (by decide +kernel)
theorem wi_im_X0_write : Cond.instanceMethod yX0_write ∈ wB := wB_t 403 (by decide +kernel) (by decide +kernel)
theorem wi_se_X0_write : Cond.selects RX0 yX0_write yX0_write ∈ wB := wB_t 404 (by decide +kernel) (by decide +kernel)
theorem wi_co_X0_write : Cond.code yX0_write cX0_write 4 none ∈ wB := wB_t 405 (by decide +kernel) (by decide +kernel)
theorem wi_ml_X0_18 : Cond.methodLink RX0 18 yX0_setPlaces ∈ wB := wB_t 406 (by decide +kernel) (by decide +kernel)
theorem wi_im_X0_setPlaces : Cond.instanceMethod yX0_setPlaces ∈ wB := wB_t 408 (by decide +kernel) (by decide +kernel)
theorem wi_co_X0_setPlaces : Cond.code yX0_setPlaces cX0_setPlaces 4 none ∈ wB := wB_t 409 (by decide +kernel) (by decide +kernel)
theorem wi_ml_X0_38 : Cond.methodLink RX0 38 yX4_isLeaf ∈ wB := wB_t 410 (by decide +kernel) (by decide +kernel)
theorem wi_im_X4_isLeaf : Cond.instanceMethod yX4_isLeaf ∈ wB := wB_t 411 (by decide +kernel) (by decide +kernel)
theorem wi_se_X4_isLeaf : Cond.selects RX4 yX4_isLeaf yX4_isLeaf ∈ wB := wB_t 412 (by decide +kernel) (by decide +kernel)
theorem wi_co_X4_isLeaf : Cond.code yX4_isLeaf cX4_isLeaf 2 (some .boolean) ∈ wB := wB_t 413 (by decide +kernel) (by decide +kernel)
theorem wi_ml_X0_34 : Cond.methodLink RX0 34 yX0_append ∈ wB := wB_t 414 (by decide +kernel) (by decide +kernel)
theorem wi_im_X0_append : Cond.instanceMethod yX0_append ∈ wB := wB_t 416 (by decide +kernel) (by decide +kernel)
theorem wi_co_X0_append : Cond.code yX0_append cX0_append 2 none ∈ wB := wB_t 417 (by decide +kernel) (by decide +kernel)
theorem wi_ml_L_84 : Cond.methodLink RL 84 yX6_fault ∈ wB := wB_t 418 (by decide +kernel) (by decide +kernel)
theorem wi_im_X6_fault : Cond.instanceMethod yX6_fault ∈ wB := wB_t 419 (by decide +kernel) (by decide +kernel)
theorem wi_se_X6_fault : Cond.selects RX6 yX6_fault yX6_fault ∈ wB := wB_t 420 (by decide +kernel) (by decide +kernel)
theorem wi_co_X6_fault : Cond.code yX6_fault cX6_fault 1 (some .int) ∈ wB := wB_t 421 (by decide +kernel) (by decide +kernel)
theorem wi_ml_L_66 : Cond.methodLink RL 66 yL_type ∈ wB := wB_t 422 (by decide +kernel) (by decide +kernel)
theorem wi_st_L_type : Cond.static yL_type ∈ wB := wB_t 423 (by decide +kernel) (by decide +kernel)
theorem wi_cw_L_type : Cond.codeWith yL_type cL_type 6 (some .int) [(0, 11, 14, 13), (0, 11, 18, 15)] ∈ wB := wB_t 424 (by decide +kernel) (by decide +kernel)
theorem wi_cl_L_13 : Cond.classLink RL 13 "java/lang/IllegalArgumentException" ∈ wB := wB_t 425 (by decide +kernel) (by decide +kernel)
theorem wi_cl_L_15 : Cond.classLink RL 15 "java/lang/UnsupportedOperationException" ∈ wB := wB_t 426 (by decide +kernel) (by decide +kernel)
theorem wi_ml_L_7 : Cond.methodLink RL 7 yX6_type ∈ wB := wB_t 427 (by decide +kernel) (by decide +kernel)
theorem wi_im_X6_type : Cond.instanceMethod yX6_type ∈ wB := wB_t 428 (by decide +kernel) (by decide +kernel)
theorem wi_se_X6_type : Cond.selects RX6 yX6_type yX6_type ∈ wB := wB_t 429 (by decide +kernel) (by decide +kernel)
theorem wi_co_X6_type : Cond.code yX6_type cX6_type 5 (some .int) ∈ wB := wB_t 430 (by decide +kernel) (by decide +kernel)
theorem wi_cl_X6_47 : Cond.classLink RX6 47 "java/lang/IllegalArgumentException" ∈ wB := wB_t 431 (by decide +kernel) (by decide +kernel)
theorem wi_cl_X6_58 : Cond.classLink RX6 58 "java/lang/UnsupportedOperationException" ∈ wB := wB_t 500 (by decide +kernel) (by decide +kernel)
theorem wi_ml_X6_63 : Cond.methodLink RX6 63 yX3_append ∈ wB := wB_t 516 (by decide +kernel) (by decide +kernel)
theorem wi_im_X3_append : Cond.instanceMethod yX3_append ∈ wB := wB_t 517 (by decide +kernel) (by decide +kernel)
theorem wi_se_X3_append : Cond.selects RX3 yX3_append yX3_append ∈ wB := wB_t 518 (by decide +kernel) (by decide +kernel)
theorem wi_co_X3_append : Cond.code yX3_append cX3_append 5 none ∈ wB := wB_t 519 (by decide +kernel) (by decide +kernel)
theorem wi_ld_X3_19 : Cond.constantLong RX3 19 255 ∈ wB := wB_t 520 (by decide +kernel) (by decide +kernel)
theorem wi_ld_X3_21 : Cond.constantLong RX3 21 (-1) ∈ wB := wB_t 521 (by decide +kernel) (by decide +kernel)
theorem wi_ml_L_76 : Cond.methodLink RL 76 yL_keep ∈ wB := wB_t 522 (by decide +kernel) (by decide +kernel)
theorem wi_st_L_keep : Cond.static yL_keep ∈ wB := wB_t 523 (by decide +kernel) (by decide +kernel)
theorem wi_cw_L_keep : Cond.codeWith yL_keep cL_keep 3 (some .int) [(0, 5, 8, 13)] ∈ wB := wB_t 524 (by decide +kernel) (by decide +kernel)
theorem wi_ml_L_17 : Cond.methodLink RL 17 yX6_keep ∈ wB := wB_t 525 (by decide +kernel) (by decide +kernel)
theorem wi_im_X6_keep : Cond.instanceMethod yX6_keep ∈ wB := wB_t 526 (by decide +kernel) (by decide +kernel)
theorem wi_se_X6_keep : Cond.selects RX6 yX6_keep yX6_keep ∈ wB := wB_t 527 (by decide +kernel) (by decide +kernel)
theorem wi_co_X6_keep : Cond.code yX6_keep cX6_keep 2 none ∈ wB := wB_t 528 (by decide +kernel) (by decide +kernel)
theorem wi_ml_L_88 : Cond.methodLink RL 88 yL_amiss ∈ wB := wB_t 530 (by decide +kernel) (by decide +kernel)
theorem wi_st_L_amiss : Cond.static yL_amiss ∈ wB := wB_t 531 (by decide +kernel) (by decide +kernel)
theorem wi_cw_L_amiss : Cond.codeWith yL_amiss cL_amiss 4 (some .int) [(0, 9, 12, 25), (0, 9, 15, 27)] ∈ wB := wB_t 532 (by decide +kernel) (by decide +kernel)
theorem wi_cl_L_25 : Cond.classLink RL 25 "java/lang/IllegalStateException" ∈ wB := wB_t 533 (by decide +kernel) (by decide +kernel)
theorem wi_cl_L_27 : Cond.classLink RL 27 "java/lang/IndexOutOfBoundsException" ∈ wB := wB_t 534 (by decide +kernel) (by decide +kernel)
theorem wi_ml_L_21 : Cond.methodLink RL 21 yX6_amiss ∈ wB := wB_t 535 (by decide +kernel) (by decide +kernel)
theorem wi_im_X6_amiss : Cond.instanceMethod yX6_amiss ∈ wB := wB_t 536 (by decide +kernel) (by decide +kernel)
theorem wi_se_X6_amiss : Cond.selects RX6 yX6_amiss yX6_amiss ∈ wB := wB_t 537 (by decide +kernel) (by decide +kernel)
theorem wi_co_X6_amiss : Cond.code yX6_amiss cX6_amiss 2 (some .int) ∈ wB := wB_t 538 (by decide +kernel) (by decide +kernel)
theorem wi_ml_X6_90 : Cond.methodLink RX6 90 yX6_needTable ∈ wB := wB_t 539 (by decide +kernel) (by decide +kernel)
theorem wi_im_X6_needTable : Cond.instanceMethod yX6_needTable ∈ wB := wB_t 541 (by decide +kernel) (by decide +kernel)
theorem wi_co_X6_needTable : Cond.code yX6_needTable cX6_needTable 1 none ∈ wB := wB_t 542 (by decide +kernel) (by decide +kernel)
theorem wi_cl_X6_199 : Cond.classLink RX6 199 "java/lang/IllegalStateException" ∈ wB := wB_t 543 (by decide +kernel) (by decide +kernel)
theorem wi_cl_X6_102 : Cond.classLink RX6 102 "java/lang/IndexOutOfBoundsException" ∈ wB := wB_t 559 (by decide +kernel) (by decide +kernel)
theorem wi_ml_L_92 : Cond.methodLink RL 92 yL_count ∈ wB := wB_t 575 (by decide +kernel) (by decide +kernel)
theorem wi_st_L_count : Cond.static yL_count ∈ wB := wB_t 576 (by decide +kernel) (by decide +kernel)
theorem wi_cw_L_count : Cond.codeWith yL_count cL_count 4 (some .int) [(0, 9, 12, 27)] ∈ wB := wB_t 577 (by decide +kernel) (by decide +kernel)
theorem wi_ml_L_29 : Cond.methodLink RL 29 yX6_count ∈ wB := wB_t 578 (by decide +kernel) (by decide +kernel)
theorem wi_im_X6_count : Cond.instanceMethod yX6_count ∈ wB := wB_t 579 (by decide +kernel) (by decide +kernel)
theorem wi_se_X6_count : Cond.selects RX6 yX6_count yX6_count ∈ wB := wB_t 580 (by decide +kernel) (by decide +kernel)
theorem wi_co_X6_count : Cond.code yX6_count cX6_count 2 (some .int) ∈ wB := wB_t 581 (by decide +kernel) (by decide +kernel)
theorem wi_ml_L_95 : Cond.methodLink RL 95 yL_rule ∈ wB := wB_t 582 (by decide +kernel) (by decide +kernel)
theorem wi_st_L_rule : Cond.static yL_rule ∈ wB := wB_t 583 (by decide +kernel) (by decide +kernel)
theorem wi_cw_L_rule : Cond.codeWith yL_rule cL_rule 5 (some .int) [(0, 10, 13, 27)] ∈ wB := wB_t 584 (by decide +kernel) (by decide +kernel)
theorem wi_ml_L_32 : Cond.methodLink RL 32 yX6_rule ∈ wB := wB_t 585 (by decide +kernel) (by decide +kernel)
theorem wi_im_X6_rule : Cond.instanceMethod yX6_rule ∈ wB := wB_t 586 (by decide +kernel) (by decide +kernel)
theorem wi_se_X6_rule : Cond.selects RX6 yX6_rule yX6_rule ∈ wB := wB_t 587 (by decide +kernel) (by decide +kernel)
theorem wi_co_X6_rule : Cond.code yX6_rule cX6_rule 3 (some .int) ∈ wB := wB_t 588 (by decide +kernel) (by decide +kernel)
theorem wi_ml_X6_138 : Cond.methodLink RX6 138 yX2_markOf ∈ wB := wB_t 591 (by decide +kernel) (by decide +kernel)
theorem wi_im_X2_markOf : Cond.instanceMethod yX2_markOf ∈ wB := wB_t 592 (by decide +kernel) (by decide +kernel)
theorem wi_se_X2_markOf : Cond.selects RX2 yX2_markOf yX2_markOf ∈ wB := wB_t 593 (by decide +kernel) (by decide +kernel)
theorem wi_co_X2_markOf : Cond.code yX2_markOf cX2_markOf 3 (some .int) ∈ wB := wB_t 594 (by decide +kernel) (by decide +kernel)
theorem wi_ml_L_99 : Cond.methodLink RL 99 yL_name ∈ wB := wB_t 595 (by decide +kernel) (by decide +kernel)
theorem wi_st_L_name : Cond.static yL_name ∈ wB := wB_t 596 (by decide +kernel) (by decide +kernel)
theorem wi_cw_L_name : Cond.codeWith yL_name cL_name 6 (some .int) [(0, 12, 15, 27)] ∈ wB := wB_t 597 (by decide +kernel) (by decide +kernel)
theorem wi_ml_L_36 : Cond.methodLink RL 36 yX6_name ∈ wB := wB_t 598 (by decide +kernel) (by decide +kernel)
theorem wi_im_X6_name : Cond.instanceMethod yX6_name ∈ wB := wB_t 599 (by decide +kernel) (by decide +kernel)
theorem wi_se_X6_name : Cond.selects RX6 yX6_name yX6_name ∈ wB := wB_t 600 (by decide +kernel) (by decide +kernel)
theorem wi_co_X6_name : Cond.code yX6_name cX6_name 6 (some .int) ∈ wB := wB_t 601 (by decide +kernel) (by decide +kernel)
theorem wi_ml_X6_144 : Cond.methodLink RX6 144 yX1_lengthOf ∈ wB := wB_t 603 (by decide +kernel) (by decide +kernel)
theorem wi_im_X1_lengthOf : Cond.instanceMethod yX1_lengthOf ∈ wB := wB_t 604 (by decide +kernel) (by decide +kernel)
theorem wi_se_X1_lengthOf : Cond.selects RX1 yX1_lengthOf yX1_lengthOf ∈ wB := wB_t 605 (by decide +kernel) (by decide +kernel)
theorem wi_co_X1_lengthOf : Cond.code yX1_lengthOf cX1_lengthOf 3 (some .int) ∈ wB := wB_t 606 (by decide +kernel) (by decide +kernel)
theorem wi_ml_X1_19 : Cond.methodLink RX1 19 yX1_letterAt ∈ wB := wB_t 607 (by decide +kernel) (by decide +kernel)
theorem wi_im_X1_letterAt : Cond.instanceMethod yX1_letterAt ∈ wB := wB_t 609 (by decide +kernel) (by decide +kernel)
theorem wi_co_X1_letterAt : Cond.code yX1_letterAt cX1_letterAt 3 (some .int) ∈ wB := wB_t 610 (by decide +kernel) (by decide +kernel)
theorem wi_ml_X6_150 : Cond.methodLink RX6 150 yX1_byteOf ∈ wB := wB_t 612 (by decide +kernel) (by decide +kernel)
theorem wi_im_X1_byteOf : Cond.instanceMethod yX1_byteOf ∈ wB := wB_t 613 (by decide +kernel) (by decide +kernel)
theorem wi_se_X1_byteOf : Cond.selects RX1 yX1_byteOf yX1_byteOf ∈ wB := wB_t 614 (by decide +kernel) (by decide +kernel)
theorem wi_co_X1_byteOf : Cond.code yX1_byteOf cX1_byteOf 4 (some .int) ∈ wB := wB_t 615 (by decide +kernel) (by decide +kernel)
theorem wi_ml_L_103 : Cond.methodLink RL 103 yL_meets ∈ wB := wB_t 616 (by decide +kernel) (by decide +kernel)
theorem wi_st_L_meets : Cond.static yL_meets ∈ wB := wB_t 617 (by decide +kernel) (by decide +kernel)
theorem wi_cw_L_meets : Cond.codeWith yL_meets cL_meets 4 (some .int) [(0, 9, 12, 25), (0, 9, 15, 27)] ∈ wB := wB_t 618 (by decide +kernel) (by decide +kernel)
theorem wi_ml_L_40 : Cond.methodLink RL 40 yX6_meets ∈ wB := wB_t 619 (by decide +kernel) (by decide +kernel)
theorem wi_im_X6_meets : Cond.instanceMethod yX6_meets ∈ wB := wB_t 620 (by decide +kernel) (by decide +kernel)
theorem wi_se_X6_meets : Cond.selects RX6 yX6_meets yX6_meets ∈ wB := wB_t 621 (by decide +kernel) (by decide +kernel)
theorem wi_co_X6_meets : Cond.code yX6_meets cX6_meets 2 (some .int) ∈ wB := wB_t 622 (by decide +kernel) (by decide +kernel)
theorem wi_ml_X6_153 : Cond.methodLink RX6 153 yX6_needCase ∈ wB := wB_t 623 (by decide +kernel) (by decide +kernel)
theorem wi_im_X6_needCase : Cond.instanceMethod yX6_needCase ∈ wB := wB_t 625 (by decide +kernel) (by decide +kernel)
theorem wi_co_X6_needCase : Cond.code yX6_needCase cX6_needCase 2 none ∈ wB := wB_t 626 (by decide +kernel) (by decide +kernel)
theorem wi_ml_X6_168 : Cond.methodLink RX6 168 yX2_caseCount ∈ wB := wB_t 627 (by decide +kernel) (by decide +kernel)
theorem wi_ml_X6_156 : Cond.methodLink RX6 156 yX2_firstThatMeets ∈ wB := wB_t 629 (by decide +kernel) (by decide +kernel)
theorem wi_im_X2_firstThatMeets : Cond.instanceMethod yX2_firstThatMeets ∈ wB := wB_t 630 (by decide +kernel) (by decide +kernel)
theorem wi_se_X2_firstThatMeets : Cond.selects RX2 yX2_firstThatMeets yX2_firstThatMeets ∈ wB := wB_t 631 (by decide +kernel) (by decide +kernel)
theorem wi_co_X2_firstThatMeets : Cond.code yX2_firstThatMeets cX2_firstThatMeets 3 (some .int) ∈ wB := wB_t 632 (by decide +kernel) (by decide +kernel)
theorem wi_ml_L_106 : Cond.methodLink RL 106 yL_cases ∈ wB := wB_t 633 (by decide +kernel) (by decide +kernel)
theorem wi_st_L_cases : Cond.static yL_cases ∈ wB := wB_t 634 (by decide +kernel) (by decide +kernel)
theorem wi_cw_L_cases : Cond.codeWith yL_cases cL_cases 4 (some .int) [(0, 9, 12, 25), (0, 9, 15, 27)] ∈ wB := wB_t 635 (by decide +kernel) (by decide +kernel)
theorem wi_ml_L_43 : Cond.methodLink RL 43 yX6_cases ∈ wB := wB_t 636 (by decide +kernel) (by decide +kernel)
theorem wi_im_X6_cases : Cond.instanceMethod yX6_cases ∈ wB := wB_t 637 (by decide +kernel) (by decide +kernel)
theorem wi_se_X6_cases : Cond.selects RX6 yX6_cases yX6_cases ∈ wB := wB_t 638 (by decide +kernel) (by decide +kernel)
theorem wi_co_X6_cases : Cond.code yX6_cases cX6_cases 3 (some .int) ∈ wB := wB_t 639 (by decide +kernel) (by decide +kernel)
theorem wi_ml_X6_165 : Cond.methodLink RX6 165 yX5_casesMet ∈ wB := wB_t 641 (by decide +kernel) (by decide +kernel)
theorem wi_im_X5_casesMet : Cond.instanceMethod yX5_casesMet ∈ wB := wB_t 642 (by decide +kernel) (by decide +kernel)
theorem wi_se_X5_casesMet : Cond.selects RX5 yX5_casesMet yX5_casesMet ∈ wB := wB_t 643 (by decide +kernel) (by decide +kernel)
theorem wi_co_X5_casesMet : Cond.code yX5_casesMet cX5_casesMet 1 (some .int) ∈ wB := wB_t 644 (by decide +kernel) (by decide +kernel)
theorem wi_ml_X5_64 : Cond.methodLink RX5 64 yX5_casesMetFrom ∈ wB := wB_t 645 (by decide +kernel) (by decide +kernel)
theorem wi_st_X5_casesMetFrom : Cond.static yX5_casesMetFrom ∈ wB := wB_t 646 (by decide +kernel) (by decide +kernel)
theorem wi_co_X5_casesMetFrom : Cond.code yX5_casesMetFrom cX5_casesMetFrom 5 (some .int) ∈ wB := wB_t 647 (by decide +kernel) (by decide +kernel)
theorem wi_ml_L_109 : Cond.methodLink RL 109 yL_node ∈ wB := wB_t 648 (by decide +kernel) (by decide +kernel)
theorem wi_st_L_node : Cond.static yL_node ∈ wB := wB_t 649 (by decide +kernel) (by decide +kernel)
theorem wi_cw_L_node : Cond.codeWith yL_node cL_node 5 (some .int) [(0, 10, 13, 25), (0, 10, 17, 27)] ∈ wB := wB_t 650 (by decide +kernel) (by decide +kernel)
theorem wi_ml_L_46 : Cond.methodLink RL 46 yX6_node ∈ wB := wB_t 651 (by decide +kernel) (by decide +kernel)
theorem wi_im_X6_node : Cond.instanceMethod yX6_node ∈ wB := wB_t 652 (by decide +kernel) (by decide +kernel)
theorem wi_se_X6_node : Cond.selects RX6 yX6_node yX6_node ∈ wB := wB_t 653 (by decide +kernel) (by decide +kernel)
theorem wi_co_X6_node : Cond.code yX6_node cX6_node 3 (some .int) ∈ wB := wB_t 654 (by decide +kernel) (by decide +kernel)
theorem wi_ml_X6_171 : Cond.methodLink RX6 171 yX6_needTree ∈ wB := wB_t 655 (by decide +kernel) (by decide +kernel)
theorem wi_im_X6_needTree : Cond.instanceMethod yX6_needTree ∈ wB := wB_t 657 (by decide +kernel) (by decide +kernel)
theorem wi_co_X6_needTree : Cond.code yX6_needTree cX6_needTree 1 none ∈ wB := wB_t 658 (by decide +kernel) (by decide +kernel)
theorem wi_ml_X6_176 : Cond.methodLink RX6 176 yX4_isLeaf ∈ wB := wB_t 661 (by decide +kernel) (by decide +kernel)
theorem wi_ml_L_112 : Cond.methodLink RL 112 yL_code ∈ wB := wB_t 662 (by decide +kernel) (by decide +kernel)
theorem wi_st_L_code : Cond.static yL_code ∈ wB := wB_t 663 (by decide +kernel) (by decide +kernel)
theorem wi_cw_L_code : Cond.codeWith yL_code cL_code 4 (some .int) [(0, 9, 12, 25), (0, 9, 15, 27)] ∈ wB := wB_t 664 (by decide +kernel) (by decide +kernel)
theorem wi_ml_L_49 : Cond.methodLink RL 49 yX6_code ∈ wB := wB_t 665 (by decide +kernel) (by decide +kernel)
theorem wi_im_X6_code : Cond.instanceMethod yX6_code ∈ wB := wB_t 666 (by decide +kernel) (by decide +kernel)
theorem wi_se_X6_code : Cond.selects RX6 yX6_code yX6_code ∈ wB := wB_t 667 (by decide +kernel) (by decide +kernel)
theorem wi_co_X6_code : Cond.code yX6_code cX6_code 2 (some .int) ∈ wB := wB_t 668 (by decide +kernel) (by decide +kernel)
theorem wi_ml_L_115 : Cond.methodLink RL 115 yL_run ∈ wB := wB_t 670 (by decide +kernel) (by decide +kernel)
theorem wi_st_L_run : Cond.static yL_run ∈ wB := wB_t 671 (by decide +kernel) (by decide +kernel)
theorem wi_cw_L_run : Cond.codeWith yL_run cL_run 5 (some .int) [(0, 10, 13, 25), (0, 10, 17, 27)] ∈ wB := wB_t 672 (by decide +kernel) (by decide +kernel)
theorem wi_ml_L_52 : Cond.methodLink RL 52 yX6_run ∈ wB := wB_t 673 (by decide +kernel) (by decide +kernel)
theorem wi_im_X6_run : Cond.instanceMethod yX6_run ∈ wB := wB_t 674 (by decide +kernel) (by decide +kernel)
theorem wi_se_X6_run : Cond.selects RX6 yX6_run yX6_run ∈ wB := wB_t 675 (by decide +kernel) (by decide +kernel)
theorem wi_co_X6_run : Cond.code yX6_run cX6_run 3 (some .int) ∈ wB := wB_t 676 (by decide +kernel) (by decide +kernel)
theorem wi_ml_X6_191 : Cond.methodLink RX6 191 yX0_follow ∈ wB := wB_t 677 (by decide +kernel) (by decide +kernel)
theorem wi_im_X0_follow : Cond.instanceMethod yX0_follow ∈ wB := wB_t 678 (by decide +kernel) (by decide +kernel)
theorem wi_se_X0_follow : Cond.selects RX0 yX0_follow yX0_follow ∈ wB := wB_t 679 (by decide +kernel) (by decide +kernel)
theorem wi_co_X0_follow : Cond.code yX0_follow cX0_follow 6 (some .int) ∈ wB := wB_t 680 (by decide +kernel) (by decide +kernel)
theorem wi_ml_L_119 : Cond.methodLink RL 119 yL_tests ∈ wB := wB_t 681 (by decide +kernel) (by decide +kernel)
theorem wi_st_L_tests : Cond.static yL_tests ∈ wB := wB_t 682 (by decide +kernel) (by decide +kernel)
theorem wi_cw_L_tests : Cond.codeWith yL_tests cL_tests 3 (some .int) [(0, 7, 10, 25)] ∈ wB := wB_t 683 (by decide +kernel) (by decide +kernel)
theorem wi_ml_L_56 : Cond.methodLink RL 56 yX6_tests ∈ wB := wB_t 684 (by decide +kernel) (by decide +kernel)
theorem wi_im_X6_tests : Cond.instanceMethod yX6_tests ∈ wB := wB_t 685 (by decide +kernel) (by decide +kernel)
theorem wi_se_X6_tests : Cond.selects RX6 yX6_tests yX6_tests ∈ wB := wB_t 686 (by decide +kernel) (by decide +kernel)
theorem wi_co_X6_tests : Cond.code yX6_tests cX6_tests 1 (some .long) ∈ wB := wB_t 687 (by decide +kernel) (by decide +kernel)
theorem wi_cl_L_61 : Cond.classLink RL 61 RX7 ∈ wB := wB_t 688 (by decide +kernel) (by decide +kernel)
theorem wi_it_X7 : Cond.instantiable RX7 34 ∈ wB := wB_t 689 (by decide +kernel) (by decide +kernel)
theorem wi_ml_L_63 : Cond.methodLink RL 63 yX7_init ∈ wB := wB_t 690 (by decide +kernel) (by decide +kernel)
theorem wi_im_X7_init : Cond.instanceMethod yX7_init ∈ wB := wB_t 691 (by decide +kernel) (by decide +kernel)
theorem wi_co_X7_init : Cond.code yX7_init cX7_init 1 none ∈ wB := wB_t 692 (by decide +kernel) (by decide +kernel)
theorem wi_ml_X7_1 : Cond.methodLink RX7 1 objectInit ∈ wB := wB_t 693 (by decide +kernel) (by decide +kernel)
theorem wi_fl_X7_62 : Cond.fieldLink RX7 62 "RuleTablesModel" "thrown" "I" ∈ wB := wB_t 694 (by decide +kernel) (by decide +kernel)
theorem wi_fl_X7_7 : Cond.fieldLink RX7 7 "RuleTablesModel" "tape" "[B" ∈ wB := wB_t 695 (by decide +kernel) (by decide +kernel)
theorem wi_fl_X7_66 : Cond.fieldLink RX7 66 "RuleTablesModel" "size" "I" ∈ wB := wB_t 696 (by decide +kernel) (by decide +kernel)
theorem wi_fl_X7_69 : Cond.fieldLink RX7 69 "RuleTablesModel" "at" "I" ∈ wB := wB_t 697 (by decide +kernel) (by decide +kernel)
theorem wi_fl_X7_72 : Cond.fieldLink RX7 72 "RuleTablesModel" "fault" "I" ∈ wB := wB_t 698 (by decide +kernel) (by decide +kernel)
theorem wi_fl_X7_13 : Cond.fieldLink RX7 13 "RuleTablesModel" "names" "[B" ∈ wB := wB_t 699 (by decide +kernel) (by decide +kernel)
theorem wi_fl_X7_16 : Cond.fieldLink RX7 16 "RuleTablesModel" "sizes" "[I" ∈ wB := wB_t 700 (by decide +kernel) (by decide +kernel)
theorem wi_fl_X7_20 : Cond.fieldLink RX7 20 "RuleTablesModel" "yes" "[I" ∈ wB := wB_t 701 (by decide +kernel) (by decide +kernel)
theorem wi_fl_X7_23 : Cond.fieldLink RX7 23 "RuleTablesModel" "no" "[I" ∈ wB := wB_t 702 (by decide +kernel) (by decide +kernel)
theorem wi_fl_X7_26 : Cond.fieldLink RX7 26 "RuleTablesModel" "does" "[I" ∈ wB := wB_t 703 (by decide +kernel) (by decide +kernel)
theorem wi_fl_X7_125 : Cond.fieldLink RX7 125 "RuleTablesModel" "isTable" "Z" ∈ wB := wB_t 704 (by decide +kernel) (by decide +kernel)
theorem wi_fl_X7_116 : Cond.fieldLink RX7 116 "RuleTablesModel" "conditions" "I" ∈ wB := wB_t 705 (by decide +kernel) (by decide +kernel)
theorem wi_fl_X7_119 : Cond.fieldLink RX7 119 "RuleTablesModel" "rules" "I" ∈ wB := wB_t 706 (by decide +kernel) (by decide +kernel)
theorem wi_fl_X7_122 : Cond.fieldLink RX7 122 "RuleTablesModel" "actions" "I" ∈ wB := wB_t 707 (by decide +kernel) (by decide +kernel)
theorem wi_fl_X7_93 : Cond.fieldLink RX7 93 "RuleTablesModel" "newConditions" "I" ∈ wB := wB_t 708 (by decide +kernel) (by decide +kernel)
theorem wi_fl_X7_103 : Cond.fieldLink RX7 103 "RuleTablesModel" "newRules" "I" ∈ wB := wB_t 709 (by decide +kernel) (by decide +kernel)
theorem wi_fl_X7_109 : Cond.fieldLink RX7 109 "RuleTablesModel" "newActions" "I" ∈ wB := wB_t 710 (by decide +kernel) (by decide +kernel)
theorem wi_fl_X7_145 : Cond.fieldLink RX7 145 "RuleTablesModel" "first" "I" ∈ wB := wB_t 711 (by decide +kernel) (by decide +kernel)
theorem wi_fl_X7_148 : Cond.fieldLink RX7 148 "RuleTablesModel" "second" "I" ∈ wB := wB_t 712 (by decide +kernel) (by decide +kernel)
theorem wi_fl_X7_151 : Cond.fieldLink RX7 151 "RuleTablesModel" "amissCase" "I" ∈ wB := wB_t 713 (by decide +kernel) (by decide +kernel)
theorem wi_fl_X7_154 : Cond.fieldLink RX7 154 "RuleTablesModel" "isTree" "Z" ∈ wB := wB_t 714 (by decide +kernel) (by decide +kernel)
theorem wi_fl_X7_157 : Cond.fieldLink RX7 157 "RuleTablesModel" "nodes" "I" ∈ wB := wB_t 715 (by decide +kernel) (by decide +kernel)
theorem wi_fl_X7_29 : Cond.fieldLink RX7 29 "RuleTablesModel" "asks" "[I" ∈ wB := wB_t 716 (by decide +kernel) (by decide +kernel)
theorem wi_fl_X7_32 : Cond.fieldLink RX7 32 "RuleTablesModel" "thens" "[I" ∈ wB := wB_t 717 (by decide +kernel) (by decide +kernel)
theorem wi_fl_X7_35 : Cond.fieldLink RX7 35 "RuleTablesModel" "elses" "[I" ∈ wB := wB_t 718 (by decide +kernel) (by decide +kernel)
theorem wi_fl_X7_38 : Cond.fieldLink RX7 38 "RuleTablesModel" "acts" "[I" ∈ wB := wB_t 719 (by decide +kernel) (by decide +kernel)
theorem wi_fl_X7_41 : Cond.fieldLink RX7 41 "RuleTablesModel" "depths" "[I" ∈ wB := wB_t 720 (by decide +kernel) (by decide +kernel)
theorem wi_fl_X7_44 : Cond.fieldLink RX7 44 "RuleTablesModel" "places" "[I" ∈ wB := wB_t 721 (by decide +kernel) (by decide +kernel)
theorem wi_fl_X7_47 : Cond.fieldLink RX7 47 "RuleTablesModel" "holdsAt" "[I" ∈ wB := wB_t 722 (by decide +kernel) (by decide +kernel)
theorem wi_fl_X7_50 : Cond.fieldLink RX7 50 "RuleTablesModel" "failsAt" "[I" ∈ wB := wB_t 723 (by decide +kernel) (by decide +kernel)
theorem wi_fl_X7_53 : Cond.fieldLink RX7 53 "RuleTablesModel" "parentAt" "[I" ∈ wB := wB_t 724 (by decide +kernel) (by decide +kernel)
theorem wi_fl_X7_56 : Cond.fieldLink RX7 56 "RuleTablesModel" "depthAt" "[I" ∈ wB := wB_t 725 (by decide +kernel) (by decide +kernel)
theorem wi_fl_X7_59 : Cond.fieldLink RX7 59 "RuleTablesModel" "code" "[I" ∈ wB := wB_t 726 (by decide +kernel) (by decide +kernel)
theorem wi_fl_X7_160 : Cond.fieldLink RX7 160 "RuleTablesModel" "codeSize" "I" ∈ wB := wB_t 727 (by decide +kernel) (by decide +kernel)
theorem wi_ml_L_72 : Cond.methodLink RL 72 yX7_thrown ∈ wB := wB_t 797 (by decide +kernel) (by decide +kernel)
theorem wi_im_X7_thrown : Cond.instanceMethod yX7_thrown ∈ wB := wB_t 798 (by decide +kernel) (by decide +kernel)
theorem wi_se_X7_thrown : Cond.selects RX7 yX7_thrown yX7_thrown ∈ wB := wB_t 799 (by decide +kernel) (by decide +kernel)
theorem wi_co_X7_thrown : Cond.code yX7_thrown cX7_thrown 1 (some .int) ∈ wB := wB_t 800 (by decide +kernel) (by decide +kernel)
theorem wi_ml_L_71 : Cond.methodLink RL 71 yX7_type ∈ wB := wB_t 801 (by decide +kernel) (by decide +kernel)
theorem wi_im_X7_type : Cond.instanceMethod yX7_type ∈ wB := wB_t 802 (by decide +kernel) (by decide +kernel)
theorem wi_se_X7_type : Cond.selects RX7 yX7_type yX7_type ∈ wB := wB_t 803 (by decide +kernel) (by decide +kernel)
theorem wi_co_X7_type : Cond.code yX7_type cX7_type 5 (some .int) ∈ wB := wB_t 804 (by decide +kernel) (by decide +kernel)
theorem wi_ml_L_79 : Cond.methodLink RL 79 yX7_keep ∈ wB := wB_t 805 (by decide +kernel) (by decide +kernel)
theorem wi_im_X7_keep : Cond.instanceMethod yX7_keep ∈ wB := wB_t 806 (by decide +kernel) (by decide +kernel)
theorem wi_se_X7_keep : Cond.selects RX7 yX7_keep yX7_keep ∈ wB := wB_t 807 (by decide +kernel) (by decide +kernel)
theorem wi_co_X7_keep : Cond.code yX7_keep cX7_keep 2 none ∈ wB := wB_t 808 (by decide +kernel) (by decide +kernel)
theorem wi_ml_L_83 : Cond.methodLink RL 83 yX7_read ∈ wB := wB_t 809 (by decide +kernel) (by decide +kernel)
theorem wi_im_X7_read : Cond.instanceMethod yX7_read ∈ wB := wB_t 810 (by decide +kernel) (by decide +kernel)
theorem wi_se_X7_read : Cond.selects RX7 yX7_read yX7_read ∈ wB := wB_t 811 (by decide +kernel) (by decide +kernel)
theorem wi_co_X7_read : Cond.code yX7_read cX7_read 1 (some .int) ∈ wB := wB_t 812 (by decide +kernel) (by decide +kernel)
theorem wi_ml_X7_106 : Cond.methodLink RX7 106 yX7_word ∈ wB := wB_t 813 (by decide +kernel) (by decide +kernel)
theorem wi_im_X7_word : Cond.instanceMethod yX7_word ∈ wB := wB_t 815 (by decide +kernel) (by decide +kernel)
theorem wi_co_X7_word : Cond.code yX7_word cX7_word 4 none ∈ wB := wB_t 816 (by decide +kernel) (by decide +kernel)
theorem wi_ml_X7_90 : Cond.methodLink RX7 90 yX7_nameEnd ∈ wB := wB_t 817 (by decide +kernel) (by decide +kernel)
theorem wi_im_X7_nameEnd : Cond.instanceMethod yX7_nameEnd ∈ wB := wB_t 819 (by decide +kernel) (by decide +kernel)
theorem wi_co_X7_nameEnd : Cond.code yX7_nameEnd cX7_nameEnd 3 (some .int) ∈ wB := wB_t 820 (by decide +kernel) (by decide +kernel)
theorem wi_ml_X7_75 : Cond.methodLink RX7 75 yX7_look ∈ wB := wB_t 821 (by decide +kernel) (by decide +kernel)
theorem wi_im_X7_look : Cond.instanceMethod yX7_look ∈ wB := wB_t 823 (by decide +kernel) (by decide +kernel)
theorem wi_co_X7_look : Cond.code yX7_look cX7_look 1 (some .int) ∈ wB := wB_t 824 (by decide +kernel) (by decide +kernel)
theorem wi_ml_X7_79 : Cond.methodLink RX7 79 yX7_isLetter ∈ wB := wB_t 825 (by decide +kernel) (by decide +kernel)
theorem wi_st_X7_isLetter : Cond.static yX7_isLetter ∈ wB := wB_t 826 (by decide +kernel) (by decide +kernel)
theorem wi_co_X7_isLetter : Cond.code yX7_isLetter cX7_isLetter 1 (some .boolean) ∈ wB := wB_t 827 (by decide +kernel) (by decide +kernel)
theorem wi_ml_X7_83 : Cond.methodLink RX7 83 yX7_bad ∈ wB := wB_t 828 (by decide +kernel) (by decide +kernel)
theorem wi_im_X7_bad : Cond.instanceMethod yX7_bad ∈ wB := wB_t 830 (by decide +kernel) (by decide +kernel)
theorem wi_co_X7_bad : Cond.code yX7_bad cX7_bad 3 none ∈ wB := wB_t 831 (by decide +kernel) (by decide +kernel)
theorem wi_ml_X7_87 : Cond.methodLink RX7 87 yX7_isDigit ∈ wB := wB_t 832 (by decide +kernel) (by decide +kernel)
theorem wi_st_X7_isDigit : Cond.static yX7_isDigit ∈ wB := wB_t 833 (by decide +kernel) (by decide +kernel)
theorem wi_co_X7_isDigit : Cond.code yX7_isDigit cX7_isDigit 1 (some .boolean) ∈ wB := wB_t 834 (by decide +kernel) (by decide +kernel)
theorem wi_ml_X7_129 : Cond.methodLink RX7 129 yX7_readCondition ∈ wB := wB_t 835 (by decide +kernel) (by decide +kernel)
theorem wi_im_X7_readCondition : Cond.instanceMethod yX7_readCondition ∈ wB := wB_t 837 (by decide +kernel) (by decide +kernel)
theorem wi_co_X7_readCondition : Cond.code yX7_readCondition cX7_readCondition 2 none ∈ wB := wB_t 838 (by decide +kernel) (by decide +kernel)
theorem wi_ml_X7_96 : Cond.methodLink RX7 96 yX7_find ∈ wB := wB_t 839 (by decide +kernel) (by decide +kernel)
theorem wi_im_X7_find : Cond.instanceMethod yX7_find ∈ wB := wB_t 841 (by decide +kernel) (by decide +kernel)
theorem wi_co_X7_find : Cond.code yX7_find cX7_find 7 (some .int) ∈ wB := wB_t 842 (by decide +kernel) (by decide +kernel)
theorem wi_ml_X7_100 : Cond.methodLink RX7 100 yX7_store ∈ wB := wB_t 843 (by decide +kernel) (by decide +kernel)
theorem wi_im_X7_store : Cond.instanceMethod yX7_store ∈ wB := wB_t 845 (by decide +kernel) (by decide +kernel)
theorem wi_co_X7_store : Cond.code yX7_store cX7_store 4 none ∈ wB := wB_t 846 (by decide +kernel) (by decide +kernel)
theorem wi_ml_X7_112 : Cond.methodLink RX7 112 yX7_sign ∈ wB := wB_t 847 (by decide +kernel) (by decide +kernel)
theorem wi_im_X7_sign : Cond.instanceMethod yX7_sign ∈ wB := wB_t 849 (by decide +kernel) (by decide +kernel)
theorem wi_co_X7_sign : Cond.code yX7_sign cX7_sign 2 none ∈ wB := wB_t 850 (by decide +kernel) (by decide +kernel)
theorem wi_ml_X7_132 : Cond.methodLink RX7 132 yX7_readRule ∈ wB := wB_t 851 (by decide +kernel) (by decide +kernel)
theorem wi_im_X7_readRule : Cond.instanceMethod yX7_readRule ∈ wB := wB_t 853 (by decide +kernel) (by decide +kernel)
theorem wi_co_X7_readRule : Cond.code yX7_readRule cX7_readRule 4 none ∈ wB := wB_t 854 (by decide +kernel) (by decide +kernel)
theorem wi_ml_X7_135 : Cond.methodLink RX7 135 yX7_take ∈ wB := wB_t 855 (by decide +kernel) (by decide +kernel)
theorem wi_im_X7_take : Cond.instanceMethod yX7_take ∈ wB := wB_t 857 (by decide +kernel) (by decide +kernel)
theorem wi_co_X7_take : Cond.code yX7_take cX7_take 2 none ∈ wB := wB_t 858 (by decide +kernel) (by decide +kernel)
theorem wi_ml_X7_138 : Cond.methodLink RX7 138 yX7_judge ∈ wB := wB_t 859 (by decide +kernel) (by decide +kernel)
theorem wi_im_X7_judge : Cond.instanceMethod yX7_judge ∈ wB := wB_t 861 (by decide +kernel) (by decide +kernel)
theorem wi_co_X7_judge : Cond.code yX7_judge cX7_judge 3 (some .int) ∈ wB := wB_t 862 (by decide +kernel) (by decide +kernel)
theorem wi_ml_X7_163 : Cond.methodLink RX7 163 yX7_allCases ∈ wB := wB_t 863 (by decide +kernel) (by decide +kernel)
theorem wi_im_X7_allCases : Cond.instanceMethod yX7_allCases ∈ wB := wB_t 865 (by decide +kernel) (by decide +kernel)
theorem wi_co_X7_allCases : Cond.code yX7_allCases cX7_allCases 1 (some .int) ∈ wB := wB_t 866 (by decide +kernel) (by decide +kernel)
theorem wi_ml_X7_166 : Cond.methodLink RX7 166 yX7_firstMet ∈ wB := wB_t 867 (by decide +kernel) (by decide +kernel)
theorem wi_im_X7_firstMet : Cond.instanceMethod yX7_firstMet ∈ wB := wB_t 869 (by decide +kernel) (by decide +kernel)
theorem wi_co_X7_firstMet : Cond.code yX7_firstMet cX7_firstMet 3 (some .int) ∈ wB := wB_t 870 (by decide +kernel) (by decide +kernel)
theorem wi_ml_X7_141 : Cond.methodLink RX7 141 yX7_isMet ∈ wB := wB_t 871 (by decide +kernel) (by decide +kernel)
theorem wi_im_X7_isMet : Cond.instanceMethod yX7_isMet ∈ wB := wB_t 873 (by decide +kernel) (by decide +kernel)
theorem wi_co_X7_isMet : Cond.code yX7_isMet cX7_isMet 3 (some .boolean) ∈ wB := wB_t 874 (by decide +kernel) (by decide +kernel)
theorem wi_ml_X7_170 : Cond.methodLink RX7 170 yX7_grow ∈ wB := wB_t 875 (by decide +kernel) (by decide +kernel)
theorem wi_im_X7_grow : Cond.instanceMethod yX7_grow ∈ wB := wB_t 877 (by decide +kernel) (by decide +kernel)
theorem wi_co_X7_grow : Cond.code yX7_grow cX7_grow 9 none ∈ wB := wB_t 878 (by decide +kernel) (by decide +kernel)
theorem wi_ml_X7_180 : Cond.methodLink RX7 180 yX7_onlyAction ∈ wB := wB_t 879 (by decide +kernel) (by decide +kernel)
theorem wi_im_X7_onlyAction : Cond.instanceMethod yX7_onlyAction ∈ wB := wB_t 881 (by decide +kernel) (by decide +kernel)
theorem wi_co_X7_onlyAction : Cond.code yX7_onlyAction cX7_onlyAction 5 (some .int) ∈ wB := wB_t 882 (by decide +kernel) (by decide +kernel)
theorem wi_ml_X7_173 : Cond.methodLink RX7 173 yX7_canMeet ∈ wB := wB_t 883 (by decide +kernel) (by decide +kernel)
theorem wi_im_X7_canMeet : Cond.instanceMethod yX7_canMeet ∈ wB := wB_t 885 (by decide +kernel) (by decide +kernel)
theorem wi_co_X7_canMeet : Cond.code yX7_canMeet cX7_canMeet 4 (some .boolean) ∈ wB := wB_t 886 (by decide +kernel) (by decide +kernel)
theorem wi_ml_X7_184 : Cond.methodLink RX7 184 yX7_bestCondition ∈ wB := wB_t 887 (by decide +kernel) (by decide +kernel)
theorem wi_im_X7_bestCondition : Cond.instanceMethod yX7_bestCondition ∈ wB := wB_t 889 (by decide +kernel) (by decide +kernel)
theorem wi_co_X7_bestCondition : Cond.code yX7_bestCondition cX7_bestCondition 17 (some .int) ∈ wB := wB_t 890 (by decide +kernel) (by decide +kernel)
theorem wi_ml_X7_177 : Cond.methodLink RX7 177 yX7_bits ∈ wB := wB_t 891 (by decide +kernel) (by decide +kernel)
theorem wi_st_X7_bits : Cond.static yX7_bits ∈ wB := wB_t 892 (by decide +kernel) (by decide +kernel)
theorem wi_co_X7_bits : Cond.code yX7_bits cX7_bits 3 (some .int) ∈ wB := wB_t 893 (by decide +kernel) (by decide +kernel)
theorem wi_ml_X7_187 : Cond.methodLink RX7 187 yX7_write ∈ wB := wB_t 894 (by decide +kernel) (by decide +kernel)
theorem wi_im_X7_write : Cond.instanceMethod yX7_write ∈ wB := wB_t 896 (by decide +kernel) (by decide +kernel)
theorem wi_co_X7_write : Cond.code yX7_write cX7_write 4 none ∈ wB := wB_t 897 (by decide +kernel) (by decide +kernel)
theorem wi_ml_L_87 : Cond.methodLink RL 87 yX7_fault ∈ wB := wB_t 898 (by decide +kernel) (by decide +kernel)
theorem wi_im_X7_fault : Cond.instanceMethod yX7_fault ∈ wB := wB_t 899 (by decide +kernel) (by decide +kernel)
theorem wi_se_X7_fault : Cond.selects RX7 yX7_fault yX7_fault ∈ wB := wB_t 900 (by decide +kernel) (by decide +kernel)
theorem wi_co_X7_fault : Cond.code yX7_fault cX7_fault 1 (some .int) ∈ wB := wB_t 901 (by decide +kernel) (by decide +kernel)
theorem wi_ml_L_91 : Cond.methodLink RL 91 yX7_amiss ∈ wB := wB_t 902 (by decide +kernel) (by decide +kernel)
theorem wi_im_X7_amiss : Cond.instanceMethod yX7_amiss ∈ wB := wB_t 903 (by decide +kernel) (by decide +kernel)
theorem wi_se_X7_amiss : Cond.selects RX7 yX7_amiss yX7_amiss ∈ wB := wB_t 904 (by decide +kernel) (by decide +kernel)
theorem wi_co_X7_amiss : Cond.code yX7_amiss cX7_amiss 2 (some .int) ∈ wB := wB_t 905 (by decide +kernel) (by decide +kernel)
theorem wi_ml_L_94 : Cond.methodLink RL 94 yX7_count ∈ wB := wB_t 906 (by decide +kernel) (by decide +kernel)
theorem wi_im_X7_count : Cond.instanceMethod yX7_count ∈ wB := wB_t 907 (by decide +kernel) (by decide +kernel)
theorem wi_se_X7_count : Cond.selects RX7 yX7_count yX7_count ∈ wB := wB_t 908 (by decide +kernel) (by decide +kernel)
theorem wi_co_X7_count : Cond.code yX7_count cX7_count 4 (some .int) ∈ wB := wB_t 909 (by decide +kernel) (by decide +kernel)
theorem wi_ml_L_98 : Cond.methodLink RL 98 yX7_rule ∈ wB := wB_t 910 (by decide +kernel) (by decide +kernel)
theorem wi_im_X7_rule : Cond.instanceMethod yX7_rule ∈ wB := wB_t 911 (by decide +kernel) (by decide +kernel)
theorem wi_se_X7_rule : Cond.selects RX7 yX7_rule yX7_rule ∈ wB := wB_t 912 (by decide +kernel) (by decide +kernel)
theorem wi_co_X7_rule : Cond.code yX7_rule cX7_rule 3 (some .int) ∈ wB := wB_t 913 (by decide +kernel) (by decide +kernel)
theorem wi_ml_L_102 : Cond.methodLink RL 102 yX7_name ∈ wB := wB_t 914 (by decide +kernel) (by decide +kernel)
theorem wi_im_X7_name : Cond.instanceMethod yX7_name ∈ wB := wB_t 915 (by decide +kernel) (by decide +kernel)
theorem wi_se_X7_name : Cond.selects RX7 yX7_name yX7_name ∈ wB := wB_t 916 (by decide +kernel) (by decide +kernel)
theorem wi_co_X7_name : Cond.code yX7_name cX7_name 5 (some .int) ∈ wB := wB_t 917 (by decide +kernel) (by decide +kernel)
theorem wi_ml_L_105 : Cond.methodLink RL 105 yX7_meets ∈ wB := wB_t 918 (by decide +kernel) (by decide +kernel)
theorem wi_im_X7_meets : Cond.instanceMethod yX7_meets ∈ wB := wB_t 919 (by decide +kernel) (by decide +kernel)
theorem wi_se_X7_meets : Cond.selects RX7 yX7_meets yX7_meets ∈ wB := wB_t 920 (by decide +kernel) (by decide +kernel)
theorem wi_co_X7_meets : Cond.code yX7_meets cX7_meets 2 (some .int) ∈ wB := wB_t 921 (by decide +kernel) (by decide +kernel)
theorem wi_ml_X7_190 : Cond.methodLink RX7 190 yX7_isCase ∈ wB := wB_t 922 (by decide +kernel) (by decide +kernel)
theorem wi_im_X7_isCase : Cond.instanceMethod yX7_isCase ∈ wB := wB_t 924 (by decide +kernel) (by decide +kernel)
theorem wi_co_X7_isCase : Cond.code yX7_isCase cX7_isCase 2 (some .boolean) ∈ wB := wB_t 925 (by decide +kernel) (by decide +kernel)
theorem wi_ml_L_108 : Cond.methodLink RL 108 yX7_cases ∈ wB := wB_t 926 (by decide +kernel) (by decide +kernel)
theorem wi_im_X7_cases : Cond.instanceMethod yX7_cases ∈ wB := wB_t 927 (by decide +kernel) (by decide +kernel)
theorem wi_se_X7_cases : Cond.selects RX7 yX7_cases yX7_cases ∈ wB := wB_t 928 (by decide +kernel) (by decide +kernel)
theorem wi_co_X7_cases : Cond.code yX7_cases cX7_cases 6 (some .int) ∈ wB := wB_t 929 (by decide +kernel) (by decide +kernel)
theorem wi_ml_L_111 : Cond.methodLink RL 111 yX7_node ∈ wB := wB_t 930 (by decide +kernel) (by decide +kernel)
theorem wi_im_X7_node : Cond.instanceMethod yX7_node ∈ wB := wB_t 931 (by decide +kernel) (by decide +kernel)
theorem wi_se_X7_node : Cond.selects RX7 yX7_node yX7_node ∈ wB := wB_t 932 (by decide +kernel) (by decide +kernel)
theorem wi_co_X7_node : Cond.code yX7_node cX7_node 3 (some .int) ∈ wB := wB_t 933 (by decide +kernel) (by decide +kernel)
theorem wi_ml_L_114 : Cond.methodLink RL 114 yX7_code ∈ wB := wB_t 934 (by decide +kernel) (by decide +kernel)
theorem wi_im_X7_code : Cond.instanceMethod yX7_code ∈ wB := wB_t 935 (by decide +kernel) (by decide +kernel)
theorem wi_se_X7_code : Cond.selects RX7 yX7_code yX7_code ∈ wB := wB_t 936 (by decide +kernel) (by decide +kernel)
theorem wi_co_X7_code : Cond.code yX7_code cX7_code 2 (some .int) ∈ wB := wB_t 937 (by decide +kernel) (by decide +kernel)
theorem wi_ml_L_118 : Cond.methodLink RL 118 yX7_run ∈ wB := wB_t 938 (by decide +kernel) (by decide +kernel)
theorem wi_im_X7_run : Cond.instanceMethod yX7_run ∈ wB := wB_t 939 (by decide +kernel) (by decide +kernel)
theorem wi_se_X7_run : Cond.selects RX7 yX7_run yX7_run ∈ wB := wB_t 940 (by decide +kernel) (by decide +kernel)
theorem wi_co_X7_run : Cond.code yX7_run cX7_run 5 (some .int) ∈ wB := wB_t 941 (by decide +kernel) (by decide +kernel)
theorem wi_ml_L_122 : Cond.methodLink RL 122 yX7_tests ∈ wB := wB_t 942 (by decide +kernel) (by decide +kernel)
theorem wi_im_X7_tests : Cond.instanceMethod yX7_tests ∈ wB := wB_t 943 (by decide +kernel) (by decide +kernel)
theorem wi_se_X7_tests : Cond.selects RX7 yX7_tests yX7_tests ∈ wB := wB_t 944 (by decide +kernel) (by decide +kernel)
theorem wi_co_X7_tests : Cond.code yX7_tests cX7_tests 4 (some .long) ∈ wB := wB_t 945 (by decide +kernel) (by decide +kernel)
theorem wi_ld_L_64 : Cond.constantLong RL 64 4294967295 ∈ wB := wB_t 946 (by decide +kernel) (by decide +kernel)
theorem wi_se_X3_passName : Cond.selects RX3 yX3_passName yX3_passName ∈ wB := wB_s 0 (by decide +kernel) (by decide +kernel)
theorem wi_se_X3_look : Cond.selects RX3 yX3_look yX3_look ∈ wB := wB_s 1 (by decide +kernel) (by decide +kernel)
theorem wi_se_X3_byteAt : Cond.selects RX3 yX3_byteAt yX3_byteAt ∈ wB := wB_s 2 (by decide +kernel) (by decide +kernel)
theorem wi_se_X3_fail : Cond.selects RX3 yX3_fail yX3_fail ∈ wB := wB_s 3 (by decide +kernel) (by decide +kernel)
theorem wi_se_X3_isWord : Cond.selects RX3 yX3_isWord yX3_isWord ∈ wB := wB_s 4 (by decide +kernel) (by decide +kernel)
theorem wi_se_X3_passConditions : Cond.selects RX3 yX3_passConditions yX3_passConditions ∈ wB := wB_s 5 (by decide +kernel) (by decide +kernel)
theorem wi_se_X3_passCondition : Cond.selects RX3 yX3_passCondition yX3_passCondition ∈ wB := wB_s 6 (by decide +kernel) (by decide +kernel)
theorem wi_se_X3_passByte : Cond.selects RX3 yX3_passByte yX3_passByte ∈ wB := wB_s 7 (by decide +kernel) (by decide +kernel)
theorem wi_se_X3_passRules : Cond.selects RX3 yX3_passRules yX3_passRules ∈ wB := wB_s 8 (by decide +kernel) (by decide +kernel)
theorem wi_se_X3_passRule : Cond.selects RX3 yX3_passRule yX3_passRule ∈ wB := wB_s 9 (by decide +kernel) (by decide +kernel)
theorem wi_se_X3_passAction : Cond.selects RX3 yX3_passAction yX3_passAction ∈ wB := wB_s 10 (by decide +kernel) (by decide +kernel)
theorem wi_se_X6_judge : Cond.selects RX6 yX6_judge yX6_judge ∈ wB := wB_s 11 (by decide +kernel) (by decide +kernel)
theorem wi_se_X6_findAmiss : Cond.selects RX6 yX6_findAmiss yX6_findAmiss ∈ wB := wB_s 12 (by decide +kernel) (by decide +kernel)
theorem wi_se_X6_findContradiction : Cond.selects RX6 yX6_findContradiction yX6_findContradiction ∈ wB := wB_s 13 (by decide +kernel) (by decide +kernel)
theorem wi_se_X5_splittingBit : Cond.selects RX5 yX5_splittingBit yX5_splittingBit ∈ wB := wB_s 14 (by decide +kernel) (by decide +kernel)
theorem wi_se_X4_addLeaf : Cond.selects RX4 yX4_addLeaf yX4_addLeaf ∈ wB := wB_s 15 (by decide +kernel) (by decide +kernel)
theorem wi_se_X4_addNode : Cond.selects RX4 yX4_addNode yX4_addNode ∈ wB := wB_s 16 (by decide +kernel) (by decide +kernel)
theorem wi_se_X5_weigh : Cond.selects RX5 yX5_weigh yX5_weigh ∈ wB := wB_s 17 (by decide +kernel) (by decide +kernel)
theorem wi_se_X5_addWeight : Cond.selects RX5 yX5_addWeight yX5_addWeight ∈ wB := wB_s 18 (by decide +kernel) (by decide +kernel)
theorem wi_se_X5_isBetter : Cond.selects RX5 yX5_isBetter yX5_isBetter ∈ wB := wB_s 19 (by decide +kernel) (by decide +kernel)
theorem wi_se_X0_setPlaces : Cond.selects RX0 yX0_setPlaces yX0_setPlaces ∈ wB := wB_s 20 (by decide +kernel) (by decide +kernel)
theorem wi_se_X0_append : Cond.selects RX0 yX0_append yX0_append ∈ wB := wB_s 21 (by decide +kernel) (by decide +kernel)
theorem wi_se_X6_needTable : Cond.selects RX6 yX6_needTable yX6_needTable ∈ wB := wB_s 23 (by decide +kernel) (by decide +kernel)
theorem wi_se_X1_letterAt : Cond.selects RX1 yX1_letterAt yX1_letterAt ∈ wB := wB_s 24 (by decide +kernel) (by decide +kernel)
theorem wi_se_X6_needCase : Cond.selects RX6 yX6_needCase yX6_needCase ∈ wB := wB_s 25 (by decide +kernel) (by decide +kernel)
theorem wi_se_X6_needTree : Cond.selects RX6 yX6_needTree yX6_needTree ∈ wB := wB_s 26 (by decide +kernel) (by decide +kernel)
theorem wi_se_X7_word : Cond.selects RX7 yX7_word yX7_word ∈ wB := wB_s 27 (by decide +kernel) (by decide +kernel)
theorem wi_se_X7_nameEnd : Cond.selects RX7 yX7_nameEnd yX7_nameEnd ∈ wB := wB_s 28 (by decide +kernel) (by decide +kernel)
theorem wi_se_X7_look : Cond.selects RX7 yX7_look yX7_look ∈ wB := wB_s 29 (by decide +kernel) (by decide +kernel)
theorem wi_se_X7_bad : Cond.selects RX7 yX7_bad yX7_bad ∈ wB := wB_s 30 (by decide +kernel) (by decide +kernel)
theorem wi_se_X7_readCondition : Cond.selects RX7 yX7_readCondition yX7_readCondition ∈ wB := wB_s 31 (by decide +kernel) (by decide +kernel)
theorem wi_se_X7_find : Cond.selects RX7 yX7_find yX7_find ∈ wB := wB_s 32 (by decide +kernel) (by decide +kernel)
theorem wi_se_X7_store : Cond.selects RX7 yX7_store yX7_store ∈ wB := wB_s 33 (by decide +kernel) (by decide +kernel)
theorem wi_se_X7_sign : Cond.selects RX7 yX7_sign yX7_sign ∈ wB := wB_s 34 (by decide +kernel) (by decide +kernel)
theorem wi_se_X7_readRule : Cond.selects RX7 yX7_readRule yX7_readRule ∈ wB := wB_s 35 (by decide +kernel) (by decide +kernel)
theorem wi_se_X7_take : Cond.selects RX7 yX7_take yX7_take ∈ wB := wB_s 36 (by decide +kernel) (by decide +kernel)
theorem wi_se_X7_judge : Cond.selects RX7 yX7_judge yX7_judge ∈ wB := wB_s 37 (by decide +kernel) (by decide +kernel)
theorem wi_se_X7_allCases : Cond.selects RX7 yX7_allCases yX7_allCases ∈ wB := wB_s 38 (by decide +kernel) (by decide +kernel)
theorem wi_se_X7_firstMet : Cond.selects RX7 yX7_firstMet yX7_firstMet ∈ wB := wB_s 39 (by decide +kernel) (by decide +kernel)
theorem wi_se_X7_isMet : Cond.selects RX7 yX7_isMet yX7_isMet ∈ wB := wB_s 40 (by decide +kernel) (by decide +kernel)
theorem wi_se_X7_grow : Cond.selects RX7 yX7_grow yX7_grow ∈ wB := wB_s 41 (by decide +kernel) (by decide +kernel)
theorem wi_se_X7_onlyAction : Cond.selects RX7 yX7_onlyAction yX7_onlyAction ∈ wB := wB_s 42 (by decide +kernel) (by decide +kernel)
theorem wi_se_X7_canMeet : Cond.selects RX7 yX7_canMeet yX7_canMeet ∈ wB := wB_s 43 (by decide +kernel) (by decide +kernel)
theorem wi_se_X7_bestCondition : Cond.selects RX7 yX7_bestCondition yX7_bestCondition ∈ wB := wB_s 44 (by decide +kernel) (by decide +kernel)
theorem wi_se_X7_write : Cond.selects RX7 yX7_write yX7_write ∈ wB := wB_s 45 (by decide +kernel) (by decide +kernel)
theorem wi_se_X7_isCase : Cond.selects RX7 yX7_isCase yX7_isCase ∈ wB := wB_s 46 (by decide +kernel) (by decide +kernel)
theorem inBX0 : ∀ x ∈ u_ws RX0 TX0 3, x ∈ wB := by
  have h : (u_ws RX0 TX0 3).all (fun x => decide (x ∈ tables_1) && goodWord x) = true := by decide +kernel
  intro x hx
  have h1 := List.all_eq_true.mp h x hx
  simp only [Bool.and_eq_true, decide_eq_true_eq] at h1
  exact wB_of (List.mem_append_right _ h1.1) h1.2
theorem inBX1 : ∀ x ∈ u_ws RX1 TX1 2, x ∈ wB := by
  have h : (u_ws RX1 TX1 2).all (fun x => decide (x ∈ tables_1) && goodWord x) = true := by decide +kernel
  intro x hx
  have h1 := List.all_eq_true.mp h x hx
  simp only [Bool.and_eq_true, decide_eq_true_eq] at h1
  exact wB_of (List.mem_append_right _ h1.1) h1.2
theorem inBX2 : ∀ x ∈ u_ws RX2 TX2 6, x ∈ wB := by
  have h : (u_ws RX2 TX2 6).all (fun x => decide (x ∈ tables_1) && goodWord x) = true := by decide +kernel
  intro x hx
  have h1 := List.all_eq_true.mp h x hx
  simp only [Bool.and_eq_true, decide_eq_true_eq] at h1
  exact wB_of (List.mem_append_right _ h1.1) h1.2
theorem inBX3 : ∀ x ∈ u_ws RX3 TX3 7, x ∈ wB := by
  have h : (u_ws RX3 TX3 7).all (fun x => decide (x ∈ tables_1) && goodWord x) = true := by decide +kernel
  intro x hx
  have h1 := List.all_eq_true.mp h x hx
  simp only [Bool.and_eq_true, decide_eq_true_eq] at h1
  exact wB_of (List.mem_append_right _ h1.1) h1.2
theorem inBX4 : ∀ x ∈ u_ws RX4 TX4 7, x ∈ wB := by
  have h : (u_ws RX4 TX4 7).all (fun x => decide (x ∈ tables_1) && goodWord x) = true := by decide +kernel
  intro x hx
  have h1 := List.all_eq_true.mp h x hx
  simp only [Bool.and_eq_true, decide_eq_true_eq] at h1
  exact wB_of (List.mem_append_right _ h1.1) h1.2
theorem inBX5 : ∀ x ∈ u_ws RX5 TX5 8, x ∈ wB := by
  have h : (u_ws RX5 TX5 8).all (fun x => decide (x ∈ tables_1) && goodWord x) = true := by decide +kernel
  intro x hx
  have h1 := List.all_eq_true.mp h x hx
  simp only [Bool.and_eq_true, decide_eq_true_eq] at h1
  exact wB_of (List.mem_append_right _ h1.1) h1.2
theorem inBX6 : ∀ x ∈ u_ws RX6 TX6 11, x ∈ wB := by
  have h : (u_ws RX6 TX6 11).all (fun x => decide (x ∈ tables_1) && goodWord x) = true := by decide +kernel
  intro x hx
  have h1 := List.all_eq_true.mp h x hx
  simp only [Bool.and_eq_true, decide_eq_true_eq] at h1
  exact wB_of (List.mem_append_right _ h1.1) h1.2
theorem inBX7 : ∀ x ∈ u_ws RX7 TX7 34, x ∈ wB := by
  have h : (u_ws RX7 TX7 34).all (fun x => decide (x ∈ tables_1) && goodWord x) = true := by decide +kernel
  intro x hx
  have h1 := List.all_eq_true.mp h x hx
  simp only [Bool.and_eq_true, decide_eq_true_eq] at h1
  exact wB_of (List.mem_append_right _ h1.1) h1.2
end
section
theorem dX0_init_0 : decode cX0_init 0 = .ok (.aload_n 0, 1) := by decide +kernel
theorem dX0_init_1 : decode cX0_init 1 = .ok (.invokespecial 3, 3) := by decide +kernel
theorem dX0_init_4 : decode cX0_init 4 = .ok (.aload_n 0, 1) := by decide +kernel
theorem dX0_init_5 : decode cX0_init 5 = .ok (.sipush 2000, 3) := by decide +kernel
theorem dX0_init_8 : decode cX0_init 8 = .ok (.newarray .int, 2) := by decide +kernel
theorem dX0_init_10 : decode cX0_init 10 = .ok (.putfield 9, 3) := by decide +kernel
theorem dX0_init_13 : decode cX0_init 13 = .ok (.aload_n 0, 1) := by decide +kernel
theorem dX0_init_14 : decode cX0_init 14 = .ok (.sipush 1000, 3) := by decide +kernel
theorem dX0_init_17 : decode cX0_init 17 = .ok (.newarray .int, 2) := by decide +kernel
theorem dX0_init_19 : decode cX0_init 19 = .ok (.putfield 15, 3) := by decide +kernel
theorem dX0_init_22 : decode cX0_init 22 = .ok (.return_, 1) := by decide +kernel
theorem dX0_write_0 : decode cX0_write 0 = .ok (.aload_n 0, 1) := by decide +kernel
theorem dX0_write_1 : decode cX0_write 1 = .ok (.aload_n 1, 1) := by decide +kernel
theorem dX0_write_2 : decode cX0_write 2 = .ok (.invokevirtual 18, 3) := by decide +kernel
theorem dX0_write_5 : decode cX0_write 5 = .ok (.aload_n 0, 1) := by decide +kernel
theorem dX0_write_6 : decode cX0_write 6 = .ok (.iconst 0, 1) := by decide +kernel
theorem dX0_write_7 : decode cX0_write 7 = .ok (.putfield 22, 3) := by decide +kernel
theorem dX0_write_10 : decode cX0_write 10 = .ok (.iconst 0, 1) := by decide +kernel
theorem dX0_write_11 : decode cX0_write 11 = .ok (.istore_n 2, 1) := by decide +kernel
theorem dX0_write_12 : decode cX0_write 12 = .ok (.iload_n 2, 1) := by decide +kernel
theorem dX0_write_13 : decode cX0_write 13 = .ok (.aload_n 1, 1) := by decide +kernel
theorem dX0_write_14 : decode cX0_write 14 = .ok (.getfield 26, 3) := by decide +kernel
theorem dX0_write_17 : decode cX0_write 17 = .ok (.if_icmp .ge 56, 3) := by decide +kernel
theorem dX0_write_20 : decode cX0_write 20 = .ok (.aload_n 0, 1) := by decide +kernel
theorem dX0_write_21 : decode cX0_write 21 = .ok (.aload_n 1, 1) := by decide +kernel
theorem dX0_write_22 : decode cX0_write 22 = .ok (.getfield 31, 3) := by decide +kernel
theorem dX0_write_25 : decode cX0_write 25 = .ok (.iload_n 2, 1) := by decide +kernel
theorem dX0_write_26 : decode cX0_write 26 = .ok (.iaload, 1) := by decide +kernel
theorem dX0_write_27 : decode cX0_write 27 = .ok (.invokevirtual 34, 3) := by decide +kernel
theorem dX0_write_30 : decode cX0_write 30 = .ok (.aload_n 1, 1) := by decide +kernel
theorem dX0_write_31 : decode cX0_write 31 = .ok (.iload_n 2, 1) := by decide +kernel
theorem dX0_write_32 : decode cX0_write 32 = .ok (.invokevirtual 38, 3) := by decide +kernel
theorem dX0_write_35 : decode cX0_write 35 = .ok (.ifCond .ne 32, 3) := by decide +kernel
theorem dX0_write_38 : decode cX0_write 38 = .ok (.aload_n 0, 1) := by decide +kernel
theorem dX0_write_39 : decode cX0_write 39 = .ok (.getfield 15, 3) := by decide +kernel
theorem dX0_write_42 : decode cX0_write 42 = .ok (.aload_n 1, 1) := by decide +kernel
theorem dX0_write_43 : decode cX0_write 43 = .ok (.getfield 42, 3) := by decide +kernel
theorem dX0_write_46 : decode cX0_write 46 = .ok (.iload_n 2, 1) := by decide +kernel
theorem dX0_write_47 : decode cX0_write 47 = .ok (.iaload, 1) := by decide +kernel
theorem dX0_write_48 : decode cX0_write 48 = .ok (.iaload, 1) := by decide +kernel
theorem dX0_write_49 : decode cX0_write 49 = .ok (.istore_n 3, 1) := by decide +kernel
theorem dX0_write_50 : decode cX0_write 50 = .ok (.aload_n 0, 1) := by decide +kernel
theorem dX0_write_51 : decode cX0_write 51 = .ok (.iload_n 3, 1) := by decide +kernel
theorem dX0_write_52 : decode cX0_write 52 = .ok (.bipush 8, 2) := by decide +kernel
theorem dX0_write_54 : decode cX0_write 54 = .ok (.ishr, 1) := by decide +kernel
theorem dX0_write_55 : decode cX0_write 55 = .ok (.invokevirtual 34, 3) := by decide +kernel
theorem dX0_write_58 : decode cX0_write 58 = .ok (.aload_n 0, 1) := by decide +kernel
theorem dX0_write_59 : decode cX0_write 59 = .ok (.iload_n 3, 1) := by decide +kernel
theorem dX0_write_60 : decode cX0_write 60 = .ok (.sipush 255, 3) := by decide +kernel
theorem dX0_write_63 : decode cX0_write 63 = .ok (.iand, 1) := by decide +kernel
theorem dX0_write_64 : decode cX0_write 64 = .ok (.invokevirtual 34, 3) := by decide +kernel
theorem dX0_write_67 : decode cX0_write 67 = .ok (.iinc 2 1, 3) := by decide +kernel
theorem dX0_write_70 : decode cX0_write 70 = .ok (.goto (-58), 3) := by decide +kernel
theorem dX0_write_73 : decode cX0_write 73 = .ok (.return_, 1) := by decide +kernel
theorem dX0_setPlaces_0 : decode cX0_setPlaces 0 = .ok (.iconst 0, 1) := by decide +kernel
theorem dX0_setPlaces_1 : decode cX0_setPlaces 1 = .ok (.istore_n 2, 1) := by decide +kernel
theorem dX0_setPlaces_2 : decode cX0_setPlaces 2 = .ok (.iconst 0, 1) := by decide +kernel
theorem dX0_setPlaces_3 : decode cX0_setPlaces 3 = .ok (.istore_n 3, 1) := by decide +kernel
theorem dX0_setPlaces_4 : decode cX0_setPlaces 4 = .ok (.iload_n 3, 1) := by decide +kernel
theorem dX0_setPlaces_5 : decode cX0_setPlaces 5 = .ok (.aload_n 1, 1) := by decide +kernel
theorem dX0_setPlaces_6 : decode cX0_setPlaces 6 = .ok (.getfield 26, 3) := by decide +kernel
theorem dX0_setPlaces_9 : decode cX0_setPlaces 9 = .ok (.if_icmp .ge 32, 3) := by decide +kernel
theorem dX0_setPlaces_12 : decode cX0_setPlaces 12 = .ok (.aload_n 0, 1) := by decide +kernel
theorem dX0_setPlaces_13 : decode cX0_setPlaces 13 = .ok (.getfield 15, 3) := by decide +kernel
theorem dX0_setPlaces_16 : decode cX0_setPlaces 16 = .ok (.iload_n 3, 1) := by decide +kernel
theorem dX0_setPlaces_17 : decode cX0_setPlaces 17 = .ok (.iload_n 2, 1) := by decide +kernel
theorem dX0_setPlaces_18 : decode cX0_setPlaces 18 = .ok (.iastore, 1) := by decide +kernel
theorem dX0_setPlaces_19 : decode cX0_setPlaces 19 = .ok (.iload_n 2, 1) := by decide +kernel
theorem dX0_setPlaces_20 : decode cX0_setPlaces 20 = .ok (.aload_n 1, 1) := by decide +kernel
theorem dX0_setPlaces_21 : decode cX0_setPlaces 21 = .ok (.iload_n 3, 1) := by decide +kernel
theorem dX0_setPlaces_22 : decode cX0_setPlaces 22 = .ok (.invokevirtual 38, 3) := by decide +kernel
theorem dX0_setPlaces_25 : decode cX0_setPlaces 25 = .ok (.ifCond .eq 7, 3) := by decide +kernel
theorem dX0_setPlaces_28 : decode cX0_setPlaces 28 = .ok (.iconst 1, 1) := by decide +kernel
theorem dX0_setPlaces_29 : decode cX0_setPlaces 29 = .ok (.goto 4, 3) := by decide +kernel
theorem dX0_setPlaces_32 : decode cX0_setPlaces 32 = .ok (.iconst 3, 1) := by decide +kernel
theorem dX0_setPlaces_33 : decode cX0_setPlaces 33 = .ok (.iadd, 1) := by decide +kernel
theorem dX0_setPlaces_34 : decode cX0_setPlaces 34 = .ok (.istore_n 2, 1) := by decide +kernel
theorem dX0_setPlaces_35 : decode cX0_setPlaces 35 = .ok (.iinc 3 1, 3) := by decide +kernel
theorem dX0_setPlaces_38 : decode cX0_setPlaces 38 = .ok (.goto (-34), 3) := by decide +kernel
theorem dX0_setPlaces_41 : decode cX0_setPlaces 41 = .ok (.return_, 1) := by decide +kernel
theorem dX0_append_0 : decode cX0_append 0 = .ok (.aload_n 0, 1) := by decide +kernel
theorem dX0_append_1 : decode cX0_append 1 = .ok (.getfield 22, 3) := by decide +kernel
theorem dX0_append_4 : decode cX0_append 4 = .ok (.aload_n 0, 1) := by decide +kernel
theorem dX0_append_5 : decode cX0_append 5 = .ok (.getfield 9, 3) := by decide +kernel
theorem dX0_append_8 : decode cX0_append 8 = .ok (.arraylength, 1) := by decide +kernel
theorem dX0_append_9 : decode cX0_append 9 = .ok (.if_icmp .ge 23, 3) := by decide +kernel
theorem dX0_append_12 : decode cX0_append 12 = .ok (.aload_n 0, 1) := by decide +kernel
theorem dX0_append_13 : decode cX0_append 13 = .ok (.getfield 9, 3) := by decide +kernel
theorem dX0_append_16 : decode cX0_append 16 = .ok (.aload_n 0, 1) := by decide +kernel
theorem dX0_append_17 : decode cX0_append 17 = .ok (.getfield 22, 3) := by decide +kernel
theorem dX0_append_20 : decode cX0_append 20 = .ok (.iload_n 1, 1) := by decide +kernel
theorem dX0_append_21 : decode cX0_append 21 = .ok (.iastore, 1) := by decide +kernel
theorem dX0_append_22 : decode cX0_append 22 = .ok (.aload_n 0, 1) := by decide +kernel
theorem dX0_append_23 : decode cX0_append 23 = .ok (.dup, 1) := by decide +kernel
theorem dX0_append_24 : decode cX0_append 24 = .ok (.getfield 22, 3) := by decide +kernel
theorem dX0_append_27 : decode cX0_append 27 = .ok (.iconst 1, 1) := by decide +kernel
theorem dX0_append_28 : decode cX0_append 28 = .ok (.iadd, 1) := by decide +kernel
theorem dX0_append_29 : decode cX0_append 29 = .ok (.putfield 22, 3) := by decide +kernel
theorem dX0_append_32 : decode cX0_append 32 = .ok (.return_, 1) := by decide +kernel
theorem dX0_follow_0 : decode cX0_follow 0 = .ok (.iconst 0, 1) := by decide +kernel
theorem dX0_follow_1 : decode cX0_follow 1 = .ok (.istore_n 3, 1) := by decide +kernel
theorem dX0_follow_2 : decode cX0_follow 2 = .ok (.iconst 0, 1) := by decide +kernel
theorem dX0_follow_3 : decode cX0_follow 3 = .ok (.istore 4, 2) := by decide +kernel
theorem dX0_follow_5 : decode cX0_follow 5 = .ok (.iload 4, 2) := by decide +kernel
theorem dX0_follow_7 : decode cX0_follow 7 = .ok (.bipush 16, 2) := by decide +kernel
theorem dX0_follow_9 : decode cX0_follow 9 = .ok (.if_icmp .ge 83, 3) := by decide +kernel
theorem dX0_follow_12 : decode cX0_follow 12 = .ok (.iload_n 3, 1) := by decide +kernel
theorem dX0_follow_13 : decode cX0_follow 13 = .ok (.iconst 2, 1) := by decide +kernel
theorem dX0_follow_14 : decode cX0_follow 14 = .ok (.iadd, 1) := by decide +kernel
theorem dX0_follow_15 : decode cX0_follow 15 = .ok (.aload_n 0, 1) := by decide +kernel
theorem dX0_follow_16 : decode cX0_follow 16 = .ok (.getfield 22, 3) := by decide +kernel
theorem dX0_follow_19 : decode cX0_follow 19 = .ok (.if_icmp .ge 73, 3) := by decide +kernel
theorem dX0_follow_22 : decode cX0_follow 22 = .ok (.aload_n 0, 1) := by decide +kernel
theorem dX0_follow_23 : decode cX0_follow 23 = .ok (.getfield 9, 3) := by decide +kernel
theorem dX0_follow_26 : decode cX0_follow 26 = .ok (.iload_n 3, 1) := by decide +kernel
theorem dX0_follow_27 : decode cX0_follow 27 = .ok (.iaload, 1) := by decide +kernel
theorem dX0_follow_28 : decode cX0_follow 28 = .ok (.sipush 128, 3) := by decide +kernel
theorem dX0_follow_31 : decode cX0_follow 31 = .ok (.if_icmp .ge 61, 3) := by decide +kernel
theorem dX0_follow_34 : decode cX0_follow 34 = .ok (.iload_n 1, 1) := by decide +kernel
theorem dX0_follow_35 : decode cX0_follow 35 = .ok (.aload_n 0, 1) := by decide +kernel
theorem dX0_follow_36 : decode cX0_follow 36 = .ok (.getfield 9, 3) := by decide +kernel
theorem dX0_follow_39 : decode cX0_follow 39 = .ok (.iload_n 3, 1) := by decide +kernel
theorem dX0_follow_40 : decode cX0_follow 40 = .ok (.iaload, 1) := by decide +kernel
theorem dX0_follow_41 : decode cX0_follow 41 = .ok (.ishr, 1) := by decide +kernel
theorem dX0_follow_42 : decode cX0_follow 42 = .ok (.iconst 1, 1) := by decide +kernel
theorem dX0_follow_43 : decode cX0_follow 43 = .ok (.iand, 1) := by decide +kernel
theorem dX0_follow_44 : decode cX0_follow 44 = .ok (.ifCond .eq 7, 3) := by decide +kernel
theorem dX0_follow_47 : decode cX0_follow 47 = .ok (.iconst 1, 1) := by decide +kernel
theorem dX0_follow_48 : decode cX0_follow 48 = .ok (.goto 4, 3) := by decide +kernel
theorem dX0_follow_51 : decode cX0_follow 51 = .ok (.iconst 0, 1) := by decide +kernel
theorem dX0_follow_52 : decode cX0_follow 52 = .ok (.istore 5, 2) := by decide +kernel
theorem dX0_follow_54 : decode cX0_follow 54 = .ok (.iload 5, 2) := by decide +kernel
theorem dX0_follow_56 : decode cX0_follow 56 = .ok (.ifCond .eq 9, 3) := by decide +kernel
theorem dX0_follow_59 : decode cX0_follow 59 = .ok (.iload_n 3, 1) := by decide +kernel
theorem dX0_follow_60 : decode cX0_follow 60 = .ok (.iconst 3, 1) := by decide +kernel
theorem dX0_follow_61 : decode cX0_follow 61 = .ok (.iadd, 1) := by decide +kernel
theorem dX0_follow_62 : decode cX0_follow 62 = .ok (.goto 23, 3) := by decide +kernel
theorem dX0_follow_65 : decode cX0_follow 65 = .ok (.aload_n 0, 1) := by decide +kernel
theorem dX0_follow_66 : decode cX0_follow 66 = .ok (.getfield 9, 3) := by decide +kernel
theorem dX0_follow_69 : decode cX0_follow 69 = .ok (.iload_n 3, 1) := by decide +kernel
theorem dX0_follow_70 : decode cX0_follow 70 = .ok (.iconst 1, 1) := by decide +kernel
theorem dX0_follow_71 : decode cX0_follow 71 = .ok (.iadd, 1) := by decide +kernel
theorem dX0_follow_72 : decode cX0_follow 72 = .ok (.iaload, 1) := by decide +kernel
theorem dX0_follow_73 : decode cX0_follow 73 = .ok (.bipush 8, 2) := by decide +kernel
theorem dX0_follow_75 : decode cX0_follow 75 = .ok (.ishl, 1) := by decide +kernel
theorem dX0_follow_76 : decode cX0_follow 76 = .ok (.aload_n 0, 1) := by decide +kernel
theorem dX0_follow_77 : decode cX0_follow 77 = .ok (.getfield 9, 3) := by decide +kernel
theorem dX0_follow_80 : decode cX0_follow 80 = .ok (.iload_n 3, 1) := by decide +kernel
theorem dX0_follow_81 : decode cX0_follow 81 = .ok (.iconst 2, 1) := by decide +kernel
theorem dX0_follow_82 : decode cX0_follow 82 = .ok (.iadd, 1) := by decide +kernel
theorem dX0_follow_83 : decode cX0_follow 83 = .ok (.iaload, 1) := by decide +kernel
theorem dX0_follow_84 : decode cX0_follow 84 = .ok (.ior, 1) := by decide +kernel
theorem dX0_follow_85 : decode cX0_follow 85 = .ok (.istore_n 3, 1) := by decide +kernel
theorem dX0_follow_86 : decode cX0_follow 86 = .ok (.iinc 4 1, 3) := by decide +kernel
theorem dX0_follow_89 : decode cX0_follow 89 = .ok (.goto (-84), 3) := by decide +kernel
theorem dX0_follow_92 : decode cX0_follow 92 = .ok (.iload_n 2, 1) := by decide +kernel
theorem dX0_follow_93 : decode cX0_follow 93 = .ok (.ifCond .eq 6, 3) := by decide +kernel
theorem dX0_follow_96 : decode cX0_follow 96 = .ok (.iload 4, 2) := by decide +kernel
theorem dX0_follow_98 : decode cX0_follow 98 = .ok (.ireturn, 1) := by decide +kernel
theorem dX0_follow_99 : decode cX0_follow 99 = .ok (.iload_n 3, 1) := by decide +kernel
theorem dX0_follow_100 : decode cX0_follow 100 = .ok (.aload_n 0, 1) := by decide +kernel
theorem dX0_follow_101 : decode cX0_follow 101 = .ok (.getfield 22, 3) := by decide +kernel
theorem dX0_follow_104 : decode cX0_follow 104 = .ok (.if_icmp .ge 16, 3) := by decide +kernel
theorem dX0_follow_107 : decode cX0_follow 107 = .ok (.aload_n 0, 1) := by decide +kernel
theorem dX0_follow_108 : decode cX0_follow 108 = .ok (.getfield 9, 3) := by decide +kernel
theorem dX0_follow_111 : decode cX0_follow 111 = .ok (.iload_n 3, 1) := by decide +kernel
theorem dX0_follow_112 : decode cX0_follow 112 = .ok (.iaload, 1) := by decide +kernel
theorem dX0_follow_113 : decode cX0_follow 113 = .ok (.sipush 128, 3) := by decide +kernel
theorem dX0_follow_116 : decode cX0_follow 116 = .ok (.isub, 1) := by decide +kernel
theorem dX0_follow_117 : decode cX0_follow 117 = .ok (.goto 4, 3) := by decide +kernel
theorem dX0_follow_120 : decode cX0_follow 120 = .ok (.iconst (-1), 1) := by decide +kernel
theorem dX0_follow_121 : decode cX0_follow 121 = .ok (.ireturn, 1) := by decide +kernel
theorem dX1_init_0 : decode cX1_init 0 = .ok (.aload_n 0, 1) := by decide +kernel
theorem dX1_init_1 : decode cX1_init 1 = .ok (.invokespecial 3, 3) := by decide +kernel
theorem dX1_init_4 : decode cX1_init 4 = .ok (.aload_n 0, 1) := by decide +kernel
theorem dX1_init_5 : decode cX1_init 5 = .ok (.iload_n 1, 1) := by decide +kernel
theorem dX1_init_6 : decode cX1_init 6 = .ok (.newarray .long, 2) := by decide +kernel
theorem dX1_init_8 : decode cX1_init 8 = .ok (.putfield 9, 3) := by decide +kernel
theorem dX1_init_11 : decode cX1_init 11 = .ok (.return_, 1) := by decide +kernel
theorem dX1_letterOf_0 : decode cX1_letterOf 0 = .ok (.iload_n 0, 1) := by decide +kernel
theorem dX1_letterOf_1 : decode cX1_letterOf 1 = .ok (.bipush 97, 2) := by decide +kernel
theorem dX1_letterOf_3 : decode cX1_letterOf 3 = .ok (.if_icmp .lt 16, 3) := by decide +kernel
theorem dX1_letterOf_6 : decode cX1_letterOf 6 = .ok (.iload_n 0, 1) := by decide +kernel
theorem dX1_letterOf_7 : decode cX1_letterOf 7 = .ok (.bipush 122, 2) := by decide +kernel
theorem dX1_letterOf_9 : decode cX1_letterOf 9 = .ok (.if_icmp .gt 10, 3) := by decide +kernel
theorem dX1_letterOf_12 : decode cX1_letterOf 12 = .ok (.iload_n 0, 1) := by decide +kernel
theorem dX1_letterOf_13 : decode cX1_letterOf 13 = .ok (.bipush 97, 2) := by decide +kernel
theorem dX1_letterOf_15 : decode cX1_letterOf 15 = .ok (.isub, 1) := by decide +kernel
theorem dX1_letterOf_16 : decode cX1_letterOf 16 = .ok (.iconst 1, 1) := by decide +kernel
theorem dX1_letterOf_17 : decode cX1_letterOf 17 = .ok (.iadd, 1) := by decide +kernel
theorem dX1_letterOf_18 : decode cX1_letterOf 18 = .ok (.ireturn, 1) := by decide +kernel
theorem dX1_letterOf_19 : decode cX1_letterOf 19 = .ok (.iload_n 0, 1) := by decide +kernel
theorem dX1_letterOf_20 : decode cX1_letterOf 20 = .ok (.bipush 48, 2) := by decide +kernel
theorem dX1_letterOf_22 : decode cX1_letterOf 22 = .ok (.if_icmp .lt 19, 3) := by decide +kernel
theorem dX1_letterOf_25 : decode cX1_letterOf 25 = .ok (.iload_n 0, 1) := by decide +kernel
theorem dX1_letterOf_26 : decode cX1_letterOf 26 = .ok (.bipush 57, 2) := by decide +kernel
theorem dX1_letterOf_28 : decode cX1_letterOf 28 = .ok (.if_icmp .gt 13, 3) := by decide +kernel
theorem dX1_letterOf_31 : decode cX1_letterOf 31 = .ok (.iload_n 0, 1) := by decide +kernel
theorem dX1_letterOf_32 : decode cX1_letterOf 32 = .ok (.bipush 48, 2) := by decide +kernel
theorem dX1_letterOf_34 : decode cX1_letterOf 34 = .ok (.isub, 1) := by decide +kernel
theorem dX1_letterOf_35 : decode cX1_letterOf 35 = .ok (.bipush 27, 2) := by decide +kernel
theorem dX1_letterOf_37 : decode cX1_letterOf 37 = .ok (.iadd, 1) := by decide +kernel
theorem dX1_letterOf_38 : decode cX1_letterOf 38 = .ok (.goto 4, 3) := by decide +kernel
theorem dX1_letterOf_41 : decode cX1_letterOf 41 = .ok (.iconst 0, 1) := by decide +kernel
theorem dX1_letterOf_42 : decode cX1_letterOf 42 = .ok (.ireturn, 1) := by decide +kernel
theorem dX1_find_0 : decode cX1_find 0 = .ok (.iconst 0, 1) := by decide +kernel
theorem dX1_find_1 : decode cX1_find 1 = .ok (.istore_n 3, 1) := by decide +kernel
theorem dX1_find_2 : decode cX1_find 2 = .ok (.iload_n 3, 1) := by decide +kernel
theorem dX1_find_3 : decode cX1_find 3 = .ok (.aload_n 0, 1) := by decide +kernel
theorem dX1_find_4 : decode cX1_find 4 = .ok (.getfield 15, 3) := by decide +kernel
theorem dX1_find_7 : decode cX1_find 7 = .ok (.if_icmp .ge 22, 3) := by decide +kernel
theorem dX1_find_10 : decode cX1_find 10 = .ok (.aload_n 0, 1) := by decide +kernel
theorem dX1_find_11 : decode cX1_find 11 = .ok (.getfield 9, 3) := by decide +kernel
theorem dX1_find_14 : decode cX1_find 14 = .ok (.iload_n 3, 1) := by decide +kernel
theorem dX1_find_15 : decode cX1_find 15 = .ok (.laload, 1) := by decide +kernel
theorem dX1_find_16 : decode cX1_find 16 = .ok (.lload_n 1, 1) := by decide +kernel
theorem dX1_find_17 : decode cX1_find 17 = .ok (.lcmp, 1) := by decide +kernel
theorem dX1_find_18 : decode cX1_find 18 = .ok (.ifCond .ne 5, 3) := by decide +kernel
theorem dX1_find_21 : decode cX1_find 21 = .ok (.iload_n 3, 1) := by decide +kernel
theorem dX1_find_22 : decode cX1_find 22 = .ok (.ireturn, 1) := by decide +kernel
theorem dX1_find_23 : decode cX1_find 23 = .ok (.iinc 3 1, 3) := by decide +kernel
theorem dX1_find_26 : decode cX1_find 26 = .ok (.goto (-24), 3) := by decide +kernel
theorem dX1_find_29 : decode cX1_find 29 = .ok (.iconst (-1), 1) := by decide +kernel
theorem dX1_find_30 : decode cX1_find 30 = .ok (.ireturn, 1) := by decide +kernel
theorem dX1_add_0 : decode cX1_add 0 = .ok (.aload_n 0, 1) := by decide +kernel
theorem dX1_add_1 : decode cX1_add 1 = .ok (.getfield 15, 3) := by decide +kernel
theorem dX1_add_4 : decode cX1_add 4 = .ok (.aload_n 0, 1) := by decide +kernel
theorem dX1_add_5 : decode cX1_add 5 = .ok (.getfield 9, 3) := by decide +kernel
theorem dX1_add_8 : decode cX1_add 8 = .ok (.arraylength, 1) := by decide +kernel
theorem dX1_add_9 : decode cX1_add 9 = .ok (.if_icmp .lt 5, 3) := by decide +kernel
theorem dX1_add_12 : decode cX1_add 12 = .ok (.iconst 0, 1) := by decide +kernel
theorem dX1_add_13 : decode cX1_add 13 = .ok (.ireturn, 1) := by decide +kernel
theorem dX1_add_14 : decode cX1_add 14 = .ok (.aload_n 0, 1) := by decide +kernel
theorem dX1_add_15 : decode cX1_add 15 = .ok (.getfield 9, 3) := by decide +kernel
theorem dX1_add_18 : decode cX1_add 18 = .ok (.aload_n 0, 1) := by decide +kernel
theorem dX1_add_19 : decode cX1_add 19 = .ok (.getfield 15, 3) := by decide +kernel
theorem dX1_add_22 : decode cX1_add 22 = .ok (.lload_n 1, 1) := by decide +kernel
theorem dX1_add_23 : decode cX1_add 23 = .ok (.lastore, 1) := by decide +kernel
theorem dX1_add_24 : decode cX1_add 24 = .ok (.aload_n 0, 1) := by decide +kernel
theorem dX1_add_25 : decode cX1_add 25 = .ok (.dup, 1) := by decide +kernel
theorem dX1_add_26 : decode cX1_add 26 = .ok (.getfield 15, 3) := by decide +kernel
theorem dX1_add_29 : decode cX1_add 29 = .ok (.iconst 1, 1) := by decide +kernel
theorem dX1_add_30 : decode cX1_add 30 = .ok (.iadd, 1) := by decide +kernel
theorem dX1_add_31 : decode cX1_add 31 = .ok (.putfield 15, 3) := by decide +kernel
theorem dX1_add_34 : decode cX1_add 34 = .ok (.iconst 1, 1) := by decide +kernel
theorem dX1_add_35 : decode cX1_add 35 = .ok (.ireturn, 1) := by decide +kernel
theorem dX1_letterAt_0 : decode cX1_letterAt 0 = .ok (.aload_n 0, 1) := by decide +kernel
theorem dX1_letterAt_1 : decode cX1_letterAt 1 = .ok (.getfield 9, 3) := by decide +kernel
theorem dX1_letterAt_4 : decode cX1_letterAt 4 = .ok (.iload_n 1, 1) := by decide +kernel
theorem dX1_letterAt_5 : decode cX1_letterAt 5 = .ok (.laload, 1) := by decide +kernel
theorem dX1_letterAt_6 : decode cX1_letterAt 6 = .ok (.bipush 6, 2) := by decide +kernel
theorem dX1_letterAt_8 : decode cX1_letterAt 8 = .ok (.iload_n 2, 1) := by decide +kernel
theorem dX1_letterAt_9 : decode cX1_letterAt 9 = .ok (.imul, 1) := by decide +kernel
theorem dX1_letterAt_10 : decode cX1_letterAt 10 = .ok (.lushr, 1) := by decide +kernel
theorem dX1_letterAt_11 : decode cX1_letterAt 11 = .ok (.l2i, 1) := by decide +kernel
theorem dX1_letterAt_12 : decode cX1_letterAt 12 = .ok (.bipush 63, 2) := by decide +kernel
theorem dX1_letterAt_14 : decode cX1_letterAt 14 = .ok (.iand, 1) := by decide +kernel
theorem dX1_letterAt_15 : decode cX1_letterAt 15 = .ok (.ireturn, 1) := by decide +kernel
theorem dX1_lengthOf_0 : decode cX1_lengthOf 0 = .ok (.iconst 0, 1) := by decide +kernel
theorem dX1_lengthOf_1 : decode cX1_lengthOf 1 = .ok (.istore_n 2, 1) := by decide +kernel
theorem dX1_lengthOf_2 : decode cX1_lengthOf 2 = .ok (.iload_n 2, 1) := by decide +kernel
theorem dX1_lengthOf_3 : decode cX1_lengthOf 3 = .ok (.bipush 10, 2) := by decide +kernel
theorem dX1_lengthOf_5 : decode cX1_lengthOf 5 = .ok (.if_icmp .ge 18, 3) := by decide +kernel
theorem dX1_lengthOf_8 : decode cX1_lengthOf 8 = .ok (.aload_n 0, 1) := by decide +kernel
theorem dX1_lengthOf_9 : decode cX1_lengthOf 9 = .ok (.iload_n 1, 1) := by decide +kernel
theorem dX1_lengthOf_10 : decode cX1_lengthOf 10 = .ok (.iload_n 2, 1) := by decide +kernel
theorem dX1_lengthOf_11 : decode cX1_lengthOf 11 = .ok (.invokevirtual 19, 3) := by decide +kernel
theorem dX1_lengthOf_14 : decode cX1_lengthOf 14 = .ok (.ifCond .eq 9, 3) := by decide +kernel
theorem dX1_lengthOf_17 : decode cX1_lengthOf 17 = .ok (.iinc 2 1, 3) := by decide +kernel
theorem dX1_lengthOf_20 : decode cX1_lengthOf 20 = .ok (.goto (-18), 3) := by decide +kernel
theorem dX1_lengthOf_23 : decode cX1_lengthOf 23 = .ok (.iload_n 2, 1) := by decide +kernel
theorem dX1_lengthOf_24 : decode cX1_lengthOf 24 = .ok (.ireturn, 1) := by decide +kernel
theorem dX1_byteOf_0 : decode cX1_byteOf 0 = .ok (.aload_n 0, 1) := by decide +kernel
theorem dX1_byteOf_1 : decode cX1_byteOf 1 = .ok (.iload_n 1, 1) := by decide +kernel
theorem dX1_byteOf_2 : decode cX1_byteOf 2 = .ok (.iload_n 2, 1) := by decide +kernel
theorem dX1_byteOf_3 : decode cX1_byteOf 3 = .ok (.invokevirtual 19, 3) := by decide +kernel
theorem dX1_byteOf_6 : decode cX1_byteOf 6 = .ok (.istore_n 3, 1) := by decide +kernel
theorem dX1_byteOf_7 : decode cX1_byteOf 7 = .ok (.iload_n 3, 1) := by decide +kernel
theorem dX1_byteOf_8 : decode cX1_byteOf 8 = .ok (.bipush 26, 2) := by decide +kernel
theorem dX1_byteOf_10 : decode cX1_byteOf 10 = .ok (.if_icmp .gt 12, 3) := by decide +kernel
theorem dX1_byteOf_13 : decode cX1_byteOf 13 = .ok (.bipush 97, 2) := by decide +kernel
theorem dX1_byteOf_15 : decode cX1_byteOf 15 = .ok (.iload_n 3, 1) := by decide +kernel
theorem dX1_byteOf_16 : decode cX1_byteOf 16 = .ok (.iadd, 1) := by decide +kernel
theorem dX1_byteOf_17 : decode cX1_byteOf 17 = .ok (.iconst 1, 1) := by decide +kernel
theorem dX1_byteOf_18 : decode cX1_byteOf 18 = .ok (.isub, 1) := by decide +kernel
theorem dX1_byteOf_19 : decode cX1_byteOf 19 = .ok (.goto 10, 3) := by decide +kernel
theorem dX1_byteOf_22 : decode cX1_byteOf 22 = .ok (.bipush 48, 2) := by decide +kernel
theorem dX1_byteOf_24 : decode cX1_byteOf 24 = .ok (.iload_n 3, 1) := by decide +kernel
theorem dX1_byteOf_25 : decode cX1_byteOf 25 = .ok (.iadd, 1) := by decide +kernel
theorem dX1_byteOf_26 : decode cX1_byteOf 26 = .ok (.bipush 27, 2) := by decide +kernel
theorem dX1_byteOf_28 : decode cX1_byteOf 28 = .ok (.isub, 1) := by decide +kernel
theorem dX1_byteOf_29 : decode cX1_byteOf 29 = .ok (.ireturn, 1) := by decide +kernel
theorem dX2_init_0 : decode cX2_init 0 = .ok (.aload_n 0, 1) := by decide +kernel
theorem dX2_init_1 : decode cX2_init 1 = .ok (.invokespecial 3, 3) := by decide +kernel
theorem dX2_init_4 : decode cX2_init 4 = .ok (.aload_n 0, 1) := by decide +kernel
theorem dX2_init_5 : decode cX2_init 5 = .ok (.new 9, 3) := by decide +kernel
theorem dX2_init_8 : decode cX2_init 8 = .ok (.dup, 1) := by decide +kernel
theorem dX2_init_9 : decode cX2_init 9 = .ok (.bipush 16, 2) := by decide +kernel
theorem dX2_init_11 : decode cX2_init 11 = .ok (.invokespecial 11, 3) := by decide +kernel
theorem dX2_init_14 : decode cX2_init 14 = .ok (.putfield 14, 3) := by decide +kernel
theorem dX2_init_17 : decode cX2_init 17 = .ok (.aload_n 0, 1) := by decide +kernel
theorem dX2_init_18 : decode cX2_init 18 = .ok (.new 9, 3) := by decide +kernel
theorem dX2_init_21 : decode cX2_init 21 = .ok (.dup, 1) := by decide +kernel
theorem dX2_init_22 : decode cX2_init 22 = .ok (.bipush 64, 2) := by decide +kernel
theorem dX2_init_24 : decode cX2_init 24 = .ok (.invokespecial 11, 3) := by decide +kernel
theorem dX2_init_27 : decode cX2_init 27 = .ok (.putfield 20, 3) := by decide +kernel
theorem dX2_init_30 : decode cX2_init 30 = .ok (.aload_n 0, 1) := by decide +kernel
theorem dX2_init_31 : decode cX2_init 31 = .ok (.sipush 256, 3) := by decide +kernel
theorem dX2_init_34 : decode cX2_init 34 = .ok (.newarray .int, 2) := by decide +kernel
theorem dX2_init_36 : decode cX2_init 36 = .ok (.putfield 23, 3) := by decide +kernel
theorem dX2_init_39 : decode cX2_init 39 = .ok (.aload_n 0, 1) := by decide +kernel
theorem dX2_init_40 : decode cX2_init 40 = .ok (.sipush 256, 3) := by decide +kernel
theorem dX2_init_43 : decode cX2_init 43 = .ok (.newarray .int, 2) := by decide +kernel
theorem dX2_init_45 : decode cX2_init 45 = .ok (.putfield 27, 3) := by decide +kernel
theorem dX2_init_48 : decode cX2_init 48 = .ok (.aload_n 0, 1) := by decide +kernel
theorem dX2_init_49 : decode cX2_init 49 = .ok (.sipush 256, 3) := by decide +kernel
theorem dX2_init_52 : decode cX2_init 52 = .ok (.newarray .int, 2) := by decide +kernel
theorem dX2_init_54 : decode cX2_init 54 = .ok (.putfield 30, 3) := by decide +kernel
theorem dX2_init_57 : decode cX2_init 57 = .ok (.return_, 1) := by decide +kernel
theorem dX2_clear_0 : decode cX2_clear 0 = .ok (.aload_n 0, 1) := by decide +kernel
theorem dX2_clear_1 : decode cX2_clear 1 = .ok (.getfield 14, 3) := by decide +kernel
theorem dX2_clear_4 : decode cX2_clear 4 = .ok (.iconst 0, 1) := by decide +kernel
theorem dX2_clear_5 : decode cX2_clear 5 = .ok (.putfield 33, 3) := by decide +kernel
theorem dX2_clear_8 : decode cX2_clear 8 = .ok (.aload_n 0, 1) := by decide +kernel
theorem dX2_clear_9 : decode cX2_clear 9 = .ok (.getfield 20, 3) := by decide +kernel
theorem dX2_clear_12 : decode cX2_clear 12 = .ok (.iconst 0, 1) := by decide +kernel
theorem dX2_clear_13 : decode cX2_clear 13 = .ok (.putfield 33, 3) := by decide +kernel
theorem dX2_clear_16 : decode cX2_clear 16 = .ok (.aload_n 0, 1) := by decide +kernel
theorem dX2_clear_17 : decode cX2_clear 17 = .ok (.iconst 0, 1) := by decide +kernel
theorem dX2_clear_18 : decode cX2_clear 18 = .ok (.putfield 37, 3) := by decide +kernel
theorem dX2_clear_21 : decode cX2_clear 21 = .ok (.return_, 1) := by decide +kernel
theorem dX2_add_0 : decode cX2_add 0 = .ok (.aload_n 0, 1) := by decide +kernel
theorem dX2_add_1 : decode cX2_add 1 = .ok (.getfield 23, 3) := by decide +kernel
theorem dX2_add_4 : decode cX2_add 4 = .ok (.aload_n 0, 1) := by decide +kernel
theorem dX2_add_5 : decode cX2_add 5 = .ok (.getfield 37, 3) := by decide +kernel
theorem dX2_add_8 : decode cX2_add 8 = .ok (.iload_n 1, 1) := by decide +kernel
theorem dX2_add_9 : decode cX2_add 9 = .ok (.iastore, 1) := by decide +kernel
theorem dX2_add_10 : decode cX2_add 10 = .ok (.aload_n 0, 1) := by decide +kernel
theorem dX2_add_11 : decode cX2_add 11 = .ok (.getfield 27, 3) := by decide +kernel
theorem dX2_add_14 : decode cX2_add 14 = .ok (.aload_n 0, 1) := by decide +kernel
theorem dX2_add_15 : decode cX2_add 15 = .ok (.getfield 37, 3) := by decide +kernel
theorem dX2_add_18 : decode cX2_add 18 = .ok (.iload_n 2, 1) := by decide +kernel
theorem dX2_add_19 : decode cX2_add 19 = .ok (.iastore, 1) := by decide +kernel
theorem dX2_add_20 : decode cX2_add 20 = .ok (.aload_n 0, 1) := by decide +kernel
theorem dX2_add_21 : decode cX2_add 21 = .ok (.getfield 30, 3) := by decide +kernel
theorem dX2_add_24 : decode cX2_add 24 = .ok (.aload_n 0, 1) := by decide +kernel
theorem dX2_add_25 : decode cX2_add 25 = .ok (.getfield 37, 3) := by decide +kernel
theorem dX2_add_28 : decode cX2_add 28 = .ok (.iload_n 3, 1) := by decide +kernel
theorem dX2_add_29 : decode cX2_add 29 = .ok (.iastore, 1) := by decide +kernel
theorem dX2_add_30 : decode cX2_add 30 = .ok (.aload_n 0, 1) := by decide +kernel
theorem dX2_add_31 : decode cX2_add 31 = .ok (.dup, 1) := by decide +kernel
theorem dX2_add_32 : decode cX2_add 32 = .ok (.getfield 37, 3) := by decide +kernel
theorem dX2_add_35 : decode cX2_add 35 = .ok (.iconst 1, 1) := by decide +kernel
theorem dX2_add_36 : decode cX2_add 36 = .ok (.iadd, 1) := by decide +kernel
theorem dX2_add_37 : decode cX2_add 37 = .ok (.putfield 37, 3) := by decide +kernel
theorem dX2_add_40 : decode cX2_add 40 = .ok (.return_, 1) := by decide +kernel
theorem dX2_caseCount_0 : decode cX2_caseCount 0 = .ok (.iconst 1, 1) := by decide +kernel
theorem dX2_caseCount_1 : decode cX2_caseCount 1 = .ok (.aload_n 0, 1) := by decide +kernel
theorem dX2_caseCount_2 : decode cX2_caseCount 2 = .ok (.getfield 14, 3) := by decide +kernel
theorem dX2_caseCount_5 : decode cX2_caseCount 5 = .ok (.getfield 33, 3) := by decide +kernel
theorem dX2_caseCount_8 : decode cX2_caseCount 8 = .ok (.ishl, 1) := by decide +kernel
theorem dX2_caseCount_9 : decode cX2_caseCount 9 = .ok (.ireturn, 1) := by decide +kernel
theorem dX2_markOf_0 : decode cX2_markOf 0 = .ok (.aload_n 0, 1) := by decide +kernel
theorem dX2_markOf_1 : decode cX2_markOf 1 = .ok (.getfield 23, 3) := by decide +kernel
theorem dX2_markOf_4 : decode cX2_markOf 4 = .ok (.iload_n 1, 1) := by decide +kernel
theorem dX2_markOf_5 : decode cX2_markOf 5 = .ok (.iaload, 1) := by decide +kernel
theorem dX2_markOf_6 : decode cX2_markOf 6 = .ok (.iload_n 2, 1) := by decide +kernel
theorem dX2_markOf_7 : decode cX2_markOf 7 = .ok (.iand, 1) := by decide +kernel
theorem dX2_markOf_8 : decode cX2_markOf 8 = .ok (.ifCond .eq 5, 3) := by decide +kernel
theorem dX2_markOf_11 : decode cX2_markOf 11 = .ok (.iconst 1, 1) := by decide +kernel
theorem dX2_markOf_12 : decode cX2_markOf 12 = .ok (.ireturn, 1) := by decide +kernel
theorem dX2_markOf_13 : decode cX2_markOf 13 = .ok (.aload_n 0, 1) := by decide +kernel
theorem dX2_markOf_14 : decode cX2_markOf 14 = .ok (.getfield 27, 3) := by decide +kernel
theorem dX2_markOf_17 : decode cX2_markOf 17 = .ok (.iload_n 1, 1) := by decide +kernel
theorem dX2_markOf_18 : decode cX2_markOf 18 = .ok (.iaload, 1) := by decide +kernel
theorem dX2_markOf_19 : decode cX2_markOf 19 = .ok (.iload_n 2, 1) := by decide +kernel
theorem dX2_markOf_20 : decode cX2_markOf 20 = .ok (.iand, 1) := by decide +kernel
theorem dX2_markOf_21 : decode cX2_markOf 21 = .ok (.ifCond .eq 7, 3) := by decide +kernel
theorem dX2_markOf_24 : decode cX2_markOf 24 = .ok (.iconst 0, 1) := by decide +kernel
theorem dX2_markOf_25 : decode cX2_markOf 25 = .ok (.goto 4, 3) := by decide +kernel
theorem dX2_markOf_28 : decode cX2_markOf 28 = .ok (.iconst 2, 1) := by decide +kernel
theorem dX2_markOf_29 : decode cX2_markOf 29 = .ok (.ireturn, 1) := by decide +kernel
theorem dX2_firstThatMeets_0 : decode cX2_firstThatMeets 0 = .ok (.iconst 0, 1) := by decide +kernel
theorem dX2_firstThatMeets_1 : decode cX2_firstThatMeets 1 = .ok (.istore_n 2, 1) := by decide +kernel
theorem dX2_firstThatMeets_2 : decode cX2_firstThatMeets 2 = .ok (.iload_n 2, 1) := by decide +kernel
theorem dX2_firstThatMeets_3 : decode cX2_firstThatMeets 3 = .ok (.aload_n 0, 1) := by decide +kernel
theorem dX2_firstThatMeets_4 : decode cX2_firstThatMeets 4 = .ok (.getfield 37, 3) := by decide +kernel
theorem dX2_firstThatMeets_7 : decode cX2_firstThatMeets 7 = .ok (.if_icmp .ge 39, 3) := by decide +kernel
theorem dX2_firstThatMeets_10 : decode cX2_firstThatMeets 10 = .ok (.iload_n 1, 1) := by decide +kernel
theorem dX2_firstThatMeets_11 : decode cX2_firstThatMeets 11 = .ok (.aload_n 0, 1) := by decide +kernel
theorem dX2_firstThatMeets_12 : decode cX2_firstThatMeets 12 = .ok (.getfield 23, 3) := by decide +kernel
theorem dX2_firstThatMeets_15 : decode cX2_firstThatMeets 15 = .ok (.iload_n 2, 1) := by decide +kernel
theorem dX2_firstThatMeets_16 : decode cX2_firstThatMeets 16 = .ok (.iaload, 1) := by decide +kernel
theorem dX2_firstThatMeets_17 : decode cX2_firstThatMeets 17 = .ok (.iand, 1) := by decide +kernel
theorem dX2_firstThatMeets_18 : decode cX2_firstThatMeets 18 = .ok (.aload_n 0, 1) := by decide +kernel
theorem dX2_firstThatMeets_19 : decode cX2_firstThatMeets 19 = .ok (.getfield 23, 3) := by decide +kernel
theorem dX2_firstThatMeets_22 : decode cX2_firstThatMeets 22 = .ok (.iload_n 2, 1) := by decide +kernel
theorem dX2_firstThatMeets_23 : decode cX2_firstThatMeets 23 = .ok (.iaload, 1) := by decide +kernel
theorem dX2_firstThatMeets_24 : decode cX2_firstThatMeets 24 = .ok (.if_icmp .ne 16, 3) := by decide +kernel
theorem dX2_firstThatMeets_27 : decode cX2_firstThatMeets 27 = .ok (.iload_n 1, 1) := by decide +kernel
theorem dX2_firstThatMeets_28 : decode cX2_firstThatMeets 28 = .ok (.aload_n 0, 1) := by decide +kernel
theorem dX2_firstThatMeets_29 : decode cX2_firstThatMeets 29 = .ok (.getfield 27, 3) := by decide +kernel
theorem dX2_firstThatMeets_32 : decode cX2_firstThatMeets 32 = .ok (.iload_n 2, 1) := by decide +kernel
theorem dX2_firstThatMeets_33 : decode cX2_firstThatMeets 33 = .ok (.iaload, 1) := by decide +kernel
theorem dX2_firstThatMeets_34 : decode cX2_firstThatMeets 34 = .ok (.iand, 1) := by decide +kernel
theorem dX2_firstThatMeets_35 : decode cX2_firstThatMeets 35 = .ok (.ifCond .ne 5, 3) := by decide +kernel
theorem dX2_firstThatMeets_38 : decode cX2_firstThatMeets 38 = .ok (.iload_n 2, 1) := by decide +kernel
theorem dX2_firstThatMeets_39 : decode cX2_firstThatMeets 39 = .ok (.ireturn, 1) := by decide +kernel
theorem dX2_firstThatMeets_40 : decode cX2_firstThatMeets 40 = .ok (.iinc 2 1, 3) := by decide +kernel
theorem dX2_firstThatMeets_43 : decode cX2_firstThatMeets 43 = .ok (.goto (-41), 3) := by decide +kernel
theorem dX2_firstThatMeets_46 : decode cX2_firstThatMeets 46 = .ok (.iconst (-1), 1) := by decide +kernel
theorem dX2_firstThatMeets_47 : decode cX2_firstThatMeets 47 = .ok (.ireturn, 1) := by decide +kernel
theorem dX2_contradict_0 : decode cX2_contradict 0 = .ok (.aload_n 0, 1) := by decide +kernel
theorem dX2_contradict_1 : decode cX2_contradict 1 = .ok (.getfield 30, 3) := by decide +kernel
theorem dX2_contradict_4 : decode cX2_contradict 4 = .ok (.iload_n 1, 1) := by decide +kernel
theorem dX2_contradict_5 : decode cX2_contradict 5 = .ok (.iaload, 1) := by decide +kernel
theorem dX2_contradict_6 : decode cX2_contradict 6 = .ok (.aload_n 0, 1) := by decide +kernel
theorem dX2_contradict_7 : decode cX2_contradict 7 = .ok (.getfield 30, 3) := by decide +kernel
theorem dX2_contradict_10 : decode cX2_contradict 10 = .ok (.iload_n 2, 1) := by decide +kernel
theorem dX2_contradict_11 : decode cX2_contradict 11 = .ok (.iaload, 1) := by decide +kernel
theorem dX2_contradict_12 : decode cX2_contradict 12 = .ok (.if_icmp .eq 39, 3) := by decide +kernel
theorem dX2_contradict_15 : decode cX2_contradict 15 = .ok (.aload_n 0, 1) := by decide +kernel
theorem dX2_contradict_16 : decode cX2_contradict 16 = .ok (.getfield 23, 3) := by decide +kernel
theorem dX2_contradict_19 : decode cX2_contradict 19 = .ok (.iload_n 1, 1) := by decide +kernel
theorem dX2_contradict_20 : decode cX2_contradict 20 = .ok (.iaload, 1) := by decide +kernel
theorem dX2_contradict_21 : decode cX2_contradict 21 = .ok (.aload_n 0, 1) := by decide +kernel
theorem dX2_contradict_22 : decode cX2_contradict 22 = .ok (.getfield 27, 3) := by decide +kernel
theorem dX2_contradict_25 : decode cX2_contradict 25 = .ok (.iload_n 2, 1) := by decide +kernel
theorem dX2_contradict_26 : decode cX2_contradict 26 = .ok (.iaload, 1) := by decide +kernel
theorem dX2_contradict_27 : decode cX2_contradict 27 = .ok (.iand, 1) := by decide +kernel
theorem dX2_contradict_28 : decode cX2_contradict 28 = .ok (.ifCond .ne 23, 3) := by decide +kernel
theorem dX2_contradict_31 : decode cX2_contradict 31 = .ok (.aload_n 0, 1) := by decide +kernel
theorem dX2_contradict_32 : decode cX2_contradict 32 = .ok (.getfield 27, 3) := by decide +kernel
theorem dX2_contradict_35 : decode cX2_contradict 35 = .ok (.iload_n 1, 1) := by decide +kernel
theorem dX2_contradict_36 : decode cX2_contradict 36 = .ok (.iaload, 1) := by decide +kernel
theorem dX2_contradict_37 : decode cX2_contradict 37 = .ok (.aload_n 0, 1) := by decide +kernel
theorem dX2_contradict_38 : decode cX2_contradict 38 = .ok (.getfield 23, 3) := by decide +kernel
theorem dX2_contradict_41 : decode cX2_contradict 41 = .ok (.iload_n 2, 1) := by decide +kernel
theorem dX2_contradict_42 : decode cX2_contradict 42 = .ok (.iaload, 1) := by decide +kernel
theorem dX2_contradict_43 : decode cX2_contradict 43 = .ok (.iand, 1) := by decide +kernel
theorem dX2_contradict_44 : decode cX2_contradict 44 = .ok (.ifCond .ne 7, 3) := by decide +kernel
theorem dX2_contradict_47 : decode cX2_contradict 47 = .ok (.iconst 1, 1) := by decide +kernel
theorem dX2_contradict_48 : decode cX2_contradict 48 = .ok (.goto 4, 3) := by decide +kernel
theorem dX2_contradict_51 : decode cX2_contradict 51 = .ok (.iconst 0, 1) := by decide +kernel
theorem dX2_contradict_52 : decode cX2_contradict 52 = .ok (.ireturn, 1) := by decide +kernel
theorem dX3_init_0 : decode cX3_init 0 = .ok (.aload_n 0, 1) := by decide +kernel
theorem dX3_init_1 : decode cX3_init 1 = .ok (.invokespecial 3, 3) := by decide +kernel
theorem dX3_init_4 : decode cX3_init 4 = .ok (.aload_n 0, 1) := by decide +kernel
theorem dX3_init_5 : decode cX3_init 5 = .ok (.sipush 1000, 3) := by decide +kernel
theorem dX3_init_8 : decode cX3_init 8 = .ok (.newarray .long, 2) := by decide +kernel
theorem dX3_init_10 : decode cX3_init 10 = .ok (.putfield 9, 3) := by decide +kernel
theorem dX3_init_13 : decode cX3_init 13 = .ok (.return_, 1) := by decide +kernel
theorem dX3_append_0 : decode cX3_append 0 = .ok (.bipush 8, 2) := by decide +kernel
theorem dX3_append_2 : decode cX3_append 2 = .ok (.aload_n 0, 1) := by decide +kernel
theorem dX3_append_3 : decode cX3_append 3 = .ok (.getfield 15, 3) := by decide +kernel
theorem dX3_append_6 : decode cX3_append 6 = .ok (.bipush 7, 2) := by decide +kernel
theorem dX3_append_8 : decode cX3_append 8 = .ok (.iand, 1) := by decide +kernel
theorem dX3_append_9 : decode cX3_append 9 = .ok (.imul, 1) := by decide +kernel
theorem dX3_append_10 : decode cX3_append 10 = .ok (.istore_n 2, 1) := by decide +kernel
theorem dX3_append_11 : decode cX3_append 11 = .ok (.aload_n 0, 1) := by decide +kernel
theorem dX3_append_12 : decode cX3_append 12 = .ok (.getfield 9, 3) := by decide +kernel
theorem dX3_append_15 : decode cX3_append 15 = .ok (.aload_n 0, 1) := by decide +kernel
theorem dX3_append_16 : decode cX3_append 16 = .ok (.getfield 15, 3) := by decide +kernel
theorem dX3_append_19 : decode cX3_append 19 = .ok (.iconst 3, 1) := by decide +kernel
theorem dX3_append_20 : decode cX3_append 20 = .ok (.ishr, 1) := by decide +kernel
theorem dX3_append_21 : decode cX3_append 21 = .ok (.laload, 1) := by decide +kernel
theorem dX3_append_22 : decode cX3_append 22 = .ok (.ldc2_w 19, 3) := by decide +kernel
theorem dX3_append_25 : decode cX3_append 25 = .ok (.iload_n 2, 1) := by decide +kernel
theorem dX3_append_26 : decode cX3_append 26 = .ok (.lshl, 1) := by decide +kernel
theorem dX3_append_27 : decode cX3_append 27 = .ok (.ldc2_w 21, 3) := by decide +kernel
theorem dX3_append_30 : decode cX3_append 30 = .ok (.lxor, 1) := by decide +kernel
theorem dX3_append_31 : decode cX3_append 31 = .ok (.land, 1) := by decide +kernel
theorem dX3_append_32 : decode cX3_append 32 = .ok (.lstore_n 3, 1) := by decide +kernel
theorem dX3_append_33 : decode cX3_append 33 = .ok (.aload_n 0, 1) := by decide +kernel
theorem dX3_append_34 : decode cX3_append 34 = .ok (.getfield 9, 3) := by decide +kernel
theorem dX3_append_37 : decode cX3_append 37 = .ok (.aload_n 0, 1) := by decide +kernel
theorem dX3_append_38 : decode cX3_append 38 = .ok (.getfield 15, 3) := by decide +kernel
theorem dX3_append_41 : decode cX3_append 41 = .ok (.iconst 3, 1) := by decide +kernel
theorem dX3_append_42 : decode cX3_append 42 = .ok (.ishr, 1) := by decide +kernel
theorem dX3_append_43 : decode cX3_append 43 = .ok (.lload_n 3, 1) := by decide +kernel
theorem dX3_append_44 : decode cX3_append 44 = .ok (.iload_n 1, 1) := by decide +kernel
theorem dX3_append_45 : decode cX3_append 45 = .ok (.i2l, 1) := by decide +kernel
theorem dX3_append_46 : decode cX3_append 46 = .ok (.iload_n 2, 1) := by decide +kernel
theorem dX3_append_47 : decode cX3_append 47 = .ok (.lshl, 1) := by decide +kernel
theorem dX3_append_48 : decode cX3_append 48 = .ok (.lor, 1) := by decide +kernel
theorem dX3_append_49 : decode cX3_append 49 = .ok (.lastore, 1) := by decide +kernel
theorem dX3_append_50 : decode cX3_append 50 = .ok (.aload_n 0, 1) := by decide +kernel
theorem dX3_append_51 : decode cX3_append 51 = .ok (.dup, 1) := by decide +kernel
theorem dX3_append_52 : decode cX3_append 52 = .ok (.getfield 15, 3) := by decide +kernel
theorem dX3_append_55 : decode cX3_append 55 = .ok (.iconst 1, 1) := by decide +kernel
theorem dX3_append_56 : decode cX3_append 56 = .ok (.iadd, 1) := by decide +kernel
theorem dX3_append_57 : decode cX3_append 57 = .ok (.putfield 15, 3) := by decide +kernel
theorem dX3_append_60 : decode cX3_append 60 = .ok (.return_, 1) := by decide +kernel
theorem dX3_byteAt_0 : decode cX3_byteAt 0 = .ok (.aload_n 0, 1) := by decide +kernel
theorem dX3_byteAt_1 : decode cX3_byteAt 1 = .ok (.getfield 9, 3) := by decide +kernel
theorem dX3_byteAt_4 : decode cX3_byteAt 4 = .ok (.iload_n 1, 1) := by decide +kernel
theorem dX3_byteAt_5 : decode cX3_byteAt 5 = .ok (.iconst 3, 1) := by decide +kernel
theorem dX3_byteAt_6 : decode cX3_byteAt 6 = .ok (.ishr, 1) := by decide +kernel
theorem dX3_byteAt_7 : decode cX3_byteAt 7 = .ok (.laload, 1) := by decide +kernel
theorem dX3_byteAt_8 : decode cX3_byteAt 8 = .ok (.bipush 8, 2) := by decide +kernel
theorem dX3_byteAt_10 : decode cX3_byteAt 10 = .ok (.iload_n 1, 1) := by decide +kernel
theorem dX3_byteAt_11 : decode cX3_byteAt 11 = .ok (.bipush 7, 2) := by decide +kernel
theorem dX3_byteAt_13 : decode cX3_byteAt 13 = .ok (.iand, 1) := by decide +kernel
theorem dX3_byteAt_14 : decode cX3_byteAt 14 = .ok (.imul, 1) := by decide +kernel
theorem dX3_byteAt_15 : decode cX3_byteAt 15 = .ok (.lushr, 1) := by decide +kernel
theorem dX3_byteAt_16 : decode cX3_byteAt 16 = .ok (.l2i, 1) := by decide +kernel
theorem dX3_byteAt_17 : decode cX3_byteAt 17 = .ok (.sipush 255, 3) := by decide +kernel
theorem dX3_byteAt_20 : decode cX3_byteAt 20 = .ok (.iand, 1) := by decide +kernel
theorem dX3_byteAt_21 : decode cX3_byteAt 21 = .ok (.ireturn, 1) := by decide +kernel
theorem dX3_parse_0 : decode cX3_parse 0 = .ok (.aload_n 0, 1) := by decide +kernel
theorem dX3_parse_1 : decode cX3_parse 1 = .ok (.iconst 0, 1) := by decide +kernel
theorem dX3_parse_2 : decode cX3_parse 2 = .ok (.putfield 23, 3) := by decide +kernel
theorem dX3_parse_5 : decode cX3_parse 5 = .ok (.aload_n 0, 1) := by decide +kernel
theorem dX3_parse_6 : decode cX3_parse 6 = .ok (.iconst 0, 1) := by decide +kernel
theorem dX3_parse_7 : decode cX3_parse 7 = .ok (.putfield 26, 3) := by decide +kernel
theorem dX3_parse_10 : decode cX3_parse 10 = .ok (.aload_n 1, 1) := by decide +kernel
theorem dX3_parse_11 : decode cX3_parse 11 = .ok (.invokevirtual 29, 3) := by decide +kernel
theorem dX3_parse_14 : decode cX3_parse 14 = .ok (.aload_n 0, 1) := by decide +kernel
theorem dX3_parse_15 : decode cX3_parse 15 = .ok (.invokevirtual 34, 3) := by decide +kernel
theorem dX3_parse_18 : decode cX3_parse 18 = .ok (.ifCond .eq 33, 3) := by decide +kernel
theorem dX3_parse_21 : decode cX3_parse 21 = .ok (.aload_n 0, 1) := by decide +kernel
theorem dX3_parse_22 : decode cX3_parse 22 = .ok (.ldc2_w 38, 3) := by decide +kernel
theorem dX3_parse_25 : decode cX3_parse 25 = .ok (.invokevirtual 40, 3) := by decide +kernel
theorem dX3_parse_28 : decode cX3_parse 28 = .ok (.ifCond .eq 23, 3) := by decide +kernel
theorem dX3_parse_31 : decode cX3_parse 31 = .ok (.aload_n 0, 1) := by decide +kernel
theorem dX3_parse_32 : decode cX3_parse 32 = .ok (.aload_n 1, 1) := by decide +kernel
theorem dX3_parse_33 : decode cX3_parse 33 = .ok (.invokevirtual 44, 3) := by decide +kernel
theorem dX3_parse_36 : decode cX3_parse 36 = .ok (.ifCond .eq 15, 3) := by decide +kernel
theorem dX3_parse_39 : decode cX3_parse 39 = .ok (.aload_n 0, 1) := by decide +kernel
theorem dX3_parse_40 : decode cX3_parse 40 = .ok (.aload_n 1, 1) := by decide +kernel
theorem dX3_parse_41 : decode cX3_parse 41 = .ok (.invokevirtual 48, 3) := by decide +kernel
theorem dX3_parse_44 : decode cX3_parse 44 = .ok (.ifCond .eq 7, 3) := by decide +kernel
theorem dX3_parse_47 : decode cX3_parse 47 = .ok (.iconst 1, 1) := by decide +kernel
theorem dX3_parse_48 : decode cX3_parse 48 = .ok (.goto 4, 3) := by decide +kernel
theorem dX3_parse_51 : decode cX3_parse 51 = .ok (.iconst 0, 1) := by decide +kernel
theorem dX3_parse_52 : decode cX3_parse 52 = .ok (.ireturn, 1) := by decide +kernel
theorem dX3_fail_0 : decode cX3_fail 0 = .ok (.aload_n 0, 1) := by decide +kernel
theorem dX3_fail_1 : decode cX3_fail 1 = .ok (.iload_n 1, 1) := by decide +kernel
theorem dX3_fail_2 : decode cX3_fail 2 = .ok (.putfield 26, 3) := by decide +kernel
theorem dX3_fail_5 : decode cX3_fail 5 = .ok (.aload_n 0, 1) := by decide +kernel
theorem dX3_fail_6 : decode cX3_fail 6 = .ok (.iload_n 2, 1) := by decide +kernel
theorem dX3_fail_7 : decode cX3_fail 7 = .ok (.putfield 51, 3) := by decide +kernel
theorem dX3_fail_10 : decode cX3_fail 10 = .ok (.iconst 0, 1) := by decide +kernel
theorem dX3_fail_11 : decode cX3_fail 11 = .ok (.ireturn, 1) := by decide +kernel
theorem dX3_look_0 : decode cX3_look 0 = .ok (.aload_n 0, 1) := by decide +kernel
theorem dX3_look_1 : decode cX3_look 1 = .ok (.getfield 23, 3) := by decide +kernel
theorem dX3_look_4 : decode cX3_look 4 = .ok (.aload_n 0, 1) := by decide +kernel
theorem dX3_look_5 : decode cX3_look 5 = .ok (.getfield 15, 3) := by decide +kernel
theorem dX3_look_8 : decode cX3_look 8 = .ok (.if_icmp .ge 51, 3) := by decide +kernel
theorem dX3_look_11 : decode cX3_look 11 = .ok (.aload_n 0, 1) := by decide +kernel
theorem dX3_look_12 : decode cX3_look 12 = .ok (.aload_n 0, 1) := by decide +kernel
theorem dX3_look_13 : decode cX3_look 13 = .ok (.getfield 23, 3) := by decide +kernel
theorem dX3_look_16 : decode cX3_look 16 = .ok (.invokevirtual 54, 3) := by decide +kernel
theorem dX3_look_19 : decode cX3_look 19 = .ok (.istore_n 1, 1) := by decide +kernel
theorem dX3_look_20 : decode cX3_look 20 = .ok (.iload_n 1, 1) := by decide +kernel
theorem dX3_look_21 : decode cX3_look 21 = .ok (.bipush 9, 2) := by decide +kernel
theorem dX3_look_23 : decode cX3_look 23 = .ok (.if_icmp .eq 23, 3) := by decide +kernel
theorem dX3_look_26 : decode cX3_look 26 = .ok (.iload_n 1, 1) := by decide +kernel
theorem dX3_look_27 : decode cX3_look 27 = .ok (.bipush 10, 2) := by decide +kernel
theorem dX3_look_29 : decode cX3_look 29 = .ok (.if_icmp .eq 17, 3) := by decide +kernel
theorem dX3_look_32 : decode cX3_look 32 = .ok (.iload_n 1, 1) := by decide +kernel
theorem dX3_look_33 : decode cX3_look 33 = .ok (.bipush 13, 2) := by decide +kernel
theorem dX3_look_35 : decode cX3_look 35 = .ok (.if_icmp .eq 11, 3) := by decide +kernel
theorem dX3_look_38 : decode cX3_look 38 = .ok (.iload_n 1, 1) := by decide +kernel
theorem dX3_look_39 : decode cX3_look 39 = .ok (.bipush 32, 2) := by decide +kernel
theorem dX3_look_41 : decode cX3_look 41 = .ok (.if_icmp .eq 5, 3) := by decide +kernel
theorem dX3_look_44 : decode cX3_look 44 = .ok (.iload_n 1, 1) := by decide +kernel
theorem dX3_look_45 : decode cX3_look 45 = .ok (.ireturn, 1) := by decide +kernel
theorem dX3_look_46 : decode cX3_look 46 = .ok (.aload_n 0, 1) := by decide +kernel
theorem dX3_look_47 : decode cX3_look 47 = .ok (.dup, 1) := by decide +kernel
theorem dX3_look_48 : decode cX3_look 48 = .ok (.getfield 23, 3) := by decide +kernel
theorem dX3_look_51 : decode cX3_look 51 = .ok (.iconst 1, 1) := by decide +kernel
theorem dX3_look_52 : decode cX3_look 52 = .ok (.iadd, 1) := by decide +kernel
theorem dX3_look_53 : decode cX3_look 53 = .ok (.putfield 23, 3) := by decide +kernel
theorem dX3_look_56 : decode cX3_look 56 = .ok (.goto (-56), 3) := by decide +kernel
theorem dX3_look_59 : decode cX3_look 59 = .ok (.iconst (-1), 1) := by decide +kernel
theorem dX3_look_60 : decode cX3_look 60 = .ok (.ireturn, 1) := by decide +kernel
theorem dX3_passByte_0 : decode cX3_passByte 0 = .ok (.aload_n 0, 1) := by decide +kernel
theorem dX3_passByte_1 : decode cX3_passByte 1 = .ok (.invokevirtual 58, 3) := by decide +kernel
theorem dX3_passByte_4 : decode cX3_passByte 4 = .ok (.iload_n 1, 1) := by decide +kernel
theorem dX3_passByte_5 : decode cX3_passByte 5 = .ok (.if_icmp .eq 13, 3) := by decide +kernel
theorem dX3_passByte_8 : decode cX3_passByte 8 = .ok (.aload_n 0, 1) := by decide +kernel
theorem dX3_passByte_9 : decode cX3_passByte 9 = .ok (.iconst 1, 1) := by decide +kernel
theorem dX3_passByte_10 : decode cX3_passByte 10 = .ok (.aload_n 0, 1) := by decide +kernel
theorem dX3_passByte_11 : decode cX3_passByte 11 = .ok (.getfield 23, 3) := by decide +kernel
theorem dX3_passByte_14 : decode cX3_passByte 14 = .ok (.invokevirtual 62, 3) := by decide +kernel
theorem dX3_passByte_17 : decode cX3_passByte 17 = .ok (.ireturn, 1) := by decide +kernel
theorem dX3_passByte_18 : decode cX3_passByte 18 = .ok (.aload_n 0, 1) := by decide +kernel
theorem dX3_passByte_19 : decode cX3_passByte 19 = .ok (.dup, 1) := by decide +kernel
theorem dX3_passByte_20 : decode cX3_passByte 20 = .ok (.getfield 23, 3) := by decide +kernel
theorem dX3_passByte_23 : decode cX3_passByte 23 = .ok (.iconst 1, 1) := by decide +kernel
theorem dX3_passByte_24 : decode cX3_passByte 24 = .ok (.iadd, 1) := by decide +kernel
theorem dX3_passByte_25 : decode cX3_passByte 25 = .ok (.putfield 23, 3) := by decide +kernel
theorem dX3_passByte_28 : decode cX3_passByte 28 = .ok (.iconst 1, 1) := by decide +kernel
theorem dX3_passByte_29 : decode cX3_passByte 29 = .ok (.ireturn, 1) := by decide +kernel
theorem dX3_passName_0 : decode cX3_passName 0 = .ok (.aload_n 0, 1) := by decide +kernel
theorem dX3_passName_1 : decode cX3_passName 1 = .ok (.invokevirtual 58, 3) := by decide +kernel
theorem dX3_passName_4 : decode cX3_passName 4 = .ok (.istore_n 1, 1) := by decide +kernel
theorem dX3_passName_5 : decode cX3_passName 5 = .ok (.iload_n 1, 1) := by decide +kernel
theorem dX3_passName_6 : decode cX3_passName 6 = .ok (.bipush 97, 2) := by decide +kernel
theorem dX3_passName_8 : decode cX3_passName 8 = .ok (.if_icmp .lt 9, 3) := by decide +kernel
theorem dX3_passName_11 : decode cX3_passName 11 = .ok (.iload_n 1, 1) := by decide +kernel
theorem dX3_passName_12 : decode cX3_passName 12 = .ok (.bipush 122, 2) := by decide +kernel
theorem dX3_passName_14 : decode cX3_passName 14 = .ok (.if_icmp .le 13, 3) := by decide +kernel
theorem dX3_passName_17 : decode cX3_passName 17 = .ok (.aload_n 0, 1) := by decide +kernel
theorem dX3_passName_18 : decode cX3_passName 18 = .ok (.iconst 1, 1) := by decide +kernel
theorem dX3_passName_19 : decode cX3_passName 19 = .ok (.aload_n 0, 1) := by decide +kernel
theorem dX3_passName_20 : decode cX3_passName 20 = .ok (.getfield 23, 3) := by decide +kernel
theorem dX3_passName_23 : decode cX3_passName 23 = .ok (.invokevirtual 62, 3) := by decide +kernel
theorem dX3_passName_26 : decode cX3_passName 26 = .ok (.ireturn, 1) := by decide +kernel
theorem dX3_passName_27 : decode cX3_passName 27 = .ok (.aload_n 0, 1) := by decide +kernel
theorem dX3_passName_28 : decode cX3_passName 28 = .ok (.aload_n 0, 1) := by decide +kernel
theorem dX3_passName_29 : decode cX3_passName 29 = .ok (.getfield 23, 3) := by decide +kernel
theorem dX3_passName_32 : decode cX3_passName 32 = .ok (.putfield 66, 3) := by decide +kernel
theorem dX3_passName_35 : decode cX3_passName 35 = .ok (.aload_n 0, 1) := by decide +kernel
theorem dX3_passName_36 : decode cX3_passName 36 = .ok (.lconst 0, 1) := by decide +kernel
theorem dX3_passName_37 : decode cX3_passName 37 = .ok (.putfield 69, 3) := by decide +kernel
theorem dX3_passName_40 : decode cX3_passName 40 = .ok (.aload_n 0, 1) := by decide +kernel
theorem dX3_passName_41 : decode cX3_passName 41 = .ok (.getfield 23, 3) := by decide +kernel
theorem dX3_passName_44 : decode cX3_passName 44 = .ok (.aload_n 0, 1) := by decide +kernel
theorem dX3_passName_45 : decode cX3_passName 45 = .ok (.getfield 15, 3) := by decide +kernel
theorem dX3_passName_48 : decode cX3_passName 48 = .ok (.if_icmp .ge 78, 3) := by decide +kernel
theorem dX3_passName_51 : decode cX3_passName 51 = .ok (.aload_n 0, 1) := by decide +kernel
theorem dX3_passName_52 : decode cX3_passName 52 = .ok (.aload_n 0, 1) := by decide +kernel
theorem dX3_passName_53 : decode cX3_passName 53 = .ok (.getfield 23, 3) := by decide +kernel
theorem dX3_passName_56 : decode cX3_passName 56 = .ok (.invokevirtual 54, 3) := by decide +kernel
theorem dX3_passName_59 : decode cX3_passName 59 = .ok (.invokestatic 73, 3) := by decide +kernel
theorem dX3_passName_62 : decode cX3_passName 62 = .ok (.ifCond .eq 64, 3) := by decide +kernel
theorem dX3_passName_65 : decode cX3_passName 65 = .ok (.aload_n 0, 1) := by decide +kernel
theorem dX3_passName_66 : decode cX3_passName 66 = .ok (.getfield 23, 3) := by decide +kernel
theorem dX3_passName_69 : decode cX3_passName 69 = .ok (.aload_n 0, 1) := by decide +kernel
theorem dX3_passName_70 : decode cX3_passName 70 = .ok (.getfield 66, 3) := by decide +kernel
theorem dX3_passName_73 : decode cX3_passName 73 = .ok (.isub, 1) := by decide +kernel
theorem dX3_passName_74 : decode cX3_passName 74 = .ok (.bipush 10, 2) := by decide +kernel
theorem dX3_passName_76 : decode cX3_passName 76 = .ok (.if_icmp .ge 37, 3) := by decide +kernel
theorem dX3_passName_79 : decode cX3_passName 79 = .ok (.aload_n 0, 1) := by decide +kernel
theorem dX3_passName_80 : decode cX3_passName 80 = .ok (.dup, 1) := by decide +kernel
theorem dX3_passName_81 : decode cX3_passName 81 = .ok (.getfield 69, 3) := by decide +kernel
theorem dX3_passName_84 : decode cX3_passName 84 = .ok (.aload_n 0, 1) := by decide +kernel
theorem dX3_passName_85 : decode cX3_passName 85 = .ok (.aload_n 0, 1) := by decide +kernel
theorem dX3_passName_86 : decode cX3_passName 86 = .ok (.getfield 23, 3) := by decide +kernel
theorem dX3_passName_89 : decode cX3_passName 89 = .ok (.invokevirtual 54, 3) := by decide +kernel
theorem dX3_passName_92 : decode cX3_passName 92 = .ok (.invokestatic 73, 3) := by decide +kernel
theorem dX3_passName_95 : decode cX3_passName 95 = .ok (.i2l, 1) := by decide +kernel
theorem dX3_passName_96 : decode cX3_passName 96 = .ok (.bipush 6, 2) := by decide +kernel
theorem dX3_passName_98 : decode cX3_passName 98 = .ok (.aload_n 0, 1) := by decide +kernel
theorem dX3_passName_99 : decode cX3_passName 99 = .ok (.getfield 23, 3) := by decide +kernel
theorem dX3_passName_102 : decode cX3_passName 102 = .ok (.aload_n 0, 1) := by decide +kernel
theorem dX3_passName_103 : decode cX3_passName 103 = .ok (.getfield 66, 3) := by decide +kernel
theorem dX3_passName_106 : decode cX3_passName 106 = .ok (.isub, 1) := by decide +kernel
theorem dX3_passName_107 : decode cX3_passName 107 = .ok (.imul, 1) := by decide +kernel
theorem dX3_passName_108 : decode cX3_passName 108 = .ok (.lshl, 1) := by decide +kernel
theorem dX3_passName_109 : decode cX3_passName 109 = .ok (.lor, 1) := by decide +kernel
theorem dX3_passName_110 : decode cX3_passName 110 = .ok (.putfield 69, 3) := by decide +kernel
theorem dX3_passName_113 : decode cX3_passName 113 = .ok (.aload_n 0, 1) := by decide +kernel
theorem dX3_passName_114 : decode cX3_passName 114 = .ok (.dup, 1) := by decide +kernel
theorem dX3_passName_115 : decode cX3_passName 115 = .ok (.getfield 23, 3) := by decide +kernel
theorem dX3_passName_118 : decode cX3_passName 118 = .ok (.iconst 1, 1) := by decide +kernel
theorem dX3_passName_119 : decode cX3_passName 119 = .ok (.iadd, 1) := by decide +kernel
theorem dX3_passName_120 : decode cX3_passName 120 = .ok (.putfield 23, 3) := by decide +kernel
theorem dX3_passName_123 : decode cX3_passName 123 = .ok (.goto (-83), 3) := by decide +kernel
theorem dX3_passName_126 : decode cX3_passName 126 = .ok (.aload_n 0, 1) := by decide +kernel
theorem dX3_passName_127 : decode cX3_passName 127 = .ok (.getfield 23, 3) := by decide +kernel
theorem dX3_passName_130 : decode cX3_passName 130 = .ok (.aload_n 0, 1) := by decide +kernel
theorem dX3_passName_131 : decode cX3_passName 131 = .ok (.getfield 66, 3) := by decide +kernel
theorem dX3_passName_134 : decode cX3_passName 134 = .ok (.isub, 1) := by decide +kernel
theorem dX3_passName_135 : decode cX3_passName 135 = .ok (.bipush 10, 2) := by decide +kernel
theorem dX3_passName_137 : decode cX3_passName 137 = .ok (.if_icmp .le 15, 3) := by decide +kernel
theorem dX3_passName_140 : decode cX3_passName 140 = .ok (.aload_n 0, 1) := by decide +kernel
theorem dX3_passName_141 : decode cX3_passName 141 = .ok (.iconst 1, 1) := by decide +kernel
theorem dX3_passName_142 : decode cX3_passName 142 = .ok (.aload_n 0, 1) := by decide +kernel
theorem dX3_passName_143 : decode cX3_passName 143 = .ok (.getfield 66, 3) := by decide +kernel
theorem dX3_passName_146 : decode cX3_passName 146 = .ok (.invokevirtual 62, 3) := by decide +kernel
theorem dX3_passName_149 : decode cX3_passName 149 = .ok (.ifCond .eq 7, 3) := by decide +kernel
theorem dX3_passName_152 : decode cX3_passName 152 = .ok (.iconst 1, 1) := by decide +kernel
theorem dX3_passName_153 : decode cX3_passName 153 = .ok (.goto 4, 3) := by decide +kernel
theorem dX3_passName_156 : decode cX3_passName 156 = .ok (.iconst 0, 1) := by decide +kernel
theorem dX3_passName_157 : decode cX3_passName 157 = .ok (.ireturn, 1) := by decide +kernel
theorem dX3_isWord_0 : decode cX3_isWord 0 = .ok (.aload_n 0, 1) := by decide +kernel
theorem dX3_isWord_1 : decode cX3_isWord 1 = .ok (.getfield 69, 3) := by decide +kernel
theorem dX3_isWord_4 : decode cX3_isWord 4 = .ok (.lload_n 1, 1) := by decide +kernel
theorem dX3_isWord_5 : decode cX3_isWord 5 = .ok (.lcmp, 1) := by decide +kernel
theorem dX3_isWord_6 : decode cX3_isWord 6 = .ok (.ifCond .eq 15, 3) := by decide +kernel
theorem dX3_isWord_9 : decode cX3_isWord 9 = .ok (.aload_n 0, 1) := by decide +kernel
theorem dX3_isWord_10 : decode cX3_isWord 10 = .ok (.iconst 1, 1) := by decide +kernel
theorem dX3_isWord_11 : decode cX3_isWord 11 = .ok (.aload_n 0, 1) := by decide +kernel
theorem dX3_isWord_12 : decode cX3_isWord 12 = .ok (.getfield 66, 3) := by decide +kernel
theorem dX3_isWord_15 : decode cX3_isWord 15 = .ok (.invokevirtual 62, 3) := by decide +kernel
theorem dX3_isWord_18 : decode cX3_isWord 18 = .ok (.ifCond .eq 7, 3) := by decide +kernel
theorem dX3_isWord_21 : decode cX3_isWord 21 = .ok (.iconst 1, 1) := by decide +kernel
theorem dX3_isWord_22 : decode cX3_isWord 22 = .ok (.goto 4, 3) := by decide +kernel
theorem dX3_isWord_25 : decode cX3_isWord 25 = .ok (.iconst 0, 1) := by decide +kernel
theorem dX3_isWord_26 : decode cX3_isWord 26 = .ok (.ireturn, 1) := by decide +kernel
theorem dX3_passConditions_0 : decode cX3_passConditions 0 = .ok (.iconst 0, 1) := by decide +kernel
theorem dX3_passConditions_1 : decode cX3_passConditions 1 = .ok (.istore_n 2, 1) := by decide +kernel
theorem dX3_passConditions_2 : decode cX3_passConditions 2 = .ok (.iload_n 2, 1) := by decide +kernel
theorem dX3_passConditions_3 : decode cX3_passConditions 3 = .ok (.bipush 16, 2) := by decide +kernel
theorem dX3_passConditions_5 : decode cX3_passConditions 5 = .ok (.if_icmp .gt 48, 3) := by decide +kernel
theorem dX3_passConditions_8 : decode cX3_passConditions 8 = .ok (.aload_n 0, 1) := by decide +kernel
theorem dX3_passConditions_9 : decode cX3_passConditions 9 = .ok (.aload_n 1, 1) := by decide +kernel
theorem dX3_passConditions_10 : decode cX3_passConditions 10 = .ok (.getfield 78, 3) := by decide +kernel
theorem dX3_passConditions_13 : decode cX3_passConditions 13 = .ok (.invokevirtual 82, 3) := by decide +kernel
theorem dX3_passConditions_16 : decode cX3_passConditions 16 = .ok (.ifCond .ne 5, 3) := by decide +kernel
theorem dX3_passConditions_19 : decode cX3_passConditions 19 = .ok (.iconst 0, 1) := by decide +kernel
theorem dX3_passConditions_20 : decode cX3_passConditions 20 = .ok (.ireturn, 1) := by decide +kernel
theorem dX3_passConditions_21 : decode cX3_passConditions 21 = .ok (.aload_n 0, 1) := by decide +kernel
theorem dX3_passConditions_22 : decode cX3_passConditions 22 = .ok (.invokevirtual 58, 3) := by decide +kernel
theorem dX3_passConditions_25 : decode cX3_passConditions 25 = .ok (.bipush 44, 2) := by decide +kernel
theorem dX3_passConditions_27 : decode cX3_passConditions 27 = .ok (.if_icmp .eq 10, 3) := by decide +kernel
theorem dX3_passConditions_30 : decode cX3_passConditions 30 = .ok (.aload_n 0, 1) := by decide +kernel
theorem dX3_passConditions_31 : decode cX3_passConditions 31 = .ok (.bipush 59, 2) := by decide +kernel
theorem dX3_passConditions_33 : decode cX3_passConditions 33 = .ok (.invokevirtual 86, 3) := by decide +kernel
theorem dX3_passConditions_36 : decode cX3_passConditions 36 = .ok (.ireturn, 1) := by decide +kernel
theorem dX3_passConditions_37 : decode cX3_passConditions 37 = .ok (.aload_n 0, 1) := by decide +kernel
theorem dX3_passConditions_38 : decode cX3_passConditions 38 = .ok (.dup, 1) := by decide +kernel
theorem dX3_passConditions_39 : decode cX3_passConditions 39 = .ok (.getfield 23, 3) := by decide +kernel
theorem dX3_passConditions_42 : decode cX3_passConditions 42 = .ok (.iconst 1, 1) := by decide +kernel
theorem dX3_passConditions_43 : decode cX3_passConditions 43 = .ok (.iadd, 1) := by decide +kernel
theorem dX3_passConditions_44 : decode cX3_passConditions 44 = .ok (.putfield 23, 3) := by decide +kernel
theorem dX3_passConditions_47 : decode cX3_passConditions 47 = .ok (.iinc 2 1, 3) := by decide +kernel
theorem dX3_passConditions_50 : decode cX3_passConditions 50 = .ok (.goto (-48), 3) := by decide +kernel
theorem dX3_passConditions_53 : decode cX3_passConditions 53 = .ok (.aload_n 0, 1) := by decide +kernel
theorem dX3_passConditions_54 : decode cX3_passConditions 54 = .ok (.iconst 3, 1) := by decide +kernel
theorem dX3_passConditions_55 : decode cX3_passConditions 55 = .ok (.aload_n 0, 1) := by decide +kernel
theorem dX3_passConditions_56 : decode cX3_passConditions 56 = .ok (.getfield 66, 3) := by decide +kernel
theorem dX3_passConditions_59 : decode cX3_passConditions 59 = .ok (.invokevirtual 62, 3) := by decide +kernel
theorem dX3_passConditions_62 : decode cX3_passConditions 62 = .ok (.ireturn, 1) := by decide +kernel
theorem dX3_passCondition_0 : decode cX3_passCondition 0 = .ok (.aload_n 0, 1) := by decide +kernel
theorem dX3_passCondition_1 : decode cX3_passCondition 1 = .ok (.invokevirtual 34, 3) := by decide +kernel
theorem dX3_passCondition_4 : decode cX3_passCondition 4 = .ok (.ifCond .ne 5, 3) := by decide +kernel
theorem dX3_passCondition_7 : decode cX3_passCondition 7 = .ok (.iconst 0, 1) := by decide +kernel
theorem dX3_passCondition_8 : decode cX3_passCondition 8 = .ok (.ireturn, 1) := by decide +kernel
theorem dX3_passCondition_9 : decode cX3_passCondition 9 = .ok (.aload_n 1, 1) := by decide +kernel
theorem dX3_passCondition_10 : decode cX3_passCondition 10 = .ok (.aload_n 0, 1) := by decide +kernel
theorem dX3_passCondition_11 : decode cX3_passCondition 11 = .ok (.getfield 69, 3) := by decide +kernel
theorem dX3_passCondition_14 : decode cX3_passCondition 14 = .ok (.invokevirtual 90, 3) := by decide +kernel
theorem dX3_passCondition_17 : decode cX3_passCondition 17 = .ok (.iconst (-1), 1) := by decide +kernel
theorem dX3_passCondition_18 : decode cX3_passCondition 18 = .ok (.if_icmp .eq 13, 3) := by decide +kernel
theorem dX3_passCondition_21 : decode cX3_passCondition 21 = .ok (.aload_n 0, 1) := by decide +kernel
theorem dX3_passCondition_22 : decode cX3_passCondition 22 = .ok (.iconst 2, 1) := by decide +kernel
theorem dX3_passCondition_23 : decode cX3_passCondition 23 = .ok (.aload_n 0, 1) := by decide +kernel
theorem dX3_passCondition_24 : decode cX3_passCondition 24 = .ok (.getfield 66, 3) := by decide +kernel
theorem dX3_passCondition_27 : decode cX3_passCondition 27 = .ok (.invokevirtual 62, 3) := by decide +kernel
theorem dX3_passCondition_30 : decode cX3_passCondition 30 = .ok (.ireturn, 1) := by decide +kernel
theorem dX3_passCondition_31 : decode cX3_passCondition 31 = .ok (.aload_n 1, 1) := by decide +kernel
theorem dX3_passCondition_32 : decode cX3_passCondition 32 = .ok (.aload_n 0, 1) := by decide +kernel
theorem dX3_passCondition_33 : decode cX3_passCondition 33 = .ok (.getfield 69, 3) := by decide +kernel
theorem dX3_passCondition_36 : decode cX3_passCondition 36 = .ok (.invokevirtual 94, 3) := by decide +kernel
theorem dX3_passCondition_39 : decode cX3_passCondition 39 = .ok (.ifCond .ne 15, 3) := by decide +kernel
theorem dX3_passCondition_42 : decode cX3_passCondition 42 = .ok (.aload_n 0, 1) := by decide +kernel
theorem dX3_passCondition_43 : decode cX3_passCondition 43 = .ok (.iconst 3, 1) := by decide +kernel
theorem dX3_passCondition_44 : decode cX3_passCondition 44 = .ok (.aload_n 0, 1) := by decide +kernel
theorem dX3_passCondition_45 : decode cX3_passCondition 45 = .ok (.getfield 66, 3) := by decide +kernel
theorem dX3_passCondition_48 : decode cX3_passCondition 48 = .ok (.invokevirtual 62, 3) := by decide +kernel
theorem dX3_passCondition_51 : decode cX3_passCondition 51 = .ok (.ifCond .eq 7, 3) := by decide +kernel
theorem dX3_passCondition_54 : decode cX3_passCondition 54 = .ok (.iconst 1, 1) := by decide +kernel
theorem dX3_passCondition_55 : decode cX3_passCondition 55 = .ok (.goto 4, 3) := by decide +kernel
theorem dX3_passCondition_58 : decode cX3_passCondition 58 = .ok (.iconst 0, 1) := by decide +kernel
theorem dX3_passCondition_59 : decode cX3_passCondition 59 = .ok (.ireturn, 1) := by decide +kernel
theorem dX3_passRules_0 : decode cX3_passRules 0 = .ok (.iconst 0, 1) := by decide +kernel
theorem dX3_passRules_1 : decode cX3_passRules 1 = .ok (.istore_n 2, 1) := by decide +kernel
theorem dX3_passRules_2 : decode cX3_passRules 2 = .ok (.iload_n 2, 1) := by decide +kernel
theorem dX3_passRules_3 : decode cX3_passRules 3 = .ok (.sipush 256, 3) := by decide +kernel
theorem dX3_passRules_6 : decode cX3_passRules 6 = .ok (.if_icmp .gt 33, 3) := by decide +kernel
theorem dX3_passRules_9 : decode cX3_passRules 9 = .ok (.iload_n 2, 1) := by decide +kernel
theorem dX3_passRules_10 : decode cX3_passRules 10 = .ok (.ifCond .le 13, 3) := by decide +kernel
theorem dX3_passRules_13 : decode cX3_passRules 13 = .ok (.aload_n 0, 1) := by decide +kernel
theorem dX3_passRules_14 : decode cX3_passRules 14 = .ok (.invokevirtual 58, 3) := by decide +kernel
theorem dX3_passRules_17 : decode cX3_passRules 17 = .ok (.iconst (-1), 1) := by decide +kernel
theorem dX3_passRules_18 : decode cX3_passRules 18 = .ok (.if_icmp .ne 5, 3) := by decide +kernel
theorem dX3_passRules_21 : decode cX3_passRules 21 = .ok (.iconst 1, 1) := by decide +kernel
theorem dX3_passRules_22 : decode cX3_passRules 22 = .ok (.ireturn, 1) := by decide +kernel
theorem dX3_passRules_23 : decode cX3_passRules 23 = .ok (.aload_n 0, 1) := by decide +kernel
theorem dX3_passRules_24 : decode cX3_passRules 24 = .ok (.aload_n 1, 1) := by decide +kernel
theorem dX3_passRules_25 : decode cX3_passRules 25 = .ok (.invokevirtual 97, 3) := by decide +kernel
theorem dX3_passRules_28 : decode cX3_passRules 28 = .ok (.ifCond .ne 5, 3) := by decide +kernel
theorem dX3_passRules_31 : decode cX3_passRules 31 = .ok (.iconst 0, 1) := by decide +kernel
theorem dX3_passRules_32 : decode cX3_passRules 32 = .ok (.ireturn, 1) := by decide +kernel
theorem dX3_passRules_33 : decode cX3_passRules 33 = .ok (.iinc 2 1, 3) := by decide +kernel
theorem dX3_passRules_36 : decode cX3_passRules 36 = .ok (.goto (-34), 3) := by decide +kernel
theorem dX3_passRules_39 : decode cX3_passRules 39 = .ok (.aload_n 0, 1) := by decide +kernel
theorem dX3_passRules_40 : decode cX3_passRules 40 = .ok (.iconst 3, 1) := by decide +kernel
theorem dX3_passRules_41 : decode cX3_passRules 41 = .ok (.aload_n 0, 1) := by decide +kernel
theorem dX3_passRules_42 : decode cX3_passRules 42 = .ok (.getfield 23, 3) := by decide +kernel
theorem dX3_passRules_45 : decode cX3_passRules 45 = .ok (.invokevirtual 62, 3) := by decide +kernel
theorem dX3_passRules_48 : decode cX3_passRules 48 = .ok (.ireturn, 1) := by decide +kernel
theorem dX3_passRule_0 : decode cX3_passRule 0 = .ok (.iconst 0, 1) := by decide +kernel
theorem dX3_passRule_1 : decode cX3_passRule 1 = .ok (.istore_n 2, 1) := by decide +kernel
theorem dX3_passRule_2 : decode cX3_passRule 2 = .ok (.iconst 0, 1) := by decide +kernel
theorem dX3_passRule_3 : decode cX3_passRule 3 = .ok (.istore_n 3, 1) := by decide +kernel
theorem dX3_passRule_4 : decode cX3_passRule 4 = .ok (.iconst 0, 1) := by decide +kernel
theorem dX3_passRule_5 : decode cX3_passRule 5 = .ok (.istore 4, 2) := by decide +kernel
theorem dX3_passRule_7 : decode cX3_passRule 7 = .ok (.iload 4, 2) := by decide +kernel
theorem dX3_passRule_9 : decode cX3_passRule 9 = .ok (.aload_n 1, 1) := by decide +kernel
theorem dX3_passRule_10 : decode cX3_passRule 10 = .ok (.getfield 78, 3) := by decide +kernel
theorem dX3_passRule_13 : decode cX3_passRule 13 = .ok (.getfield 100, 3) := by decide +kernel
theorem dX3_passRule_16 : decode cX3_passRule 16 = .ok (.if_icmp .ge 112, 3) := by decide +kernel
theorem dX3_passRule_19 : decode cX3_passRule 19 = .ok (.aload_n 0, 1) := by decide +kernel
theorem dX3_passRule_20 : decode cX3_passRule 20 = .ok (.invokevirtual 58, 3) := by decide +kernel
theorem dX3_passRule_23 : decode cX3_passRule 23 = .ok (.istore 5, 2) := by decide +kernel
theorem dX3_passRule_25 : decode cX3_passRule 25 = .ok (.iload 5, 2) := by decide +kernel
theorem dX3_passRule_27 : decode cX3_passRule 27 = .ok (.bipush 89, 2) := by decide +kernel
theorem dX3_passRule_29 : decode cX3_passRule 29 = .ok (.if_icmp .eq 27, 3) := by decide +kernel
theorem dX3_passRule_32 : decode cX3_passRule 32 = .ok (.iload 5, 2) := by decide +kernel
theorem dX3_passRule_34 : decode cX3_passRule 34 = .ok (.bipush 78, 2) := by decide +kernel
theorem dX3_passRule_36 : decode cX3_passRule 36 = .ok (.if_icmp .eq 20, 3) := by decide +kernel
theorem dX3_passRule_39 : decode cX3_passRule 39 = .ok (.iload 5, 2) := by decide +kernel
theorem dX3_passRule_41 : decode cX3_passRule 41 = .ok (.bipush 45, 2) := by decide +kernel
theorem dX3_passRule_43 : decode cX3_passRule 43 = .ok (.if_icmp .eq 13, 3) := by decide +kernel
theorem dX3_passRule_46 : decode cX3_passRule 46 = .ok (.aload_n 0, 1) := by decide +kernel
theorem dX3_passRule_47 : decode cX3_passRule 47 = .ok (.iconst 1, 1) := by decide +kernel
theorem dX3_passRule_48 : decode cX3_passRule 48 = .ok (.aload_n 0, 1) := by decide +kernel
theorem dX3_passRule_49 : decode cX3_passRule 49 = .ok (.getfield 23, 3) := by decide +kernel
theorem dX3_passRule_52 : decode cX3_passRule 52 = .ok (.invokevirtual 62, 3) := by decide +kernel
theorem dX3_passRule_55 : decode cX3_passRule 55 = .ok (.ireturn, 1) := by decide +kernel
theorem dX3_passRule_56 : decode cX3_passRule 56 = .ok (.aload_n 1, 1) := by decide +kernel
theorem dX3_passRule_57 : decode cX3_passRule 57 = .ok (.getfield 103, 3) := by decide +kernel
theorem dX3_passRule_60 : decode cX3_passRule 60 = .ok (.sipush 256, 3) := by decide +kernel
theorem dX3_passRule_63 : decode cX3_passRule 63 = .ok (.if_icmp .lt 13, 3) := by decide +kernel
theorem dX3_passRule_66 : decode cX3_passRule 66 = .ok (.aload_n 0, 1) := by decide +kernel
theorem dX3_passRule_67 : decode cX3_passRule 67 = .ok (.iconst 3, 1) := by decide +kernel
theorem dX3_passRule_68 : decode cX3_passRule 68 = .ok (.aload_n 0, 1) := by decide +kernel
theorem dX3_passRule_69 : decode cX3_passRule 69 = .ok (.getfield 23, 3) := by decide +kernel
theorem dX3_passRule_72 : decode cX3_passRule 72 = .ok (.invokevirtual 62, 3) := by decide +kernel
theorem dX3_passRule_75 : decode cX3_passRule 75 = .ok (.ireturn, 1) := by decide +kernel
theorem dX3_passRule_76 : decode cX3_passRule 76 = .ok (.iload_n 2, 1) := by decide +kernel
theorem dX3_passRule_77 : decode cX3_passRule 77 = .ok (.iload 5, 2) := by decide +kernel
theorem dX3_passRule_79 : decode cX3_passRule 79 = .ok (.bipush 89, 2) := by decide +kernel
theorem dX3_passRule_81 : decode cX3_passRule 81 = .ok (.if_icmp .ne 10, 3) := by decide +kernel
theorem dX3_passRule_84 : decode cX3_passRule 84 = .ok (.iconst 1, 1) := by decide +kernel
theorem dX3_passRule_85 : decode cX3_passRule 85 = .ok (.iload 4, 2) := by decide +kernel
theorem dX3_passRule_87 : decode cX3_passRule 87 = .ok (.ishl, 1) := by decide +kernel
theorem dX3_passRule_88 : decode cX3_passRule 88 = .ok (.goto 4, 3) := by decide +kernel
theorem dX3_passRule_91 : decode cX3_passRule 91 = .ok (.iconst 0, 1) := by decide +kernel
theorem dX3_passRule_92 : decode cX3_passRule 92 = .ok (.ior, 1) := by decide +kernel
theorem dX3_passRule_93 : decode cX3_passRule 93 = .ok (.istore_n 2, 1) := by decide +kernel
theorem dX3_passRule_94 : decode cX3_passRule 94 = .ok (.iload_n 3, 1) := by decide +kernel
theorem dX3_passRule_95 : decode cX3_passRule 95 = .ok (.iload 5, 2) := by decide +kernel
theorem dX3_passRule_97 : decode cX3_passRule 97 = .ok (.bipush 78, 2) := by decide +kernel
theorem dX3_passRule_99 : decode cX3_passRule 99 = .ok (.if_icmp .ne 10, 3) := by decide +kernel
theorem dX3_passRule_102 : decode cX3_passRule 102 = .ok (.iconst 1, 1) := by decide +kernel
theorem dX3_passRule_103 : decode cX3_passRule 103 = .ok (.iload 4, 2) := by decide +kernel
theorem dX3_passRule_105 : decode cX3_passRule 105 = .ok (.ishl, 1) := by decide +kernel
theorem dX3_passRule_106 : decode cX3_passRule 106 = .ok (.goto 4, 3) := by decide +kernel
theorem dX3_passRule_109 : decode cX3_passRule 109 = .ok (.iconst 0, 1) := by decide +kernel
theorem dX3_passRule_110 : decode cX3_passRule 110 = .ok (.ior, 1) := by decide +kernel
theorem dX3_passRule_111 : decode cX3_passRule 111 = .ok (.istore_n 3, 1) := by decide +kernel
theorem dX3_passRule_112 : decode cX3_passRule 112 = .ok (.aload_n 0, 1) := by decide +kernel
theorem dX3_passRule_113 : decode cX3_passRule 113 = .ok (.dup, 1) := by decide +kernel
theorem dX3_passRule_114 : decode cX3_passRule 114 = .ok (.getfield 23, 3) := by decide +kernel
theorem dX3_passRule_117 : decode cX3_passRule 117 = .ok (.iconst 1, 1) := by decide +kernel
theorem dX3_passRule_118 : decode cX3_passRule 118 = .ok (.iadd, 1) := by decide +kernel
theorem dX3_passRule_119 : decode cX3_passRule 119 = .ok (.putfield 23, 3) := by decide +kernel
theorem dX3_passRule_122 : decode cX3_passRule 122 = .ok (.iinc 4 1, 3) := by decide +kernel
theorem dX3_passRule_125 : decode cX3_passRule 125 = .ok (.goto (-118), 3) := by decide +kernel
theorem dX3_passRule_128 : decode cX3_passRule 128 = .ok (.aload_n 0, 1) := by decide +kernel
theorem dX3_passRule_129 : decode cX3_passRule 129 = .ok (.invokevirtual 34, 3) := by decide +kernel
theorem dX3_passRule_132 : decode cX3_passRule 132 = .ok (.ifCond .eq 24, 3) := by decide +kernel
theorem dX3_passRule_135 : decode cX3_passRule 135 = .ok (.aload_n 0, 1) := by decide +kernel
theorem dX3_passRule_136 : decode cX3_passRule 136 = .ok (.ldc2_w 106, 3) := by decide +kernel
theorem dX3_passRule_139 : decode cX3_passRule 139 = .ok (.invokevirtual 40, 3) := by decide +kernel
theorem dX3_passRule_142 : decode cX3_passRule 142 = .ok (.ifCond .eq 14, 3) := by decide +kernel
theorem dX3_passRule_145 : decode cX3_passRule 145 = .ok (.aload_n 0, 1) := by decide +kernel
theorem dX3_passRule_146 : decode cX3_passRule 146 = .ok (.aload_n 1, 1) := by decide +kernel
theorem dX3_passRule_147 : decode cX3_passRule 147 = .ok (.getfield 108, 3) := by decide +kernel
theorem dX3_passRule_150 : decode cX3_passRule 150 = .ok (.invokevirtual 111, 3) := by decide +kernel
theorem dX3_passRule_153 : decode cX3_passRule 153 = .ok (.ifCond .ne 5, 3) := by decide +kernel
theorem dX3_passRule_156 : decode cX3_passRule 156 = .ok (.iconst 0, 1) := by decide +kernel
theorem dX3_passRule_157 : decode cX3_passRule 157 = .ok (.ireturn, 1) := by decide +kernel
theorem dX3_passRule_158 : decode cX3_passRule 158 = .ok (.aload_n 1, 1) := by decide +kernel
theorem dX3_passRule_159 : decode cX3_passRule 159 = .ok (.iload_n 2, 1) := by decide +kernel
theorem dX3_passRule_160 : decode cX3_passRule 160 = .ok (.iload_n 3, 1) := by decide +kernel
theorem dX3_passRule_161 : decode cX3_passRule 161 = .ok (.aload_n 1, 1) := by decide +kernel
theorem dX3_passRule_162 : decode cX3_passRule 162 = .ok (.getfield 108, 3) := by decide +kernel
theorem dX3_passRule_165 : decode cX3_passRule 165 = .ok (.aload_n 0, 1) := by decide +kernel
theorem dX3_passRule_166 : decode cX3_passRule 166 = .ok (.getfield 69, 3) := by decide +kernel
theorem dX3_passRule_169 : decode cX3_passRule 169 = .ok (.invokevirtual 90, 3) := by decide +kernel
theorem dX3_passRule_172 : decode cX3_passRule 172 = .ok (.invokevirtual 114, 3) := by decide +kernel
theorem dX3_passRule_175 : decode cX3_passRule 175 = .ok (.aload_n 0, 1) := by decide +kernel
theorem dX3_passRule_176 : decode cX3_passRule 176 = .ok (.bipush 59, 2) := by decide +kernel
theorem dX3_passRule_178 : decode cX3_passRule 178 = .ok (.invokevirtual 86, 3) := by decide +kernel
theorem dX3_passRule_181 : decode cX3_passRule 181 = .ok (.ireturn, 1) := by decide +kernel
theorem dX3_passAction_0 : decode cX3_passAction 0 = .ok (.aload_n 0, 1) := by decide +kernel
theorem dX3_passAction_1 : decode cX3_passAction 1 = .ok (.invokevirtual 34, 3) := by decide +kernel
theorem dX3_passAction_4 : decode cX3_passAction 4 = .ok (.ifCond .ne 5, 3) := by decide +kernel
theorem dX3_passAction_7 : decode cX3_passAction 7 = .ok (.iconst 0, 1) := by decide +kernel
theorem dX3_passAction_8 : decode cX3_passAction 8 = .ok (.ireturn, 1) := by decide +kernel
theorem dX3_passAction_9 : decode cX3_passAction 9 = .ok (.aload_n 1, 1) := by decide +kernel
theorem dX3_passAction_10 : decode cX3_passAction 10 = .ok (.aload_n 0, 1) := by decide +kernel
theorem dX3_passAction_11 : decode cX3_passAction 11 = .ok (.getfield 69, 3) := by decide +kernel
theorem dX3_passAction_14 : decode cX3_passAction 14 = .ok (.invokevirtual 90, 3) := by decide +kernel
theorem dX3_passAction_17 : decode cX3_passAction 17 = .ok (.iconst (-1), 1) := by decide +kernel
theorem dX3_passAction_18 : decode cX3_passAction 18 = .ok (.if_icmp .ne 26, 3) := by decide +kernel
theorem dX3_passAction_21 : decode cX3_passAction 21 = .ok (.aload_n 1, 1) := by decide +kernel
theorem dX3_passAction_22 : decode cX3_passAction 22 = .ok (.aload_n 0, 1) := by decide +kernel
theorem dX3_passAction_23 : decode cX3_passAction 23 = .ok (.getfield 69, 3) := by decide +kernel
theorem dX3_passAction_26 : decode cX3_passAction 26 = .ok (.invokevirtual 94, 3) := by decide +kernel
theorem dX3_passAction_29 : decode cX3_passAction 29 = .ok (.ifCond .ne 15, 3) := by decide +kernel
theorem dX3_passAction_32 : decode cX3_passAction 32 = .ok (.aload_n 0, 1) := by decide +kernel
theorem dX3_passAction_33 : decode cX3_passAction 33 = .ok (.iconst 3, 1) := by decide +kernel
theorem dX3_passAction_34 : decode cX3_passAction 34 = .ok (.aload_n 0, 1) := by decide +kernel
theorem dX3_passAction_35 : decode cX3_passAction 35 = .ok (.getfield 66, 3) := by decide +kernel
theorem dX3_passAction_38 : decode cX3_passAction 38 = .ok (.invokevirtual 62, 3) := by decide +kernel
theorem dX3_passAction_41 : decode cX3_passAction 41 = .ok (.ifCond .eq 7, 3) := by decide +kernel
theorem dX3_passAction_44 : decode cX3_passAction 44 = .ok (.iconst 1, 1) := by decide +kernel
theorem dX3_passAction_45 : decode cX3_passAction 45 = .ok (.goto 4, 3) := by decide +kernel
theorem dX3_passAction_48 : decode cX3_passAction 48 = .ok (.iconst 0, 1) := by decide +kernel
theorem dX3_passAction_49 : decode cX3_passAction 49 = .ok (.ireturn, 1) := by decide +kernel
end
section
theorem dX4_init_0 : decode cX4_init 0 = .ok (.aload_n 0, 1) := by decide +kernel
theorem dX4_init_1 : decode cX4_init 1 = .ok (.invokespecial 3, 3) := by decide +kernel
theorem dX4_init_4 : decode cX4_init 4 = .ok (.aload_n 0, 1) := by decide +kernel
theorem dX4_init_5 : decode cX4_init 5 = .ok (.sipush 1000, 3) := by decide +kernel
theorem dX4_init_8 : decode cX4_init 8 = .ok (.newarray .int, 2) := by decide +kernel
theorem dX4_init_10 : decode cX4_init 10 = .ok (.putfield 9, 3) := by decide +kernel
theorem dX4_init_13 : decode cX4_init 13 = .ok (.aload_n 0, 1) := by decide +kernel
theorem dX4_init_14 : decode cX4_init 14 = .ok (.sipush 1000, 3) := by decide +kernel
theorem dX4_init_17 : decode cX4_init 17 = .ok (.newarray .int, 2) := by decide +kernel
theorem dX4_init_19 : decode cX4_init 19 = .ok (.putfield 15, 3) := by decide +kernel
theorem dX4_init_22 : decode cX4_init 22 = .ok (.return_, 1) := by decide +kernel
theorem dX4_clear_0 : decode cX4_clear 0 = .ok (.aload_n 0, 1) := by decide +kernel
theorem dX4_clear_1 : decode cX4_clear 1 = .ok (.iconst 0, 1) := by decide +kernel
theorem dX4_clear_2 : decode cX4_clear 2 = .ok (.putfield 18, 3) := by decide +kernel
theorem dX4_clear_5 : decode cX4_clear 5 = .ok (.aload_n 0, 1) := by decide +kernel
theorem dX4_clear_6 : decode cX4_clear 6 = .ok (.iconst 0, 1) := by decide +kernel
theorem dX4_clear_7 : decode cX4_clear 7 = .ok (.putfield 22, 3) := by decide +kernel
theorem dX4_clear_10 : decode cX4_clear 10 = .ok (.aload_n 0, 1) := by decide +kernel
theorem dX4_clear_11 : decode cX4_clear 11 = .ok (.iconst 0, 1) := by decide +kernel
theorem dX4_clear_12 : decode cX4_clear 12 = .ok (.putfield 25, 3) := by decide +kernel
theorem dX4_clear_15 : decode cX4_clear 15 = .ok (.aload_n 0, 1) := by decide +kernel
theorem dX4_clear_16 : decode cX4_clear 16 = .ok (.lconst 0, 1) := by decide +kernel
theorem dX4_clear_17 : decode cX4_clear 17 = .ok (.putfield 28, 3) := by decide +kernel
theorem dX4_clear_20 : decode cX4_clear 20 = .ok (.aload_n 0, 1) := by decide +kernel
theorem dX4_clear_21 : decode cX4_clear 21 = .ok (.iconst 0, 1) := by decide +kernel
theorem dX4_clear_22 : decode cX4_clear 22 = .ok (.putfield 32, 3) := by decide +kernel
theorem dX4_clear_25 : decode cX4_clear 25 = .ok (.return_, 1) := by decide +kernel
theorem dX4_isLeaf_0 : decode cX4_isLeaf 0 = .ok (.aload_n 0, 1) := by decide +kernel
theorem dX4_isLeaf_1 : decode cX4_isLeaf 1 = .ok (.getfield 15, 3) := by decide +kernel
theorem dX4_isLeaf_4 : decode cX4_isLeaf 4 = .ok (.iload_n 1, 1) := by decide +kernel
theorem dX4_isLeaf_5 : decode cX4_isLeaf 5 = .ok (.iaload, 1) := by decide +kernel
theorem dX4_isLeaf_6 : decode cX4_isLeaf 6 = .ok (.iconst (-1), 1) := by decide +kernel
theorem dX4_isLeaf_7 : decode cX4_isLeaf 7 = .ok (.if_icmp .ne 7, 3) := by decide +kernel
theorem dX4_isLeaf_10 : decode cX4_isLeaf 10 = .ok (.iconst 1, 1) := by decide +kernel
theorem dX4_isLeaf_11 : decode cX4_isLeaf 11 = .ok (.goto 4, 3) := by decide +kernel
theorem dX4_isLeaf_14 : decode cX4_isLeaf 14 = .ok (.iconst 0, 1) := by decide +kernel
theorem dX4_isLeaf_15 : decode cX4_isLeaf 15 = .ok (.ireturn, 1) := by decide +kernel
theorem dX4_build_0 : decode cX4_build 0 = .ok (.aload_n 0, 1) := by decide +kernel
theorem dX4_build_1 : decode cX4_build 1 = .ok (.aload_n 1, 1) := by decide +kernel
theorem dX4_build_2 : decode cX4_build 2 = .ok (.iconst 0, 1) := by decide +kernel
theorem dX4_build_3 : decode cX4_build 3 = .ok (.aload_n 1, 1) := by decide +kernel
theorem dX4_build_4 : decode cX4_build 4 = .ok (.getfield 36, 3) := by decide +kernel
theorem dX4_build_7 : decode cX4_build 7 = .ok (.invokestatic 41, 3) := by decide +kernel
theorem dX4_build_10 : decode cX4_build 10 = .ok (.aload_n 0, 1) := by decide +kernel
theorem dX4_build_11 : decode cX4_build 11 = .ok (.getfield 32, 3) := by decide +kernel
theorem dX4_build_14 : decode cX4_build 14 = .ok (.ifCond .eq 7, 3) := by decide +kernel
theorem dX4_build_17 : decode cX4_build 17 = .ok (.aload_n 0, 1) := by decide +kernel
theorem dX4_build_18 : decode cX4_build 18 = .ok (.invokevirtual 45, 3) := by decide +kernel
theorem dX4_build_21 : decode cX4_build 21 = .ok (.return_, 1) := by decide +kernel
theorem dX4_grow_0 : decode cX4_grow 0 = .ok (.aload_n 0, 1) := by decide +kernel
theorem dX4_grow_1 : decode cX4_grow 1 = .ok (.getfield 32, 3) := by decide +kernel
theorem dX4_grow_4 : decode cX4_grow 4 = .ok (.ifCond .ne 13, 3) := by decide +kernel
theorem dX4_grow_7 : decode cX4_grow 7 = .ok (.aload_n 0, 1) := by decide +kernel
theorem dX4_grow_8 : decode cX4_grow 8 = .ok (.getfield 18, 3) := by decide +kernel
theorem dX4_grow_11 : decode cX4_grow 11 = .ok (.sipush 1000, 3) := by decide +kernel
theorem dX4_grow_14 : decode cX4_grow 14 = .ok (.if_icmp .lt 9, 3) := by decide +kernel
theorem dX4_grow_17 : decode cX4_grow 17 = .ok (.aload_n 0, 1) := by decide +kernel
theorem dX4_grow_18 : decode cX4_grow 18 = .ok (.iconst 1, 1) := by decide +kernel
theorem dX4_grow_19 : decode cX4_grow 19 = .ok (.putfield 32, 3) := by decide +kernel
theorem dX4_grow_22 : decode cX4_grow 22 = .ok (.return_, 1) := by decide +kernel
theorem dX4_grow_23 : decode cX4_grow 23 = .ok (.aload_n 1, 1) := by decide +kernel
theorem dX4_grow_24 : decode cX4_grow 24 = .ok (.iload_n 2, 1) := by decide +kernel
theorem dX4_grow_25 : decode cX4_grow 25 = .ok (.invokevirtual 48, 3) := by decide +kernel
theorem dX4_grow_28 : decode cX4_grow 28 = .ok (.istore 4, 2) := by decide +kernel
theorem dX4_grow_30 : decode cX4_grow 30 = .ok (.iload 4, 2) := by decide +kernel
theorem dX4_grow_32 : decode cX4_grow 32 = .ok (.iconst (-1), 1) := by decide +kernel
theorem dX4_grow_33 : decode cX4_grow 33 = .ok (.if_icmp .ne 13, 3) := by decide +kernel
theorem dX4_grow_36 : decode cX4_grow 36 = .ok (.iload_n 3, 1) := by decide +kernel
theorem dX4_grow_37 : decode cX4_grow 37 = .ok (.ifCond .eq 9, 3) := by decide +kernel
theorem dX4_grow_40 : decode cX4_grow 40 = .ok (.iload_n 2, 1) := by decide +kernel
theorem dX4_grow_41 : decode cX4_grow 41 = .ok (.bipush 16, 2) := by decide +kernel
theorem dX4_grow_43 : decode cX4_grow 43 = .ok (.if_icmp .lt 11, 3) := by decide +kernel
theorem dX4_grow_46 : decode cX4_grow 46 = .ok (.aload_n 0, 1) := by decide +kernel
theorem dX4_grow_47 : decode cX4_grow 47 = .ok (.iload 4, 2) := by decide +kernel
theorem dX4_grow_49 : decode cX4_grow 49 = .ok (.iload_n 2, 1) := by decide +kernel
theorem dX4_grow_50 : decode cX4_grow 50 = .ok (.invokevirtual 52, 3) := by decide +kernel
theorem dX4_grow_53 : decode cX4_grow 53 = .ok (.return_, 1) := by decide +kernel
theorem dX4_grow_54 : decode cX4_grow 54 = .ok (.aload_n 1, 1) := by decide +kernel
theorem dX4_grow_55 : decode cX4_grow 55 = .ok (.iload_n 2, 1) := by decide +kernel
theorem dX4_grow_56 : decode cX4_grow 56 = .ok (.iload_n 3, 1) := by decide +kernel
theorem dX4_grow_57 : decode cX4_grow 57 = .ok (.invokevirtual 56, 3) := by decide +kernel
theorem dX4_grow_60 : decode cX4_grow 60 = .ok (.istore 5, 2) := by decide +kernel
theorem dX4_grow_62 : decode cX4_grow 62 = .ok (.iconst 1, 1) := by decide +kernel
theorem dX4_grow_63 : decode cX4_grow 63 = .ok (.iload 5, 2) := by decide +kernel
theorem dX4_grow_65 : decode cX4_grow 65 = .ok (.ishl, 1) := by decide +kernel
theorem dX4_grow_66 : decode cX4_grow 66 = .ok (.istore 6, 2) := by decide +kernel
theorem dX4_grow_68 : decode cX4_grow 68 = .ok (.aload_n 0, 1) := by decide +kernel
theorem dX4_grow_69 : decode cX4_grow 69 = .ok (.getfield 18, 3) := by decide +kernel
theorem dX4_grow_72 : decode cX4_grow 72 = .ok (.istore 7, 2) := by decide +kernel
theorem dX4_grow_74 : decode cX4_grow 74 = .ok (.aload_n 0, 1) := by decide +kernel
theorem dX4_grow_75 : decode cX4_grow 75 = .ok (.iload 5, 2) := by decide +kernel
theorem dX4_grow_77 : decode cX4_grow 77 = .ok (.invokevirtual 60, 3) := by decide +kernel
theorem dX4_grow_80 : decode cX4_grow 80 = .ok (.aload_n 0, 1) := by decide +kernel
theorem dX4_grow_81 : decode cX4_grow 81 = .ok (.dup, 1) := by decide +kernel
theorem dX4_grow_82 : decode cX4_grow 82 = .ok (.getfield 28, 3) := by decide +kernel
theorem dX4_grow_85 : decode cX4_grow 85 = .ok (.lconst 1, 1) := by decide +kernel
theorem dX4_grow_86 : decode cX4_grow 86 = .ok (.iload_n 3, 1) := by decide +kernel
theorem dX4_grow_87 : decode cX4_grow 87 = .ok (.invokestatic 64, 3) := by decide +kernel
theorem dX4_grow_90 : decode cX4_grow 90 = .ok (.lshl, 1) := by decide +kernel
theorem dX4_grow_91 : decode cX4_grow 91 = .ok (.ladd, 1) := by decide +kernel
theorem dX4_grow_92 : decode cX4_grow 92 = .ok (.putfield 28, 3) := by decide +kernel
theorem dX4_grow_95 : decode cX4_grow 95 = .ok (.aload_n 1, 1) := by decide +kernel
theorem dX4_grow_96 : decode cX4_grow 96 = .ok (.iload_n 2, 1) := by decide +kernel
theorem dX4_grow_97 : decode cX4_grow 97 = .ok (.iload 6, 2) := by decide +kernel
theorem dX4_grow_99 : decode cX4_grow 99 = .ok (.iconst 1, 1) := by decide +kernel
theorem dX4_grow_100 : decode cX4_grow 100 = .ok (.invokevirtual 69, 3) := by decide +kernel
theorem dX4_grow_103 : decode cX4_grow 103 = .ok (.aload_n 0, 1) := by decide +kernel
theorem dX4_grow_104 : decode cX4_grow 104 = .ok (.aload_n 1, 1) := by decide +kernel
theorem dX4_grow_105 : decode cX4_grow 105 = .ok (.iload_n 2, 1) := by decide +kernel
theorem dX4_grow_106 : decode cX4_grow 106 = .ok (.iconst 1, 1) := by decide +kernel
theorem dX4_grow_107 : decode cX4_grow 107 = .ok (.iadd, 1) := by decide +kernel
theorem dX4_grow_108 : decode cX4_grow 108 = .ok (.iload_n 3, 1) := by decide +kernel
theorem dX4_grow_109 : decode cX4_grow 109 = .ok (.iload 6, 2) := by decide +kernel
theorem dX4_grow_111 : decode cX4_grow 111 = .ok (.iconst (-1), 1) := by decide +kernel
theorem dX4_grow_112 : decode cX4_grow 112 = .ok (.ixor, 1) := by decide +kernel
theorem dX4_grow_113 : decode cX4_grow 113 = .ok (.iand, 1) := by decide +kernel
theorem dX4_grow_114 : decode cX4_grow 114 = .ok (.invokestatic 41, 3) := by decide +kernel
theorem dX4_grow_117 : decode cX4_grow 117 = .ok (.aload_n 0, 1) := by decide +kernel
theorem dX4_grow_118 : decode cX4_grow 118 = .ok (.getfield 15, 3) := by decide +kernel
theorem dX4_grow_121 : decode cX4_grow 121 = .ok (.iload 7, 2) := by decide +kernel
theorem dX4_grow_123 : decode cX4_grow 123 = .ok (.aload_n 0, 1) := by decide +kernel
theorem dX4_grow_124 : decode cX4_grow 124 = .ok (.getfield 18, 3) := by decide +kernel
theorem dX4_grow_127 : decode cX4_grow 127 = .ok (.iastore, 1) := by decide +kernel
theorem dX4_grow_128 : decode cX4_grow 128 = .ok (.aload_n 1, 1) := by decide +kernel
theorem dX4_grow_129 : decode cX4_grow 129 = .ok (.iload_n 2, 1) := by decide +kernel
theorem dX4_grow_130 : decode cX4_grow 130 = .ok (.iload 6, 2) := by decide +kernel
theorem dX4_grow_132 : decode cX4_grow 132 = .ok (.iconst 0, 1) := by decide +kernel
theorem dX4_grow_133 : decode cX4_grow 133 = .ok (.invokevirtual 69, 3) := by decide +kernel
theorem dX4_grow_136 : decode cX4_grow 136 = .ok (.aload_n 0, 1) := by decide +kernel
theorem dX4_grow_137 : decode cX4_grow 137 = .ok (.aload_n 1, 1) := by decide +kernel
theorem dX4_grow_138 : decode cX4_grow 138 = .ok (.iload_n 2, 1) := by decide +kernel
theorem dX4_grow_139 : decode cX4_grow 139 = .ok (.iconst 1, 1) := by decide +kernel
theorem dX4_grow_140 : decode cX4_grow 140 = .ok (.iadd, 1) := by decide +kernel
theorem dX4_grow_141 : decode cX4_grow 141 = .ok (.iload_n 3, 1) := by decide +kernel
theorem dX4_grow_142 : decode cX4_grow 142 = .ok (.iload 6, 2) := by decide +kernel
theorem dX4_grow_144 : decode cX4_grow 144 = .ok (.iconst (-1), 1) := by decide +kernel
theorem dX4_grow_145 : decode cX4_grow 145 = .ok (.ixor, 1) := by decide +kernel
theorem dX4_grow_146 : decode cX4_grow 146 = .ok (.iand, 1) := by decide +kernel
theorem dX4_grow_147 : decode cX4_grow 147 = .ok (.invokestatic 41, 3) := by decide +kernel
theorem dX4_grow_150 : decode cX4_grow 150 = .ok (.return_, 1) := by decide +kernel
theorem dX4_addLeaf_0 : decode cX4_addLeaf 0 = .ok (.aload_n 0, 1) := by decide +kernel
theorem dX4_addLeaf_1 : decode cX4_addLeaf 1 = .ok (.sipush 128, 3) := by decide +kernel
theorem dX4_addLeaf_4 : decode cX4_addLeaf 4 = .ok (.iload_n 1, 1) := by decide +kernel
theorem dX4_addLeaf_5 : decode cX4_addLeaf 5 = .ok (.iadd, 1) := by decide +kernel
theorem dX4_addLeaf_6 : decode cX4_addLeaf 6 = .ok (.invokevirtual 60, 3) := by decide +kernel
theorem dX4_addLeaf_9 : decode cX4_addLeaf 9 = .ok (.aload_n 0, 1) := by decide +kernel
theorem dX4_addLeaf_10 : decode cX4_addLeaf 10 = .ok (.dup, 1) := by decide +kernel
theorem dX4_addLeaf_11 : decode cX4_addLeaf 11 = .ok (.getfield 22, 3) := by decide +kernel
theorem dX4_addLeaf_14 : decode cX4_addLeaf 14 = .ok (.iconst 1, 1) := by decide +kernel
theorem dX4_addLeaf_15 : decode cX4_addLeaf 15 = .ok (.iadd, 1) := by decide +kernel
theorem dX4_addLeaf_16 : decode cX4_addLeaf 16 = .ok (.putfield 22, 3) := by decide +kernel
theorem dX4_addLeaf_19 : decode cX4_addLeaf 19 = .ok (.aload_n 0, 1) := by decide +kernel
theorem dX4_addLeaf_20 : decode cX4_addLeaf 20 = .ok (.aload_n 0, 1) := by decide +kernel
theorem dX4_addLeaf_21 : decode cX4_addLeaf 21 = .ok (.getfield 25, 3) := by decide +kernel
theorem dX4_addLeaf_24 : decode cX4_addLeaf 24 = .ok (.iload_n 2, 1) := by decide +kernel
theorem dX4_addLeaf_25 : decode cX4_addLeaf 25 = .ok (.invokestatic 73, 3) := by decide +kernel
theorem dX4_addLeaf_28 : decode cX4_addLeaf 28 = .ok (.putfield 25, 3) := by decide +kernel
theorem dX4_addLeaf_31 : decode cX4_addLeaf 31 = .ok (.return_, 1) := by decide +kernel
theorem dX4_addNode_0 : decode cX4_addNode 0 = .ok (.aload_n 0, 1) := by decide +kernel
theorem dX4_addNode_1 : decode cX4_addNode 1 = .ok (.getfield 9, 3) := by decide +kernel
theorem dX4_addNode_4 : decode cX4_addNode 4 = .ok (.aload_n 0, 1) := by decide +kernel
theorem dX4_addNode_5 : decode cX4_addNode 5 = .ok (.getfield 18, 3) := by decide +kernel
theorem dX4_addNode_8 : decode cX4_addNode 8 = .ok (.iload_n 1, 1) := by decide +kernel
theorem dX4_addNode_9 : decode cX4_addNode 9 = .ok (.iastore, 1) := by decide +kernel
theorem dX4_addNode_10 : decode cX4_addNode 10 = .ok (.aload_n 0, 1) := by decide +kernel
theorem dX4_addNode_11 : decode cX4_addNode 11 = .ok (.getfield 15, 3) := by decide +kernel
theorem dX4_addNode_14 : decode cX4_addNode 14 = .ok (.aload_n 0, 1) := by decide +kernel
theorem dX4_addNode_15 : decode cX4_addNode 15 = .ok (.getfield 18, 3) := by decide +kernel
theorem dX4_addNode_18 : decode cX4_addNode 18 = .ok (.iconst (-1), 1) := by decide +kernel
theorem dX4_addNode_19 : decode cX4_addNode 19 = .ok (.iastore, 1) := by decide +kernel
theorem dX4_addNode_20 : decode cX4_addNode 20 = .ok (.aload_n 0, 1) := by decide +kernel
theorem dX4_addNode_21 : decode cX4_addNode 21 = .ok (.dup, 1) := by decide +kernel
theorem dX4_addNode_22 : decode cX4_addNode 22 = .ok (.getfield 18, 3) := by decide +kernel
theorem dX4_addNode_25 : decode cX4_addNode 25 = .ok (.iconst 1, 1) := by decide +kernel
theorem dX4_addNode_26 : decode cX4_addNode 26 = .ok (.iadd, 1) := by decide +kernel
theorem dX4_addNode_27 : decode cX4_addNode 27 = .ok (.putfield 18, 3) := by decide +kernel
theorem dX4_addNode_30 : decode cX4_addNode 30 = .ok (.return_, 1) := by decide +kernel
theorem dX5_init_0 : decode cX5_init 0 = .ok (.aload_n 0, 1) := by decide +kernel
theorem dX5_init_1 : decode cX5_init 1 = .ok (.invokespecial 3, 3) := by decide +kernel
theorem dX5_init_4 : decode cX5_init 4 = .ok (.aload_n 0, 1) := by decide +kernel
theorem dX5_init_5 : decode cX5_init 5 = .ok (.sipush 256, 3) := by decide +kernel
theorem dX5_init_8 : decode cX5_init 8 = .ok (.newarray .int, 2) := by decide +kernel
theorem dX5_init_10 : decode cX5_init 10 = .ok (.putfield 9, 3) := by decide +kernel
theorem dX5_init_13 : decode cX5_init 13 = .ok (.aload_n 0, 1) := by decide +kernel
theorem dX5_init_14 : decode cX5_init 14 = .ok (.sipush 256, 3) := by decide +kernel
theorem dX5_init_17 : decode cX5_init 17 = .ok (.newarray .int, 2) := by decide +kernel
theorem dX5_init_19 : decode cX5_init 19 = .ok (.putfield 15, 3) := by decide +kernel
theorem dX5_init_22 : decode cX5_init 22 = .ok (.aload_n 0, 1) := by decide +kernel
theorem dX5_init_23 : decode cX5_init 23 = .ok (.sipush 256, 3) := by decide +kernel
theorem dX5_init_26 : decode cX5_init 26 = .ok (.newarray .int, 2) := by decide +kernel
theorem dX5_init_28 : decode cX5_init 28 = .ok (.putfield 18, 3) := by decide +kernel
theorem dX5_init_31 : decode cX5_init 31 = .ok (.aload_n 0, 1) := by decide +kernel
theorem dX5_init_32 : decode cX5_init 32 = .ok (.bipush 17, 2) := by decide +kernel
theorem dX5_init_34 : decode cX5_init 34 = .ok (.sipush 256, 3) := by decide +kernel
theorem dX5_init_37 : decode cX5_init 37 = .ok (.multianewarray 21 2, 4) := by decide +kernel
theorem dX5_init_41 : decode cX5_init 41 = .ok (.putfield 23, 3) := by decide +kernel
theorem dX5_init_44 : decode cX5_init 44 = .ok (.aload_n 0, 1) := by decide +kernel
theorem dX5_init_45 : decode cX5_init 45 = .ok (.bipush 17, 2) := by decide +kernel
theorem dX5_init_47 : decode cX5_init 47 = .ok (.newarray .int, 2) := by decide +kernel
theorem dX5_init_49 : decode cX5_init 49 = .ok (.putfield 26, 3) := by decide +kernel
theorem dX5_init_52 : decode cX5_init 52 = .ok (.aload_n 0, 1) := by decide +kernel
theorem dX5_init_53 : decode cX5_init 53 = .ok (.bipush 16, 2) := by decide +kernel
theorem dX5_init_55 : decode cX5_init 55 = .ok (.newarray .int, 2) := by decide +kernel
theorem dX5_init_57 : decode cX5_init 57 = .ok (.putfield 29, 3) := by decide +kernel
theorem dX5_init_60 : decode cX5_init 60 = .ok (.aload_n 0, 1) := by decide +kernel
theorem dX5_init_61 : decode cX5_init 61 = .ok (.bipush 16, 2) := by decide +kernel
theorem dX5_init_63 : decode cX5_init 63 = .ok (.newarray .int, 2) := by decide +kernel
theorem dX5_init_65 : decode cX5_init 65 = .ok (.putfield 32, 3) := by decide +kernel
theorem dX5_init_68 : decode cX5_init 68 = .ok (.return_, 1) := by decide +kernel
theorem dX5_start_0 : decode cX5_start 0 = .ok (.aload_n 0, 1) := by decide +kernel
theorem dX5_start_1 : decode cX5_start 1 = .ok (.aload_n 1, 1) := by decide +kernel
theorem dX5_start_2 : decode cX5_start 2 = .ok (.invokevirtual 35, 3) := by decide +kernel
theorem dX5_start_5 : decode cX5_start 5 = .ok (.iconst 1, 1) := by decide +kernel
theorem dX5_start_6 : decode cX5_start 6 = .ok (.isub, 1) := by decide +kernel
theorem dX5_start_7 : decode cX5_start 7 = .ok (.putfield 41, 3) := by decide +kernel
theorem dX5_start_10 : decode cX5_start 10 = .ok (.iconst 0, 1) := by decide +kernel
theorem dX5_start_11 : decode cX5_start 11 = .ok (.istore_n 3, 1) := by decide +kernel
theorem dX5_start_12 : decode cX5_start 12 = .ok (.iconst 0, 1) := by decide +kernel
theorem dX5_start_13 : decode cX5_start 13 = .ok (.istore 4, 2) := by decide +kernel
theorem dX5_start_15 : decode cX5_start 15 = .ok (.iload 4, 2) := by decide +kernel
theorem dX5_start_17 : decode cX5_start 17 = .ok (.aload_n 1, 1) := by decide +kernel
theorem dX5_start_18 : decode cX5_start 18 = .ok (.getfield 45, 3) := by decide +kernel
theorem dX5_start_21 : decode cX5_start 21 = .ok (.if_icmp .ge 76, 3) := by decide +kernel
theorem dX5_start_24 : decode cX5_start 24 = .ok (.iload_n 2, 1) := by decide +kernel
theorem dX5_start_25 : decode cX5_start 25 = .ok (.iconst (-1), 1) := by decide +kernel
theorem dX5_start_26 : decode cX5_start 26 = .ok (.if_icmp .eq 14, 3) := by decide +kernel
theorem dX5_start_29 : decode cX5_start 29 = .ok (.aload_n 1, 1) := by decide +kernel
theorem dX5_start_30 : decode cX5_start 30 = .ok (.getfield 48, 3) := by decide +kernel
theorem dX5_start_33 : decode cX5_start 33 = .ok (.iload 4, 2) := by decide +kernel
theorem dX5_start_35 : decode cX5_start 35 = .ok (.iaload, 1) := by decide +kernel
theorem dX5_start_36 : decode cX5_start 36 = .ok (.iload_n 2, 1) := by decide +kernel
theorem dX5_start_37 : decode cX5_start 37 = .ok (.if_icmp .ne 54, 3) := by decide +kernel
theorem dX5_start_40 : decode cX5_start 40 = .ok (.aload_n 0, 1) := by decide +kernel
theorem dX5_start_41 : decode cX5_start 41 = .ok (.getfield 9, 3) := by decide +kernel
theorem dX5_start_44 : decode cX5_start 44 = .ok (.iload_n 3, 1) := by decide +kernel
theorem dX5_start_45 : decode cX5_start 45 = .ok (.aload_n 1, 1) := by decide +kernel
theorem dX5_start_46 : decode cX5_start 46 = .ok (.getfield 49, 3) := by decide +kernel
theorem dX5_start_49 : decode cX5_start 49 = .ok (.iload 4, 2) := by decide +kernel
theorem dX5_start_51 : decode cX5_start 51 = .ok (.iaload, 1) := by decide +kernel
theorem dX5_start_52 : decode cX5_start 52 = .ok (.iastore, 1) := by decide +kernel
theorem dX5_start_53 : decode cX5_start 53 = .ok (.aload_n 0, 1) := by decide +kernel
theorem dX5_start_54 : decode cX5_start 54 = .ok (.getfield 15, 3) := by decide +kernel
theorem dX5_start_57 : decode cX5_start 57 = .ok (.iload_n 3, 1) := by decide +kernel
theorem dX5_start_58 : decode cX5_start 58 = .ok (.aload_n 1, 1) := by decide +kernel
theorem dX5_start_59 : decode cX5_start 59 = .ok (.getfield 50, 3) := by decide +kernel
theorem dX5_start_62 : decode cX5_start 62 = .ok (.iload 4, 2) := by decide +kernel
theorem dX5_start_64 : decode cX5_start 64 = .ok (.iaload, 1) := by decide +kernel
theorem dX5_start_65 : decode cX5_start 65 = .ok (.iastore, 1) := by decide +kernel
theorem dX5_start_66 : decode cX5_start 66 = .ok (.aload_n 0, 1) := by decide +kernel
theorem dX5_start_67 : decode cX5_start 67 = .ok (.getfield 18, 3) := by decide +kernel
theorem dX5_start_70 : decode cX5_start 70 = .ok (.iload_n 3, 1) := by decide +kernel
theorem dX5_start_71 : decode cX5_start 71 = .ok (.aload_n 1, 1) := by decide +kernel
theorem dX5_start_72 : decode cX5_start 72 = .ok (.getfield 48, 3) := by decide +kernel
theorem dX5_start_75 : decode cX5_start 75 = .ok (.iload 4, 2) := by decide +kernel
theorem dX5_start_77 : decode cX5_start 77 = .ok (.iaload, 1) := by decide +kernel
theorem dX5_start_78 : decode cX5_start 78 = .ok (.iastore, 1) := by decide +kernel
theorem dX5_start_79 : decode cX5_start 79 = .ok (.aload_n 0, 1) := by decide +kernel
theorem dX5_start_80 : decode cX5_start 80 = .ok (.getfield 23, 3) := by decide +kernel
theorem dX5_start_83 : decode cX5_start 83 = .ok (.iconst 0, 1) := by decide +kernel
theorem dX5_start_84 : decode cX5_start 84 = .ok (.aaload, 1) := by decide +kernel
theorem dX5_start_85 : decode cX5_start 85 = .ok (.iload_n 3, 1) := by decide +kernel
theorem dX5_start_86 : decode cX5_start 86 = .ok (.iload_n 3, 1) := by decide +kernel
theorem dX5_start_87 : decode cX5_start 87 = .ok (.iastore, 1) := by decide +kernel
theorem dX5_start_88 : decode cX5_start 88 = .ok (.iinc 3 1, 3) := by decide +kernel
theorem dX5_start_91 : decode cX5_start 91 = .ok (.iinc 4 1, 3) := by decide +kernel
theorem dX5_start_94 : decode cX5_start 94 = .ok (.goto (-79), 3) := by decide +kernel
theorem dX5_start_97 : decode cX5_start 97 = .ok (.aload_n 0, 1) := by decide +kernel
theorem dX5_start_98 : decode cX5_start 98 = .ok (.getfield 26, 3) := by decide +kernel
theorem dX5_start_101 : decode cX5_start 101 = .ok (.iconst 0, 1) := by decide +kernel
theorem dX5_start_102 : decode cX5_start 102 = .ok (.iload_n 3, 1) := by decide +kernel
theorem dX5_start_103 : decode cX5_start 103 = .ok (.iastore, 1) := by decide +kernel
theorem dX5_start_104 : decode cX5_start 104 = .ok (.return_, 1) := by decide +kernel
theorem dX5_step_0 : decode cX5_step 0 = .ok (.aload_n 0, 1) := by decide +kernel
theorem dX5_step_1 : decode cX5_step 1 = .ok (.getfield 23, 3) := by decide +kernel
theorem dX5_step_4 : decode cX5_step 4 = .ok (.iload_n 1, 1) := by decide +kernel
theorem dX5_step_5 : decode cX5_step 5 = .ok (.aaload, 1) := by decide +kernel
theorem dX5_step_6 : decode cX5_step 6 = .ok (.astore 4, 2) := by decide +kernel
theorem dX5_step_8 : decode cX5_step 8 = .ok (.aload_n 0, 1) := by decide +kernel
theorem dX5_step_9 : decode cX5_step 9 = .ok (.getfield 23, 3) := by decide +kernel
theorem dX5_step_12 : decode cX5_step 12 = .ok (.iload_n 1, 1) := by decide +kernel
theorem dX5_step_13 : decode cX5_step 13 = .ok (.iconst 1, 1) := by decide +kernel
theorem dX5_step_14 : decode cX5_step 14 = .ok (.iadd, 1) := by decide +kernel
theorem dX5_step_15 : decode cX5_step 15 = .ok (.aaload, 1) := by decide +kernel
theorem dX5_step_16 : decode cX5_step 16 = .ok (.astore 5, 2) := by decide +kernel
theorem dX5_step_18 : decode cX5_step 18 = .ok (.iload_n 3, 1) := by decide +kernel
theorem dX5_step_19 : decode cX5_step 19 = .ok (.ifCond .eq 10, 3) := by decide +kernel
theorem dX5_step_22 : decode cX5_step 22 = .ok (.aload_n 0, 1) := by decide +kernel
theorem dX5_step_23 : decode cX5_step 23 = .ok (.getfield 15, 3) := by decide +kernel
theorem dX5_step_26 : decode cX5_step 26 = .ok (.goto 7, 3) := by decide +kernel
theorem dX5_step_29 : decode cX5_step 29 = .ok (.aload_n 0, 1) := by decide +kernel
theorem dX5_step_30 : decode cX5_step 30 = .ok (.getfield 9, 3) := by decide +kernel
theorem dX5_step_33 : decode cX5_step 33 = .ok (.astore 6, 2) := by decide +kernel
theorem dX5_step_35 : decode cX5_step 35 = .ok (.iconst 0, 1) := by decide +kernel
theorem dX5_step_36 : decode cX5_step 36 = .ok (.istore 7, 2) := by decide +kernel
theorem dX5_step_38 : decode cX5_step 38 = .ok (.iconst 0, 1) := by decide +kernel
theorem dX5_step_39 : decode cX5_step 39 = .ok (.istore 8, 2) := by decide +kernel
theorem dX5_step_41 : decode cX5_step 41 = .ok (.iload 8, 2) := by decide +kernel
theorem dX5_step_43 : decode cX5_step 43 = .ok (.aload_n 0, 1) := by decide +kernel
theorem dX5_step_44 : decode cX5_step 44 = .ok (.getfield 26, 3) := by decide +kernel
theorem dX5_step_47 : decode cX5_step 47 = .ok (.iload_n 1, 1) := by decide +kernel
theorem dX5_step_48 : decode cX5_step 48 = .ok (.iaload, 1) := by decide +kernel
theorem dX5_step_49 : decode cX5_step 49 = .ok (.if_icmp .ge 35, 3) := by decide +kernel
theorem dX5_step_52 : decode cX5_step 52 = .ok (.aload 6, 2) := by decide +kernel
theorem dX5_step_54 : decode cX5_step 54 = .ok (.aload 4, 2) := by decide +kernel
theorem dX5_step_56 : decode cX5_step 56 = .ok (.iload 8, 2) := by decide +kernel
theorem dX5_step_58 : decode cX5_step 58 = .ok (.iaload, 1) := by decide +kernel
theorem dX5_step_59 : decode cX5_step 59 = .ok (.iaload, 1) := by decide +kernel
theorem dX5_step_60 : decode cX5_step 60 = .ok (.iload_n 2, 1) := by decide +kernel
theorem dX5_step_61 : decode cX5_step 61 = .ok (.iand, 1) := by decide +kernel
theorem dX5_step_62 : decode cX5_step 62 = .ok (.ifCond .ne 16, 3) := by decide +kernel
theorem dX5_step_65 : decode cX5_step 65 = .ok (.aload 5, 2) := by decide +kernel
theorem dX5_step_67 : decode cX5_step 67 = .ok (.iload 7, 2) := by decide +kernel
theorem dX5_step_69 : decode cX5_step 69 = .ok (.aload 4, 2) := by decide +kernel
theorem dX5_step_71 : decode cX5_step 71 = .ok (.iload 8, 2) := by decide +kernel
theorem dX5_step_73 : decode cX5_step 73 = .ok (.iaload, 1) := by decide +kernel
theorem dX5_step_74 : decode cX5_step 74 = .ok (.iastore, 1) := by decide +kernel
theorem dX5_step_75 : decode cX5_step 75 = .ok (.iinc 7 1, 3) := by decide +kernel
theorem dX5_step_78 : decode cX5_step 78 = .ok (.iinc 8 1, 3) := by decide +kernel
theorem dX5_step_81 : decode cX5_step 81 = .ok (.goto (-40), 3) := by decide +kernel
theorem dX5_step_84 : decode cX5_step 84 = .ok (.aload_n 0, 1) := by decide +kernel
theorem dX5_step_85 : decode cX5_step 85 = .ok (.getfield 26, 3) := by decide +kernel
theorem dX5_step_88 : decode cX5_step 88 = .ok (.iload_n 1, 1) := by decide +kernel
theorem dX5_step_89 : decode cX5_step 89 = .ok (.iconst 1, 1) := by decide +kernel
theorem dX5_step_90 : decode cX5_step 90 = .ok (.iadd, 1) := by decide +kernel
theorem dX5_step_91 : decode cX5_step 91 = .ok (.iload 7, 2) := by decide +kernel
theorem dX5_step_93 : decode cX5_step 93 = .ok (.iastore, 1) := by decide +kernel
theorem dX5_step_94 : decode cX5_step 94 = .ok (.return_, 1) := by decide +kernel
theorem dX5_splittingBit_0 : decode cX5_splittingBit 0 = .ok (.iconst 0, 1) := by decide +kernel
theorem dX5_splittingBit_1 : decode cX5_splittingBit 1 = .ok (.istore_n 3, 1) := by decide +kernel
theorem dX5_splittingBit_2 : decode cX5_splittingBit 2 = .ok (.iconst 0, 1) := by decide +kernel
theorem dX5_splittingBit_3 : decode cX5_splittingBit 3 = .ok (.istore 4, 2) := by decide +kernel
theorem dX5_splittingBit_5 : decode cX5_splittingBit 5 = .ok (.iload 4, 2) := by decide +kernel
theorem dX5_splittingBit_7 : decode cX5_splittingBit 7 = .ok (.aload_n 0, 1) := by decide +kernel
theorem dX5_splittingBit_8 : decode cX5_splittingBit 8 = .ok (.getfield 26, 3) := by decide +kernel
theorem dX5_splittingBit_11 : decode cX5_splittingBit 11 = .ok (.iload_n 1, 1) := by decide +kernel
theorem dX5_splittingBit_12 : decode cX5_splittingBit 12 = .ok (.iaload, 1) := by decide +kernel
theorem dX5_splittingBit_13 : decode cX5_splittingBit 13 = .ok (.if_icmp .ge 51, 3) := by decide +kernel
theorem dX5_splittingBit_16 : decode cX5_splittingBit 16 = .ok (.aload_n 0, 1) := by decide +kernel
theorem dX5_splittingBit_17 : decode cX5_splittingBit 17 = .ok (.getfield 23, 3) := by decide +kernel
theorem dX5_splittingBit_20 : decode cX5_splittingBit 20 = .ok (.iload_n 1, 1) := by decide +kernel
theorem dX5_splittingBit_21 : decode cX5_splittingBit 21 = .ok (.aaload, 1) := by decide +kernel
theorem dX5_splittingBit_22 : decode cX5_splittingBit 22 = .ok (.iload 4, 2) := by decide +kernel
theorem dX5_splittingBit_24 : decode cX5_splittingBit 24 = .ok (.iaload, 1) := by decide +kernel
theorem dX5_splittingBit_25 : decode cX5_splittingBit 25 = .ok (.istore 5, 2) := by decide +kernel
theorem dX5_splittingBit_27 : decode cX5_splittingBit 27 = .ok (.aload_n 0, 1) := by decide +kernel
theorem dX5_splittingBit_28 : decode cX5_splittingBit 28 = .ok (.getfield 9, 3) := by decide +kernel
theorem dX5_splittingBit_31 : decode cX5_splittingBit 31 = .ok (.iload 5, 2) := by decide +kernel
theorem dX5_splittingBit_33 : decode cX5_splittingBit 33 = .ok (.iaload, 1) := by decide +kernel
theorem dX5_splittingBit_34 : decode cX5_splittingBit 34 = .ok (.aload_n 0, 1) := by decide +kernel
theorem dX5_splittingBit_35 : decode cX5_splittingBit 35 = .ok (.getfield 15, 3) := by decide +kernel
theorem dX5_splittingBit_38 : decode cX5_splittingBit 38 = .ok (.iload 5, 2) := by decide +kernel
theorem dX5_splittingBit_40 : decode cX5_splittingBit 40 = .ok (.iaload, 1) := by decide +kernel
theorem dX5_splittingBit_41 : decode cX5_splittingBit 41 = .ok (.ior, 1) := by decide +kernel
theorem dX5_splittingBit_42 : decode cX5_splittingBit 42 = .ok (.iload_n 2, 1) := by decide +kernel
theorem dX5_splittingBit_43 : decode cX5_splittingBit 43 = .ok (.iand, 1) := by decide +kernel
theorem dX5_splittingBit_44 : decode cX5_splittingBit 44 = .ok (.istore 6, 2) := by decide +kernel
theorem dX5_splittingBit_46 : decode cX5_splittingBit 46 = .ok (.iload 6, 2) := by decide +kernel
theorem dX5_splittingBit_48 : decode cX5_splittingBit 48 = .ok (.ifCond .ne 5, 3) := by decide +kernel
theorem dX5_splittingBit_51 : decode cX5_splittingBit 51 = .ok (.iconst 0, 1) := by decide +kernel
theorem dX5_splittingBit_52 : decode cX5_splittingBit 52 = .ok (.ireturn, 1) := by decide +kernel
theorem dX5_splittingBit_53 : decode cX5_splittingBit 53 = .ok (.iload_n 3, 1) := by decide +kernel
theorem dX5_splittingBit_54 : decode cX5_splittingBit 54 = .ok (.iload 6, 2) := by decide +kernel
theorem dX5_splittingBit_56 : decode cX5_splittingBit 56 = .ok (.ior, 1) := by decide +kernel
theorem dX5_splittingBit_57 : decode cX5_splittingBit 57 = .ok (.istore_n 3, 1) := by decide +kernel
theorem dX5_splittingBit_58 : decode cX5_splittingBit 58 = .ok (.iinc 4 1, 3) := by decide +kernel
theorem dX5_splittingBit_61 : decode cX5_splittingBit 61 = .ok (.goto (-56), 3) := by decide +kernel
theorem dX5_splittingBit_64 : decode cX5_splittingBit 64 = .ok (.ldc 51, 2) := by decide +kernel
theorem dX5_splittingBit_66 : decode cX5_splittingBit 66 = .ok (.istore 4, 2) := by decide +kernel
theorem dX5_splittingBit_68 : decode cX5_splittingBit 68 = .ok (.iload 4, 2) := by decide +kernel
theorem dX5_splittingBit_70 : decode cX5_splittingBit 70 = .ok (.ifCond .le 19, 3) := by decide +kernel
theorem dX5_splittingBit_73 : decode cX5_splittingBit 73 = .ok (.iload_n 3, 1) := by decide +kernel
theorem dX5_splittingBit_74 : decode cX5_splittingBit 74 = .ok (.iload 4, 2) := by decide +kernel
theorem dX5_splittingBit_76 : decode cX5_splittingBit 76 = .ok (.iand, 1) := by decide +kernel
theorem dX5_splittingBit_77 : decode cX5_splittingBit 77 = .ok (.ifCond .ne 12, 3) := by decide +kernel
theorem dX5_splittingBit_80 : decode cX5_splittingBit 80 = .ok (.iload 4, 2) := by decide +kernel
theorem dX5_splittingBit_82 : decode cX5_splittingBit 82 = .ok (.iconst 1, 1) := by decide +kernel
theorem dX5_splittingBit_83 : decode cX5_splittingBit 83 = .ok (.ishr, 1) := by decide +kernel
theorem dX5_splittingBit_84 : decode cX5_splittingBit 84 = .ok (.istore 4, 2) := by decide +kernel
theorem dX5_splittingBit_86 : decode cX5_splittingBit 86 = .ok (.goto (-18), 3) := by decide +kernel
theorem dX5_splittingBit_89 : decode cX5_splittingBit 89 = .ok (.iload 4, 2) := by decide +kernel
theorem dX5_splittingBit_91 : decode cX5_splittingBit 91 = .ok (.ireturn, 1) := by decide +kernel
theorem dX5_leastGap_0 : decode cX5_leastGap 0 = .ok (.aload_n 0, 1) := by decide +kernel
theorem dX5_leastGap_1 : decode cX5_leastGap 1 = .ok (.iconst 0, 1) := by decide +kernel
theorem dX5_leastGap_2 : decode cX5_leastGap 2 = .ok (.aload_n 0, 1) := by decide +kernel
theorem dX5_leastGap_3 : decode cX5_leastGap 3 = .ok (.getfield 41, 3) := by decide +kernel
theorem dX5_leastGap_6 : decode cX5_leastGap 6 = .ok (.iconst 0, 1) := by decide +kernel
theorem dX5_leastGap_7 : decode cX5_leastGap 7 = .ok (.invokestatic 52, 3) := by decide +kernel
theorem dX5_leastGap_10 : decode cX5_leastGap 10 = .ok (.ireturn, 1) := by decide +kernel
theorem dX5_leastGapFrom_0 : decode cX5_leastGapFrom 0 = .ok (.aload_n 0, 1) := by decide +kernel
theorem dX5_leastGapFrom_1 : decode cX5_leastGapFrom 1 = .ok (.getfield 26, 3) := by decide +kernel
theorem dX5_leastGapFrom_4 : decode cX5_leastGapFrom 4 = .ok (.iload_n 1, 1) := by decide +kernel
theorem dX5_leastGapFrom_5 : decode cX5_leastGapFrom 5 = .ok (.iaload, 1) := by decide +kernel
theorem dX5_leastGapFrom_6 : decode cX5_leastGapFrom 6 = .ok (.ifCond .ne 5, 3) := by decide +kernel
theorem dX5_leastGapFrom_9 : decode cX5_leastGapFrom 9 = .ok (.iload_n 3, 1) := by decide +kernel
theorem dX5_leastGapFrom_10 : decode cX5_leastGapFrom 10 = .ok (.ireturn, 1) := by decide +kernel
theorem dX5_leastGapFrom_11 : decode cX5_leastGapFrom 11 = .ok (.aload_n 0, 1) := by decide +kernel
theorem dX5_leastGapFrom_12 : decode cX5_leastGapFrom 12 = .ok (.iload_n 1, 1) := by decide +kernel
theorem dX5_leastGapFrom_13 : decode cX5_leastGapFrom 13 = .ok (.iload_n 2, 1) := by decide +kernel
theorem dX5_leastGapFrom_14 : decode cX5_leastGapFrom 14 = .ok (.invokevirtual 56, 3) := by decide +kernel
theorem dX5_leastGapFrom_17 : decode cX5_leastGapFrom 17 = .ok (.istore 4, 2) := by decide +kernel
theorem dX5_leastGapFrom_19 : decode cX5_leastGapFrom 19 = .ok (.iload 4, 2) := by decide +kernel
theorem dX5_leastGapFrom_21 : decode cX5_leastGapFrom 21 = .ok (.ifCond .eq 9, 3) := by decide +kernel
theorem dX5_leastGapFrom_24 : decode cX5_leastGapFrom 24 = .ok (.iload_n 1, 1) := by decide +kernel
theorem dX5_leastGapFrom_25 : decode cX5_leastGapFrom 25 = .ok (.bipush 16, 2) := by decide +kernel
theorem dX5_leastGapFrom_27 : decode cX5_leastGapFrom 27 = .ok (.if_icmp .lt 5, 3) := by decide +kernel
theorem dX5_leastGapFrom_30 : decode cX5_leastGapFrom 30 = .ok (.iconst (-1), 1) := by decide +kernel
theorem dX5_leastGapFrom_31 : decode cX5_leastGapFrom 31 = .ok (.ireturn, 1) := by decide +kernel
theorem dX5_leastGapFrom_32 : decode cX5_leastGapFrom 32 = .ok (.aload_n 0, 1) := by decide +kernel
theorem dX5_leastGapFrom_33 : decode cX5_leastGapFrom 33 = .ok (.iload_n 1, 1) := by decide +kernel
theorem dX5_leastGapFrom_34 : decode cX5_leastGapFrom 34 = .ok (.iload 4, 2) := by decide +kernel
theorem dX5_leastGapFrom_36 : decode cX5_leastGapFrom 36 = .ok (.iconst 0, 1) := by decide +kernel
theorem dX5_leastGapFrom_37 : decode cX5_leastGapFrom 37 = .ok (.invokevirtual 60, 3) := by decide +kernel
theorem dX5_leastGapFrom_40 : decode cX5_leastGapFrom 40 = .ok (.aload_n 0, 1) := by decide +kernel
theorem dX5_leastGapFrom_41 : decode cX5_leastGapFrom 41 = .ok (.iload_n 1, 1) := by decide +kernel
theorem dX5_leastGapFrom_42 : decode cX5_leastGapFrom 42 = .ok (.iconst 1, 1) := by decide +kernel
theorem dX5_leastGapFrom_43 : decode cX5_leastGapFrom 43 = .ok (.iadd, 1) := by decide +kernel
theorem dX5_leastGapFrom_44 : decode cX5_leastGapFrom 44 = .ok (.iload_n 2, 1) := by decide +kernel
theorem dX5_leastGapFrom_45 : decode cX5_leastGapFrom 45 = .ok (.iload 4, 2) := by decide +kernel
theorem dX5_leastGapFrom_47 : decode cX5_leastGapFrom 47 = .ok (.iconst (-1), 1) := by decide +kernel
theorem dX5_leastGapFrom_48 : decode cX5_leastGapFrom 48 = .ok (.ixor, 1) := by decide +kernel
theorem dX5_leastGapFrom_49 : decode cX5_leastGapFrom 49 = .ok (.iand, 1) := by decide +kernel
theorem dX5_leastGapFrom_50 : decode cX5_leastGapFrom 50 = .ok (.iload_n 3, 1) := by decide +kernel
theorem dX5_leastGapFrom_51 : decode cX5_leastGapFrom 51 = .ok (.invokestatic 52, 3) := by decide +kernel
theorem dX5_leastGapFrom_54 : decode cX5_leastGapFrom 54 = .ok (.istore 5, 2) := by decide +kernel
theorem dX5_leastGapFrom_56 : decode cX5_leastGapFrom 56 = .ok (.iload 5, 2) := by decide +kernel
theorem dX5_leastGapFrom_58 : decode cX5_leastGapFrom 58 = .ok (.iconst (-1), 1) := by decide +kernel
theorem dX5_leastGapFrom_59 : decode cX5_leastGapFrom 59 = .ok (.if_icmp .eq 6, 3) := by decide +kernel
theorem dX5_leastGapFrom_62 : decode cX5_leastGapFrom 62 = .ok (.iload 5, 2) := by decide +kernel
theorem dX5_leastGapFrom_64 : decode cX5_leastGapFrom 64 = .ok (.ireturn, 1) := by decide +kernel
theorem dX5_leastGapFrom_65 : decode cX5_leastGapFrom 65 = .ok (.aload_n 0, 1) := by decide +kernel
theorem dX5_leastGapFrom_66 : decode cX5_leastGapFrom 66 = .ok (.iload_n 1, 1) := by decide +kernel
theorem dX5_leastGapFrom_67 : decode cX5_leastGapFrom 67 = .ok (.iload 4, 2) := by decide +kernel
theorem dX5_leastGapFrom_69 : decode cX5_leastGapFrom 69 = .ok (.iconst 1, 1) := by decide +kernel
theorem dX5_leastGapFrom_70 : decode cX5_leastGapFrom 70 = .ok (.invokevirtual 60, 3) := by decide +kernel
theorem dX5_leastGapFrom_73 : decode cX5_leastGapFrom 73 = .ok (.aload_n 0, 1) := by decide +kernel
theorem dX5_leastGapFrom_74 : decode cX5_leastGapFrom 74 = .ok (.iload_n 1, 1) := by decide +kernel
theorem dX5_leastGapFrom_75 : decode cX5_leastGapFrom 75 = .ok (.iconst 1, 1) := by decide +kernel
theorem dX5_leastGapFrom_76 : decode cX5_leastGapFrom 76 = .ok (.iadd, 1) := by decide +kernel
theorem dX5_leastGapFrom_77 : decode cX5_leastGapFrom 77 = .ok (.iload_n 2, 1) := by decide +kernel
theorem dX5_leastGapFrom_78 : decode cX5_leastGapFrom 78 = .ok (.iload 4, 2) := by decide +kernel
theorem dX5_leastGapFrom_80 : decode cX5_leastGapFrom 80 = .ok (.iconst (-1), 1) := by decide +kernel
theorem dX5_leastGapFrom_81 : decode cX5_leastGapFrom 81 = .ok (.ixor, 1) := by decide +kernel
theorem dX5_leastGapFrom_82 : decode cX5_leastGapFrom 82 = .ok (.iand, 1) := by decide +kernel
theorem dX5_leastGapFrom_83 : decode cX5_leastGapFrom 83 = .ok (.iload_n 3, 1) := by decide +kernel
theorem dX5_leastGapFrom_84 : decode cX5_leastGapFrom 84 = .ok (.iload 4, 2) := by decide +kernel
theorem dX5_leastGapFrom_86 : decode cX5_leastGapFrom 86 = .ok (.ior, 1) := by decide +kernel
theorem dX5_leastGapFrom_87 : decode cX5_leastGapFrom 87 = .ok (.invokestatic 52, 3) := by decide +kernel
theorem dX5_leastGapFrom_90 : decode cX5_leastGapFrom 90 = .ok (.ireturn, 1) := by decide +kernel
theorem dX5_casesMet_0 : decode cX5_casesMet 0 = .ok (.aload_n 0, 1) := by decide +kernel
theorem dX5_casesMet_1 : decode cX5_casesMet 1 = .ok (.iconst 0, 1) := by decide +kernel
theorem dX5_casesMet_2 : decode cX5_casesMet 2 = .ok (.aload_n 0, 1) := by decide +kernel
theorem dX5_casesMet_3 : decode cX5_casesMet 3 = .ok (.getfield 41, 3) := by decide +kernel
theorem dX5_casesMet_6 : decode cX5_casesMet 6 = .ok (.invokestatic 64, 3) := by decide +kernel
theorem dX5_casesMet_9 : decode cX5_casesMet 9 = .ok (.ireturn, 1) := by decide +kernel
theorem dX5_casesMetFrom_0 : decode cX5_casesMetFrom 0 = .ok (.aload_n 0, 1) := by decide +kernel
theorem dX5_casesMetFrom_1 : decode cX5_casesMetFrom 1 = .ok (.getfield 26, 3) := by decide +kernel
theorem dX5_casesMetFrom_4 : decode cX5_casesMetFrom 4 = .ok (.iload_n 1, 1) := by decide +kernel
theorem dX5_casesMetFrom_5 : decode cX5_casesMetFrom 5 = .ok (.iaload, 1) := by decide +kernel
theorem dX5_casesMetFrom_6 : decode cX5_casesMetFrom 6 = .ok (.ifCond .ne 5, 3) := by decide +kernel
theorem dX5_casesMetFrom_9 : decode cX5_casesMetFrom 9 = .ok (.iconst 0, 1) := by decide +kernel
theorem dX5_casesMetFrom_10 : decode cX5_casesMetFrom 10 = .ok (.ireturn, 1) := by decide +kernel
theorem dX5_casesMetFrom_11 : decode cX5_casesMetFrom 11 = .ok (.aload_n 0, 1) := by decide +kernel
theorem dX5_casesMetFrom_12 : decode cX5_casesMetFrom 12 = .ok (.iload_n 1, 1) := by decide +kernel
theorem dX5_casesMetFrom_13 : decode cX5_casesMetFrom 13 = .ok (.iload_n 2, 1) := by decide +kernel
theorem dX5_casesMetFrom_14 : decode cX5_casesMetFrom 14 = .ok (.invokevirtual 56, 3) := by decide +kernel
theorem dX5_casesMetFrom_17 : decode cX5_casesMetFrom 17 = .ok (.istore_n 3, 1) := by decide +kernel
theorem dX5_casesMetFrom_18 : decode cX5_casesMetFrom 18 = .ok (.iload_n 3, 1) := by decide +kernel
theorem dX5_casesMetFrom_19 : decode cX5_casesMetFrom 19 = .ok (.ifCond .eq 9, 3) := by decide +kernel
theorem dX5_casesMetFrom_22 : decode cX5_casesMetFrom 22 = .ok (.iload_n 1, 1) := by decide +kernel
theorem dX5_casesMetFrom_23 : decode cX5_casesMetFrom 23 = .ok (.bipush 16, 2) := by decide +kernel
theorem dX5_casesMetFrom_25 : decode cX5_casesMetFrom 25 = .ok (.if_icmp .lt 10, 3) := by decide +kernel
theorem dX5_casesMetFrom_28 : decode cX5_casesMetFrom 28 = .ok (.iconst 1, 1) := by decide +kernel
theorem dX5_casesMetFrom_29 : decode cX5_casesMetFrom 29 = .ok (.iload_n 2, 1) := by decide +kernel
theorem dX5_casesMetFrom_30 : decode cX5_casesMetFrom 30 = .ok (.invokestatic 68, 3) := by decide +kernel
theorem dX5_casesMetFrom_33 : decode cX5_casesMetFrom 33 = .ok (.ishl, 1) := by decide +kernel
theorem dX5_casesMetFrom_34 : decode cX5_casesMetFrom 34 = .ok (.ireturn, 1) := by decide +kernel
theorem dX5_casesMetFrom_35 : decode cX5_casesMetFrom 35 = .ok (.aload_n 0, 1) := by decide +kernel
theorem dX5_casesMetFrom_36 : decode cX5_casesMetFrom 36 = .ok (.iload_n 1, 1) := by decide +kernel
theorem dX5_casesMetFrom_37 : decode cX5_casesMetFrom 37 = .ok (.iload_n 3, 1) := by decide +kernel
theorem dX5_casesMetFrom_38 : decode cX5_casesMetFrom 38 = .ok (.iconst 1, 1) := by decide +kernel
theorem dX5_casesMetFrom_39 : decode cX5_casesMetFrom 39 = .ok (.invokevirtual 60, 3) := by decide +kernel
theorem dX5_casesMetFrom_42 : decode cX5_casesMetFrom 42 = .ok (.aload_n 0, 1) := by decide +kernel
theorem dX5_casesMetFrom_43 : decode cX5_casesMetFrom 43 = .ok (.iload_n 1, 1) := by decide +kernel
theorem dX5_casesMetFrom_44 : decode cX5_casesMetFrom 44 = .ok (.iconst 1, 1) := by decide +kernel
theorem dX5_casesMetFrom_45 : decode cX5_casesMetFrom 45 = .ok (.iadd, 1) := by decide +kernel
theorem dX5_casesMetFrom_46 : decode cX5_casesMetFrom 46 = .ok (.iload_n 2, 1) := by decide +kernel
theorem dX5_casesMetFrom_47 : decode cX5_casesMetFrom 47 = .ok (.iload_n 3, 1) := by decide +kernel
theorem dX5_casesMetFrom_48 : decode cX5_casesMetFrom 48 = .ok (.iconst (-1), 1) := by decide +kernel
theorem dX5_casesMetFrom_49 : decode cX5_casesMetFrom 49 = .ok (.ixor, 1) := by decide +kernel
theorem dX5_casesMetFrom_50 : decode cX5_casesMetFrom 50 = .ok (.iand, 1) := by decide +kernel
theorem dX5_casesMetFrom_51 : decode cX5_casesMetFrom 51 = .ok (.invokestatic 64, 3) := by decide +kernel
theorem dX5_casesMetFrom_54 : decode cX5_casesMetFrom 54 = .ok (.istore 4, 2) := by decide +kernel
theorem dX5_casesMetFrom_56 : decode cX5_casesMetFrom 56 = .ok (.aload_n 0, 1) := by decide +kernel
theorem dX5_casesMetFrom_57 : decode cX5_casesMetFrom 57 = .ok (.iload_n 1, 1) := by decide +kernel
theorem dX5_casesMetFrom_58 : decode cX5_casesMetFrom 58 = .ok (.iload_n 3, 1) := by decide +kernel
theorem dX5_casesMetFrom_59 : decode cX5_casesMetFrom 59 = .ok (.iconst 0, 1) := by decide +kernel
theorem dX5_casesMetFrom_60 : decode cX5_casesMetFrom 60 = .ok (.invokevirtual 60, 3) := by decide +kernel
theorem dX5_casesMetFrom_63 : decode cX5_casesMetFrom 63 = .ok (.iload 4, 2) := by decide +kernel
theorem dX5_casesMetFrom_65 : decode cX5_casesMetFrom 65 = .ok (.aload_n 0, 1) := by decide +kernel
theorem dX5_casesMetFrom_66 : decode cX5_casesMetFrom 66 = .ok (.iload_n 1, 1) := by decide +kernel
theorem dX5_casesMetFrom_67 : decode cX5_casesMetFrom 67 = .ok (.iconst 1, 1) := by decide +kernel
theorem dX5_casesMetFrom_68 : decode cX5_casesMetFrom 68 = .ok (.iadd, 1) := by decide +kernel
theorem dX5_casesMetFrom_69 : decode cX5_casesMetFrom 69 = .ok (.iload_n 2, 1) := by decide +kernel
theorem dX5_casesMetFrom_70 : decode cX5_casesMetFrom 70 = .ok (.iload_n 3, 1) := by decide +kernel
theorem dX5_casesMetFrom_71 : decode cX5_casesMetFrom 71 = .ok (.iconst (-1), 1) := by decide +kernel
theorem dX5_casesMetFrom_72 : decode cX5_casesMetFrom 72 = .ok (.ixor, 1) := by decide +kernel
theorem dX5_casesMetFrom_73 : decode cX5_casesMetFrom 73 = .ok (.iand, 1) := by decide +kernel
theorem dX5_casesMetFrom_74 : decode cX5_casesMetFrom 74 = .ok (.invokestatic 64, 3) := by decide +kernel
theorem dX5_casesMetFrom_77 : decode cX5_casesMetFrom 77 = .ok (.iadd, 1) := by decide +kernel
theorem dX5_casesMetFrom_78 : decode cX5_casesMetFrom 78 = .ok (.ireturn, 1) := by decide +kernel
theorem dX5_oneAction_0 : decode cX5_oneAction 0 = .ok (.aload_n 0, 1) := by decide +kernel
theorem dX5_oneAction_1 : decode cX5_oneAction 1 = .ok (.getfield 18, 3) := by decide +kernel
theorem dX5_oneAction_4 : decode cX5_oneAction 4 = .ok (.aload_n 0, 1) := by decide +kernel
theorem dX5_oneAction_5 : decode cX5_oneAction 5 = .ok (.getfield 23, 3) := by decide +kernel
theorem dX5_oneAction_8 : decode cX5_oneAction 8 = .ok (.iload_n 1, 1) := by decide +kernel
theorem dX5_oneAction_9 : decode cX5_oneAction 9 = .ok (.aaload, 1) := by decide +kernel
theorem dX5_oneAction_10 : decode cX5_oneAction 10 = .ok (.iconst 0, 1) := by decide +kernel
theorem dX5_oneAction_11 : decode cX5_oneAction 11 = .ok (.iaload, 1) := by decide +kernel
theorem dX5_oneAction_12 : decode cX5_oneAction 12 = .ok (.iaload, 1) := by decide +kernel
theorem dX5_oneAction_13 : decode cX5_oneAction 13 = .ok (.istore_n 2, 1) := by decide +kernel
theorem dX5_oneAction_14 : decode cX5_oneAction 14 = .ok (.iconst 1, 1) := by decide +kernel
theorem dX5_oneAction_15 : decode cX5_oneAction 15 = .ok (.istore_n 3, 1) := by decide +kernel
theorem dX5_oneAction_16 : decode cX5_oneAction 16 = .ok (.iload_n 3, 1) := by decide +kernel
theorem dX5_oneAction_17 : decode cX5_oneAction 17 = .ok (.aload_n 0, 1) := by decide +kernel
theorem dX5_oneAction_18 : decode cX5_oneAction 18 = .ok (.getfield 26, 3) := by decide +kernel
theorem dX5_oneAction_21 : decode cX5_oneAction 21 = .ok (.iload_n 1, 1) := by decide +kernel
theorem dX5_oneAction_22 : decode cX5_oneAction 22 = .ok (.iaload, 1) := by decide +kernel
theorem dX5_oneAction_23 : decode cX5_oneAction 23 = .ok (.if_icmp .ge 28, 3) := by decide +kernel
theorem dX5_oneAction_26 : decode cX5_oneAction 26 = .ok (.aload_n 0, 1) := by decide +kernel
theorem dX5_oneAction_27 : decode cX5_oneAction 27 = .ok (.getfield 18, 3) := by decide +kernel
theorem dX5_oneAction_30 : decode cX5_oneAction 30 = .ok (.aload_n 0, 1) := by decide +kernel
theorem dX5_oneAction_31 : decode cX5_oneAction 31 = .ok (.getfield 23, 3) := by decide +kernel
theorem dX5_oneAction_34 : decode cX5_oneAction 34 = .ok (.iload_n 1, 1) := by decide +kernel
theorem dX5_oneAction_35 : decode cX5_oneAction 35 = .ok (.aaload, 1) := by decide +kernel
theorem dX5_oneAction_36 : decode cX5_oneAction 36 = .ok (.iload_n 3, 1) := by decide +kernel
theorem dX5_oneAction_37 : decode cX5_oneAction 37 = .ok (.iaload, 1) := by decide +kernel
theorem dX5_oneAction_38 : decode cX5_oneAction 38 = .ok (.iaload, 1) := by decide +kernel
theorem dX5_oneAction_39 : decode cX5_oneAction 39 = .ok (.iload_n 2, 1) := by decide +kernel
theorem dX5_oneAction_40 : decode cX5_oneAction 40 = .ok (.if_icmp .eq 5, 3) := by decide +kernel
theorem dX5_oneAction_43 : decode cX5_oneAction 43 = .ok (.iconst (-1), 1) := by decide +kernel
theorem dX5_oneAction_44 : decode cX5_oneAction 44 = .ok (.ireturn, 1) := by decide +kernel
theorem dX5_oneAction_45 : decode cX5_oneAction 45 = .ok (.iinc 3 1, 3) := by decide +kernel
theorem dX5_oneAction_48 : decode cX5_oneAction 48 = .ok (.goto (-32), 3) := by decide +kernel
theorem dX5_oneAction_51 : decode cX5_oneAction 51 = .ok (.iload_n 2, 1) := by decide +kernel
theorem dX5_oneAction_52 : decode cX5_oneAction 52 = .ok (.ireturn, 1) := by decide +kernel
theorem dX5_choose_0 : decode cX5_choose 0 = .ok (.aload_n 0, 1) := by decide +kernel
theorem dX5_choose_1 : decode cX5_choose 1 = .ok (.iload_n 1, 1) := by decide +kernel
theorem dX5_choose_2 : decode cX5_choose 2 = .ok (.iload_n 2, 1) := by decide +kernel
theorem dX5_choose_3 : decode cX5_choose 3 = .ok (.invokevirtual 74, 3) := by decide +kernel
theorem dX5_choose_6 : decode cX5_choose 6 = .ok (.iconst (-1), 1) := by decide +kernel
theorem dX5_choose_7 : decode cX5_choose 7 = .ok (.istore_n 3, 1) := by decide +kernel
theorem dX5_choose_8 : decode cX5_choose 8 = .ok (.iconst 0, 1) := by decide +kernel
theorem dX5_choose_9 : decode cX5_choose 9 = .ok (.istore 4, 2) := by decide +kernel
theorem dX5_choose_11 : decode cX5_choose 11 = .ok (.iload 4, 2) := by decide +kernel
theorem dX5_choose_13 : decode cX5_choose 13 = .ok (.bipush 16, 2) := by decide +kernel
theorem dX5_choose_15 : decode cX5_choose 15 = .ok (.if_icmp .ge 36, 3) := by decide +kernel
theorem dX5_choose_18 : decode cX5_choose 18 = .ok (.iload_n 2, 1) := by decide +kernel
theorem dX5_choose_19 : decode cX5_choose 19 = .ok (.iconst 1, 1) := by decide +kernel
theorem dX5_choose_20 : decode cX5_choose 20 = .ok (.iload 4, 2) := by decide +kernel
theorem dX5_choose_22 : decode cX5_choose 22 = .ok (.ishl, 1) := by decide +kernel
theorem dX5_choose_23 : decode cX5_choose 23 = .ok (.iand, 1) := by decide +kernel
theorem dX5_choose_24 : decode cX5_choose 24 = .ok (.ifCond .eq 21, 3) := by decide +kernel
theorem dX5_choose_27 : decode cX5_choose 27 = .ok (.iload_n 3, 1) := by decide +kernel
theorem dX5_choose_28 : decode cX5_choose 28 = .ok (.iconst (-1), 1) := by decide +kernel
theorem dX5_choose_29 : decode cX5_choose 29 = .ok (.if_icmp .eq 13, 3) := by decide +kernel
theorem dX5_choose_32 : decode cX5_choose 32 = .ok (.aload_n 0, 1) := by decide +kernel
theorem dX5_choose_33 : decode cX5_choose 33 = .ok (.iload 4, 2) := by decide +kernel
theorem dX5_choose_35 : decode cX5_choose 35 = .ok (.iload_n 3, 1) := by decide +kernel
theorem dX5_choose_36 : decode cX5_choose 36 = .ok (.invokevirtual 78, 3) := by decide +kernel
theorem dX5_choose_39 : decode cX5_choose 39 = .ok (.ifCond .eq 6, 3) := by decide +kernel
theorem dX5_choose_42 : decode cX5_choose 42 = .ok (.iload 4, 2) := by decide +kernel
theorem dX5_choose_44 : decode cX5_choose 44 = .ok (.istore_n 3, 1) := by decide +kernel
theorem dX5_choose_45 : decode cX5_choose 45 = .ok (.iinc 4 1, 3) := by decide +kernel
theorem dX5_choose_48 : decode cX5_choose 48 = .ok (.goto (-37), 3) := by decide +kernel
theorem dX5_choose_51 : decode cX5_choose 51 = .ok (.iload_n 3, 1) := by decide +kernel
theorem dX5_choose_52 : decode cX5_choose 52 = .ok (.ireturn, 1) := by decide +kernel
theorem dX5_isBetter_0 : decode cX5_isBetter 0 = .ok (.aload_n 0, 1) := by decide +kernel
theorem dX5_isBetter_1 : decode cX5_isBetter 1 = .ok (.getfield 29, 3) := by decide +kernel
theorem dX5_isBetter_4 : decode cX5_isBetter 4 = .ok (.iload_n 1, 1) := by decide +kernel
theorem dX5_isBetter_5 : decode cX5_isBetter 5 = .ok (.iaload, 1) := by decide +kernel
theorem dX5_isBetter_6 : decode cX5_isBetter 6 = .ok (.aload_n 0, 1) := by decide +kernel
theorem dX5_isBetter_7 : decode cX5_isBetter 7 = .ok (.getfield 29, 3) := by decide +kernel
theorem dX5_isBetter_10 : decode cX5_isBetter 10 = .ok (.iload_n 2, 1) := by decide +kernel
theorem dX5_isBetter_11 : decode cX5_isBetter 11 = .ok (.iaload, 1) := by decide +kernel
theorem dX5_isBetter_12 : decode cX5_isBetter 12 = .ok (.if_icmp .eq 24, 3) := by decide +kernel
theorem dX5_isBetter_15 : decode cX5_isBetter 15 = .ok (.aload_n 0, 1) := by decide +kernel
theorem dX5_isBetter_16 : decode cX5_isBetter 16 = .ok (.getfield 29, 3) := by decide +kernel
theorem dX5_isBetter_19 : decode cX5_isBetter 19 = .ok (.iload_n 1, 1) := by decide +kernel
theorem dX5_isBetter_20 : decode cX5_isBetter 20 = .ok (.iaload, 1) := by decide +kernel
theorem dX5_isBetter_21 : decode cX5_isBetter 21 = .ok (.aload_n 0, 1) := by decide +kernel
theorem dX5_isBetter_22 : decode cX5_isBetter 22 = .ok (.getfield 29, 3) := by decide +kernel
theorem dX5_isBetter_25 : decode cX5_isBetter 25 = .ok (.iload_n 2, 1) := by decide +kernel
theorem dX5_isBetter_26 : decode cX5_isBetter 26 = .ok (.iaload, 1) := by decide +kernel
theorem dX5_isBetter_27 : decode cX5_isBetter 27 = .ok (.if_icmp .ge 7, 3) := by decide +kernel
theorem dX5_isBetter_30 : decode cX5_isBetter 30 = .ok (.iconst 1, 1) := by decide +kernel
theorem dX5_isBetter_31 : decode cX5_isBetter 31 = .ok (.goto 4, 3) := by decide +kernel
theorem dX5_isBetter_34 : decode cX5_isBetter 34 = .ok (.iconst 0, 1) := by decide +kernel
theorem dX5_isBetter_35 : decode cX5_isBetter 35 = .ok (.ireturn, 1) := by decide +kernel
theorem dX5_isBetter_36 : decode cX5_isBetter 36 = .ok (.aload_n 0, 1) := by decide +kernel
theorem dX5_isBetter_37 : decode cX5_isBetter 37 = .ok (.getfield 32, 3) := by decide +kernel
theorem dX5_isBetter_40 : decode cX5_isBetter 40 = .ok (.iload_n 1, 1) := by decide +kernel
theorem dX5_isBetter_41 : decode cX5_isBetter 41 = .ok (.iaload, 1) := by decide +kernel
theorem dX5_isBetter_42 : decode cX5_isBetter 42 = .ok (.invokestatic 82, 3) := by decide +kernel
theorem dX5_isBetter_45 : decode cX5_isBetter 45 = .ok (.aload_n 0, 1) := by decide +kernel
theorem dX5_isBetter_46 : decode cX5_isBetter 46 = .ok (.getfield 32, 3) := by decide +kernel
theorem dX5_isBetter_49 : decode cX5_isBetter 49 = .ok (.iload_n 2, 1) := by decide +kernel
theorem dX5_isBetter_50 : decode cX5_isBetter 50 = .ok (.iaload, 1) := by decide +kernel
theorem dX5_isBetter_51 : decode cX5_isBetter 51 = .ok (.invokestatic 82, 3) := by decide +kernel
theorem dX5_isBetter_54 : decode cX5_isBetter 54 = .ok (.if_icmp .le 7, 3) := by decide +kernel
theorem dX5_isBetter_57 : decode cX5_isBetter 57 = .ok (.iconst 1, 1) := by decide +kernel
theorem dX5_isBetter_58 : decode cX5_isBetter 58 = .ok (.goto 4, 3) := by decide +kernel
theorem dX5_isBetter_61 : decode cX5_isBetter 61 = .ok (.iconst 0, 1) := by decide +kernel
theorem dX5_isBetter_62 : decode cX5_isBetter 62 = .ok (.ireturn, 1) := by decide +kernel
theorem dX5_weigh_0 : decode cX5_weigh 0 = .ok (.iconst 0, 1) := by decide +kernel
theorem dX5_weigh_1 : decode cX5_weigh 1 = .ok (.istore_n 3, 1) := by decide +kernel
theorem dX5_weigh_2 : decode cX5_weigh 2 = .ok (.iload_n 3, 1) := by decide +kernel
theorem dX5_weigh_3 : decode cX5_weigh 3 = .ok (.bipush 16, 2) := by decide +kernel
theorem dX5_weigh_5 : decode cX5_weigh 5 = .ok (.if_icmp .ge 23, 3) := by decide +kernel
theorem dX5_weigh_8 : decode cX5_weigh 8 = .ok (.aload_n 0, 1) := by decide +kernel
theorem dX5_weigh_9 : decode cX5_weigh 9 = .ok (.getfield 29, 3) := by decide +kernel
theorem dX5_weigh_12 : decode cX5_weigh 12 = .ok (.iload_n 3, 1) := by decide +kernel
theorem dX5_weigh_13 : decode cX5_weigh 13 = .ok (.iconst 0, 1) := by decide +kernel
theorem dX5_weigh_14 : decode cX5_weigh 14 = .ok (.iastore, 1) := by decide +kernel
theorem dX5_weigh_15 : decode cX5_weigh 15 = .ok (.aload_n 0, 1) := by decide +kernel
theorem dX5_weigh_16 : decode cX5_weigh 16 = .ok (.getfield 32, 3) := by decide +kernel
theorem dX5_weigh_19 : decode cX5_weigh 19 = .ok (.iload_n 3, 1) := by decide +kernel
theorem dX5_weigh_20 : decode cX5_weigh 20 = .ok (.iconst 0, 1) := by decide +kernel
theorem dX5_weigh_21 : decode cX5_weigh 21 = .ok (.iastore, 1) := by decide +kernel
theorem dX5_weigh_22 : decode cX5_weigh 22 = .ok (.iinc 3 1, 3) := by decide +kernel
theorem dX5_weigh_25 : decode cX5_weigh 25 = .ok (.goto (-23), 3) := by decide +kernel
theorem dX5_weigh_28 : decode cX5_weigh 28 = .ok (.iconst 0, 1) := by decide +kernel
theorem dX5_weigh_29 : decode cX5_weigh 29 = .ok (.istore_n 3, 1) := by decide +kernel
theorem dX5_weigh_30 : decode cX5_weigh 30 = .ok (.iload_n 3, 1) := by decide +kernel
theorem dX5_weigh_31 : decode cX5_weigh 31 = .ok (.aload_n 0, 1) := by decide +kernel
theorem dX5_weigh_32 : decode cX5_weigh 32 = .ok (.getfield 26, 3) := by decide +kernel
theorem dX5_weigh_35 : decode cX5_weigh 35 = .ok (.iload_n 1, 1) := by decide +kernel
theorem dX5_weigh_36 : decode cX5_weigh 36 = .ok (.iaload, 1) := by decide +kernel
theorem dX5_weigh_37 : decode cX5_weigh 37 = .ok (.if_icmp .ge 49, 3) := by decide +kernel
theorem dX5_weigh_40 : decode cX5_weigh 40 = .ok (.aload_n 0, 1) := by decide +kernel
theorem dX5_weigh_41 : decode cX5_weigh 41 = .ok (.getfield 23, 3) := by decide +kernel
theorem dX5_weigh_44 : decode cX5_weigh 44 = .ok (.iload_n 1, 1) := by decide +kernel
theorem dX5_weigh_45 : decode cX5_weigh 45 = .ok (.aaload, 1) := by decide +kernel
theorem dX5_weigh_46 : decode cX5_weigh 46 = .ok (.iload_n 3, 1) := by decide +kernel
theorem dX5_weigh_47 : decode cX5_weigh 47 = .ok (.iaload, 1) := by decide +kernel
theorem dX5_weigh_48 : decode cX5_weigh 48 = .ok (.istore 4, 2) := by decide +kernel
theorem dX5_weigh_50 : decode cX5_weigh 50 = .ok (.aload_n 0, 1) := by decide +kernel
theorem dX5_weigh_51 : decode cX5_weigh 51 = .ok (.iload 4, 2) := by decide +kernel
theorem dX5_weigh_53 : decode cX5_weigh 53 = .ok (.iconst 1, 1) := by decide +kernel
theorem dX5_weigh_54 : decode cX5_weigh 54 = .ok (.iload_n 2, 1) := by decide +kernel
theorem dX5_weigh_55 : decode cX5_weigh 55 = .ok (.aload_n 0, 1) := by decide +kernel
theorem dX5_weigh_56 : decode cX5_weigh 56 = .ok (.getfield 9, 3) := by decide +kernel
theorem dX5_weigh_59 : decode cX5_weigh 59 = .ok (.iload 4, 2) := by decide +kernel
theorem dX5_weigh_61 : decode cX5_weigh 61 = .ok (.iaload, 1) := by decide +kernel
theorem dX5_weigh_62 : decode cX5_weigh 62 = .ok (.aload_n 0, 1) := by decide +kernel
theorem dX5_weigh_63 : decode cX5_weigh 63 = .ok (.getfield 15, 3) := by decide +kernel
theorem dX5_weigh_66 : decode cX5_weigh 66 = .ok (.iload 4, 2) := by decide +kernel
theorem dX5_weigh_68 : decode cX5_weigh 68 = .ok (.iaload, 1) := by decide +kernel
theorem dX5_weigh_69 : decode cX5_weigh 69 = .ok (.ior, 1) := by decide +kernel
theorem dX5_weigh_70 : decode cX5_weigh 70 = .ok (.iconst (-1), 1) := by decide +kernel
theorem dX5_weigh_71 : decode cX5_weigh 71 = .ok (.ixor, 1) := by decide +kernel
theorem dX5_weigh_72 : decode cX5_weigh 72 = .ok (.iand, 1) := by decide +kernel
theorem dX5_weigh_73 : decode cX5_weigh 73 = .ok (.invokestatic 68, 3) := by decide +kernel
theorem dX5_weigh_76 : decode cX5_weigh 76 = .ok (.ishl, 1) := by decide +kernel
theorem dX5_weigh_77 : decode cX5_weigh 77 = .ok (.invokevirtual 87, 3) := by decide +kernel
theorem dX5_weigh_80 : decode cX5_weigh 80 = .ok (.iinc 3 1, 3) := by decide +kernel
theorem dX5_weigh_83 : decode cX5_weigh 83 = .ok (.goto (-53), 3) := by decide +kernel
theorem dX5_weigh_86 : decode cX5_weigh 86 = .ok (.return_, 1) := by decide +kernel
theorem dX5_addWeight_0 : decode cX5_addWeight 0 = .ok (.iconst 0, 1) := by decide +kernel
theorem dX5_addWeight_1 : decode cX5_addWeight 1 = .ok (.istore_n 3, 1) := by decide +kernel
theorem dX5_addWeight_2 : decode cX5_addWeight 2 = .ok (.iload_n 3, 1) := by decide +kernel
theorem dX5_addWeight_3 : decode cX5_addWeight 3 = .ok (.bipush 16, 2) := by decide +kernel
theorem dX5_addWeight_5 : decode cX5_addWeight 5 = .ok (.if_icmp .ge 74, 3) := by decide +kernel
theorem dX5_addWeight_8 : decode cX5_addWeight 8 = .ok (.iconst 1, 1) := by decide +kernel
theorem dX5_addWeight_9 : decode cX5_addWeight 9 = .ok (.iload_n 3, 1) := by decide +kernel
theorem dX5_addWeight_10 : decode cX5_addWeight 10 = .ok (.ishl, 1) := by decide +kernel
theorem dX5_addWeight_11 : decode cX5_addWeight 11 = .ok (.istore 4, 2) := by decide +kernel
theorem dX5_addWeight_13 : decode cX5_addWeight 13 = .ok (.aload_n 0, 1) := by decide +kernel
theorem dX5_addWeight_14 : decode cX5_addWeight 14 = .ok (.getfield 9, 3) := by decide +kernel
theorem dX5_addWeight_17 : decode cX5_addWeight 17 = .ok (.iload_n 1, 1) := by decide +kernel
theorem dX5_addWeight_18 : decode cX5_addWeight 18 = .ok (.iaload, 1) := by decide +kernel
theorem dX5_addWeight_19 : decode cX5_addWeight 19 = .ok (.iload 4, 2) := by decide +kernel
theorem dX5_addWeight_21 : decode cX5_addWeight 21 = .ok (.iand, 1) := by decide +kernel
theorem dX5_addWeight_22 : decode cX5_addWeight 22 = .ok (.ifCond .eq 16, 3) := by decide +kernel
theorem dX5_addWeight_25 : decode cX5_addWeight 25 = .ok (.aload_n 0, 1) := by decide +kernel
theorem dX5_addWeight_26 : decode cX5_addWeight 26 = .ok (.getfield 32, 3) := by decide +kernel
theorem dX5_addWeight_29 : decode cX5_addWeight 29 = .ok (.iload_n 3, 1) := by decide +kernel
theorem dX5_addWeight_30 : decode cX5_addWeight 30 = .ok (.dup2, 1) := by decide +kernel
theorem dX5_addWeight_31 : decode cX5_addWeight 31 = .ok (.iaload, 1) := by decide +kernel
theorem dX5_addWeight_32 : decode cX5_addWeight 32 = .ok (.iload_n 2, 1) := by decide +kernel
theorem dX5_addWeight_33 : decode cX5_addWeight 33 = .ok (.iadd, 1) := by decide +kernel
theorem dX5_addWeight_34 : decode cX5_addWeight 34 = .ok (.iastore, 1) := by decide +kernel
theorem dX5_addWeight_35 : decode cX5_addWeight 35 = .ok (.goto 38, 3) := by decide +kernel
theorem dX5_addWeight_38 : decode cX5_addWeight 38 = .ok (.aload_n 0, 1) := by decide +kernel
theorem dX5_addWeight_39 : decode cX5_addWeight 39 = .ok (.getfield 15, 3) := by decide +kernel
theorem dX5_addWeight_42 : decode cX5_addWeight 42 = .ok (.iload_n 1, 1) := by decide +kernel
theorem dX5_addWeight_43 : decode cX5_addWeight 43 = .ok (.iaload, 1) := by decide +kernel
theorem dX5_addWeight_44 : decode cX5_addWeight 44 = .ok (.iload 4, 2) := by decide +kernel
theorem dX5_addWeight_46 : decode cX5_addWeight 46 = .ok (.iand, 1) := by decide +kernel
theorem dX5_addWeight_47 : decode cX5_addWeight 47 = .ok (.ifCond .eq 16, 3) := by decide +kernel
theorem dX5_addWeight_50 : decode cX5_addWeight 50 = .ok (.aload_n 0, 1) := by decide +kernel
theorem dX5_addWeight_51 : decode cX5_addWeight 51 = .ok (.getfield 32, 3) := by decide +kernel
theorem dX5_addWeight_54 : decode cX5_addWeight 54 = .ok (.iload_n 3, 1) := by decide +kernel
theorem dX5_addWeight_55 : decode cX5_addWeight 55 = .ok (.dup2, 1) := by decide +kernel
theorem dX5_addWeight_56 : decode cX5_addWeight 56 = .ok (.iaload, 1) := by decide +kernel
theorem dX5_addWeight_57 : decode cX5_addWeight 57 = .ok (.iload_n 2, 1) := by decide +kernel
theorem dX5_addWeight_58 : decode cX5_addWeight 58 = .ok (.isub, 1) := by decide +kernel
theorem dX5_addWeight_59 : decode cX5_addWeight 59 = .ok (.iastore, 1) := by decide +kernel
theorem dX5_addWeight_60 : decode cX5_addWeight 60 = .ok (.goto 13, 3) := by decide +kernel
theorem dX5_addWeight_63 : decode cX5_addWeight 63 = .ok (.aload_n 0, 1) := by decide +kernel
theorem dX5_addWeight_64 : decode cX5_addWeight 64 = .ok (.getfield 29, 3) := by decide +kernel
theorem dX5_addWeight_67 : decode cX5_addWeight 67 = .ok (.iload_n 3, 1) := by decide +kernel
theorem dX5_addWeight_68 : decode cX5_addWeight 68 = .ok (.dup2, 1) := by decide +kernel
theorem dX5_addWeight_69 : decode cX5_addWeight 69 = .ok (.iaload, 1) := by decide +kernel
theorem dX5_addWeight_70 : decode cX5_addWeight 70 = .ok (.iload_n 2, 1) := by decide +kernel
theorem dX5_addWeight_71 : decode cX5_addWeight 71 = .ok (.iadd, 1) := by decide +kernel
theorem dX5_addWeight_72 : decode cX5_addWeight 72 = .ok (.iastore, 1) := by decide +kernel
theorem dX5_addWeight_73 : decode cX5_addWeight 73 = .ok (.iinc 3 1, 3) := by decide +kernel
theorem dX5_addWeight_76 : decode cX5_addWeight 76 = .ok (.goto (-74), 3) := by decide +kernel
theorem dX5_addWeight_79 : decode cX5_addWeight 79 = .ok (.return_, 1) := by decide +kernel
theorem dX6_init_0 : decode cX6_init 0 = .ok (.aload_n 0, 1) := by decide +kernel
theorem dX6_init_1 : decode cX6_init 1 = .ok (.invokespecial 3, 3) := by decide +kernel
theorem dX6_init_4 : decode cX6_init 4 = .ok (.aload_n 0, 1) := by decide +kernel
theorem dX6_init_5 : decode cX6_init 5 = .ok (.new 9, 3) := by decide +kernel
theorem dX6_init_8 : decode cX6_init 8 = .ok (.dup, 1) := by decide +kernel
theorem dX6_init_9 : decode cX6_init 9 = .ok (.invokespecial 11, 3) := by decide +kernel
theorem dX6_init_12 : decode cX6_init 12 = .ok (.putfield 12, 3) := by decide +kernel
theorem dX6_init_15 : decode cX6_init 15 = .ok (.aload_n 0, 1) := by decide +kernel
theorem dX6_init_16 : decode cX6_init 16 = .ok (.new 16, 3) := by decide +kernel
theorem dX6_init_19 : decode cX6_init 19 = .ok (.dup, 1) := by decide +kernel
theorem dX6_init_20 : decode cX6_init 20 = .ok (.invokespecial 18, 3) := by decide +kernel
theorem dX6_init_23 : decode cX6_init 23 = .ok (.putfield 19, 3) := by decide +kernel
theorem dX6_init_26 : decode cX6_init 26 = .ok (.aload_n 0, 1) := by decide +kernel
theorem dX6_init_27 : decode cX6_init 27 = .ok (.new 16, 3) := by decide +kernel
theorem dX6_init_30 : decode cX6_init 30 = .ok (.dup, 1) := by decide +kernel
theorem dX6_init_31 : decode cX6_init 31 = .ok (.invokespecial 18, 3) := by decide +kernel
theorem dX6_init_34 : decode cX6_init 34 = .ok (.putfield 23, 3) := by decide +kernel
theorem dX6_init_37 : decode cX6_init 37 = .ok (.aload_n 0, 1) := by decide +kernel
theorem dX6_init_38 : decode cX6_init 38 = .ok (.new 26, 3) := by decide +kernel
theorem dX6_init_41 : decode cX6_init 41 = .ok (.dup, 1) := by decide +kernel
theorem dX6_init_42 : decode cX6_init 42 = .ok (.invokespecial 28, 3) := by decide +kernel
theorem dX6_init_45 : decode cX6_init 45 = .ok (.putfield 29, 3) := by decide +kernel
theorem dX6_init_48 : decode cX6_init 48 = .ok (.aload_n 0, 1) := by decide +kernel
theorem dX6_init_49 : decode cX6_init 49 = .ok (.new 33, 3) := by decide +kernel
theorem dX6_init_52 : decode cX6_init 52 = .ok (.dup, 1) := by decide +kernel
theorem dX6_init_53 : decode cX6_init 53 = .ok (.invokespecial 35, 3) := by decide +kernel
theorem dX6_init_56 : decode cX6_init 56 = .ok (.putfield 36, 3) := by decide +kernel
theorem dX6_init_59 : decode cX6_init 59 = .ok (.aload_n 0, 1) := by decide +kernel
theorem dX6_init_60 : decode cX6_init 60 = .ok (.new 40, 3) := by decide +kernel
theorem dX6_init_63 : decode cX6_init 63 = .ok (.dup, 1) := by decide +kernel
theorem dX6_init_64 : decode cX6_init 64 = .ok (.invokespecial 42, 3) := by decide +kernel
theorem dX6_init_67 : decode cX6_init 67 = .ok (.putfield 43, 3) := by decide +kernel
theorem dX6_init_70 : decode cX6_init 70 = .ok (.return_, 1) := by decide +kernel
theorem dX6_type_0 : decode cX6_type 0 = .ok (.iload_n 3, 1) := by decide +kernel
theorem dX6_type_1 : decode cX6_type 1 = .ok (.iconst 1, 1) := by decide +kernel
theorem dX6_type_2 : decode cX6_type 2 = .ok (.if_icmp .lt 9, 3) := by decide +kernel
theorem dX6_type_5 : decode cX6_type 5 = .ok (.iload_n 3, 1) := by decide +kernel
theorem dX6_type_6 : decode cX6_type 6 = .ok (.bipush 8, 2) := by decide +kernel
theorem dX6_type_8 : decode cX6_type 8 = .ok (.if_icmp .le 13, 3) := by decide +kernel
theorem dX6_type_11 : decode cX6_type 11 = .ok (.new 47, 3) := by decide +kernel
theorem dX6_type_14 : decode cX6_type 14 = .ok (.dup, 1) := by decide +kernel
theorem dX6_type_15 : decode cX6_type 15 = .ok (.ldc 49, 2) := by decide +kernel
theorem dX6_type_17 : decode cX6_type 17 = .ok (.invokespecial 51, 3) := by decide +kernel
theorem dX6_type_20 : decode cX6_type 20 = .ok (.athrow, 1) := by decide +kernel
theorem dX6_type_21 : decode cX6_type 21 = .ok (.aload_n 0, 1) := by decide +kernel
theorem dX6_type_22 : decode cX6_type 22 = .ok (.getfield 12, 3) := by decide +kernel
theorem dX6_type_25 : decode cX6_type 25 = .ok (.getfield 54, 3) := by decide +kernel
theorem dX6_type_28 : decode cX6_type 28 = .ok (.iload_n 3, 1) := by decide +kernel
theorem dX6_type_29 : decode cX6_type 29 = .ok (.iadd, 1) := by decide +kernel
theorem dX6_type_30 : decode cX6_type 30 = .ok (.sipush 8000, 3) := by decide +kernel
theorem dX6_type_33 : decode cX6_type 33 = .ok (.if_icmp .le 13, 3) := by decide +kernel
theorem dX6_type_36 : decode cX6_type 36 = .ok (.new 58, 3) := by decide +kernel
theorem dX6_type_39 : decode cX6_type 39 = .ok (.dup, 1) := by decide +kernel
theorem dX6_type_40 : decode cX6_type 40 = .ok (.ldc 60, 2) := by decide +kernel
theorem dX6_type_42 : decode cX6_type 42 = .ok (.invokespecial 62, 3) := by decide +kernel
theorem dX6_type_45 : decode cX6_type 45 = .ok (.athrow, 1) := by decide +kernel
theorem dX6_type_46 : decode cX6_type 46 = .ok (.iload_n 3, 1) := by decide +kernel
theorem dX6_type_47 : decode cX6_type 47 = .ok (.iconst 1, 1) := by decide +kernel
theorem dX6_type_48 : decode cX6_type 48 = .ok (.isub, 1) := by decide +kernel
theorem dX6_type_49 : decode cX6_type 49 = .ok (.istore 4, 2) := by decide +kernel
theorem dX6_type_51 : decode cX6_type 51 = .ok (.iload 4, 2) := by decide +kernel
theorem dX6_type_53 : decode cX6_type 53 = .ok (.ifCond .lt 28, 3) := by decide +kernel
theorem dX6_type_56 : decode cX6_type 56 = .ok (.aload_n 0, 1) := by decide +kernel
theorem dX6_type_57 : decode cX6_type 57 = .ok (.getfield 12, 3) := by decide +kernel
theorem dX6_type_60 : decode cX6_type 60 = .ok (.lload_n 1, 1) := by decide +kernel
theorem dX6_type_61 : decode cX6_type 61 = .ok (.bipush 8, 2) := by decide +kernel
theorem dX6_type_63 : decode cX6_type 63 = .ok (.iload 4, 2) := by decide +kernel
theorem dX6_type_65 : decode cX6_type 65 = .ok (.imul, 1) := by decide +kernel
theorem dX6_type_66 : decode cX6_type 66 = .ok (.lushr, 1) := by decide +kernel
theorem dX6_type_67 : decode cX6_type 67 = .ok (.l2i, 1) := by decide +kernel
theorem dX6_type_68 : decode cX6_type 68 = .ok (.sipush 255, 3) := by decide +kernel
theorem dX6_type_71 : decode cX6_type 71 = .ok (.iand, 1) := by decide +kernel
theorem dX6_type_72 : decode cX6_type 72 = .ok (.invokevirtual 63, 3) := by decide +kernel
theorem dX6_type_75 : decode cX6_type 75 = .ok (.iinc 4 (-1), 3) := by decide +kernel
theorem dX6_type_78 : decode cX6_type 78 = .ok (.goto (-27), 3) := by decide +kernel
theorem dX6_type_81 : decode cX6_type 81 = .ok (.aload_n 0, 1) := by decide +kernel
theorem dX6_type_82 : decode cX6_type 82 = .ok (.getfield 12, 3) := by decide +kernel
theorem dX6_type_85 : decode cX6_type 85 = .ok (.getfield 54, 3) := by decide +kernel
theorem dX6_type_88 : decode cX6_type 88 = .ok (.ireturn, 1) := by decide +kernel
theorem dX6_keep_0 : decode cX6_keep 0 = .ok (.iload_n 1, 1) := by decide +kernel
theorem dX6_keep_1 : decode cX6_keep 1 = .ok (.ifCond .lt 14, 3) := by decide +kernel
theorem dX6_keep_4 : decode cX6_keep 4 = .ok (.iload_n 1, 1) := by decide +kernel
theorem dX6_keep_5 : decode cX6_keep 5 = .ok (.aload_n 0, 1) := by decide +kernel
theorem dX6_keep_6 : decode cX6_keep 6 = .ok (.getfield 12, 3) := by decide +kernel
theorem dX6_keep_9 : decode cX6_keep 9 = .ok (.getfield 54, 3) := by decide +kernel
theorem dX6_keep_12 : decode cX6_keep 12 = .ok (.if_icmp .le 13, 3) := by decide +kernel
theorem dX6_keep_15 : decode cX6_keep 15 = .ok (.new 47, 3) := by decide +kernel
theorem dX6_keep_18 : decode cX6_keep 18 = .ok (.dup, 1) := by decide +kernel
theorem dX6_keep_19 : decode cX6_keep 19 = .ok (.ldc 67, 2) := by decide +kernel
theorem dX6_keep_21 : decode cX6_keep 21 = .ok (.invokespecial 51, 3) := by decide +kernel
theorem dX6_keep_24 : decode cX6_keep 24 = .ok (.athrow, 1) := by decide +kernel
theorem dX6_keep_25 : decode cX6_keep 25 = .ok (.aload_n 0, 1) := by decide +kernel
theorem dX6_keep_26 : decode cX6_keep 26 = .ok (.getfield 12, 3) := by decide +kernel
theorem dX6_keep_29 : decode cX6_keep 29 = .ok (.iload_n 1, 1) := by decide +kernel
theorem dX6_keep_30 : decode cX6_keep 30 = .ok (.putfield 54, 3) := by decide +kernel
theorem dX6_keep_33 : decode cX6_keep 33 = .ok (.return_, 1) := by decide +kernel
theorem dX6_read_0 : decode cX6_read 0 = .ok (.aload_n 0, 1) := by decide +kernel
theorem dX6_read_1 : decode cX6_read 1 = .ok (.getfield 12, 3) := by decide +kernel
theorem dX6_read_4 : decode cX6_read 4 = .ok (.aload_n 0, 1) := by decide +kernel
theorem dX6_read_5 : decode cX6_read 5 = .ok (.getfield 23, 3) := by decide +kernel
theorem dX6_read_8 : decode cX6_read 8 = .ok (.invokevirtual 69, 3) := by decide +kernel
theorem dX6_read_11 : decode cX6_read 11 = .ok (.istore_n 1, 1) := by decide +kernel
theorem dX6_read_12 : decode cX6_read 12 = .ok (.aload_n 0, 1) := by decide +kernel
theorem dX6_read_13 : decode cX6_read 13 = .ok (.getfield 12, 3) := by decide +kernel
theorem dX6_read_16 : decode cX6_read 16 = .ok (.iconst 0, 1) := by decide +kernel
theorem dX6_read_17 : decode cX6_read 17 = .ok (.putfield 54, 3) := by decide +kernel
theorem dX6_read_20 : decode cX6_read 20 = .ok (.aload_n 0, 1) := by decide +kernel
theorem dX6_read_21 : decode cX6_read 21 = .ok (.aload_n 0, 1) := by decide +kernel
theorem dX6_read_22 : decode cX6_read 22 = .ok (.getfield 12, 3) := by decide +kernel
theorem dX6_read_25 : decode cX6_read 25 = .ok (.getfield 73, 3) := by decide +kernel
theorem dX6_read_28 : decode cX6_read 28 = .ok (.putfield 76, 3) := by decide +kernel
theorem dX6_read_31 : decode cX6_read 31 = .ok (.iload_n 1, 1) := by decide +kernel
theorem dX6_read_32 : decode cX6_read 32 = .ok (.ifCond .ne 13, 3) := by decide +kernel
theorem dX6_read_35 : decode cX6_read 35 = .ok (.iconst (-1), 1) := by decide +kernel
theorem dX6_read_36 : decode cX6_read 36 = .ok (.aload_n 0, 1) := by decide +kernel
theorem dX6_read_37 : decode cX6_read 37 = .ok (.getfield 12, 3) := by decide +kernel
theorem dX6_read_40 : decode cX6_read 40 = .ok (.getfield 79, 3) := by decide +kernel
theorem dX6_read_43 : decode cX6_read 43 = .ok (.isub, 1) := by decide +kernel
theorem dX6_read_44 : decode cX6_read 44 = .ok (.ireturn, 1) := by decide +kernel
theorem dX6_read_45 : decode cX6_read 45 = .ok (.aload_n 0, 1) := by decide +kernel
theorem dX6_read_46 : decode cX6_read 46 = .ok (.getfield 19, 3) := by decide +kernel
theorem dX6_read_49 : decode cX6_read 49 = .ok (.astore_n 2, 1) := by decide +kernel
theorem dX6_read_50 : decode cX6_read 50 = .ok (.aload_n 0, 1) := by decide +kernel
theorem dX6_read_51 : decode cX6_read 51 = .ok (.aload_n 0, 1) := by decide +kernel
theorem dX6_read_52 : decode cX6_read 52 = .ok (.getfield 23, 3) := by decide +kernel
theorem dX6_read_55 : decode cX6_read 55 = .ok (.putfield 19, 3) := by decide +kernel
theorem dX6_read_58 : decode cX6_read 58 = .ok (.aload_n 0, 1) := by decide +kernel
theorem dX6_read_59 : decode cX6_read 59 = .ok (.aload_n 2, 1) := by decide +kernel
theorem dX6_read_60 : decode cX6_read 60 = .ok (.putfield 23, 3) := by decide +kernel
theorem dX6_read_63 : decode cX6_read 63 = .ok (.aload_n 0, 1) := by decide +kernel
theorem dX6_read_64 : decode cX6_read 64 = .ok (.iconst 1, 1) := by decide +kernel
theorem dX6_read_65 : decode cX6_read 65 = .ok (.putfield 82, 3) := by decide +kernel
theorem dX6_read_68 : decode cX6_read 68 = .ok (.aload_n 0, 1) := by decide +kernel
theorem dX6_read_69 : decode cX6_read 69 = .ok (.invokevirtual 86, 3) := by decide +kernel
theorem dX6_read_72 : decode cX6_read 72 = .ok (.ireturn, 1) := by decide +kernel
theorem dX6_fault_0 : decode cX6_fault 0 = .ok (.aload_n 0, 1) := by decide +kernel
theorem dX6_fault_1 : decode cX6_fault 1 = .ok (.getfield 76, 3) := by decide +kernel
theorem dX6_fault_4 : decode cX6_fault 4 = .ok (.ireturn, 1) := by decide +kernel
theorem dX6_amiss_0 : decode cX6_amiss 0 = .ok (.aload_n 0, 1) := by decide +kernel
theorem dX6_amiss_1 : decode cX6_amiss 1 = .ok (.invokevirtual 90, 3) := by decide +kernel
theorem dX6_amiss_4 : decode cX6_amiss 4 = .ok (.iload_n 1, 1) := by decide +kernel
theorem dX6_amiss_5 : decode cX6_amiss 5 = .ok (.tableswitch 42 0 2 #[27, 32, 37], 27) := by decide +kernel
theorem dX6_amiss_32 : decode cX6_amiss 32 = .ok (.aload_n 0, 1) := by decide +kernel
theorem dX6_amiss_33 : decode cX6_amiss 33 = .ok (.getfield 93, 3) := by decide +kernel
theorem dX6_amiss_36 : decode cX6_amiss 36 = .ok (.ireturn, 1) := by decide +kernel
theorem dX6_amiss_37 : decode cX6_amiss 37 = .ok (.aload_n 0, 1) := by decide +kernel
theorem dX6_amiss_38 : decode cX6_amiss 38 = .ok (.getfield 96, 3) := by decide +kernel
theorem dX6_amiss_41 : decode cX6_amiss 41 = .ok (.ireturn, 1) := by decide +kernel
theorem dX6_amiss_42 : decode cX6_amiss 42 = .ok (.aload_n 0, 1) := by decide +kernel
theorem dX6_amiss_43 : decode cX6_amiss 43 = .ok (.getfield 99, 3) := by decide +kernel
theorem dX6_amiss_46 : decode cX6_amiss 46 = .ok (.ireturn, 1) := by decide +kernel
theorem dX6_amiss_47 : decode cX6_amiss 47 = .ok (.new 102, 3) := by decide +kernel
theorem dX6_amiss_50 : decode cX6_amiss 50 = .ok (.dup, 1) := by decide +kernel
theorem dX6_amiss_51 : decode cX6_amiss 51 = .ok (.ldc 104, 2) := by decide +kernel
theorem dX6_amiss_53 : decode cX6_amiss 53 = .ok (.invokespecial 106, 3) := by decide +kernel
theorem dX6_amiss_56 : decode cX6_amiss 56 = .ok (.athrow, 1) := by decide +kernel
theorem dX6_count_0 : decode cX6_count 0 = .ok (.iload_n 1, 1) := by decide +kernel
theorem dX6_count_1 : decode cX6_count 1 = .ok (.tableswitch 150 0 7 #[47, 69, 88, 110, 118, 126, 134, 142], 47) := by decide +kernel
theorem dX6_count_48 : decode cX6_count 48 = .ok (.aload_n 0, 1) := by decide +kernel
theorem dX6_count_49 : decode cX6_count 49 = .ok (.getfield 82, 3) := by decide +kernel
theorem dX6_count_52 : decode cX6_count 52 = .ok (.ifCond .eq 16, 3) := by decide +kernel
theorem dX6_count_55 : decode cX6_count 55 = .ok (.aload_n 0, 1) := by decide +kernel
theorem dX6_count_56 : decode cX6_count 56 = .ok (.getfield 19, 3) := by decide +kernel
theorem dX6_count_59 : decode cX6_count 59 = .ok (.getfield 107, 3) := by decide +kernel
theorem dX6_count_62 : decode cX6_count 62 = .ok (.getfield 111, 3) := by decide +kernel
theorem dX6_count_65 : decode cX6_count 65 = .ok (.goto 4, 3) := by decide +kernel
theorem dX6_count_68 : decode cX6_count 68 = .ok (.iconst 0, 1) := by decide +kernel
theorem dX6_count_69 : decode cX6_count 69 = .ok (.ireturn, 1) := by decide +kernel
theorem dX6_count_70 : decode cX6_count 70 = .ok (.aload_n 0, 1) := by decide +kernel
theorem dX6_count_71 : decode cX6_count 71 = .ok (.getfield 82, 3) := by decide +kernel
theorem dX6_count_74 : decode cX6_count 74 = .ok (.ifCond .eq 13, 3) := by decide +kernel
theorem dX6_count_77 : decode cX6_count 77 = .ok (.aload_n 0, 1) := by decide +kernel
theorem dX6_count_78 : decode cX6_count 78 = .ok (.getfield 19, 3) := by decide +kernel
theorem dX6_count_81 : decode cX6_count 81 = .ok (.getfield 116, 3) := by decide +kernel
theorem dX6_count_84 : decode cX6_count 84 = .ok (.goto 4, 3) := by decide +kernel
theorem dX6_count_87 : decode cX6_count 87 = .ok (.iconst 0, 1) := by decide +kernel
theorem dX6_count_88 : decode cX6_count 88 = .ok (.ireturn, 1) := by decide +kernel
theorem dX6_count_89 : decode cX6_count 89 = .ok (.aload_n 0, 1) := by decide +kernel
theorem dX6_count_90 : decode cX6_count 90 = .ok (.getfield 82, 3) := by decide +kernel
theorem dX6_count_93 : decode cX6_count 93 = .ok (.ifCond .eq 16, 3) := by decide +kernel
theorem dX6_count_96 : decode cX6_count 96 = .ok (.aload_n 0, 1) := by decide +kernel
theorem dX6_count_97 : decode cX6_count 97 = .ok (.getfield 19, 3) := by decide +kernel
theorem dX6_count_100 : decode cX6_count 100 = .ok (.getfield 119, 3) := by decide +kernel
theorem dX6_count_103 : decode cX6_count 103 = .ok (.getfield 111, 3) := by decide +kernel
theorem dX6_count_106 : decode cX6_count 106 = .ok (.goto 4, 3) := by decide +kernel
theorem dX6_count_109 : decode cX6_count 109 = .ok (.iconst 0, 1) := by decide +kernel
theorem dX6_count_110 : decode cX6_count 110 = .ok (.ireturn, 1) := by decide +kernel
theorem dX6_count_111 : decode cX6_count 111 = .ok (.aload_n 0, 1) := by decide +kernel
theorem dX6_count_112 : decode cX6_count 112 = .ok (.getfield 36, 3) := by decide +kernel
theorem dX6_count_115 : decode cX6_count 115 = .ok (.getfield 122, 3) := by decide +kernel
theorem dX6_count_118 : decode cX6_count 118 = .ok (.ireturn, 1) := by decide +kernel
theorem dX6_count_119 : decode cX6_count 119 = .ok (.aload_n 0, 1) := by decide +kernel
theorem dX6_count_120 : decode cX6_count 120 = .ok (.getfield 36, 3) := by decide +kernel
theorem dX6_count_123 : decode cX6_count 123 = .ok (.getfield 123, 3) := by decide +kernel
theorem dX6_count_126 : decode cX6_count 126 = .ok (.ireturn, 1) := by decide +kernel
theorem dX6_count_127 : decode cX6_count 127 = .ok (.aload_n 0, 1) := by decide +kernel
theorem dX6_count_128 : decode cX6_count 128 = .ok (.getfield 43, 3) := by decide +kernel
theorem dX6_count_131 : decode cX6_count 131 = .ok (.getfield 126, 3) := by decide +kernel
theorem dX6_count_134 : decode cX6_count 134 = .ok (.ireturn, 1) := by decide +kernel
theorem dX6_count_135 : decode cX6_count 135 = .ok (.aload_n 0, 1) := by decide +kernel
theorem dX6_count_136 : decode cX6_count 136 = .ok (.getfield 36, 3) := by decide +kernel
theorem dX6_count_139 : decode cX6_count 139 = .ok (.getfield 127, 3) := by decide +kernel
theorem dX6_count_142 : decode cX6_count 142 = .ok (.ireturn, 1) := by decide +kernel
theorem dX6_count_143 : decode cX6_count 143 = .ok (.aload_n 0, 1) := by decide +kernel
theorem dX6_count_144 : decode cX6_count 144 = .ok (.getfield 12, 3) := by decide +kernel
theorem dX6_count_147 : decode cX6_count 147 = .ok (.getfield 54, 3) := by decide +kernel
theorem dX6_count_150 : decode cX6_count 150 = .ok (.ireturn, 1) := by decide +kernel
theorem dX6_count_151 : decode cX6_count 151 = .ok (.new 102, 3) := by decide +kernel
theorem dX6_count_154 : decode cX6_count 154 = .ok (.dup, 1) := by decide +kernel
theorem dX6_count_155 : decode cX6_count 155 = .ok (.ldc 104, 2) := by decide +kernel
theorem dX6_count_157 : decode cX6_count 157 = .ok (.invokespecial 106, 3) := by decide +kernel
theorem dX6_count_160 : decode cX6_count 160 = .ok (.athrow, 1) := by decide +kernel
theorem dX6_rule_0 : decode cX6_rule 0 = .ok (.aload_n 0, 1) := by decide +kernel
theorem dX6_rule_1 : decode cX6_rule 1 = .ok (.getfield 82, 3) := by decide +kernel
theorem dX6_rule_4 : decode cX6_rule 4 = .ok (.ifCond .eq 18, 3) := by decide +kernel
theorem dX6_rule_7 : decode cX6_rule 7 = .ok (.iload_n 1, 1) := by decide +kernel
theorem dX6_rule_8 : decode cX6_rule 8 = .ok (.ifCond .lt 14, 3) := by decide +kernel
theorem dX6_rule_11 : decode cX6_rule 11 = .ok (.iload_n 1, 1) := by decide +kernel
theorem dX6_rule_12 : decode cX6_rule 12 = .ok (.aload_n 0, 1) := by decide +kernel
theorem dX6_rule_13 : decode cX6_rule 13 = .ok (.getfield 19, 3) := by decide +kernel
theorem dX6_rule_16 : decode cX6_rule 16 = .ok (.getfield 116, 3) := by decide +kernel
theorem dX6_rule_19 : decode cX6_rule 19 = .ok (.if_icmp .lt 13, 3) := by decide +kernel
theorem dX6_rule_22 : decode cX6_rule 22 = .ok (.new 102, 3) := by decide +kernel
theorem dX6_rule_25 : decode cX6_rule 25 = .ok (.dup, 1) := by decide +kernel
theorem dX6_rule_26 : decode cX6_rule 26 = .ok (.ldc 130, 2) := by decide +kernel
theorem dX6_rule_28 : decode cX6_rule 28 = .ok (.invokespecial 106, 3) := by decide +kernel
theorem dX6_rule_31 : decode cX6_rule 31 = .ok (.athrow, 1) := by decide +kernel
theorem dX6_rule_32 : decode cX6_rule 32 = .ok (.iload_n 2, 1) := by decide +kernel
theorem dX6_rule_33 : decode cX6_rule 33 = .ok (.iconst (-1), 1) := by decide +kernel
theorem dX6_rule_34 : decode cX6_rule 34 = .ok (.if_icmp .ne 13, 3) := by decide +kernel
theorem dX6_rule_37 : decode cX6_rule 37 = .ok (.aload_n 0, 1) := by decide +kernel
theorem dX6_rule_38 : decode cX6_rule 38 = .ok (.getfield 19, 3) := by decide +kernel
theorem dX6_rule_41 : decode cX6_rule 41 = .ok (.getfield 132, 3) := by decide +kernel
theorem dX6_rule_44 : decode cX6_rule 44 = .ok (.iload_n 1, 1) := by decide +kernel
theorem dX6_rule_45 : decode cX6_rule 45 = .ok (.iaload, 1) := by decide +kernel
theorem dX6_rule_46 : decode cX6_rule 46 = .ok (.ireturn, 1) := by decide +kernel
theorem dX6_rule_47 : decode cX6_rule 47 = .ok (.iload_n 2, 1) := by decide +kernel
theorem dX6_rule_48 : decode cX6_rule 48 = .ok (.ifCond .lt 17, 3) := by decide +kernel
theorem dX6_rule_51 : decode cX6_rule 51 = .ok (.iload_n 2, 1) := by decide +kernel
theorem dX6_rule_52 : decode cX6_rule 52 = .ok (.aload_n 0, 1) := by decide +kernel
theorem dX6_rule_53 : decode cX6_rule 53 = .ok (.getfield 19, 3) := by decide +kernel
theorem dX6_rule_56 : decode cX6_rule 56 = .ok (.getfield 107, 3) := by decide +kernel
theorem dX6_rule_59 : decode cX6_rule 59 = .ok (.getfield 111, 3) := by decide +kernel
theorem dX6_rule_62 : decode cX6_rule 62 = .ok (.if_icmp .lt 13, 3) := by decide +kernel
theorem dX6_rule_65 : decode cX6_rule 65 = .ok (.new 102, 3) := by decide +kernel
theorem dX6_rule_68 : decode cX6_rule 68 = .ok (.dup, 1) := by decide +kernel
theorem dX6_rule_69 : decode cX6_rule 69 = .ok (.ldc 136, 2) := by decide +kernel
theorem dX6_rule_71 : decode cX6_rule 71 = .ok (.invokespecial 106, 3) := by decide +kernel
theorem dX6_rule_74 : decode cX6_rule 74 = .ok (.athrow, 1) := by decide +kernel
theorem dX6_rule_75 : decode cX6_rule 75 = .ok (.aload_n 0, 1) := by decide +kernel
theorem dX6_rule_76 : decode cX6_rule 76 = .ok (.getfield 19, 3) := by decide +kernel
theorem dX6_rule_79 : decode cX6_rule 79 = .ok (.iload_n 1, 1) := by decide +kernel
theorem dX6_rule_80 : decode cX6_rule 80 = .ok (.iconst 1, 1) := by decide +kernel
theorem dX6_rule_81 : decode cX6_rule 81 = .ok (.iload_n 2, 1) := by decide +kernel
theorem dX6_rule_82 : decode cX6_rule 82 = .ok (.ishl, 1) := by decide +kernel
theorem dX6_rule_83 : decode cX6_rule 83 = .ok (.invokevirtual 138, 3) := by decide +kernel
theorem dX6_rule_86 : decode cX6_rule 86 = .ok (.ireturn, 1) := by decide +kernel
theorem dX6_name_0 : decode cX6_name 0 = .ok (.iload_n 1, 1) := by decide +kernel
theorem dX6_name_1 : decode cX6_name 1 = .ok (.ifCond .eq 13, 3) := by decide +kernel
theorem dX6_name_4 : decode cX6_name 4 = .ok (.aload_n 0, 1) := by decide +kernel
theorem dX6_name_5 : decode cX6_name 5 = .ok (.getfield 19, 3) := by decide +kernel
theorem dX6_name_8 : decode cX6_name 8 = .ok (.getfield 119, 3) := by decide +kernel
theorem dX6_name_11 : decode cX6_name 11 = .ok (.goto 10, 3) := by decide +kernel
theorem dX6_name_14 : decode cX6_name 14 = .ok (.aload_n 0, 1) := by decide +kernel
theorem dX6_name_15 : decode cX6_name 15 = .ok (.getfield 19, 3) := by decide +kernel
theorem dX6_name_18 : decode cX6_name 18 = .ok (.getfield 107, 3) := by decide +kernel
theorem dX6_name_21 : decode cX6_name 21 = .ok (.astore 4, 2) := by decide +kernel
theorem dX6_name_23 : decode cX6_name 23 = .ok (.aload_n 0, 1) := by decide +kernel
theorem dX6_name_24 : decode cX6_name 24 = .ok (.getfield 82, 3) := by decide +kernel
theorem dX6_name_27 : decode cX6_name 27 = .ok (.ifCond .eq 16, 3) := by decide +kernel
theorem dX6_name_30 : decode cX6_name 30 = .ok (.iload_n 2, 1) := by decide +kernel
theorem dX6_name_31 : decode cX6_name 31 = .ok (.ifCond .lt 12, 3) := by decide +kernel
theorem dX6_name_34 : decode cX6_name 34 = .ok (.iload_n 2, 1) := by decide +kernel
theorem dX6_name_35 : decode cX6_name 35 = .ok (.aload 4, 2) := by decide +kernel
theorem dX6_name_37 : decode cX6_name 37 = .ok (.getfield 111, 3) := by decide +kernel
theorem dX6_name_40 : decode cX6_name 40 = .ok (.if_icmp .lt 13, 3) := by decide +kernel
theorem dX6_name_43 : decode cX6_name 43 = .ok (.new 102, 3) := by decide +kernel
theorem dX6_name_46 : decode cX6_name 46 = .ok (.dup, 1) := by decide +kernel
theorem dX6_name_47 : decode cX6_name 47 = .ok (.ldc 142, 2) := by decide +kernel
theorem dX6_name_49 : decode cX6_name 49 = .ok (.invokespecial 106, 3) := by decide +kernel
theorem dX6_name_52 : decode cX6_name 52 = .ok (.athrow, 1) := by decide +kernel
theorem dX6_name_53 : decode cX6_name 53 = .ok (.aload 4, 2) := by decide +kernel
theorem dX6_name_55 : decode cX6_name 55 = .ok (.iload_n 2, 1) := by decide +kernel
theorem dX6_name_56 : decode cX6_name 56 = .ok (.invokevirtual 144, 3) := by decide +kernel
theorem dX6_name_59 : decode cX6_name 59 = .ok (.istore 5, 2) := by decide +kernel
theorem dX6_name_61 : decode cX6_name 61 = .ok (.iload_n 3, 1) := by decide +kernel
theorem dX6_name_62 : decode cX6_name 62 = .ok (.iconst (-1), 1) := by decide +kernel
theorem dX6_name_63 : decode cX6_name 63 = .ok (.if_icmp .ne 6, 3) := by decide +kernel
theorem dX6_name_66 : decode cX6_name 66 = .ok (.iload 5, 2) := by decide +kernel
theorem dX6_name_68 : decode cX6_name 68 = .ok (.ireturn, 1) := by decide +kernel
theorem dX6_name_69 : decode cX6_name 69 = .ok (.iload_n 3, 1) := by decide +kernel
theorem dX6_name_70 : decode cX6_name 70 = .ok (.ifCond .lt 9, 3) := by decide +kernel
theorem dX6_name_73 : decode cX6_name 73 = .ok (.iload_n 3, 1) := by decide +kernel
theorem dX6_name_74 : decode cX6_name 74 = .ok (.iload 5, 2) := by decide +kernel
theorem dX6_name_76 : decode cX6_name 76 = .ok (.if_icmp .lt 13, 3) := by decide +kernel
theorem dX6_name_79 : decode cX6_name 79 = .ok (.new 102, 3) := by decide +kernel
theorem dX6_name_82 : decode cX6_name 82 = .ok (.dup, 1) := by decide +kernel
theorem dX6_name_83 : decode cX6_name 83 = .ok (.ldc 148, 2) := by decide +kernel
theorem dX6_name_85 : decode cX6_name 85 = .ok (.invokespecial 106, 3) := by decide +kernel
theorem dX6_name_88 : decode cX6_name 88 = .ok (.athrow, 1) := by decide +kernel
theorem dX6_name_89 : decode cX6_name 89 = .ok (.aload 4, 2) := by decide +kernel
theorem dX6_name_91 : decode cX6_name 91 = .ok (.iload_n 2, 1) := by decide +kernel
theorem dX6_name_92 : decode cX6_name 92 = .ok (.iload_n 3, 1) := by decide +kernel
theorem dX6_name_93 : decode cX6_name 93 = .ok (.invokevirtual 150, 3) := by decide +kernel
theorem dX6_name_96 : decode cX6_name 96 = .ok (.ireturn, 1) := by decide +kernel
theorem dX6_meets_0 : decode cX6_meets 0 = .ok (.aload_n 0, 1) := by decide +kernel
theorem dX6_meets_1 : decode cX6_meets 1 = .ok (.invokevirtual 90, 3) := by decide +kernel
theorem dX6_meets_4 : decode cX6_meets 4 = .ok (.aload_n 0, 1) := by decide +kernel
theorem dX6_meets_5 : decode cX6_meets 5 = .ok (.iload_n 1, 1) := by decide +kernel
theorem dX6_meets_6 : decode cX6_meets 6 = .ok (.invokevirtual 153, 3) := by decide +kernel
theorem dX6_meets_9 : decode cX6_meets 9 = .ok (.aload_n 0, 1) := by decide +kernel
theorem dX6_meets_10 : decode cX6_meets 10 = .ok (.getfield 19, 3) := by decide +kernel
theorem dX6_meets_13 : decode cX6_meets 13 = .ok (.iload_n 1, 1) := by decide +kernel
theorem dX6_meets_14 : decode cX6_meets 14 = .ok (.invokevirtual 156, 3) := by decide +kernel
theorem dX6_meets_17 : decode cX6_meets 17 = .ok (.ireturn, 1) := by decide +kernel
theorem dX6_cases_0 : decode cX6_cases 0 = .ok (.aload_n 0, 1) := by decide +kernel
theorem dX6_cases_1 : decode cX6_cases 1 = .ok (.invokevirtual 90, 3) := by decide +kernel
theorem dX6_cases_4 : decode cX6_cases 4 = .ok (.iload_n 1, 1) := by decide +kernel
theorem dX6_cases_5 : decode cX6_cases 5 = .ok (.iconst (-1), 1) := by decide +kernel
theorem dX6_cases_6 : decode cX6_cases 6 = .ok (.if_icmp .lt 17, 3) := by decide +kernel
theorem dX6_cases_9 : decode cX6_cases 9 = .ok (.iload_n 1, 1) := by decide +kernel
theorem dX6_cases_10 : decode cX6_cases 10 = .ok (.aload_n 0, 1) := by decide +kernel
theorem dX6_cases_11 : decode cX6_cases 11 = .ok (.getfield 19, 3) := by decide +kernel
theorem dX6_cases_14 : decode cX6_cases 14 = .ok (.getfield 119, 3) := by decide +kernel
theorem dX6_cases_17 : decode cX6_cases 17 = .ok (.getfield 111, 3) := by decide +kernel
theorem dX6_cases_20 : decode cX6_cases 20 = .ok (.if_icmp .lt 13, 3) := by decide +kernel
theorem dX6_cases_23 : decode cX6_cases 23 = .ok (.new 102, 3) := by decide +kernel
theorem dX6_cases_26 : decode cX6_cases 26 = .ok (.dup, 1) := by decide +kernel
theorem dX6_cases_27 : decode cX6_cases 27 = .ok (.ldc 159, 2) := by decide +kernel
theorem dX6_cases_29 : decode cX6_cases 29 = .ok (.invokespecial 106, 3) := by decide +kernel
theorem dX6_cases_32 : decode cX6_cases 32 = .ok (.athrow, 1) := by decide +kernel
theorem dX6_cases_33 : decode cX6_cases 33 = .ok (.aload_n 0, 1) := by decide +kernel
theorem dX6_cases_34 : decode cX6_cases 34 = .ok (.getfield 29, 3) := by decide +kernel
theorem dX6_cases_37 : decode cX6_cases 37 = .ok (.aload_n 0, 1) := by decide +kernel
theorem dX6_cases_38 : decode cX6_cases 38 = .ok (.getfield 19, 3) := by decide +kernel
theorem dX6_cases_41 : decode cX6_cases 41 = .ok (.iload_n 1, 1) := by decide +kernel
theorem dX6_cases_42 : decode cX6_cases 42 = .ok (.invokevirtual 161, 3) := by decide +kernel
theorem dX6_cases_45 : decode cX6_cases 45 = .ok (.aload_n 0, 1) := by decide +kernel
theorem dX6_cases_46 : decode cX6_cases 46 = .ok (.getfield 29, 3) := by decide +kernel
theorem dX6_cases_49 : decode cX6_cases 49 = .ok (.invokevirtual 165, 3) := by decide +kernel
theorem dX6_cases_52 : decode cX6_cases 52 = .ok (.istore_n 2, 1) := by decide +kernel
theorem dX6_cases_53 : decode cX6_cases 53 = .ok (.iload_n 1, 1) := by decide +kernel
theorem dX6_cases_54 : decode cX6_cases 54 = .ok (.iconst (-1), 1) := by decide +kernel
theorem dX6_cases_55 : decode cX6_cases 55 = .ok (.if_icmp .ne 15, 3) := by decide +kernel
theorem dX6_cases_58 : decode cX6_cases 58 = .ok (.aload_n 0, 1) := by decide +kernel
theorem dX6_cases_59 : decode cX6_cases 59 = .ok (.getfield 19, 3) := by decide +kernel
theorem dX6_cases_62 : decode cX6_cases 62 = .ok (.invokevirtual 168, 3) := by decide +kernel
theorem dX6_cases_65 : decode cX6_cases 65 = .ok (.iload_n 2, 1) := by decide +kernel
theorem dX6_cases_66 : decode cX6_cases 66 = .ok (.isub, 1) := by decide +kernel
theorem dX6_cases_67 : decode cX6_cases 67 = .ok (.goto 4, 3) := by decide +kernel
theorem dX6_cases_70 : decode cX6_cases 70 = .ok (.iload_n 2, 1) := by decide +kernel
theorem dX6_cases_71 : decode cX6_cases 71 = .ok (.ireturn, 1) := by decide +kernel
theorem dX6_node_0 : decode cX6_node 0 = .ok (.aload_n 0, 1) := by decide +kernel
theorem dX6_node_1 : decode cX6_node 1 = .ok (.invokevirtual 171, 3) := by decide +kernel
theorem dX6_node_4 : decode cX6_node 4 = .ok (.iload_n 1, 1) := by decide +kernel
theorem dX6_node_5 : decode cX6_node 5 = .ok (.ifCond .lt 14, 3) := by decide +kernel
theorem dX6_node_8 : decode cX6_node 8 = .ok (.iload_n 1, 1) := by decide +kernel
theorem dX6_node_9 : decode cX6_node 9 = .ok (.aload_n 0, 1) := by decide +kernel
theorem dX6_node_10 : decode cX6_node 10 = .ok (.getfield 36, 3) := by decide +kernel
theorem dX6_node_13 : decode cX6_node 13 = .ok (.getfield 122, 3) := by decide +kernel
theorem dX6_node_16 : decode cX6_node 16 = .ok (.if_icmp .lt 13, 3) := by decide +kernel
theorem dX6_node_19 : decode cX6_node 19 = .ok (.new 102, 3) := by decide +kernel
theorem dX6_node_22 : decode cX6_node 22 = .ok (.dup, 1) := by decide +kernel
theorem dX6_node_23 : decode cX6_node 23 = .ok (.ldc 174, 2) := by decide +kernel
theorem dX6_node_25 : decode cX6_node 25 = .ok (.invokespecial 106, 3) := by decide +kernel
theorem dX6_node_28 : decode cX6_node 28 = .ok (.athrow, 1) := by decide +kernel
theorem dX6_node_29 : decode cX6_node 29 = .ok (.iload_n 2, 1) := by decide +kernel
theorem dX6_node_30 : decode cX6_node 30 = .ok (.tableswitch 113 0 3 #[30, 55, 74, 84], 30) := by decide +kernel
theorem dX6_node_60 : decode cX6_node 60 = .ok (.aload_n 0, 1) := by decide +kernel
theorem dX6_node_61 : decode cX6_node 61 = .ok (.getfield 36, 3) := by decide +kernel
theorem dX6_node_64 : decode cX6_node 64 = .ok (.iload_n 1, 1) := by decide +kernel
theorem dX6_node_65 : decode cX6_node 65 = .ok (.invokevirtual 176, 3) := by decide +kernel
theorem dX6_node_68 : decode cX6_node 68 = .ok (.ifCond .eq 7, 3) := by decide +kernel
theorem dX6_node_71 : decode cX6_node 71 = .ok (.iconst (-1), 1) := by decide +kernel
theorem dX6_node_72 : decode cX6_node 72 = .ok (.goto 12, 3) := by decide +kernel
theorem dX6_node_75 : decode cX6_node 75 = .ok (.aload_n 0, 1) := by decide +kernel
theorem dX6_node_76 : decode cX6_node 76 = .ok (.getfield 36, 3) := by decide +kernel
theorem dX6_node_79 : decode cX6_node 79 = .ok (.getfield 180, 3) := by decide +kernel
theorem dX6_node_82 : decode cX6_node 82 = .ok (.iload_n 1, 1) := by decide +kernel
theorem dX6_node_83 : decode cX6_node 83 = .ok (.iaload, 1) := by decide +kernel
theorem dX6_node_84 : decode cX6_node 84 = .ok (.ireturn, 1) := by decide +kernel
theorem dX6_node_85 : decode cX6_node 85 = .ok (.aload_n 0, 1) := by decide +kernel
theorem dX6_node_86 : decode cX6_node 86 = .ok (.getfield 36, 3) := by decide +kernel
theorem dX6_node_89 : decode cX6_node 89 = .ok (.iload_n 1, 1) := by decide +kernel
theorem dX6_node_90 : decode cX6_node 90 = .ok (.invokevirtual 176, 3) := by decide +kernel
theorem dX6_node_93 : decode cX6_node 93 = .ok (.ifCond .eq 7, 3) := by decide +kernel
theorem dX6_node_96 : decode cX6_node 96 = .ok (.iconst (-1), 1) := by decide +kernel
theorem dX6_node_97 : decode cX6_node 97 = .ok (.goto 6, 3) := by decide +kernel
theorem dX6_node_100 : decode cX6_node 100 = .ok (.iload_n 1, 1) := by decide +kernel
theorem dX6_node_101 : decode cX6_node 101 = .ok (.iconst 1, 1) := by decide +kernel
theorem dX6_node_102 : decode cX6_node 102 = .ok (.iadd, 1) := by decide +kernel
theorem dX6_node_103 : decode cX6_node 103 = .ok (.ireturn, 1) := by decide +kernel
theorem dX6_node_104 : decode cX6_node 104 = .ok (.aload_n 0, 1) := by decide +kernel
theorem dX6_node_105 : decode cX6_node 105 = .ok (.getfield 36, 3) := by decide +kernel
theorem dX6_node_108 : decode cX6_node 108 = .ok (.getfield 183, 3) := by decide +kernel
theorem dX6_node_111 : decode cX6_node 111 = .ok (.iload_n 1, 1) := by decide +kernel
theorem dX6_node_112 : decode cX6_node 112 = .ok (.iaload, 1) := by decide +kernel
theorem dX6_node_113 : decode cX6_node 113 = .ok (.ireturn, 1) := by decide +kernel
theorem dX6_node_114 : decode cX6_node 114 = .ok (.aload_n 0, 1) := by decide +kernel
theorem dX6_node_115 : decode cX6_node 115 = .ok (.getfield 36, 3) := by decide +kernel
theorem dX6_node_118 : decode cX6_node 118 = .ok (.iload_n 1, 1) := by decide +kernel
theorem dX6_node_119 : decode cX6_node 119 = .ok (.invokevirtual 176, 3) := by decide +kernel
theorem dX6_node_122 : decode cX6_node 122 = .ok (.ifCond .eq 19, 3) := by decide +kernel
theorem dX6_node_125 : decode cX6_node 125 = .ok (.aload_n 0, 1) := by decide +kernel
theorem dX6_node_126 : decode cX6_node 126 = .ok (.getfield 36, 3) := by decide +kernel
theorem dX6_node_129 : decode cX6_node 129 = .ok (.getfield 180, 3) := by decide +kernel
theorem dX6_node_132 : decode cX6_node 132 = .ok (.iload_n 1, 1) := by decide +kernel
theorem dX6_node_133 : decode cX6_node 133 = .ok (.iaload, 1) := by decide +kernel
theorem dX6_node_134 : decode cX6_node 134 = .ok (.sipush 128, 3) := by decide +kernel
theorem dX6_node_137 : decode cX6_node 137 = .ok (.isub, 1) := by decide +kernel
theorem dX6_node_138 : decode cX6_node 138 = .ok (.goto 4, 3) := by decide +kernel
theorem dX6_node_141 : decode cX6_node 141 = .ok (.iconst (-1), 1) := by decide +kernel
theorem dX6_node_142 : decode cX6_node 142 = .ok (.ireturn, 1) := by decide +kernel
theorem dX6_node_143 : decode cX6_node 143 = .ok (.new 102, 3) := by decide +kernel
theorem dX6_node_146 : decode cX6_node 146 = .ok (.dup, 1) := by decide +kernel
theorem dX6_node_147 : decode cX6_node 147 = .ok (.ldc 104, 2) := by decide +kernel
theorem dX6_node_149 : decode cX6_node 149 = .ok (.invokespecial 106, 3) := by decide +kernel
theorem dX6_node_152 : decode cX6_node 152 = .ok (.athrow, 1) := by decide +kernel
theorem dX6_code_0 : decode cX6_code 0 = .ok (.aload_n 0, 1) := by decide +kernel
theorem dX6_code_1 : decode cX6_code 1 = .ok (.invokevirtual 171, 3) := by decide +kernel
theorem dX6_code_4 : decode cX6_code 4 = .ok (.iload_n 1, 1) := by decide +kernel
theorem dX6_code_5 : decode cX6_code 5 = .ok (.ifCond .lt 14, 3) := by decide +kernel
theorem dX6_code_8 : decode cX6_code 8 = .ok (.iload_n 1, 1) := by decide +kernel
theorem dX6_code_9 : decode cX6_code 9 = .ok (.aload_n 0, 1) := by decide +kernel
theorem dX6_code_10 : decode cX6_code 10 = .ok (.getfield 43, 3) := by decide +kernel
theorem dX6_code_13 : decode cX6_code 13 = .ok (.getfield 126, 3) := by decide +kernel
theorem dX6_code_16 : decode cX6_code 16 = .ok (.if_icmp .lt 13, 3) := by decide +kernel
theorem dX6_code_19 : decode cX6_code 19 = .ok (.new 102, 3) := by decide +kernel
theorem dX6_code_22 : decode cX6_code 22 = .ok (.dup, 1) := by decide +kernel
theorem dX6_code_23 : decode cX6_code 23 = .ok (.ldc 186, 2) := by decide +kernel
theorem dX6_code_25 : decode cX6_code 25 = .ok (.invokespecial 106, 3) := by decide +kernel
theorem dX6_code_28 : decode cX6_code 28 = .ok (.athrow, 1) := by decide +kernel
theorem dX6_code_29 : decode cX6_code 29 = .ok (.aload_n 0, 1) := by decide +kernel
theorem dX6_code_30 : decode cX6_code 30 = .ok (.getfield 43, 3) := by decide +kernel
theorem dX6_code_33 : decode cX6_code 33 = .ok (.getfield 188, 3) := by decide +kernel
theorem dX6_code_36 : decode cX6_code 36 = .ok (.iload_n 1, 1) := by decide +kernel
theorem dX6_code_37 : decode cX6_code 37 = .ok (.iaload, 1) := by decide +kernel
theorem dX6_code_38 : decode cX6_code 38 = .ok (.ireturn, 1) := by decide +kernel
theorem dX6_run_0 : decode cX6_run 0 = .ok (.aload_n 0, 1) := by decide +kernel
theorem dX6_run_1 : decode cX6_run 1 = .ok (.invokevirtual 171, 3) := by decide +kernel
theorem dX6_run_4 : decode cX6_run 4 = .ok (.aload_n 0, 1) := by decide +kernel
theorem dX6_run_5 : decode cX6_run 5 = .ok (.iload_n 1, 1) := by decide +kernel
theorem dX6_run_6 : decode cX6_run 6 = .ok (.invokevirtual 153, 3) := by decide +kernel
theorem dX6_run_9 : decode cX6_run 9 = .ok (.aload_n 0, 1) := by decide +kernel
theorem dX6_run_10 : decode cX6_run 10 = .ok (.getfield 43, 3) := by decide +kernel
theorem dX6_run_13 : decode cX6_run 13 = .ok (.iload_n 1, 1) := by decide +kernel
theorem dX6_run_14 : decode cX6_run 14 = .ok (.iload_n 2, 1) := by decide +kernel
theorem dX6_run_15 : decode cX6_run 15 = .ok (.invokevirtual 191, 3) := by decide +kernel
theorem dX6_run_18 : decode cX6_run 18 = .ok (.ireturn, 1) := by decide +kernel
theorem dX6_tests_0 : decode cX6_tests 0 = .ok (.aload_n 0, 1) := by decide +kernel
theorem dX6_tests_1 : decode cX6_tests 1 = .ok (.invokevirtual 171, 3) := by decide +kernel
theorem dX6_tests_4 : decode cX6_tests 4 = .ok (.aload_n 0, 1) := by decide +kernel
theorem dX6_tests_5 : decode cX6_tests 5 = .ok (.getfield 36, 3) := by decide +kernel
theorem dX6_tests_8 : decode cX6_tests 8 = .ok (.getfield 195, 3) := by decide +kernel
theorem dX6_tests_11 : decode cX6_tests 11 = .ok (.lreturn, 1) := by decide +kernel
theorem dX6_needTable_0 : decode cX6_needTable 0 = .ok (.aload_n 0, 1) := by decide +kernel
theorem dX6_needTable_1 : decode cX6_needTable 1 = .ok (.getfield 82, 3) := by decide +kernel
theorem dX6_needTable_4 : decode cX6_needTable 4 = .ok (.ifCond .ne 13, 3) := by decide +kernel
theorem dX6_needTable_7 : decode cX6_needTable 7 = .ok (.new 199, 3) := by decide +kernel
theorem dX6_needTable_10 : decode cX6_needTable 10 = .ok (.dup, 1) := by decide +kernel
theorem dX6_needTable_11 : decode cX6_needTable 11 = .ok (.ldc 201, 2) := by decide +kernel
theorem dX6_needTable_13 : decode cX6_needTable 13 = .ok (.invokespecial 203, 3) := by decide +kernel
theorem dX6_needTable_16 : decode cX6_needTable 16 = .ok (.athrow, 1) := by decide +kernel
theorem dX6_needTable_17 : decode cX6_needTable 17 = .ok (.return_, 1) := by decide +kernel
theorem dX6_needTree_0 : decode cX6_needTree 0 = .ok (.aload_n 0, 1) := by decide +kernel
theorem dX6_needTree_1 : decode cX6_needTree 1 = .ok (.getfield 36, 3) := by decide +kernel
theorem dX6_needTree_4 : decode cX6_needTree 4 = .ok (.getfield 122, 3) := by decide +kernel
theorem dX6_needTree_7 : decode cX6_needTree 7 = .ok (.ifCond .ne 13, 3) := by decide +kernel
theorem dX6_needTree_10 : decode cX6_needTree 10 = .ok (.new 199, 3) := by decide +kernel
theorem dX6_needTree_13 : decode cX6_needTree 13 = .ok (.dup, 1) := by decide +kernel
theorem dX6_needTree_14 : decode cX6_needTree 14 = .ok (.ldc 204, 2) := by decide +kernel
theorem dX6_needTree_16 : decode cX6_needTree 16 = .ok (.invokespecial 203, 3) := by decide +kernel
theorem dX6_needTree_19 : decode cX6_needTree 19 = .ok (.athrow, 1) := by decide +kernel
theorem dX6_needTree_20 : decode cX6_needTree 20 = .ok (.return_, 1) := by decide +kernel
theorem dX6_needCase_0 : decode cX6_needCase 0 = .ok (.iload_n 1, 1) := by decide +kernel
theorem dX6_needCase_1 : decode cX6_needCase 1 = .ok (.ifCond .lt 14, 3) := by decide +kernel
theorem dX6_needCase_4 : decode cX6_needCase 4 = .ok (.iload_n 1, 1) := by decide +kernel
theorem dX6_needCase_5 : decode cX6_needCase 5 = .ok (.aload_n 0, 1) := by decide +kernel
theorem dX6_needCase_6 : decode cX6_needCase 6 = .ok (.getfield 19, 3) := by decide +kernel
theorem dX6_needCase_9 : decode cX6_needCase 9 = .ok (.invokevirtual 168, 3) := by decide +kernel
theorem dX6_needCase_12 : decode cX6_needCase 12 = .ok (.if_icmp .lt 13, 3) := by decide +kernel
theorem dX6_needCase_15 : decode cX6_needCase 15 = .ok (.new 102, 3) := by decide +kernel
theorem dX6_needCase_18 : decode cX6_needCase 18 = .ok (.dup, 1) := by decide +kernel
theorem dX6_needCase_19 : decode cX6_needCase 19 = .ok (.ldc 206, 2) := by decide +kernel
theorem dX6_needCase_21 : decode cX6_needCase 21 = .ok (.invokespecial 106, 3) := by decide +kernel
theorem dX6_needCase_24 : decode cX6_needCase 24 = .ok (.athrow, 1) := by decide +kernel
theorem dX6_needCase_25 : decode cX6_needCase 25 = .ok (.return_, 1) := by decide +kernel
theorem dX6_judge_0 : decode cX6_judge 0 = .ok (.aload_n 0, 1) := by decide +kernel
theorem dX6_judge_1 : decode cX6_judge 1 = .ok (.getfield 36, 3) := by decide +kernel
theorem dX6_judge_4 : decode cX6_judge 4 = .ok (.invokevirtual 208, 3) := by decide +kernel
theorem dX6_judge_7 : decode cX6_judge 7 = .ok (.aload_n 0, 1) := by decide +kernel
theorem dX6_judge_8 : decode cX6_judge 8 = .ok (.invokevirtual 211, 3) := by decide +kernel
theorem dX6_judge_11 : decode cX6_judge 11 = .ok (.istore_n 1, 1) := by decide +kernel
theorem dX6_judge_12 : decode cX6_judge 12 = .ok (.iload_n 1, 1) := by decide +kernel
theorem dX6_judge_13 : decode cX6_judge 13 = .ok (.ifCond .ne 30, 3) := by decide +kernel
theorem dX6_judge_16 : decode cX6_judge 16 = .ok (.aload_n 0, 1) := by decide +kernel
theorem dX6_judge_17 : decode cX6_judge 17 = .ok (.getfield 36, 3) := by decide +kernel
theorem dX6_judge_20 : decode cX6_judge 20 = .ok (.aload_n 0, 1) := by decide +kernel
theorem dX6_judge_21 : decode cX6_judge 21 = .ok (.getfield 29, 3) := by decide +kernel
theorem dX6_judge_24 : decode cX6_judge 24 = .ok (.invokevirtual 214, 3) := by decide +kernel
theorem dX6_judge_27 : decode cX6_judge 27 = .ok (.aload_n 0, 1) := by decide +kernel
theorem dX6_judge_28 : decode cX6_judge 28 = .ok (.getfield 36, 3) := by decide +kernel
theorem dX6_judge_31 : decode cX6_judge 31 = .ok (.getfield 122, 3) := by decide +kernel
theorem dX6_judge_34 : decode cX6_judge 34 = .ok (.ifCond .ne 7, 3) := by decide +kernel
theorem dX6_judge_37 : decode cX6_judge 37 = .ok (.iconst 3, 1) := by decide +kernel
theorem dX6_judge_38 : decode cX6_judge 38 = .ok (.goto 4, 3) := by decide +kernel
theorem dX6_judge_41 : decode cX6_judge 41 = .ok (.iconst 0, 1) := by decide +kernel
theorem dX6_judge_42 : decode cX6_judge 42 = .ok (.istore_n 1, 1) := by decide +kernel
theorem dX6_judge_43 : decode cX6_judge 43 = .ok (.aload_n 0, 1) := by decide +kernel
theorem dX6_judge_44 : decode cX6_judge 44 = .ok (.getfield 43, 3) := by decide +kernel
theorem dX6_judge_47 : decode cX6_judge 47 = .ok (.aload_n 0, 1) := by decide +kernel
theorem dX6_judge_48 : decode cX6_judge 48 = .ok (.getfield 36, 3) := by decide +kernel
theorem dX6_judge_51 : decode cX6_judge 51 = .ok (.invokevirtual 218, 3) := by decide +kernel
theorem dX6_judge_54 : decode cX6_judge 54 = .ok (.iload_n 1, 1) := by decide +kernel
theorem dX6_judge_55 : decode cX6_judge 55 = .ok (.ireturn, 1) := by decide +kernel
theorem dX6_findAmiss_0 : decode cX6_findAmiss 0 = .ok (.aload_n 0, 1) := by decide +kernel
theorem dX6_findAmiss_1 : decode cX6_findAmiss 1 = .ok (.iconst (-1), 1) := by decide +kernel
theorem dX6_findAmiss_2 : decode cX6_findAmiss 2 = .ok (.putfield 93, 3) := by decide +kernel
theorem dX6_findAmiss_5 : decode cX6_findAmiss 5 = .ok (.aload_n 0, 1) := by decide +kernel
theorem dX6_findAmiss_6 : decode cX6_findAmiss 6 = .ok (.iconst (-1), 1) := by decide +kernel
theorem dX6_findAmiss_7 : decode cX6_findAmiss 7 = .ok (.putfield 96, 3) := by decide +kernel
theorem dX6_findAmiss_10 : decode cX6_findAmiss 10 = .ok (.aload_n 0, 1) := by decide +kernel
theorem dX6_findAmiss_11 : decode cX6_findAmiss 11 = .ok (.invokevirtual 222, 3) := by decide +kernel
theorem dX6_findAmiss_14 : decode cX6_findAmiss 14 = .ok (.ifCond .eq 5, 3) := by decide +kernel
theorem dX6_findAmiss_17 : decode cX6_findAmiss 17 = .ok (.iconst 1, 1) := by decide +kernel
theorem dX6_findAmiss_18 : decode cX6_findAmiss 18 = .ok (.ireturn, 1) := by decide +kernel
theorem dX6_findAmiss_19 : decode cX6_findAmiss 19 = .ok (.aload_n 0, 1) := by decide +kernel
theorem dX6_findAmiss_20 : decode cX6_findAmiss 20 = .ok (.getfield 29, 3) := by decide +kernel
theorem dX6_findAmiss_23 : decode cX6_findAmiss 23 = .ok (.aload_n 0, 1) := by decide +kernel
theorem dX6_findAmiss_24 : decode cX6_findAmiss 24 = .ok (.getfield 19, 3) := by decide +kernel
theorem dX6_findAmiss_27 : decode cX6_findAmiss 27 = .ok (.iconst (-1), 1) := by decide +kernel
theorem dX6_findAmiss_28 : decode cX6_findAmiss 28 = .ok (.invokevirtual 161, 3) := by decide +kernel
theorem dX6_findAmiss_31 : decode cX6_findAmiss 31 = .ok (.aload_n 0, 1) := by decide +kernel
theorem dX6_findAmiss_32 : decode cX6_findAmiss 32 = .ok (.aload_n 0, 1) := by decide +kernel
theorem dX6_findAmiss_33 : decode cX6_findAmiss 33 = .ok (.getfield 29, 3) := by decide +kernel
theorem dX6_findAmiss_36 : decode cX6_findAmiss 36 = .ok (.invokevirtual 226, 3) := by decide +kernel
theorem dX6_findAmiss_39 : decode cX6_findAmiss 39 = .ok (.putfield 99, 3) := by decide +kernel
theorem dX6_findAmiss_42 : decode cX6_findAmiss 42 = .ok (.aload_n 0, 1) := by decide +kernel
theorem dX6_findAmiss_43 : decode cX6_findAmiss 43 = .ok (.getfield 99, 3) := by decide +kernel
theorem dX6_findAmiss_46 : decode cX6_findAmiss 46 = .ok (.iconst (-1), 1) := by decide +kernel
theorem dX6_findAmiss_47 : decode cX6_findAmiss 47 = .ok (.if_icmp .ne 7, 3) := by decide +kernel
theorem dX6_findAmiss_50 : decode cX6_findAmiss 50 = .ok (.iconst 0, 1) := by decide +kernel
theorem dX6_findAmiss_51 : decode cX6_findAmiss 51 = .ok (.goto 4, 3) := by decide +kernel
theorem dX6_findAmiss_54 : decode cX6_findAmiss 54 = .ok (.iconst 2, 1) := by decide +kernel
theorem dX6_findAmiss_55 : decode cX6_findAmiss 55 = .ok (.ireturn, 1) := by decide +kernel
theorem dX6_findContradiction_0 : decode cX6_findContradiction 0 = .ok (.iconst 0, 1) := by decide +kernel
theorem dX6_findContradiction_1 : decode cX6_findContradiction 1 = .ok (.istore_n 1, 1) := by decide +kernel
theorem dX6_findContradiction_2 : decode cX6_findContradiction 2 = .ok (.iload_n 1, 1) := by decide +kernel
theorem dX6_findContradiction_3 : decode cX6_findContradiction 3 = .ok (.aload_n 0, 1) := by decide +kernel
theorem dX6_findContradiction_4 : decode cX6_findContradiction 4 = .ok (.getfield 19, 3) := by decide +kernel
theorem dX6_findContradiction_7 : decode cX6_findContradiction 7 = .ok (.getfield 116, 3) := by decide +kernel
theorem dX6_findContradiction_10 : decode cX6_findContradiction 10 = .ok (.if_icmp .ge 77, 3) := by decide +kernel
theorem dX6_findContradiction_13 : decode cX6_findContradiction 13 = .ok (.iload_n 1, 1) := by decide +kernel
theorem dX6_findContradiction_14 : decode cX6_findContradiction 14 = .ok (.iconst 1, 1) := by decide +kernel
theorem dX6_findContradiction_15 : decode cX6_findContradiction 15 = .ok (.iadd, 1) := by decide +kernel
theorem dX6_findContradiction_16 : decode cX6_findContradiction 16 = .ok (.istore_n 2, 1) := by decide +kernel
theorem dX6_findContradiction_17 : decode cX6_findContradiction 17 = .ok (.iload_n 2, 1) := by decide +kernel
theorem dX6_findContradiction_18 : decode cX6_findContradiction 18 = .ok (.aload_n 0, 1) := by decide +kernel
theorem dX6_findContradiction_19 : decode cX6_findContradiction 19 = .ok (.getfield 19, 3) := by decide +kernel
theorem dX6_findContradiction_22 : decode cX6_findContradiction 22 = .ok (.getfield 116, 3) := by decide +kernel
theorem dX6_findContradiction_25 : decode cX6_findContradiction 25 = .ok (.if_icmp .ge 56, 3) := by decide +kernel
theorem dX6_findContradiction_28 : decode cX6_findContradiction 28 = .ok (.aload_n 0, 1) := by decide +kernel
theorem dX6_findContradiction_29 : decode cX6_findContradiction 29 = .ok (.getfield 19, 3) := by decide +kernel
theorem dX6_findContradiction_32 : decode cX6_findContradiction 32 = .ok (.iload_n 1, 1) := by decide +kernel
theorem dX6_findContradiction_33 : decode cX6_findContradiction 33 = .ok (.iload_n 2, 1) := by decide +kernel
theorem dX6_findContradiction_34 : decode cX6_findContradiction 34 = .ok (.invokevirtual 229, 3) := by decide +kernel
theorem dX6_findContradiction_37 : decode cX6_findContradiction 37 = .ok (.ifCond .eq 38, 3) := by decide +kernel
theorem dX6_findContradiction_40 : decode cX6_findContradiction 40 = .ok (.aload_n 0, 1) := by decide +kernel
theorem dX6_findContradiction_41 : decode cX6_findContradiction 41 = .ok (.iload_n 1, 1) := by decide +kernel
theorem dX6_findContradiction_42 : decode cX6_findContradiction 42 = .ok (.putfield 93, 3) := by decide +kernel
theorem dX6_findContradiction_45 : decode cX6_findContradiction 45 = .ok (.aload_n 0, 1) := by decide +kernel
theorem dX6_findContradiction_46 : decode cX6_findContradiction 46 = .ok (.iload_n 2, 1) := by decide +kernel
theorem dX6_findContradiction_47 : decode cX6_findContradiction 47 = .ok (.putfield 96, 3) := by decide +kernel
theorem dX6_findContradiction_50 : decode cX6_findContradiction 50 = .ok (.aload_n 0, 1) := by decide +kernel
theorem dX6_findContradiction_51 : decode cX6_findContradiction 51 = .ok (.aload_n 0, 1) := by decide +kernel
theorem dX6_findContradiction_52 : decode cX6_findContradiction 52 = .ok (.getfield 19, 3) := by decide +kernel
theorem dX6_findContradiction_55 : decode cX6_findContradiction 55 = .ok (.getfield 233, 3) := by decide +kernel
theorem dX6_findContradiction_58 : decode cX6_findContradiction 58 = .ok (.iload_n 1, 1) := by decide +kernel
theorem dX6_findContradiction_59 : decode cX6_findContradiction 59 = .ok (.iaload, 1) := by decide +kernel
theorem dX6_findContradiction_60 : decode cX6_findContradiction 60 = .ok (.aload_n 0, 1) := by decide +kernel
theorem dX6_findContradiction_61 : decode cX6_findContradiction 61 = .ok (.getfield 19, 3) := by decide +kernel
theorem dX6_findContradiction_64 : decode cX6_findContradiction 64 = .ok (.getfield 233, 3) := by decide +kernel
theorem dX6_findContradiction_67 : decode cX6_findContradiction 67 = .ok (.iload_n 2, 1) := by decide +kernel
theorem dX6_findContradiction_68 : decode cX6_findContradiction 68 = .ok (.iaload, 1) := by decide +kernel
theorem dX6_findContradiction_69 : decode cX6_findContradiction 69 = .ok (.ior, 1) := by decide +kernel
theorem dX6_findContradiction_70 : decode cX6_findContradiction 70 = .ok (.putfield 99, 3) := by decide +kernel
theorem dX6_findContradiction_73 : decode cX6_findContradiction 73 = .ok (.iconst 1, 1) := by decide +kernel
theorem dX6_findContradiction_74 : decode cX6_findContradiction 74 = .ok (.ireturn, 1) := by decide +kernel
theorem dX6_findContradiction_75 : decode cX6_findContradiction 75 = .ok (.iinc 2 1, 3) := by decide +kernel
theorem dX6_findContradiction_78 : decode cX6_findContradiction 78 = .ok (.goto (-61), 3) := by decide +kernel
theorem dX6_findContradiction_81 : decode cX6_findContradiction 81 = .ok (.iinc 1 1, 3) := by decide +kernel
theorem dX6_findContradiction_84 : decode cX6_findContradiction 84 = .ok (.goto (-82), 3) := by decide +kernel
theorem dX6_findContradiction_87 : decode cX6_findContradiction 87 = .ok (.iconst 0, 1) := by decide +kernel
theorem dX6_findContradiction_88 : decode cX6_findContradiction 88 = .ok (.ireturn, 1) := by decide +kernel
theorem dJ6_bitCount_0f7a4_0 : decode cJ6_bitCount_0f7a4 0 = .ok (.iload_n 0, 1) := by decide +kernel
theorem dJ6_bitCount_0f7a4_1 : decode cJ6_bitCount_0f7a4 1 = .ok (.iload_n 0, 1) := by decide +kernel
theorem dJ6_bitCount_0f7a4_2 : decode cJ6_bitCount_0f7a4 2 = .ok (.iconst 1, 1) := by decide +kernel
theorem dJ6_bitCount_0f7a4_3 : decode cJ6_bitCount_0f7a4 3 = .ok (.iushr, 1) := by decide +kernel
theorem dJ6_bitCount_0f7a4_4 : decode cJ6_bitCount_0f7a4 4 = .ok (.ldc_w 265, 3) := by decide +kernel
theorem dJ6_bitCount_0f7a4_7 : decode cJ6_bitCount_0f7a4 7 = .ok (.iand, 1) := by decide +kernel
theorem dJ6_bitCount_0f7a4_8 : decode cJ6_bitCount_0f7a4 8 = .ok (.isub, 1) := by decide +kernel
theorem dJ6_bitCount_0f7a4_9 : decode cJ6_bitCount_0f7a4 9 = .ok (.istore_n 0, 1) := by decide +kernel
theorem dJ6_bitCount_0f7a4_10 : decode cJ6_bitCount_0f7a4 10 = .ok (.iload_n 0, 1) := by decide +kernel
theorem dJ6_bitCount_0f7a4_11 : decode cJ6_bitCount_0f7a4 11 = .ok (.ldc_w 266, 3) := by decide +kernel
theorem dJ6_bitCount_0f7a4_14 : decode cJ6_bitCount_0f7a4 14 = .ok (.iand, 1) := by decide +kernel
theorem dJ6_bitCount_0f7a4_15 : decode cJ6_bitCount_0f7a4 15 = .ok (.iload_n 0, 1) := by decide +kernel
theorem dJ6_bitCount_0f7a4_16 : decode cJ6_bitCount_0f7a4 16 = .ok (.iconst 2, 1) := by decide +kernel
theorem dJ6_bitCount_0f7a4_17 : decode cJ6_bitCount_0f7a4 17 = .ok (.iushr, 1) := by decide +kernel
theorem dJ6_bitCount_0f7a4_18 : decode cJ6_bitCount_0f7a4 18 = .ok (.ldc_w 266, 3) := by decide +kernel
theorem dJ6_bitCount_0f7a4_21 : decode cJ6_bitCount_0f7a4 21 = .ok (.iand, 1) := by decide +kernel
theorem dJ6_bitCount_0f7a4_22 : decode cJ6_bitCount_0f7a4 22 = .ok (.iadd, 1) := by decide +kernel
theorem dJ6_bitCount_0f7a4_23 : decode cJ6_bitCount_0f7a4 23 = .ok (.istore_n 0, 1) := by decide +kernel
theorem dJ6_bitCount_0f7a4_24 : decode cJ6_bitCount_0f7a4 24 = .ok (.iload_n 0, 1) := by decide +kernel
theorem dJ6_bitCount_0f7a4_25 : decode cJ6_bitCount_0f7a4 25 = .ok (.iload_n 0, 1) := by decide +kernel
theorem dJ6_bitCount_0f7a4_26 : decode cJ6_bitCount_0f7a4 26 = .ok (.iconst 4, 1) := by decide +kernel
theorem dJ6_bitCount_0f7a4_27 : decode cJ6_bitCount_0f7a4 27 = .ok (.iushr, 1) := by decide +kernel
theorem dJ6_bitCount_0f7a4_28 : decode cJ6_bitCount_0f7a4 28 = .ok (.iadd, 1) := by decide +kernel
theorem dJ6_bitCount_0f7a4_29 : decode cJ6_bitCount_0f7a4 29 = .ok (.ldc_w 267, 3) := by decide +kernel
theorem dJ6_bitCount_0f7a4_32 : decode cJ6_bitCount_0f7a4 32 = .ok (.iand, 1) := by decide +kernel
theorem dJ6_bitCount_0f7a4_33 : decode cJ6_bitCount_0f7a4 33 = .ok (.istore_n 0, 1) := by decide +kernel
theorem dJ6_bitCount_0f7a4_34 : decode cJ6_bitCount_0f7a4 34 = .ok (.iload_n 0, 1) := by decide +kernel
theorem dJ6_bitCount_0f7a4_35 : decode cJ6_bitCount_0f7a4 35 = .ok (.iload_n 0, 1) := by decide +kernel
theorem dJ6_bitCount_0f7a4_36 : decode cJ6_bitCount_0f7a4 36 = .ok (.bipush 8, 2) := by decide +kernel
theorem dJ6_bitCount_0f7a4_38 : decode cJ6_bitCount_0f7a4 38 = .ok (.iushr, 1) := by decide +kernel
theorem dJ6_bitCount_0f7a4_39 : decode cJ6_bitCount_0f7a4 39 = .ok (.iadd, 1) := by decide +kernel
theorem dJ6_bitCount_0f7a4_40 : decode cJ6_bitCount_0f7a4 40 = .ok (.istore_n 0, 1) := by decide +kernel
theorem dJ6_bitCount_0f7a4_41 : decode cJ6_bitCount_0f7a4 41 = .ok (.iload_n 0, 1) := by decide +kernel
theorem dJ6_bitCount_0f7a4_42 : decode cJ6_bitCount_0f7a4 42 = .ok (.iload_n 0, 1) := by decide +kernel
theorem dJ6_bitCount_0f7a4_43 : decode cJ6_bitCount_0f7a4 43 = .ok (.bipush 16, 2) := by decide +kernel
theorem dJ6_bitCount_0f7a4_45 : decode cJ6_bitCount_0f7a4 45 = .ok (.iushr, 1) := by decide +kernel
theorem dJ6_bitCount_0f7a4_46 : decode cJ6_bitCount_0f7a4 46 = .ok (.iadd, 1) := by decide +kernel
theorem dJ6_bitCount_0f7a4_47 : decode cJ6_bitCount_0f7a4 47 = .ok (.istore_n 0, 1) := by decide +kernel
theorem dJ6_bitCount_0f7a4_48 : decode cJ6_bitCount_0f7a4 48 = .ok (.iload_n 0, 1) := by decide +kernel
theorem dJ6_bitCount_0f7a4_49 : decode cJ6_bitCount_0f7a4 49 = .ok (.bipush 63, 2) := by decide +kernel
theorem dJ6_bitCount_0f7a4_51 : decode cJ6_bitCount_0f7a4 51 = .ok (.iand, 1) := by decide +kernel
theorem dJ6_bitCount_0f7a4_52 : decode cJ6_bitCount_0f7a4 52 = .ok (.ireturn, 1) := by decide +kernel
theorem dJ9_abs_0f7a4_0 : decode cJ9_abs_0f7a4 0 = .ok (.iload_n 0, 1) := by decide +kernel
theorem dJ9_abs_0f7a4_1 : decode cJ9_abs_0f7a4 1 = .ok (.ifCond .ge 8, 3) := by decide +kernel
theorem dJ9_abs_0f7a4_4 : decode cJ9_abs_0f7a4 4 = .ok (.iload_n 0, 1) := by decide +kernel
theorem dJ9_abs_0f7a4_5 : decode cJ9_abs_0f7a4 5 = .ok (.ineg, 1) := by decide +kernel
theorem dJ9_abs_0f7a4_6 : decode cJ9_abs_0f7a4 6 = .ok (.goto 4, 3) := by decide +kernel
theorem dJ9_abs_0f7a4_9 : decode cJ9_abs_0f7a4 9 = .ok (.iload_n 0, 1) := by decide +kernel
theorem dJ9_abs_0f7a4_10 : decode cJ9_abs_0f7a4 10 = .ok (.ireturn, 1) := by decide +kernel
theorem dJ9_max_7cf53_0 : decode cJ9_max_7cf53 0 = .ok (.iload_n 0, 1) := by decide +kernel
theorem dJ9_max_7cf53_1 : decode cJ9_max_7cf53 1 = .ok (.iload_n 1, 1) := by decide +kernel
theorem dJ9_max_7cf53_2 : decode cJ9_max_7cf53 2 = .ok (.if_icmp .lt 7, 3) := by decide +kernel
theorem dJ9_max_7cf53_5 : decode cJ9_max_7cf53 5 = .ok (.iload_n 0, 1) := by decide +kernel
theorem dJ9_max_7cf53_6 : decode cJ9_max_7cf53 6 = .ok (.goto 4, 3) := by decide +kernel
theorem dJ9_max_7cf53_9 : decode cJ9_max_7cf53 9 = .ok (.iload_n 1, 1) := by decide +kernel
theorem dJ9_max_7cf53_10 : decode cJ9_max_7cf53 10 = .ok (.ireturn, 1) := by decide +kernel
end
section
theorem dX7_init_0 : decode cX7_init 0 = .ok (.aload_n 0, 1) := by decide +kernel
theorem dX7_init_1 : decode cX7_init 1 = .ok (.invokespecial 1, 3) := by decide +kernel
theorem dX7_init_4 : decode cX7_init 4 = .ok (.aload_n 0, 1) := by decide +kernel
theorem dX7_init_5 : decode cX7_init 5 = .ok (.sipush 8000, 3) := by decide +kernel
theorem dX7_init_8 : decode cX7_init 8 = .ok (.newarray .byte, 2) := by decide +kernel
theorem dX7_init_10 : decode cX7_init 10 = .ok (.putfield 7, 3) := by decide +kernel
theorem dX7_init_13 : decode cX7_init 13 = .ok (.aload_n 0, 1) := by decide +kernel
theorem dX7_init_14 : decode cX7_init 14 = .ok (.sipush 1600, 3) := by decide +kernel
theorem dX7_init_17 : decode cX7_init 17 = .ok (.newarray .byte, 2) := by decide +kernel
theorem dX7_init_19 : decode cX7_init 19 = .ok (.putfield 13, 3) := by decide +kernel
theorem dX7_init_22 : decode cX7_init 22 = .ok (.aload_n 0, 1) := by decide +kernel
theorem dX7_init_23 : decode cX7_init 23 = .ok (.sipush 160, 3) := by decide +kernel
theorem dX7_init_26 : decode cX7_init 26 = .ok (.newarray .int, 2) := by decide +kernel
theorem dX7_init_28 : decode cX7_init 28 = .ok (.putfield 16, 3) := by decide +kernel
theorem dX7_init_31 : decode cX7_init 31 = .ok (.aload_n 0, 1) := by decide +kernel
theorem dX7_init_32 : decode cX7_init 32 = .ok (.sipush 512, 3) := by decide +kernel
theorem dX7_init_35 : decode cX7_init 35 = .ok (.newarray .int, 2) := by decide +kernel
theorem dX7_init_37 : decode cX7_init 37 = .ok (.putfield 20, 3) := by decide +kernel
theorem dX7_init_40 : decode cX7_init 40 = .ok (.aload_n 0, 1) := by decide +kernel
theorem dX7_init_41 : decode cX7_init 41 = .ok (.sipush 512, 3) := by decide +kernel
theorem dX7_init_44 : decode cX7_init 44 = .ok (.newarray .int, 2) := by decide +kernel
theorem dX7_init_46 : decode cX7_init 46 = .ok (.putfield 23, 3) := by decide +kernel
theorem dX7_init_49 : decode cX7_init 49 = .ok (.aload_n 0, 1) := by decide +kernel
theorem dX7_init_50 : decode cX7_init 50 = .ok (.sipush 512, 3) := by decide +kernel
theorem dX7_init_53 : decode cX7_init 53 = .ok (.newarray .int, 2) := by decide +kernel
theorem dX7_init_55 : decode cX7_init 55 = .ok (.putfield 26, 3) := by decide +kernel
theorem dX7_init_58 : decode cX7_init 58 = .ok (.aload_n 0, 1) := by decide +kernel
theorem dX7_init_59 : decode cX7_init 59 = .ok (.sipush 1000, 3) := by decide +kernel
theorem dX7_init_62 : decode cX7_init 62 = .ok (.newarray .int, 2) := by decide +kernel
theorem dX7_init_64 : decode cX7_init 64 = .ok (.putfield 29, 3) := by decide +kernel
theorem dX7_init_67 : decode cX7_init 67 = .ok (.aload_n 0, 1) := by decide +kernel
theorem dX7_init_68 : decode cX7_init 68 = .ok (.sipush 1000, 3) := by decide +kernel
theorem dX7_init_71 : decode cX7_init 71 = .ok (.newarray .int, 2) := by decide +kernel
theorem dX7_init_73 : decode cX7_init 73 = .ok (.putfield 32, 3) := by decide +kernel
theorem dX7_init_76 : decode cX7_init 76 = .ok (.aload_n 0, 1) := by decide +kernel
theorem dX7_init_77 : decode cX7_init 77 = .ok (.sipush 1000, 3) := by decide +kernel
theorem dX7_init_80 : decode cX7_init 80 = .ok (.newarray .int, 2) := by decide +kernel
theorem dX7_init_82 : decode cX7_init 82 = .ok (.putfield 35, 3) := by decide +kernel
theorem dX7_init_85 : decode cX7_init 85 = .ok (.aload_n 0, 1) := by decide +kernel
theorem dX7_init_86 : decode cX7_init 86 = .ok (.sipush 1000, 3) := by decide +kernel
theorem dX7_init_89 : decode cX7_init 89 = .ok (.newarray .int, 2) := by decide +kernel
theorem dX7_init_91 : decode cX7_init 91 = .ok (.putfield 38, 3) := by decide +kernel
theorem dX7_init_94 : decode cX7_init 94 = .ok (.aload_n 0, 1) := by decide +kernel
theorem dX7_init_95 : decode cX7_init 95 = .ok (.sipush 1000, 3) := by decide +kernel
theorem dX7_init_98 : decode cX7_init 98 = .ok (.newarray .int, 2) := by decide +kernel
theorem dX7_init_100 : decode cX7_init 100 = .ok (.putfield 41, 3) := by decide +kernel
theorem dX7_init_103 : decode cX7_init 103 = .ok (.aload_n 0, 1) := by decide +kernel
theorem dX7_init_104 : decode cX7_init 104 = .ok (.sipush 1000, 3) := by decide +kernel
theorem dX7_init_107 : decode cX7_init 107 = .ok (.newarray .int, 2) := by decide +kernel
theorem dX7_init_109 : decode cX7_init 109 = .ok (.putfield 44, 3) := by decide +kernel
theorem dX7_init_112 : decode cX7_init 112 = .ok (.aload_n 0, 1) := by decide +kernel
theorem dX7_init_113 : decode cX7_init 113 = .ok (.bipush 40, 2) := by decide +kernel
theorem dX7_init_115 : decode cX7_init 115 = .ok (.newarray .int, 2) := by decide +kernel
theorem dX7_init_117 : decode cX7_init 117 = .ok (.putfield 47, 3) := by decide +kernel
theorem dX7_init_120 : decode cX7_init 120 = .ok (.aload_n 0, 1) := by decide +kernel
theorem dX7_init_121 : decode cX7_init 121 = .ok (.bipush 40, 2) := by decide +kernel
theorem dX7_init_123 : decode cX7_init 123 = .ok (.newarray .int, 2) := by decide +kernel
theorem dX7_init_125 : decode cX7_init 125 = .ok (.putfield 50, 3) := by decide +kernel
theorem dX7_init_128 : decode cX7_init 128 = .ok (.aload_n 0, 1) := by decide +kernel
theorem dX7_init_129 : decode cX7_init 129 = .ok (.bipush 40, 2) := by decide +kernel
theorem dX7_init_131 : decode cX7_init 131 = .ok (.newarray .int, 2) := by decide +kernel
theorem dX7_init_133 : decode cX7_init 133 = .ok (.putfield 53, 3) := by decide +kernel
theorem dX7_init_136 : decode cX7_init 136 = .ok (.aload_n 0, 1) := by decide +kernel
theorem dX7_init_137 : decode cX7_init 137 = .ok (.bipush 40, 2) := by decide +kernel
theorem dX7_init_139 : decode cX7_init 139 = .ok (.newarray .int, 2) := by decide +kernel
theorem dX7_init_141 : decode cX7_init 141 = .ok (.putfield 56, 3) := by decide +kernel
theorem dX7_init_144 : decode cX7_init 144 = .ok (.aload_n 0, 1) := by decide +kernel
theorem dX7_init_145 : decode cX7_init 145 = .ok (.sipush 3000, 3) := by decide +kernel
theorem dX7_init_148 : decode cX7_init 148 = .ok (.newarray .int, 2) := by decide +kernel
theorem dX7_init_150 : decode cX7_init 150 = .ok (.putfield 59, 3) := by decide +kernel
theorem dX7_init_153 : decode cX7_init 153 = .ok (.return_, 1) := by decide +kernel
theorem dX7_thrown_0 : decode cX7_thrown 0 = .ok (.aload_n 0, 1) := by decide +kernel
theorem dX7_thrown_1 : decode cX7_thrown 1 = .ok (.getfield 62, 3) := by decide +kernel
theorem dX7_thrown_4 : decode cX7_thrown 4 = .ok (.ireturn, 1) := by decide +kernel
theorem dX7_type_0 : decode cX7_type 0 = .ok (.aload_n 0, 1) := by decide +kernel
theorem dX7_type_1 : decode cX7_type 1 = .ok (.iload_n 3, 1) := by decide +kernel
theorem dX7_type_2 : decode cX7_type 2 = .ok (.iconst 1, 1) := by decide +kernel
theorem dX7_type_3 : decode cX7_type 3 = .ok (.if_icmp .lt 9, 3) := by decide +kernel
theorem dX7_type_6 : decode cX7_type 6 = .ok (.iload_n 3, 1) := by decide +kernel
theorem dX7_type_7 : decode cX7_type 7 = .ok (.bipush 8, 2) := by decide +kernel
theorem dX7_type_9 : decode cX7_type 9 = .ok (.if_icmp .le 7, 3) := by decide +kernel
theorem dX7_type_12 : decode cX7_type 12 = .ok (.iconst 1, 1) := by decide +kernel
theorem dX7_type_13 : decode cX7_type 13 = .ok (.goto 20, 3) := by decide +kernel
theorem dX7_type_16 : decode cX7_type 16 = .ok (.aload_n 0, 1) := by decide +kernel
theorem dX7_type_17 : decode cX7_type 17 = .ok (.getfield 66, 3) := by decide +kernel
theorem dX7_type_20 : decode cX7_type 20 = .ok (.iload_n 3, 1) := by decide +kernel
theorem dX7_type_21 : decode cX7_type 21 = .ok (.iadd, 1) := by decide +kernel
theorem dX7_type_22 : decode cX7_type 22 = .ok (.sipush 8000, 3) := by decide +kernel
theorem dX7_type_25 : decode cX7_type 25 = .ok (.if_icmp .le 7, 3) := by decide +kernel
theorem dX7_type_28 : decode cX7_type 28 = .ok (.iconst 2, 1) := by decide +kernel
theorem dX7_type_29 : decode cX7_type 29 = .ok (.goto 4, 3) := by decide +kernel
theorem dX7_type_32 : decode cX7_type 32 = .ok (.iconst 0, 1) := by decide +kernel
theorem dX7_type_33 : decode cX7_type 33 = .ok (.putfield 62, 3) := by decide +kernel
theorem dX7_type_36 : decode cX7_type 36 = .ok (.aload_n 0, 1) := by decide +kernel
theorem dX7_type_37 : decode cX7_type 37 = .ok (.getfield 62, 3) := by decide +kernel
theorem dX7_type_40 : decode cX7_type 40 = .ok (.ifCond .le 5, 3) := by decide +kernel
theorem dX7_type_43 : decode cX7_type 43 = .ok (.iconst 0, 1) := by decide +kernel
theorem dX7_type_44 : decode cX7_type 44 = .ok (.ireturn, 1) := by decide +kernel
theorem dX7_type_45 : decode cX7_type 45 = .ok (.iload_n 3, 1) := by decide +kernel
theorem dX7_type_46 : decode cX7_type 46 = .ok (.iconst 1, 1) := by decide +kernel
theorem dX7_type_47 : decode cX7_type 47 = .ok (.isub, 1) := by decide +kernel
theorem dX7_type_48 : decode cX7_type 48 = .ok (.istore 4, 2) := by decide +kernel
theorem dX7_type_50 : decode cX7_type 50 = .ok (.iload 4, 2) := by decide +kernel
theorem dX7_type_52 : decode cX7_type 52 = .ok (.ifCond .lt 37, 3) := by decide +kernel
theorem dX7_type_55 : decode cX7_type 55 = .ok (.aload_n 0, 1) := by decide +kernel
theorem dX7_type_56 : decode cX7_type 56 = .ok (.getfield 7, 3) := by decide +kernel
theorem dX7_type_59 : decode cX7_type 59 = .ok (.aload_n 0, 1) := by decide +kernel
theorem dX7_type_60 : decode cX7_type 60 = .ok (.getfield 66, 3) := by decide +kernel
theorem dX7_type_63 : decode cX7_type 63 = .ok (.lload_n 1, 1) := by decide +kernel
theorem dX7_type_64 : decode cX7_type 64 = .ok (.bipush 8, 2) := by decide +kernel
theorem dX7_type_66 : decode cX7_type 66 = .ok (.iload 4, 2) := by decide +kernel
theorem dX7_type_68 : decode cX7_type 68 = .ok (.imul, 1) := by decide +kernel
theorem dX7_type_69 : decode cX7_type 69 = .ok (.lshr, 1) := by decide +kernel
theorem dX7_type_70 : decode cX7_type 70 = .ok (.l2i, 1) := by decide +kernel
theorem dX7_type_71 : decode cX7_type 71 = .ok (.i2b, 1) := by decide +kernel
theorem dX7_type_72 : decode cX7_type 72 = .ok (.bastore, 1) := by decide +kernel
theorem dX7_type_73 : decode cX7_type 73 = .ok (.aload_n 0, 1) := by decide +kernel
theorem dX7_type_74 : decode cX7_type 74 = .ok (.dup, 1) := by decide +kernel
theorem dX7_type_75 : decode cX7_type 75 = .ok (.getfield 66, 3) := by decide +kernel
theorem dX7_type_78 : decode cX7_type 78 = .ok (.iconst 1, 1) := by decide +kernel
theorem dX7_type_79 : decode cX7_type 79 = .ok (.iadd, 1) := by decide +kernel
theorem dX7_type_80 : decode cX7_type 80 = .ok (.putfield 66, 3) := by decide +kernel
theorem dX7_type_83 : decode cX7_type 83 = .ok (.iinc 4 (-1), 3) := by decide +kernel
theorem dX7_type_86 : decode cX7_type 86 = .ok (.goto (-36), 3) := by decide +kernel
theorem dX7_type_89 : decode cX7_type 89 = .ok (.aload_n 0, 1) := by decide +kernel
theorem dX7_type_90 : decode cX7_type 90 = .ok (.getfield 66, 3) := by decide +kernel
theorem dX7_type_93 : decode cX7_type 93 = .ok (.ireturn, 1) := by decide +kernel
theorem dX7_keep_0 : decode cX7_keep 0 = .ok (.aload_n 0, 1) := by decide +kernel
theorem dX7_keep_1 : decode cX7_keep 1 = .ok (.iload_n 1, 1) := by decide +kernel
theorem dX7_keep_2 : decode cX7_keep 2 = .ok (.ifCond .lt 11, 3) := by decide +kernel
theorem dX7_keep_5 : decode cX7_keep 5 = .ok (.iload_n 1, 1) := by decide +kernel
theorem dX7_keep_6 : decode cX7_keep 6 = .ok (.aload_n 0, 1) := by decide +kernel
theorem dX7_keep_7 : decode cX7_keep 7 = .ok (.getfield 66, 3) := by decide +kernel
theorem dX7_keep_10 : decode cX7_keep 10 = .ok (.if_icmp .le 7, 3) := by decide +kernel
theorem dX7_keep_13 : decode cX7_keep 13 = .ok (.iconst 1, 1) := by decide +kernel
theorem dX7_keep_14 : decode cX7_keep 14 = .ok (.goto 4, 3) := by decide +kernel
theorem dX7_keep_17 : decode cX7_keep 17 = .ok (.iconst 0, 1) := by decide +kernel
theorem dX7_keep_18 : decode cX7_keep 18 = .ok (.putfield 62, 3) := by decide +kernel
theorem dX7_keep_21 : decode cX7_keep 21 = .ok (.aload_n 0, 1) := by decide +kernel
theorem dX7_keep_22 : decode cX7_keep 22 = .ok (.aload_n 0, 1) := by decide +kernel
theorem dX7_keep_23 : decode cX7_keep 23 = .ok (.getfield 62, 3) := by decide +kernel
theorem dX7_keep_26 : decode cX7_keep 26 = .ok (.ifCond .le 10, 3) := by decide +kernel
theorem dX7_keep_29 : decode cX7_keep 29 = .ok (.aload_n 0, 1) := by decide +kernel
theorem dX7_keep_30 : decode cX7_keep 30 = .ok (.getfield 66, 3) := by decide +kernel
theorem dX7_keep_33 : decode cX7_keep 33 = .ok (.goto 4, 3) := by decide +kernel
theorem dX7_keep_36 : decode cX7_keep 36 = .ok (.iload_n 1, 1) := by decide +kernel
theorem dX7_keep_37 : decode cX7_keep 37 = .ok (.putfield 66, 3) := by decide +kernel
theorem dX7_keep_40 : decode cX7_keep 40 = .ok (.return_, 1) := by decide +kernel
theorem dX7_look_0 : decode cX7_look 0 = .ok (.aload_n 0, 1) := by decide +kernel
theorem dX7_look_1 : decode cX7_look 1 = .ok (.getfield 69, 3) := by decide +kernel
theorem dX7_look_4 : decode cX7_look 4 = .ok (.aload_n 0, 1) := by decide +kernel
theorem dX7_look_5 : decode cX7_look 5 = .ok (.getfield 66, 3) := by decide +kernel
theorem dX7_look_8 : decode cX7_look 8 = .ok (.if_icmp .ge 72, 3) := by decide +kernel
theorem dX7_look_11 : decode cX7_look 11 = .ok (.aload_n 0, 1) := by decide +kernel
theorem dX7_look_12 : decode cX7_look 12 = .ok (.getfield 7, 3) := by decide +kernel
theorem dX7_look_15 : decode cX7_look 15 = .ok (.aload_n 0, 1) := by decide +kernel
theorem dX7_look_16 : decode cX7_look 16 = .ok (.getfield 69, 3) := by decide +kernel
theorem dX7_look_19 : decode cX7_look 19 = .ok (.baload, 1) := by decide +kernel
theorem dX7_look_20 : decode cX7_look 20 = .ok (.bipush 9, 2) := by decide +kernel
theorem dX7_look_22 : decode cX7_look 22 = .ok (.if_icmp .eq 45, 3) := by decide +kernel
theorem dX7_look_25 : decode cX7_look 25 = .ok (.aload_n 0, 1) := by decide +kernel
theorem dX7_look_26 : decode cX7_look 26 = .ok (.getfield 7, 3) := by decide +kernel
theorem dX7_look_29 : decode cX7_look 29 = .ok (.aload_n 0, 1) := by decide +kernel
theorem dX7_look_30 : decode cX7_look 30 = .ok (.getfield 69, 3) := by decide +kernel
theorem dX7_look_33 : decode cX7_look 33 = .ok (.baload, 1) := by decide +kernel
theorem dX7_look_34 : decode cX7_look 34 = .ok (.bipush 10, 2) := by decide +kernel
theorem dX7_look_36 : decode cX7_look 36 = .ok (.if_icmp .eq 31, 3) := by decide +kernel
theorem dX7_look_39 : decode cX7_look 39 = .ok (.aload_n 0, 1) := by decide +kernel
theorem dX7_look_40 : decode cX7_look 40 = .ok (.getfield 7, 3) := by decide +kernel
theorem dX7_look_43 : decode cX7_look 43 = .ok (.aload_n 0, 1) := by decide +kernel
theorem dX7_look_44 : decode cX7_look 44 = .ok (.getfield 69, 3) := by decide +kernel
theorem dX7_look_47 : decode cX7_look 47 = .ok (.baload, 1) := by decide +kernel
theorem dX7_look_48 : decode cX7_look 48 = .ok (.bipush 13, 2) := by decide +kernel
theorem dX7_look_50 : decode cX7_look 50 = .ok (.if_icmp .eq 17, 3) := by decide +kernel
theorem dX7_look_53 : decode cX7_look 53 = .ok (.aload_n 0, 1) := by decide +kernel
theorem dX7_look_54 : decode cX7_look 54 = .ok (.getfield 7, 3) := by decide +kernel
theorem dX7_look_57 : decode cX7_look 57 = .ok (.aload_n 0, 1) := by decide +kernel
theorem dX7_look_58 : decode cX7_look 58 = .ok (.getfield 69, 3) := by decide +kernel
theorem dX7_look_61 : decode cX7_look 61 = .ok (.baload, 1) := by decide +kernel
theorem dX7_look_62 : decode cX7_look 62 = .ok (.bipush 32, 2) := by decide +kernel
theorem dX7_look_64 : decode cX7_look 64 = .ok (.if_icmp .ne 16, 3) := by decide +kernel
theorem dX7_look_67 : decode cX7_look 67 = .ok (.aload_n 0, 1) := by decide +kernel
theorem dX7_look_68 : decode cX7_look 68 = .ok (.dup, 1) := by decide +kernel
theorem dX7_look_69 : decode cX7_look 69 = .ok (.getfield 69, 3) := by decide +kernel
theorem dX7_look_72 : decode cX7_look 72 = .ok (.iconst 1, 1) := by decide +kernel
theorem dX7_look_73 : decode cX7_look 73 = .ok (.iadd, 1) := by decide +kernel
theorem dX7_look_74 : decode cX7_look 74 = .ok (.putfield 69, 3) := by decide +kernel
theorem dX7_look_77 : decode cX7_look 77 = .ok (.goto (-77), 3) := by decide +kernel
theorem dX7_look_80 : decode cX7_look 80 = .ok (.aload_n 0, 1) := by decide +kernel
theorem dX7_look_81 : decode cX7_look 81 = .ok (.getfield 69, 3) := by decide +kernel
theorem dX7_look_84 : decode cX7_look 84 = .ok (.aload_n 0, 1) := by decide +kernel
theorem dX7_look_85 : decode cX7_look 85 = .ok (.getfield 66, 3) := by decide +kernel
theorem dX7_look_88 : decode cX7_look 88 = .ok (.if_icmp .ge 19, 3) := by decide +kernel
theorem dX7_look_91 : decode cX7_look 91 = .ok (.aload_n 0, 1) := by decide +kernel
theorem dX7_look_92 : decode cX7_look 92 = .ok (.getfield 7, 3) := by decide +kernel
theorem dX7_look_95 : decode cX7_look 95 = .ok (.aload_n 0, 1) := by decide +kernel
theorem dX7_look_96 : decode cX7_look 96 = .ok (.getfield 69, 3) := by decide +kernel
theorem dX7_look_99 : decode cX7_look 99 = .ok (.baload, 1) := by decide +kernel
theorem dX7_look_100 : decode cX7_look 100 = .ok (.sipush 255, 3) := by decide +kernel
theorem dX7_look_103 : decode cX7_look 103 = .ok (.iand, 1) := by decide +kernel
theorem dX7_look_104 : decode cX7_look 104 = .ok (.goto 4, 3) := by decide +kernel
theorem dX7_look_107 : decode cX7_look 107 = .ok (.iconst (-1), 1) := by decide +kernel
theorem dX7_look_108 : decode cX7_look 108 = .ok (.ireturn, 1) := by decide +kernel
theorem dX7_bad_0 : decode cX7_bad 0 = .ok (.aload_n 0, 1) := by decide +kernel
theorem dX7_bad_1 : decode cX7_bad 1 = .ok (.getfield 72, 3) := by decide +kernel
theorem dX7_bad_4 : decode cX7_bad 4 = .ok (.ifCond .ne 13, 3) := by decide +kernel
theorem dX7_bad_7 : decode cX7_bad 7 = .ok (.aload_n 0, 1) := by decide +kernel
theorem dX7_bad_8 : decode cX7_bad 8 = .ok (.iload_n 1, 1) := by decide +kernel
theorem dX7_bad_9 : decode cX7_bad 9 = .ok (.putfield 72, 3) := by decide +kernel
theorem dX7_bad_12 : decode cX7_bad 12 = .ok (.aload_n 0, 1) := by decide +kernel
theorem dX7_bad_13 : decode cX7_bad 13 = .ok (.iload_n 2, 1) := by decide +kernel
theorem dX7_bad_14 : decode cX7_bad 14 = .ok (.putfield 69, 3) := by decide +kernel
theorem dX7_bad_17 : decode cX7_bad 17 = .ok (.return_, 1) := by decide +kernel
theorem dX7_isLetter_0 : decode cX7_isLetter 0 = .ok (.iload_n 0, 1) := by decide +kernel
theorem dX7_isLetter_1 : decode cX7_isLetter 1 = .ok (.bipush 97, 2) := by decide +kernel
theorem dX7_isLetter_3 : decode cX7_isLetter 3 = .ok (.if_icmp .lt 13, 3) := by decide +kernel
theorem dX7_isLetter_6 : decode cX7_isLetter 6 = .ok (.iload_n 0, 1) := by decide +kernel
theorem dX7_isLetter_7 : decode cX7_isLetter 7 = .ok (.bipush 122, 2) := by decide +kernel
theorem dX7_isLetter_9 : decode cX7_isLetter 9 = .ok (.if_icmp .gt 7, 3) := by decide +kernel
theorem dX7_isLetter_12 : decode cX7_isLetter 12 = .ok (.iconst 1, 1) := by decide +kernel
theorem dX7_isLetter_13 : decode cX7_isLetter 13 = .ok (.goto 4, 3) := by decide +kernel
theorem dX7_isLetter_16 : decode cX7_isLetter 16 = .ok (.iconst 0, 1) := by decide +kernel
theorem dX7_isLetter_17 : decode cX7_isLetter 17 = .ok (.ireturn, 1) := by decide +kernel
theorem dX7_isDigit_0 : decode cX7_isDigit 0 = .ok (.iload_n 0, 1) := by decide +kernel
theorem dX7_isDigit_1 : decode cX7_isDigit 1 = .ok (.bipush 48, 2) := by decide +kernel
theorem dX7_isDigit_3 : decode cX7_isDigit 3 = .ok (.if_icmp .lt 13, 3) := by decide +kernel
theorem dX7_isDigit_6 : decode cX7_isDigit 6 = .ok (.iload_n 0, 1) := by decide +kernel
theorem dX7_isDigit_7 : decode cX7_isDigit 7 = .ok (.bipush 57, 2) := by decide +kernel
theorem dX7_isDigit_9 : decode cX7_isDigit 9 = .ok (.if_icmp .gt 7, 3) := by decide +kernel
theorem dX7_isDigit_12 : decode cX7_isDigit 12 = .ok (.iconst 1, 1) := by decide +kernel
theorem dX7_isDigit_13 : decode cX7_isDigit 13 = .ok (.goto 4, 3) := by decide +kernel
theorem dX7_isDigit_16 : decode cX7_isDigit 16 = .ok (.iconst 0, 1) := by decide +kernel
theorem dX7_isDigit_17 : decode cX7_isDigit 17 = .ok (.ireturn, 1) := by decide +kernel
theorem dX7_nameEnd_0 : decode cX7_nameEnd 0 = .ok (.aload_n 0, 1) := by decide +kernel
theorem dX7_nameEnd_1 : decode cX7_nameEnd 1 = .ok (.getfield 69, 3) := by decide +kernel
theorem dX7_nameEnd_4 : decode cX7_nameEnd 4 = .ok (.istore_n 1, 1) := by decide +kernel
theorem dX7_nameEnd_5 : decode cX7_nameEnd 5 = .ok (.aload_n 0, 1) := by decide +kernel
theorem dX7_nameEnd_6 : decode cX7_nameEnd 6 = .ok (.invokevirtual 75, 3) := by decide +kernel
theorem dX7_nameEnd_9 : decode cX7_nameEnd 9 = .ok (.invokestatic 79, 3) := by decide +kernel
theorem dX7_nameEnd_12 : decode cX7_nameEnd 12 = .ok (.ifCond .ne 17, 3) := by decide +kernel
theorem dX7_nameEnd_15 : decode cX7_nameEnd 15 = .ok (.aload_n 0, 1) := by decide +kernel
theorem dX7_nameEnd_16 : decode cX7_nameEnd 16 = .ok (.iconst 1, 1) := by decide +kernel
theorem dX7_nameEnd_17 : decode cX7_nameEnd 17 = .ok (.aload_n 0, 1) := by decide +kernel
theorem dX7_nameEnd_18 : decode cX7_nameEnd 18 = .ok (.getfield 69, 3) := by decide +kernel
theorem dX7_nameEnd_21 : decode cX7_nameEnd 21 = .ok (.invokevirtual 83, 3) := by decide +kernel
theorem dX7_nameEnd_24 : decode cX7_nameEnd 24 = .ok (.aload_n 0, 1) := by decide +kernel
theorem dX7_nameEnd_25 : decode cX7_nameEnd 25 = .ok (.getfield 69, 3) := by decide +kernel
theorem dX7_nameEnd_28 : decode cX7_nameEnd 28 = .ok (.ireturn, 1) := by decide +kernel
theorem dX7_nameEnd_29 : decode cX7_nameEnd 29 = .ok (.aload_n 0, 1) := by decide +kernel
theorem dX7_nameEnd_30 : decode cX7_nameEnd 30 = .ok (.getfield 69, 3) := by decide +kernel
theorem dX7_nameEnd_33 : decode cX7_nameEnd 33 = .ok (.istore_n 1, 1) := by decide +kernel
theorem dX7_nameEnd_34 : decode cX7_nameEnd 34 = .ok (.iload_n 1, 1) := by decide +kernel
theorem dX7_nameEnd_35 : decode cX7_nameEnd 35 = .ok (.istore_n 2, 1) := by decide +kernel
theorem dX7_nameEnd_36 : decode cX7_nameEnd 36 = .ok (.iload_n 2, 1) := by decide +kernel
theorem dX7_nameEnd_37 : decode cX7_nameEnd 37 = .ok (.aload_n 0, 1) := by decide +kernel
theorem dX7_nameEnd_38 : decode cX7_nameEnd 38 = .ok (.getfield 66, 3) := by decide +kernel
theorem dX7_nameEnd_41 : decode cX7_nameEnd 41 = .ok (.if_icmp .ge 33, 3) := by decide +kernel
theorem dX7_nameEnd_44 : decode cX7_nameEnd 44 = .ok (.aload_n 0, 1) := by decide +kernel
theorem dX7_nameEnd_45 : decode cX7_nameEnd 45 = .ok (.getfield 7, 3) := by decide +kernel
theorem dX7_nameEnd_48 : decode cX7_nameEnd 48 = .ok (.iload_n 2, 1) := by decide +kernel
theorem dX7_nameEnd_49 : decode cX7_nameEnd 49 = .ok (.baload, 1) := by decide +kernel
theorem dX7_nameEnd_50 : decode cX7_nameEnd 50 = .ok (.invokestatic 79, 3) := by decide +kernel
theorem dX7_nameEnd_53 : decode cX7_nameEnd 53 = .ok (.ifCond .ne 15, 3) := by decide +kernel
theorem dX7_nameEnd_56 : decode cX7_nameEnd 56 = .ok (.aload_n 0, 1) := by decide +kernel
theorem dX7_nameEnd_57 : decode cX7_nameEnd 57 = .ok (.getfield 7, 3) := by decide +kernel
theorem dX7_nameEnd_60 : decode cX7_nameEnd 60 = .ok (.iload_n 2, 1) := by decide +kernel
theorem dX7_nameEnd_61 : decode cX7_nameEnd 61 = .ok (.baload, 1) := by decide +kernel
theorem dX7_nameEnd_62 : decode cX7_nameEnd 62 = .ok (.invokestatic 87, 3) := by decide +kernel
theorem dX7_nameEnd_65 : decode cX7_nameEnd 65 = .ok (.ifCond .eq 9, 3) := by decide +kernel
theorem dX7_nameEnd_68 : decode cX7_nameEnd 68 = .ok (.iinc 2 1, 3) := by decide +kernel
theorem dX7_nameEnd_71 : decode cX7_nameEnd 71 = .ok (.goto (-35), 3) := by decide +kernel
theorem dX7_nameEnd_74 : decode cX7_nameEnd 74 = .ok (.iload_n 2, 1) := by decide +kernel
theorem dX7_nameEnd_75 : decode cX7_nameEnd 75 = .ok (.iload_n 1, 1) := by decide +kernel
theorem dX7_nameEnd_76 : decode cX7_nameEnd 76 = .ok (.isub, 1) := by decide +kernel
theorem dX7_nameEnd_77 : decode cX7_nameEnd 77 = .ok (.bipush 10, 2) := by decide +kernel
theorem dX7_nameEnd_79 : decode cX7_nameEnd 79 = .ok (.if_icmp .le 9, 3) := by decide +kernel
theorem dX7_nameEnd_82 : decode cX7_nameEnd 82 = .ok (.aload_n 0, 1) := by decide +kernel
theorem dX7_nameEnd_83 : decode cX7_nameEnd 83 = .ok (.iconst 1, 1) := by decide +kernel
theorem dX7_nameEnd_84 : decode cX7_nameEnd 84 = .ok (.iload_n 1, 1) := by decide +kernel
theorem dX7_nameEnd_85 : decode cX7_nameEnd 85 = .ok (.invokevirtual 83, 3) := by decide +kernel
theorem dX7_nameEnd_88 : decode cX7_nameEnd 88 = .ok (.iload_n 2, 1) := by decide +kernel
theorem dX7_nameEnd_89 : decode cX7_nameEnd 89 = .ok (.ireturn, 1) := by decide +kernel
theorem dX7_word_0 : decode cX7_word 0 = .ok (.aload_n 0, 1) := by decide +kernel
theorem dX7_word_1 : decode cX7_word 1 = .ok (.getfield 72, 3) := by decide +kernel
theorem dX7_word_4 : decode cX7_word 4 = .ok (.ifCond .le 4, 3) := by decide +kernel
theorem dX7_word_7 : decode cX7_word 7 = .ok (.return_, 1) := by decide +kernel
theorem dX7_word_8 : decode cX7_word 8 = .ok (.aload_n 0, 1) := by decide +kernel
theorem dX7_word_9 : decode cX7_word 9 = .ok (.invokevirtual 90, 3) := by decide +kernel
theorem dX7_word_12 : decode cX7_word 12 = .ok (.istore_n 3, 1) := by decide +kernel
theorem dX7_word_13 : decode cX7_word 13 = .ok (.aload_n 0, 1) := by decide +kernel
theorem dX7_word_14 : decode cX7_word 14 = .ok (.getfield 72, 3) := by decide +kernel
theorem dX7_word_17 : decode cX7_word 17 = .ok (.ifCond .ne 50, 3) := by decide +kernel
theorem dX7_word_20 : decode cX7_word 20 = .ok (.iload_n 3, 1) := by decide +kernel
theorem dX7_word_21 : decode cX7_word 21 = .ok (.aload_n 0, 1) := by decide +kernel
theorem dX7_word_22 : decode cX7_word 22 = .ok (.getfield 69, 3) := by decide +kernel
theorem dX7_word_25 : decode cX7_word 25 = .ok (.isub, 1) := by decide +kernel
theorem dX7_word_26 : decode cX7_word 26 = .ok (.iconst 2, 1) := by decide +kernel
theorem dX7_word_27 : decode cX7_word 27 = .ok (.if_icmp .ne 31, 3) := by decide +kernel
theorem dX7_word_30 : decode cX7_word 30 = .ok (.aload_n 0, 1) := by decide +kernel
theorem dX7_word_31 : decode cX7_word 31 = .ok (.getfield 7, 3) := by decide +kernel
theorem dX7_word_34 : decode cX7_word 34 = .ok (.aload_n 0, 1) := by decide +kernel
theorem dX7_word_35 : decode cX7_word 35 = .ok (.getfield 69, 3) := by decide +kernel
theorem dX7_word_38 : decode cX7_word 38 = .ok (.baload, 1) := by decide +kernel
theorem dX7_word_39 : decode cX7_word 39 = .ok (.iload_n 1, 1) := by decide +kernel
theorem dX7_word_40 : decode cX7_word 40 = .ok (.if_icmp .ne 18, 3) := by decide +kernel
theorem dX7_word_43 : decode cX7_word 43 = .ok (.aload_n 0, 1) := by decide +kernel
theorem dX7_word_44 : decode cX7_word 44 = .ok (.getfield 7, 3) := by decide +kernel
theorem dX7_word_47 : decode cX7_word 47 = .ok (.aload_n 0, 1) := by decide +kernel
theorem dX7_word_48 : decode cX7_word 48 = .ok (.getfield 69, 3) := by decide +kernel
theorem dX7_word_51 : decode cX7_word 51 = .ok (.iconst 1, 1) := by decide +kernel
theorem dX7_word_52 : decode cX7_word 52 = .ok (.iadd, 1) := by decide +kernel
theorem dX7_word_53 : decode cX7_word 53 = .ok (.baload, 1) := by decide +kernel
theorem dX7_word_54 : decode cX7_word 54 = .ok (.iload_n 2, 1) := by decide +kernel
theorem dX7_word_55 : decode cX7_word 55 = .ok (.if_icmp .eq 12, 3) := by decide +kernel
theorem dX7_word_58 : decode cX7_word 58 = .ok (.aload_n 0, 1) := by decide +kernel
theorem dX7_word_59 : decode cX7_word 59 = .ok (.iconst 1, 1) := by decide +kernel
theorem dX7_word_60 : decode cX7_word 60 = .ok (.aload_n 0, 1) := by decide +kernel
theorem dX7_word_61 : decode cX7_word 61 = .ok (.getfield 69, 3) := by decide +kernel
theorem dX7_word_64 : decode cX7_word 64 = .ok (.invokevirtual 83, 3) := by decide +kernel
theorem dX7_word_67 : decode cX7_word 67 = .ok (.aload_n 0, 1) := by decide +kernel
theorem dX7_word_68 : decode cX7_word 68 = .ok (.aload_n 0, 1) := by decide +kernel
theorem dX7_word_69 : decode cX7_word 69 = .ok (.getfield 72, 3) := by decide +kernel
theorem dX7_word_72 : decode cX7_word 72 = .ok (.ifCond .ne 7, 3) := by decide +kernel
theorem dX7_word_75 : decode cX7_word 75 = .ok (.iload_n 3, 1) := by decide +kernel
theorem dX7_word_76 : decode cX7_word 76 = .ok (.goto 7, 3) := by decide +kernel
theorem dX7_word_79 : decode cX7_word 79 = .ok (.aload_n 0, 1) := by decide +kernel
theorem dX7_word_80 : decode cX7_word 80 = .ok (.getfield 69, 3) := by decide +kernel
theorem dX7_word_83 : decode cX7_word 83 = .ok (.putfield 69, 3) := by decide +kernel
theorem dX7_word_86 : decode cX7_word 86 = .ok (.return_, 1) := by decide +kernel
theorem dX7_sign_0 : decode cX7_sign 0 = .ok (.aload_n 0, 1) := by decide +kernel
theorem dX7_sign_1 : decode cX7_sign 1 = .ok (.getfield 72, 3) := by decide +kernel
theorem dX7_sign_4 : decode cX7_sign 4 = .ok (.ifCond .ne 20, 3) := by decide +kernel
theorem dX7_sign_7 : decode cX7_sign 7 = .ok (.aload_n 0, 1) := by decide +kernel
theorem dX7_sign_8 : decode cX7_sign 8 = .ok (.invokevirtual 75, 3) := by decide +kernel
theorem dX7_sign_11 : decode cX7_sign 11 = .ok (.iload_n 1, 1) := by decide +kernel
theorem dX7_sign_12 : decode cX7_sign 12 = .ok (.if_icmp .eq 12, 3) := by decide +kernel
theorem dX7_sign_15 : decode cX7_sign 15 = .ok (.aload_n 0, 1) := by decide +kernel
theorem dX7_sign_16 : decode cX7_sign 16 = .ok (.iconst 1, 1) := by decide +kernel
theorem dX7_sign_17 : decode cX7_sign 17 = .ok (.aload_n 0, 1) := by decide +kernel
theorem dX7_sign_18 : decode cX7_sign 18 = .ok (.getfield 69, 3) := by decide +kernel
theorem dX7_sign_21 : decode cX7_sign 21 = .ok (.invokevirtual 83, 3) := by decide +kernel
theorem dX7_sign_24 : decode cX7_sign 24 = .ok (.aload_n 0, 1) := by decide +kernel
theorem dX7_sign_25 : decode cX7_sign 25 = .ok (.dup, 1) := by decide +kernel
theorem dX7_sign_26 : decode cX7_sign 26 = .ok (.getfield 69, 3) := by decide +kernel
theorem dX7_sign_29 : decode cX7_sign 29 = .ok (.aload_n 0, 1) := by decide +kernel
theorem dX7_sign_30 : decode cX7_sign 30 = .ok (.getfield 72, 3) := by decide +kernel
theorem dX7_sign_33 : decode cX7_sign 33 = .ok (.ifCond .ne 7, 3) := by decide +kernel
theorem dX7_sign_36 : decode cX7_sign 36 = .ok (.iconst 1, 1) := by decide +kernel
theorem dX7_sign_37 : decode cX7_sign 37 = .ok (.goto 4, 3) := by decide +kernel
theorem dX7_sign_40 : decode cX7_sign 40 = .ok (.iconst 0, 1) := by decide +kernel
theorem dX7_sign_41 : decode cX7_sign 41 = .ok (.iadd, 1) := by decide +kernel
theorem dX7_sign_42 : decode cX7_sign 42 = .ok (.putfield 69, 3) := by decide +kernel
theorem dX7_sign_45 : decode cX7_sign 45 = .ok (.return_, 1) := by decide +kernel
theorem dX7_find_0 : decode cX7_find 0 = .ok (.iload_n 1, 1) := by decide +kernel
theorem dX7_find_1 : decode cX7_find 1 = .ok (.istore 4, 2) := by decide +kernel
theorem dX7_find_3 : decode cX7_find 3 = .ok (.iload 4, 2) := by decide +kernel
theorem dX7_find_5 : decode cX7_find 5 = .ok (.iload_n 1, 1) := by decide +kernel
theorem dX7_find_6 : decode cX7_find 6 = .ok (.iload_n 2, 1) := by decide +kernel
theorem dX7_find_7 : decode cX7_find 7 = .ok (.iadd, 1) := by decide +kernel
theorem dX7_find_8 : decode cX7_find 8 = .ok (.if_icmp .ge 102, 3) := by decide +kernel
theorem dX7_find_11 : decode cX7_find 11 = .ok (.aload_n 0, 1) := by decide +kernel
theorem dX7_find_12 : decode cX7_find 12 = .ok (.getfield 16, 3) := by decide +kernel
theorem dX7_find_15 : decode cX7_find 15 = .ok (.iload 4, 2) := by decide +kernel
theorem dX7_find_17 : decode cX7_find 17 = .ok (.iaload, 1) := by decide +kernel
theorem dX7_find_18 : decode cX7_find 18 = .ok (.iload_n 3, 1) := by decide +kernel
theorem dX7_find_19 : decode cX7_find 19 = .ok (.aload_n 0, 1) := by decide +kernel
theorem dX7_find_20 : decode cX7_find 20 = .ok (.getfield 69, 3) := by decide +kernel
theorem dX7_find_23 : decode cX7_find 23 = .ok (.isub, 1) := by decide +kernel
theorem dX7_find_24 : decode cX7_find 24 = .ok (.if_icmp .ne 7, 3) := by decide +kernel
theorem dX7_find_27 : decode cX7_find 27 = .ok (.iconst 1, 1) := by decide +kernel
theorem dX7_find_28 : decode cX7_find 28 = .ok (.goto 4, 3) := by decide +kernel
theorem dX7_find_31 : decode cX7_find 31 = .ok (.iconst 0, 1) := by decide +kernel
theorem dX7_find_32 : decode cX7_find 32 = .ok (.istore 5, 2) := by decide +kernel
theorem dX7_find_34 : decode cX7_find 34 = .ok (.iconst 0, 1) := by decide +kernel
theorem dX7_find_35 : decode cX7_find 35 = .ok (.istore 6, 2) := by decide +kernel
theorem dX7_find_37 : decode cX7_find 37 = .ok (.iload 6, 2) := by decide +kernel
theorem dX7_find_39 : decode cX7_find 39 = .ok (.iload_n 3, 1) := by decide +kernel
theorem dX7_find_40 : decode cX7_find 40 = .ok (.aload_n 0, 1) := by decide +kernel
theorem dX7_find_41 : decode cX7_find 41 = .ok (.getfield 69, 3) := by decide +kernel
theorem dX7_find_44 : decode cX7_find 44 = .ok (.isub, 1) := by decide +kernel
theorem dX7_find_45 : decode cX7_find 45 = .ok (.if_icmp .ge 49, 3) := by decide +kernel
theorem dX7_find_48 : decode cX7_find 48 = .ok (.iload 5, 2) := by decide +kernel
theorem dX7_find_50 : decode cX7_find 50 = .ok (.ifCond .eq 44, 3) := by decide +kernel
theorem dX7_find_53 : decode cX7_find 53 = .ok (.aload_n 0, 1) := by decide +kernel
theorem dX7_find_54 : decode cX7_find 54 = .ok (.getfield 13, 3) := by decide +kernel
theorem dX7_find_57 : decode cX7_find 57 = .ok (.bipush 10, 2) := by decide +kernel
theorem dX7_find_59 : decode cX7_find 59 = .ok (.iload 4, 2) := by decide +kernel
theorem dX7_find_61 : decode cX7_find 61 = .ok (.imul, 1) := by decide +kernel
theorem dX7_find_62 : decode cX7_find 62 = .ok (.iload 6, 2) := by decide +kernel
theorem dX7_find_64 : decode cX7_find 64 = .ok (.iadd, 1) := by decide +kernel
theorem dX7_find_65 : decode cX7_find 65 = .ok (.baload, 1) := by decide +kernel
theorem dX7_find_66 : decode cX7_find 66 = .ok (.aload_n 0, 1) := by decide +kernel
theorem dX7_find_67 : decode cX7_find 67 = .ok (.getfield 7, 3) := by decide +kernel
theorem dX7_find_70 : decode cX7_find 70 = .ok (.aload_n 0, 1) := by decide +kernel
theorem dX7_find_71 : decode cX7_find 71 = .ok (.getfield 69, 3) := by decide +kernel
theorem dX7_find_74 : decode cX7_find 74 = .ok (.iload 6, 2) := by decide +kernel
theorem dX7_find_76 : decode cX7_find 76 = .ok (.iadd, 1) := by decide +kernel
theorem dX7_find_77 : decode cX7_find 77 = .ok (.baload, 1) := by decide +kernel
theorem dX7_find_78 : decode cX7_find 78 = .ok (.if_icmp .ne 7, 3) := by decide +kernel
theorem dX7_find_81 : decode cX7_find 81 = .ok (.iconst 1, 1) := by decide +kernel
theorem dX7_find_82 : decode cX7_find 82 = .ok (.goto 4, 3) := by decide +kernel
theorem dX7_find_85 : decode cX7_find 85 = .ok (.iconst 0, 1) := by decide +kernel
theorem dX7_find_86 : decode cX7_find 86 = .ok (.istore 5, 2) := by decide +kernel
theorem dX7_find_88 : decode cX7_find 88 = .ok (.iinc 6 1, 3) := by decide +kernel
theorem dX7_find_91 : decode cX7_find 91 = .ok (.goto (-54), 3) := by decide +kernel
theorem dX7_find_94 : decode cX7_find 94 = .ok (.iload 5, 2) := by decide +kernel
theorem dX7_find_96 : decode cX7_find 96 = .ok (.ifCond .eq 8, 3) := by decide +kernel
theorem dX7_find_99 : decode cX7_find 99 = .ok (.iload 4, 2) := by decide +kernel
theorem dX7_find_101 : decode cX7_find 101 = .ok (.iload_n 1, 1) := by decide +kernel
theorem dX7_find_102 : decode cX7_find 102 = .ok (.isub, 1) := by decide +kernel
theorem dX7_find_103 : decode cX7_find 103 = .ok (.ireturn, 1) := by decide +kernel
theorem dX7_find_104 : decode cX7_find 104 = .ok (.iinc 4 1, 3) := by decide +kernel
theorem dX7_find_107 : decode cX7_find 107 = .ok (.goto (-104), 3) := by decide +kernel
theorem dX7_find_110 : decode cX7_find 110 = .ok (.iconst (-1), 1) := by decide +kernel
theorem dX7_find_111 : decode cX7_find 111 = .ok (.ireturn, 1) := by decide +kernel
theorem dX7_store_0 : decode cX7_store 0 = .ok (.aload_n 0, 1) := by decide +kernel
theorem dX7_store_1 : decode cX7_store 1 = .ok (.getfield 16, 3) := by decide +kernel
theorem dX7_store_4 : decode cX7_store 4 = .ok (.iload_n 1, 1) := by decide +kernel
theorem dX7_store_5 : decode cX7_store 5 = .ok (.iload_n 2, 1) := by decide +kernel
theorem dX7_store_6 : decode cX7_store 6 = .ok (.aload_n 0, 1) := by decide +kernel
theorem dX7_store_7 : decode cX7_store 7 = .ok (.getfield 69, 3) := by decide +kernel
theorem dX7_store_10 : decode cX7_store 10 = .ok (.isub, 1) := by decide +kernel
theorem dX7_store_11 : decode cX7_store 11 = .ok (.iastore, 1) := by decide +kernel
theorem dX7_store_12 : decode cX7_store 12 = .ok (.iconst 0, 1) := by decide +kernel
theorem dX7_store_13 : decode cX7_store 13 = .ok (.istore_n 3, 1) := by decide +kernel
theorem dX7_store_14 : decode cX7_store 14 = .ok (.iload_n 3, 1) := by decide +kernel
theorem dX7_store_15 : decode cX7_store 15 = .ok (.iload_n 2, 1) := by decide +kernel
theorem dX7_store_16 : decode cX7_store 16 = .ok (.aload_n 0, 1) := by decide +kernel
theorem dX7_store_17 : decode cX7_store 17 = .ok (.getfield 69, 3) := by decide +kernel
theorem dX7_store_20 : decode cX7_store 20 = .ok (.isub, 1) := by decide +kernel
theorem dX7_store_21 : decode cX7_store 21 = .ok (.if_icmp .ge 31, 3) := by decide +kernel
theorem dX7_store_24 : decode cX7_store 24 = .ok (.aload_n 0, 1) := by decide +kernel
theorem dX7_store_25 : decode cX7_store 25 = .ok (.getfield 13, 3) := by decide +kernel
theorem dX7_store_28 : decode cX7_store 28 = .ok (.bipush 10, 2) := by decide +kernel
theorem dX7_store_30 : decode cX7_store 30 = .ok (.iload_n 1, 1) := by decide +kernel
theorem dX7_store_31 : decode cX7_store 31 = .ok (.imul, 1) := by decide +kernel
theorem dX7_store_32 : decode cX7_store 32 = .ok (.iload_n 3, 1) := by decide +kernel
theorem dX7_store_33 : decode cX7_store 33 = .ok (.iadd, 1) := by decide +kernel
theorem dX7_store_34 : decode cX7_store 34 = .ok (.aload_n 0, 1) := by decide +kernel
theorem dX7_store_35 : decode cX7_store 35 = .ok (.getfield 7, 3) := by decide +kernel
theorem dX7_store_38 : decode cX7_store 38 = .ok (.aload_n 0, 1) := by decide +kernel
theorem dX7_store_39 : decode cX7_store 39 = .ok (.getfield 69, 3) := by decide +kernel
theorem dX7_store_42 : decode cX7_store 42 = .ok (.iload_n 3, 1) := by decide +kernel
theorem dX7_store_43 : decode cX7_store 43 = .ok (.iadd, 1) := by decide +kernel
theorem dX7_store_44 : decode cX7_store 44 = .ok (.baload, 1) := by decide +kernel
theorem dX7_store_45 : decode cX7_store 45 = .ok (.bastore, 1) := by decide +kernel
theorem dX7_store_46 : decode cX7_store 46 = .ok (.iinc 3 1, 3) := by decide +kernel
theorem dX7_store_49 : decode cX7_store 49 = .ok (.goto (-35), 3) := by decide +kernel
theorem dX7_store_52 : decode cX7_store 52 = .ok (.return_, 1) := by decide +kernel
theorem dX7_readCondition_0 : decode cX7_readCondition 0 = .ok (.aload_n 0, 1) := by decide +kernel
theorem dX7_readCondition_1 : decode cX7_readCondition 1 = .ok (.invokevirtual 90, 3) := by decide +kernel
theorem dX7_readCondition_4 : decode cX7_readCondition 4 = .ok (.istore_n 1, 1) := by decide +kernel
theorem dX7_readCondition_5 : decode cX7_readCondition 5 = .ok (.aload_n 0, 1) := by decide +kernel
theorem dX7_readCondition_6 : decode cX7_readCondition 6 = .ok (.getfield 72, 3) := by decide +kernel
theorem dX7_readCondition_9 : decode cX7_readCondition 9 = .ok (.ifCond .ne 26, 3) := by decide +kernel
theorem dX7_readCondition_12 : decode cX7_readCondition 12 = .ok (.aload_n 0, 1) := by decide +kernel
theorem dX7_readCondition_13 : decode cX7_readCondition 13 = .ok (.bipush 80, 2) := by decide +kernel
theorem dX7_readCondition_15 : decode cX7_readCondition 15 = .ok (.aload_n 0, 1) := by decide +kernel
theorem dX7_readCondition_16 : decode cX7_readCondition 16 = .ok (.getfield 93, 3) := by decide +kernel
theorem dX7_readCondition_19 : decode cX7_readCondition 19 = .ok (.iload_n 1, 1) := by decide +kernel
theorem dX7_readCondition_20 : decode cX7_readCondition 20 = .ok (.invokevirtual 96, 3) := by decide +kernel
theorem dX7_readCondition_23 : decode cX7_readCondition 23 = .ok (.ifCond .lt 12, 3) := by decide +kernel
theorem dX7_readCondition_26 : decode cX7_readCondition 26 = .ok (.aload_n 0, 1) := by decide +kernel
theorem dX7_readCondition_27 : decode cX7_readCondition 27 = .ok (.iconst 2, 1) := by decide +kernel
theorem dX7_readCondition_28 : decode cX7_readCondition 28 = .ok (.aload_n 0, 1) := by decide +kernel
theorem dX7_readCondition_29 : decode cX7_readCondition 29 = .ok (.getfield 69, 3) := by decide +kernel
theorem dX7_readCondition_32 : decode cX7_readCondition 32 = .ok (.invokevirtual 83, 3) := by decide +kernel
theorem dX7_readCondition_35 : decode cX7_readCondition 35 = .ok (.aload_n 0, 1) := by decide +kernel
theorem dX7_readCondition_36 : decode cX7_readCondition 36 = .ok (.getfield 72, 3) := by decide +kernel
theorem dX7_readCondition_39 : decode cX7_readCondition 39 = .ok (.ifCond .ne 21, 3) := by decide +kernel
theorem dX7_readCondition_42 : decode cX7_readCondition 42 = .ok (.aload_n 0, 1) := by decide +kernel
theorem dX7_readCondition_43 : decode cX7_readCondition 43 = .ok (.getfield 93, 3) := by decide +kernel
theorem dX7_readCondition_46 : decode cX7_readCondition 46 = .ok (.bipush 16, 2) := by decide +kernel
theorem dX7_readCondition_48 : decode cX7_readCondition 48 = .ok (.if_icmp .ne 12, 3) := by decide +kernel
theorem dX7_readCondition_51 : decode cX7_readCondition 51 = .ok (.aload_n 0, 1) := by decide +kernel
theorem dX7_readCondition_52 : decode cX7_readCondition 52 = .ok (.iconst 3, 1) := by decide +kernel
theorem dX7_readCondition_53 : decode cX7_readCondition 53 = .ok (.aload_n 0, 1) := by decide +kernel
theorem dX7_readCondition_54 : decode cX7_readCondition 54 = .ok (.getfield 69, 3) := by decide +kernel
theorem dX7_readCondition_57 : decode cX7_readCondition 57 = .ok (.invokevirtual 83, 3) := by decide +kernel
theorem dX7_readCondition_60 : decode cX7_readCondition 60 = .ok (.aload_n 0, 1) := by decide +kernel
theorem dX7_readCondition_61 : decode cX7_readCondition 61 = .ok (.getfield 72, 3) := by decide +kernel
theorem dX7_readCondition_64 : decode cX7_readCondition 64 = .ok (.ifCond .ne 30, 3) := by decide +kernel
theorem dX7_readCondition_67 : decode cX7_readCondition 67 = .ok (.aload_n 0, 1) := by decide +kernel
theorem dX7_readCondition_68 : decode cX7_readCondition 68 = .ok (.bipush 80, 2) := by decide +kernel
theorem dX7_readCondition_70 : decode cX7_readCondition 70 = .ok (.aload_n 0, 1) := by decide +kernel
theorem dX7_readCondition_71 : decode cX7_readCondition 71 = .ok (.getfield 93, 3) := by decide +kernel
theorem dX7_readCondition_74 : decode cX7_readCondition 74 = .ok (.iadd, 1) := by decide +kernel
theorem dX7_readCondition_75 : decode cX7_readCondition 75 = .ok (.iload_n 1, 1) := by decide +kernel
theorem dX7_readCondition_76 : decode cX7_readCondition 76 = .ok (.invokevirtual 100, 3) := by decide +kernel
theorem dX7_readCondition_79 : decode cX7_readCondition 79 = .ok (.aload_n 0, 1) := by decide +kernel
theorem dX7_readCondition_80 : decode cX7_readCondition 80 = .ok (.dup, 1) := by decide +kernel
theorem dX7_readCondition_81 : decode cX7_readCondition 81 = .ok (.getfield 93, 3) := by decide +kernel
theorem dX7_readCondition_84 : decode cX7_readCondition 84 = .ok (.iconst 1, 1) := by decide +kernel
theorem dX7_readCondition_85 : decode cX7_readCondition 85 = .ok (.iadd, 1) := by decide +kernel
theorem dX7_readCondition_86 : decode cX7_readCondition 86 = .ok (.putfield 93, 3) := by decide +kernel
theorem dX7_readCondition_89 : decode cX7_readCondition 89 = .ok (.aload_n 0, 1) := by decide +kernel
theorem dX7_readCondition_90 : decode cX7_readCondition 90 = .ok (.iload_n 1, 1) := by decide +kernel
theorem dX7_readCondition_91 : decode cX7_readCondition 91 = .ok (.putfield 69, 3) := by decide +kernel
theorem dX7_readCondition_94 : decode cX7_readCondition 94 = .ok (.return_, 1) := by decide +kernel
theorem dX7_readRule_0 : decode cX7_readRule 0 = .ok (.sipush 256, 3) := by decide +kernel
theorem dX7_readRule_3 : decode cX7_readRule 3 = .ok (.aload_n 0, 1) := by decide +kernel
theorem dX7_readRule_4 : decode cX7_readRule 4 = .ok (.getfield 103, 3) := by decide +kernel
theorem dX7_readRule_7 : decode cX7_readRule 7 = .ok (.iadd, 1) := by decide +kernel
theorem dX7_readRule_8 : decode cX7_readRule 8 = .ok (.istore_n 1, 1) := by decide +kernel
theorem dX7_readRule_9 : decode cX7_readRule 9 = .ok (.iconst 0, 1) := by decide +kernel
theorem dX7_readRule_10 : decode cX7_readRule 10 = .ok (.istore_n 2, 1) := by decide +kernel
theorem dX7_readRule_11 : decode cX7_readRule 11 = .ok (.iload_n 2, 1) := by decide +kernel
theorem dX7_readRule_12 : decode cX7_readRule 12 = .ok (.aload_n 0, 1) := by decide +kernel
theorem dX7_readRule_13 : decode cX7_readRule 13 = .ok (.getfield 93, 3) := by decide +kernel
theorem dX7_readRule_16 : decode cX7_readRule 16 = .ok (.if_icmp .ge 151, 3) := by decide +kernel
theorem dX7_readRule_19 : decode cX7_readRule 19 = .ok (.aload_n 0, 1) := by decide +kernel
theorem dX7_readRule_20 : decode cX7_readRule 20 = .ok (.getfield 72, 3) := by decide +kernel
theorem dX7_readRule_23 : decode cX7_readRule 23 = .ok (.ifCond .ne 144, 3) := by decide +kernel
theorem dX7_readRule_26 : decode cX7_readRule 26 = .ok (.aload_n 0, 1) := by decide +kernel
theorem dX7_readRule_27 : decode cX7_readRule 27 = .ok (.invokevirtual 75, 3) := by decide +kernel
theorem dX7_readRule_30 : decode cX7_readRule 30 = .ok (.istore_n 3, 1) := by decide +kernel
theorem dX7_readRule_31 : decode cX7_readRule 31 = .ok (.iload_n 3, 1) := by decide +kernel
theorem dX7_readRule_32 : decode cX7_readRule 32 = .ok (.bipush 89, 2) := by decide +kernel
theorem dX7_readRule_34 : decode cX7_readRule 34 = .ok (.if_icmp .eq 27, 3) := by decide +kernel
theorem dX7_readRule_37 : decode cX7_readRule 37 = .ok (.iload_n 3, 1) := by decide +kernel
theorem dX7_readRule_38 : decode cX7_readRule 38 = .ok (.bipush 78, 2) := by decide +kernel
theorem dX7_readRule_40 : decode cX7_readRule 40 = .ok (.if_icmp .eq 21, 3) := by decide +kernel
theorem dX7_readRule_43 : decode cX7_readRule 43 = .ok (.iload_n 3, 1) := by decide +kernel
theorem dX7_readRule_44 : decode cX7_readRule 44 = .ok (.bipush 45, 2) := by decide +kernel
theorem dX7_readRule_46 : decode cX7_readRule 46 = .ok (.if_icmp .eq 15, 3) := by decide +kernel
theorem dX7_readRule_49 : decode cX7_readRule 49 = .ok (.aload_n 0, 1) := by decide +kernel
theorem dX7_readRule_50 : decode cX7_readRule 50 = .ok (.iconst 1, 1) := by decide +kernel
theorem dX7_readRule_51 : decode cX7_readRule 51 = .ok (.aload_n 0, 1) := by decide +kernel
theorem dX7_readRule_52 : decode cX7_readRule 52 = .ok (.getfield 69, 3) := by decide +kernel
theorem dX7_readRule_55 : decode cX7_readRule 55 = .ok (.invokevirtual 83, 3) := by decide +kernel
theorem dX7_readRule_58 : decode cX7_readRule 58 = .ok (.goto 103, 3) := by decide +kernel
theorem dX7_readRule_61 : decode cX7_readRule 61 = .ok (.aload_n 0, 1) := by decide +kernel
theorem dX7_readRule_62 : decode cX7_readRule 62 = .ok (.getfield 103, 3) := by decide +kernel
theorem dX7_readRule_65 : decode cX7_readRule 65 = .ok (.sipush 256, 3) := by decide +kernel
theorem dX7_readRule_68 : decode cX7_readRule 68 = .ok (.if_icmp .ne 15, 3) := by decide +kernel
theorem dX7_readRule_71 : decode cX7_readRule 71 = .ok (.aload_n 0, 1) := by decide +kernel
theorem dX7_readRule_72 : decode cX7_readRule 72 = .ok (.iconst 3, 1) := by decide +kernel
theorem dX7_readRule_73 : decode cX7_readRule 73 = .ok (.aload_n 0, 1) := by decide +kernel
theorem dX7_readRule_74 : decode cX7_readRule 74 = .ok (.getfield 69, 3) := by decide +kernel
theorem dX7_readRule_77 : decode cX7_readRule 77 = .ok (.invokevirtual 83, 3) := by decide +kernel
theorem dX7_readRule_80 : decode cX7_readRule 80 = .ok (.goto 81, 3) := by decide +kernel
theorem dX7_readRule_83 : decode cX7_readRule 83 = .ok (.aload_n 0, 1) := by decide +kernel
theorem dX7_readRule_84 : decode cX7_readRule 84 = .ok (.getfield 20, 3) := by decide +kernel
theorem dX7_readRule_87 : decode cX7_readRule 87 = .ok (.iload_n 1, 1) := by decide +kernel
theorem dX7_readRule_88 : decode cX7_readRule 88 = .ok (.iload_n 2, 1) := by decide +kernel
theorem dX7_readRule_89 : decode cX7_readRule 89 = .ok (.ifCond .ne 7, 3) := by decide +kernel
theorem dX7_readRule_92 : decode cX7_readRule 92 = .ok (.iconst 0, 1) := by decide +kernel
theorem dX7_readRule_93 : decode cX7_readRule 93 = .ok (.goto 9, 3) := by decide +kernel
theorem dX7_readRule_96 : decode cX7_readRule 96 = .ok (.aload_n 0, 1) := by decide +kernel
theorem dX7_readRule_97 : decode cX7_readRule 97 = .ok (.getfield 20, 3) := by decide +kernel
theorem dX7_readRule_100 : decode cX7_readRule 100 = .ok (.iload_n 1, 1) := by decide +kernel
theorem dX7_readRule_101 : decode cX7_readRule 101 = .ok (.iaload, 1) := by decide +kernel
theorem dX7_readRule_102 : decode cX7_readRule 102 = .ok (.iload_n 3, 1) := by decide +kernel
theorem dX7_readRule_103 : decode cX7_readRule 103 = .ok (.bipush 89, 2) := by decide +kernel
theorem dX7_readRule_105 : decode cX7_readRule 105 = .ok (.if_icmp .ne 9, 3) := by decide +kernel
theorem dX7_readRule_108 : decode cX7_readRule 108 = .ok (.iconst 1, 1) := by decide +kernel
theorem dX7_readRule_109 : decode cX7_readRule 109 = .ok (.iload_n 2, 1) := by decide +kernel
theorem dX7_readRule_110 : decode cX7_readRule 110 = .ok (.ishl, 1) := by decide +kernel
theorem dX7_readRule_111 : decode cX7_readRule 111 = .ok (.goto 4, 3) := by decide +kernel
theorem dX7_readRule_114 : decode cX7_readRule 114 = .ok (.iconst 0, 1) := by decide +kernel
theorem dX7_readRule_115 : decode cX7_readRule 115 = .ok (.ior, 1) := by decide +kernel
theorem dX7_readRule_116 : decode cX7_readRule 116 = .ok (.iastore, 1) := by decide +kernel
theorem dX7_readRule_117 : decode cX7_readRule 117 = .ok (.aload_n 0, 1) := by decide +kernel
theorem dX7_readRule_118 : decode cX7_readRule 118 = .ok (.getfield 23, 3) := by decide +kernel
theorem dX7_readRule_121 : decode cX7_readRule 121 = .ok (.iload_n 1, 1) := by decide +kernel
theorem dX7_readRule_122 : decode cX7_readRule 122 = .ok (.iload_n 2, 1) := by decide +kernel
theorem dX7_readRule_123 : decode cX7_readRule 123 = .ok (.ifCond .ne 7, 3) := by decide +kernel
theorem dX7_readRule_126 : decode cX7_readRule 126 = .ok (.iconst 0, 1) := by decide +kernel
theorem dX7_readRule_127 : decode cX7_readRule 127 = .ok (.goto 9, 3) := by decide +kernel
theorem dX7_readRule_130 : decode cX7_readRule 130 = .ok (.aload_n 0, 1) := by decide +kernel
theorem dX7_readRule_131 : decode cX7_readRule 131 = .ok (.getfield 23, 3) := by decide +kernel
theorem dX7_readRule_134 : decode cX7_readRule 134 = .ok (.iload_n 1, 1) := by decide +kernel
theorem dX7_readRule_135 : decode cX7_readRule 135 = .ok (.iaload, 1) := by decide +kernel
theorem dX7_readRule_136 : decode cX7_readRule 136 = .ok (.iload_n 3, 1) := by decide +kernel
theorem dX7_readRule_137 : decode cX7_readRule 137 = .ok (.bipush 78, 2) := by decide +kernel
theorem dX7_readRule_139 : decode cX7_readRule 139 = .ok (.if_icmp .ne 9, 3) := by decide +kernel
theorem dX7_readRule_142 : decode cX7_readRule 142 = .ok (.iconst 1, 1) := by decide +kernel
theorem dX7_readRule_143 : decode cX7_readRule 143 = .ok (.iload_n 2, 1) := by decide +kernel
theorem dX7_readRule_144 : decode cX7_readRule 144 = .ok (.ishl, 1) := by decide +kernel
theorem dX7_readRule_145 : decode cX7_readRule 145 = .ok (.goto 4, 3) := by decide +kernel
theorem dX7_readRule_148 : decode cX7_readRule 148 = .ok (.iconst 0, 1) := by decide +kernel
theorem dX7_readRule_149 : decode cX7_readRule 149 = .ok (.ior, 1) := by decide +kernel
theorem dX7_readRule_150 : decode cX7_readRule 150 = .ok (.iastore, 1) := by decide +kernel
theorem dX7_readRule_151 : decode cX7_readRule 151 = .ok (.aload_n 0, 1) := by decide +kernel
theorem dX7_readRule_152 : decode cX7_readRule 152 = .ok (.dup, 1) := by decide +kernel
theorem dX7_readRule_153 : decode cX7_readRule 153 = .ok (.getfield 69, 3) := by decide +kernel
theorem dX7_readRule_156 : decode cX7_readRule 156 = .ok (.iconst 1, 1) := by decide +kernel
theorem dX7_readRule_157 : decode cX7_readRule 157 = .ok (.iadd, 1) := by decide +kernel
theorem dX7_readRule_158 : decode cX7_readRule 158 = .ok (.putfield 69, 3) := by decide +kernel
theorem dX7_readRule_161 : decode cX7_readRule 161 = .ok (.iinc 2 1, 3) := by decide +kernel
theorem dX7_readRule_164 : decode cX7_readRule 164 = .ok (.goto (-153), 3) := by decide +kernel
theorem dX7_readRule_167 : decode cX7_readRule 167 = .ok (.aload_n 0, 1) := by decide +kernel
theorem dX7_readRule_168 : decode cX7_readRule 168 = .ok (.bipush 100, 2) := by decide +kernel
theorem dX7_readRule_170 : decode cX7_readRule 170 = .ok (.bipush 111, 2) := by decide +kernel
theorem dX7_readRule_172 : decode cX7_readRule 172 = .ok (.invokevirtual 106, 3) := by decide +kernel
theorem dX7_readRule_175 : decode cX7_readRule 175 = .ok (.aload_n 0, 1) := by decide +kernel
theorem dX7_readRule_176 : decode cX7_readRule 176 = .ok (.getfield 72, 3) := by decide +kernel
theorem dX7_readRule_179 : decode cX7_readRule 179 = .ok (.ifCond .ne 10, 3) := by decide +kernel
theorem dX7_readRule_182 : decode cX7_readRule 182 = .ok (.aload_n 0, 1) := by decide +kernel
theorem dX7_readRule_183 : decode cX7_readRule 183 = .ok (.invokevirtual 90, 3) := by decide +kernel
theorem dX7_readRule_186 : decode cX7_readRule 186 = .ok (.goto 4, 3) := by decide +kernel
theorem dX7_readRule_189 : decode cX7_readRule 189 = .ok (.iconst 0, 1) := by decide +kernel
theorem dX7_readRule_190 : decode cX7_readRule 190 = .ok (.istore_n 2, 1) := by decide +kernel
theorem dX7_readRule_191 : decode cX7_readRule 191 = .ok (.aload_n 0, 1) := by decide +kernel
theorem dX7_readRule_192 : decode cX7_readRule 192 = .ok (.getfield 72, 3) := by decide +kernel
theorem dX7_readRule_195 : decode cX7_readRule 195 = .ok (.ifCond .ne 17, 3) := by decide +kernel
theorem dX7_readRule_198 : decode cX7_readRule 198 = .ok (.aload_n 0, 1) := by decide +kernel
theorem dX7_readRule_199 : decode cX7_readRule 199 = .ok (.bipush 96, 2) := by decide +kernel
theorem dX7_readRule_201 : decode cX7_readRule 201 = .ok (.aload_n 0, 1) := by decide +kernel
theorem dX7_readRule_202 : decode cX7_readRule 202 = .ok (.getfield 109, 3) := by decide +kernel
theorem dX7_readRule_205 : decode cX7_readRule 205 = .ok (.iload_n 2, 1) := by decide +kernel
theorem dX7_readRule_206 : decode cX7_readRule 206 = .ok (.invokevirtual 96, 3) := by decide +kernel
theorem dX7_readRule_209 : decode cX7_readRule 209 = .ok (.goto 4, 3) := by decide +kernel
theorem dX7_readRule_212 : decode cX7_readRule 212 = .ok (.iconst 0, 1) := by decide +kernel
theorem dX7_readRule_213 : decode cX7_readRule 213 = .ok (.istore_n 3, 1) := by decide +kernel
theorem dX7_readRule_214 : decode cX7_readRule 214 = .ok (.aload_n 0, 1) := by decide +kernel
theorem dX7_readRule_215 : decode cX7_readRule 215 = .ok (.getfield 72, 3) := by decide +kernel
theorem dX7_readRule_218 : decode cX7_readRule 218 = .ok (.ifCond .ne 55, 3) := by decide +kernel
theorem dX7_readRule_221 : decode cX7_readRule 221 = .ok (.iload_n 3, 1) := by decide +kernel
theorem dX7_readRule_222 : decode cX7_readRule 222 = .ok (.ifCond .ge 51, 3) := by decide +kernel
theorem dX7_readRule_225 : decode cX7_readRule 225 = .ok (.aload_n 0, 1) := by decide +kernel
theorem dX7_readRule_226 : decode cX7_readRule 226 = .ok (.getfield 109, 3) := by decide +kernel
theorem dX7_readRule_229 : decode cX7_readRule 229 = .ok (.bipush 64, 2) := by decide +kernel
theorem dX7_readRule_231 : decode cX7_readRule 231 = .ok (.if_icmp .ne 15, 3) := by decide +kernel
theorem dX7_readRule_234 : decode cX7_readRule 234 = .ok (.aload_n 0, 1) := by decide +kernel
theorem dX7_readRule_235 : decode cX7_readRule 235 = .ok (.iconst 3, 1) := by decide +kernel
theorem dX7_readRule_236 : decode cX7_readRule 236 = .ok (.aload_n 0, 1) := by decide +kernel
theorem dX7_readRule_237 : decode cX7_readRule 237 = .ok (.getfield 69, 3) := by decide +kernel
theorem dX7_readRule_240 : decode cX7_readRule 240 = .ok (.invokevirtual 83, 3) := by decide +kernel
theorem dX7_readRule_243 : decode cX7_readRule 243 = .ok (.goto 30, 3) := by decide +kernel
theorem dX7_readRule_246 : decode cX7_readRule 246 = .ok (.aload_n 0, 1) := by decide +kernel
theorem dX7_readRule_247 : decode cX7_readRule 247 = .ok (.bipush 96, 2) := by decide +kernel
theorem dX7_readRule_249 : decode cX7_readRule 249 = .ok (.aload_n 0, 1) := by decide +kernel
theorem dX7_readRule_250 : decode cX7_readRule 250 = .ok (.getfield 109, 3) := by decide +kernel
theorem dX7_readRule_253 : decode cX7_readRule 253 = .ok (.iadd, 1) := by decide +kernel
theorem dX7_readRule_254 : decode cX7_readRule 254 = .ok (.iload_n 2, 1) := by decide +kernel
theorem dX7_readRule_255 : decode cX7_readRule 255 = .ok (.invokevirtual 100, 3) := by decide +kernel
theorem dX7_readRule_258 : decode cX7_readRule 258 = .ok (.aload_n 0, 1) := by decide +kernel
theorem dX7_readRule_259 : decode cX7_readRule 259 = .ok (.getfield 109, 3) := by decide +kernel
theorem dX7_readRule_262 : decode cX7_readRule 262 = .ok (.istore_n 3, 1) := by decide +kernel
theorem dX7_readRule_263 : decode cX7_readRule 263 = .ok (.aload_n 0, 1) := by decide +kernel
theorem dX7_readRule_264 : decode cX7_readRule 264 = .ok (.dup, 1) := by decide +kernel
theorem dX7_readRule_265 : decode cX7_readRule 265 = .ok (.getfield 109, 3) := by decide +kernel
theorem dX7_readRule_268 : decode cX7_readRule 268 = .ok (.iconst 1, 1) := by decide +kernel
theorem dX7_readRule_269 : decode cX7_readRule 269 = .ok (.iadd, 1) := by decide +kernel
theorem dX7_readRule_270 : decode cX7_readRule 270 = .ok (.putfield 109, 3) := by decide +kernel
theorem dX7_readRule_273 : decode cX7_readRule 273 = .ok (.aload_n 0, 1) := by decide +kernel
theorem dX7_readRule_274 : decode cX7_readRule 274 = .ok (.aload_n 0, 1) := by decide +kernel
theorem dX7_readRule_275 : decode cX7_readRule 275 = .ok (.getfield 72, 3) := by decide +kernel
theorem dX7_readRule_278 : decode cX7_readRule 278 = .ok (.ifCond .ne 7, 3) := by decide +kernel
theorem dX7_readRule_281 : decode cX7_readRule 281 = .ok (.iload_n 2, 1) := by decide +kernel
theorem dX7_readRule_282 : decode cX7_readRule 282 = .ok (.goto 7, 3) := by decide +kernel
theorem dX7_readRule_285 : decode cX7_readRule 285 = .ok (.aload_n 0, 1) := by decide +kernel
theorem dX7_readRule_286 : decode cX7_readRule 286 = .ok (.getfield 69, 3) := by decide +kernel
theorem dX7_readRule_289 : decode cX7_readRule 289 = .ok (.putfield 69, 3) := by decide +kernel
theorem dX7_readRule_292 : decode cX7_readRule 292 = .ok (.aload_n 0, 1) := by decide +kernel
theorem dX7_readRule_293 : decode cX7_readRule 293 = .ok (.bipush 59, 2) := by decide +kernel
theorem dX7_readRule_295 : decode cX7_readRule 295 = .ok (.invokevirtual 112, 3) := by decide +kernel
theorem dX7_readRule_298 : decode cX7_readRule 298 = .ok (.aload_n 0, 1) := by decide +kernel
theorem dX7_readRule_299 : decode cX7_readRule 299 = .ok (.getfield 72, 3) := by decide +kernel
theorem dX7_readRule_302 : decode cX7_readRule 302 = .ok (.ifCond .ne 20, 3) := by decide +kernel
theorem dX7_readRule_305 : decode cX7_readRule 305 = .ok (.aload_n 0, 1) := by decide +kernel
theorem dX7_readRule_306 : decode cX7_readRule 306 = .ok (.getfield 26, 3) := by decide +kernel
theorem dX7_readRule_309 : decode cX7_readRule 309 = .ok (.iload_n 1, 1) := by decide +kernel
theorem dX7_readRule_310 : decode cX7_readRule 310 = .ok (.iload_n 3, 1) := by decide +kernel
theorem dX7_readRule_311 : decode cX7_readRule 311 = .ok (.iastore, 1) := by decide +kernel
theorem dX7_readRule_312 : decode cX7_readRule 312 = .ok (.aload_n 0, 1) := by decide +kernel
theorem dX7_readRule_313 : decode cX7_readRule 313 = .ok (.dup, 1) := by decide +kernel
theorem dX7_readRule_314 : decode cX7_readRule 314 = .ok (.getfield 103, 3) := by decide +kernel
theorem dX7_readRule_317 : decode cX7_readRule 317 = .ok (.iconst 1, 1) := by decide +kernel
theorem dX7_readRule_318 : decode cX7_readRule 318 = .ok (.iadd, 1) := by decide +kernel
theorem dX7_readRule_319 : decode cX7_readRule 319 = .ok (.putfield 103, 3) := by decide +kernel
theorem dX7_readRule_322 : decode cX7_readRule 322 = .ok (.return_, 1) := by decide +kernel
theorem dX7_take_0 : decode cX7_take 0 = .ok (.aload_n 0, 1) := by decide +kernel
theorem dX7_take_1 : decode cX7_take 1 = .ok (.aload_n 0, 1) := by decide +kernel
theorem dX7_take_2 : decode cX7_take 2 = .ok (.getfield 93, 3) := by decide +kernel
theorem dX7_take_5 : decode cX7_take 5 = .ok (.putfield 116, 3) := by decide +kernel
theorem dX7_take_8 : decode cX7_take 8 = .ok (.aload_n 0, 1) := by decide +kernel
theorem dX7_take_9 : decode cX7_take 9 = .ok (.aload_n 0, 1) := by decide +kernel
theorem dX7_take_10 : decode cX7_take 10 = .ok (.getfield 103, 3) := by decide +kernel
theorem dX7_take_13 : decode cX7_take 13 = .ok (.putfield 119, 3) := by decide +kernel
theorem dX7_take_16 : decode cX7_take 16 = .ok (.aload_n 0, 1) := by decide +kernel
theorem dX7_take_17 : decode cX7_take 17 = .ok (.aload_n 0, 1) := by decide +kernel
theorem dX7_take_18 : decode cX7_take 18 = .ok (.getfield 109, 3) := by decide +kernel
theorem dX7_take_21 : decode cX7_take 21 = .ok (.putfield 122, 3) := by decide +kernel
theorem dX7_take_24 : decode cX7_take 24 = .ok (.iconst 0, 1) := by decide +kernel
theorem dX7_take_25 : decode cX7_take 25 = .ok (.istore_n 1, 1) := by decide +kernel
theorem dX7_take_26 : decode cX7_take 26 = .ok (.iload_n 1, 1) := by decide +kernel
theorem dX7_take_27 : decode cX7_take 27 = .ok (.bipush 80, 2) := by decide +kernel
theorem dX7_take_29 : decode cX7_take 29 = .ok (.if_icmp .ge 24, 3) := by decide +kernel
theorem dX7_take_32 : decode cX7_take 32 = .ok (.aload_n 0, 1) := by decide +kernel
theorem dX7_take_33 : decode cX7_take 33 = .ok (.getfield 16, 3) := by decide +kernel
theorem dX7_take_36 : decode cX7_take 36 = .ok (.iload_n 1, 1) := by decide +kernel
theorem dX7_take_37 : decode cX7_take 37 = .ok (.aload_n 0, 1) := by decide +kernel
theorem dX7_take_38 : decode cX7_take 38 = .ok (.getfield 16, 3) := by decide +kernel
theorem dX7_take_41 : decode cX7_take 41 = .ok (.bipush 80, 2) := by decide +kernel
theorem dX7_take_43 : decode cX7_take 43 = .ok (.iload_n 1, 1) := by decide +kernel
theorem dX7_take_44 : decode cX7_take 44 = .ok (.iadd, 1) := by decide +kernel
theorem dX7_take_45 : decode cX7_take 45 = .ok (.iaload, 1) := by decide +kernel
theorem dX7_take_46 : decode cX7_take 46 = .ok (.iastore, 1) := by decide +kernel
theorem dX7_take_47 : decode cX7_take 47 = .ok (.iinc 1 1, 3) := by decide +kernel
theorem dX7_take_50 : decode cX7_take 50 = .ok (.goto (-24), 3) := by decide +kernel
theorem dX7_take_53 : decode cX7_take 53 = .ok (.iconst 0, 1) := by decide +kernel
theorem dX7_take_54 : decode cX7_take 54 = .ok (.istore_n 1, 1) := by decide +kernel
theorem dX7_take_55 : decode cX7_take 55 = .ok (.iload_n 1, 1) := by decide +kernel
theorem dX7_take_56 : decode cX7_take 56 = .ok (.sipush 800, 3) := by decide +kernel
theorem dX7_take_59 : decode cX7_take 59 = .ok (.if_icmp .ge 25, 3) := by decide +kernel
theorem dX7_take_62 : decode cX7_take 62 = .ok (.aload_n 0, 1) := by decide +kernel
theorem dX7_take_63 : decode cX7_take 63 = .ok (.getfield 13, 3) := by decide +kernel
theorem dX7_take_66 : decode cX7_take 66 = .ok (.iload_n 1, 1) := by decide +kernel
theorem dX7_take_67 : decode cX7_take 67 = .ok (.aload_n 0, 1) := by decide +kernel
theorem dX7_take_68 : decode cX7_take 68 = .ok (.getfield 13, 3) := by decide +kernel
theorem dX7_take_71 : decode cX7_take 71 = .ok (.sipush 800, 3) := by decide +kernel
theorem dX7_take_74 : decode cX7_take 74 = .ok (.iload_n 1, 1) := by decide +kernel
theorem dX7_take_75 : decode cX7_take 75 = .ok (.iadd, 1) := by decide +kernel
theorem dX7_take_76 : decode cX7_take 76 = .ok (.baload, 1) := by decide +kernel
theorem dX7_take_77 : decode cX7_take 77 = .ok (.bastore, 1) := by decide +kernel
theorem dX7_take_78 : decode cX7_take 78 = .ok (.iinc 1 1, 3) := by decide +kernel
theorem dX7_take_81 : decode cX7_take 81 = .ok (.goto (-26), 3) := by decide +kernel
theorem dX7_take_84 : decode cX7_take 84 = .ok (.iconst 0, 1) := by decide +kernel
theorem dX7_take_85 : decode cX7_take 85 = .ok (.istore_n 1, 1) := by decide +kernel
theorem dX7_take_86 : decode cX7_take 86 = .ok (.iload_n 1, 1) := by decide +kernel
theorem dX7_take_87 : decode cX7_take 87 = .ok (.aload_n 0, 1) := by decide +kernel
theorem dX7_take_88 : decode cX7_take 88 = .ok (.getfield 119, 3) := by decide +kernel
theorem dX7_take_91 : decode cX7_take 91 = .ok (.if_icmp .ge 57, 3) := by decide +kernel
theorem dX7_take_94 : decode cX7_take 94 = .ok (.aload_n 0, 1) := by decide +kernel
theorem dX7_take_95 : decode cX7_take 95 = .ok (.getfield 20, 3) := by decide +kernel
theorem dX7_take_98 : decode cX7_take 98 = .ok (.iload_n 1, 1) := by decide +kernel
theorem dX7_take_99 : decode cX7_take 99 = .ok (.aload_n 0, 1) := by decide +kernel
theorem dX7_take_100 : decode cX7_take 100 = .ok (.getfield 20, 3) := by decide +kernel
theorem dX7_take_103 : decode cX7_take 103 = .ok (.sipush 256, 3) := by decide +kernel
theorem dX7_take_106 : decode cX7_take 106 = .ok (.iload_n 1, 1) := by decide +kernel
theorem dX7_take_107 : decode cX7_take 107 = .ok (.iadd, 1) := by decide +kernel
theorem dX7_take_108 : decode cX7_take 108 = .ok (.iaload, 1) := by decide +kernel
theorem dX7_take_109 : decode cX7_take 109 = .ok (.iastore, 1) := by decide +kernel
theorem dX7_take_110 : decode cX7_take 110 = .ok (.aload_n 0, 1) := by decide +kernel
theorem dX7_take_111 : decode cX7_take 111 = .ok (.getfield 23, 3) := by decide +kernel
theorem dX7_take_114 : decode cX7_take 114 = .ok (.iload_n 1, 1) := by decide +kernel
theorem dX7_take_115 : decode cX7_take 115 = .ok (.aload_n 0, 1) := by decide +kernel
theorem dX7_take_116 : decode cX7_take 116 = .ok (.getfield 23, 3) := by decide +kernel
theorem dX7_take_119 : decode cX7_take 119 = .ok (.sipush 256, 3) := by decide +kernel
theorem dX7_take_122 : decode cX7_take 122 = .ok (.iload_n 1, 1) := by decide +kernel
theorem dX7_take_123 : decode cX7_take 123 = .ok (.iadd, 1) := by decide +kernel
theorem dX7_take_124 : decode cX7_take 124 = .ok (.iaload, 1) := by decide +kernel
theorem dX7_take_125 : decode cX7_take 125 = .ok (.iastore, 1) := by decide +kernel
theorem dX7_take_126 : decode cX7_take 126 = .ok (.aload_n 0, 1) := by decide +kernel
theorem dX7_take_127 : decode cX7_take 127 = .ok (.getfield 26, 3) := by decide +kernel
theorem dX7_take_130 : decode cX7_take 130 = .ok (.iload_n 1, 1) := by decide +kernel
theorem dX7_take_131 : decode cX7_take 131 = .ok (.aload_n 0, 1) := by decide +kernel
theorem dX7_take_132 : decode cX7_take 132 = .ok (.getfield 26, 3) := by decide +kernel
theorem dX7_take_135 : decode cX7_take 135 = .ok (.sipush 256, 3) := by decide +kernel
theorem dX7_take_138 : decode cX7_take 138 = .ok (.iload_n 1, 1) := by decide +kernel
theorem dX7_take_139 : decode cX7_take 139 = .ok (.iadd, 1) := by decide +kernel
theorem dX7_take_140 : decode cX7_take 140 = .ok (.iaload, 1) := by decide +kernel
theorem dX7_take_141 : decode cX7_take 141 = .ok (.iastore, 1) := by decide +kernel
theorem dX7_take_142 : decode cX7_take 142 = .ok (.iinc 1 1, 3) := by decide +kernel
theorem dX7_take_145 : decode cX7_take 145 = .ok (.goto (-59), 3) := by decide +kernel
theorem dX7_take_148 : decode cX7_take 148 = .ok (.aload_n 0, 1) := by decide +kernel
theorem dX7_take_149 : decode cX7_take 149 = .ok (.iconst 1, 1) := by decide +kernel
theorem dX7_take_150 : decode cX7_take 150 = .ok (.putfield 125, 3) := by decide +kernel
theorem dX7_take_153 : decode cX7_take 153 = .ok (.return_, 1) := by decide +kernel
theorem dX7_read_0 : decode cX7_read 0 = .ok (.aload_n 0, 1) := by decide +kernel
theorem dX7_read_1 : decode cX7_read 1 = .ok (.iconst 0, 1) := by decide +kernel
theorem dX7_read_2 : decode cX7_read 2 = .ok (.putfield 62, 3) := by decide +kernel
theorem dX7_read_5 : decode cX7_read 5 = .ok (.aload_n 0, 1) := by decide +kernel
theorem dX7_read_6 : decode cX7_read 6 = .ok (.iconst 0, 1) := by decide +kernel
theorem dX7_read_7 : decode cX7_read 7 = .ok (.putfield 69, 3) := by decide +kernel
theorem dX7_read_10 : decode cX7_read 10 = .ok (.aload_n 0, 1) := by decide +kernel
theorem dX7_read_11 : decode cX7_read 11 = .ok (.iconst 0, 1) := by decide +kernel
theorem dX7_read_12 : decode cX7_read 12 = .ok (.putfield 72, 3) := by decide +kernel
theorem dX7_read_15 : decode cX7_read 15 = .ok (.aload_n 0, 1) := by decide +kernel
theorem dX7_read_16 : decode cX7_read 16 = .ok (.iconst 0, 1) := by decide +kernel
theorem dX7_read_17 : decode cX7_read 17 = .ok (.putfield 93, 3) := by decide +kernel
theorem dX7_read_20 : decode cX7_read 20 = .ok (.aload_n 0, 1) := by decide +kernel
theorem dX7_read_21 : decode cX7_read 21 = .ok (.iconst 0, 1) := by decide +kernel
theorem dX7_read_22 : decode cX7_read 22 = .ok (.putfield 103, 3) := by decide +kernel
theorem dX7_read_25 : decode cX7_read 25 = .ok (.aload_n 0, 1) := by decide +kernel
theorem dX7_read_26 : decode cX7_read 26 = .ok (.iconst 0, 1) := by decide +kernel
theorem dX7_read_27 : decode cX7_read 27 = .ok (.putfield 109, 3) := by decide +kernel
theorem dX7_read_30 : decode cX7_read 30 = .ok (.aload_n 0, 1) := by decide +kernel
theorem dX7_read_31 : decode cX7_read 31 = .ok (.bipush 105, 2) := by decide +kernel
theorem dX7_read_33 : decode cX7_read 33 = .ok (.bipush 102, 2) := by decide +kernel
theorem dX7_read_35 : decode cX7_read 35 = .ok (.invokevirtual 106, 3) := by decide +kernel
theorem dX7_read_38 : decode cX7_read 38 = .ok (.aload_n 0, 1) := by decide +kernel
theorem dX7_read_39 : decode cX7_read 39 = .ok (.getfield 72, 3) := by decide +kernel
theorem dX7_read_42 : decode cX7_read 42 = .ok (.ifCond .ne 7, 3) := by decide +kernel
theorem dX7_read_45 : decode cX7_read 45 = .ok (.aload_n 0, 1) := by decide +kernel
theorem dX7_read_46 : decode cX7_read 46 = .ok (.invokevirtual 129, 3) := by decide +kernel
theorem dX7_read_49 : decode cX7_read 49 = .ok (.aload_n 0, 1) := by decide +kernel
theorem dX7_read_50 : decode cX7_read 50 = .ok (.getfield 72, 3) := by decide +kernel
theorem dX7_read_53 : decode cX7_read 53 = .ok (.ifCond .ne 29, 3) := by decide +kernel
theorem dX7_read_56 : decode cX7_read 56 = .ok (.aload_n 0, 1) := by decide +kernel
theorem dX7_read_57 : decode cX7_read 57 = .ok (.invokevirtual 75, 3) := by decide +kernel
theorem dX7_read_60 : decode cX7_read 60 = .ok (.bipush 44, 2) := by decide +kernel
theorem dX7_read_62 : decode cX7_read 62 = .ok (.if_icmp .ne 20, 3) := by decide +kernel
theorem dX7_read_65 : decode cX7_read 65 = .ok (.aload_n 0, 1) := by decide +kernel
theorem dX7_read_66 : decode cX7_read 66 = .ok (.dup, 1) := by decide +kernel
theorem dX7_read_67 : decode cX7_read 67 = .ok (.getfield 69, 3) := by decide +kernel
theorem dX7_read_70 : decode cX7_read 70 = .ok (.iconst 1, 1) := by decide +kernel
theorem dX7_read_71 : decode cX7_read 71 = .ok (.iadd, 1) := by decide +kernel
theorem dX7_read_72 : decode cX7_read 72 = .ok (.putfield 69, 3) := by decide +kernel
theorem dX7_read_75 : decode cX7_read 75 = .ok (.aload_n 0, 1) := by decide +kernel
theorem dX7_read_76 : decode cX7_read 76 = .ok (.invokevirtual 129, 3) := by decide +kernel
theorem dX7_read_79 : decode cX7_read 79 = .ok (.goto (-30), 3) := by decide +kernel
theorem dX7_read_82 : decode cX7_read 82 = .ok (.aload_n 0, 1) := by decide +kernel
theorem dX7_read_83 : decode cX7_read 83 = .ok (.bipush 59, 2) := by decide +kernel
theorem dX7_read_85 : decode cX7_read 85 = .ok (.invokevirtual 112, 3) := by decide +kernel
theorem dX7_read_88 : decode cX7_read 88 = .ok (.aload_n 0, 1) := by decide +kernel
theorem dX7_read_89 : decode cX7_read 89 = .ok (.getfield 72, 3) := by decide +kernel
theorem dX7_read_92 : decode cX7_read 92 = .ok (.ifCond .ne 7, 3) := by decide +kernel
theorem dX7_read_95 : decode cX7_read 95 = .ok (.aload_n 0, 1) := by decide +kernel
theorem dX7_read_96 : decode cX7_read 96 = .ok (.invokevirtual 132, 3) := by decide +kernel
theorem dX7_read_99 : decode cX7_read 99 = .ok (.aload_n 0, 1) := by decide +kernel
theorem dX7_read_100 : decode cX7_read 100 = .ok (.getfield 72, 3) := by decide +kernel
theorem dX7_read_103 : decode cX7_read 103 = .ok (.ifCond .ne 18, 3) := by decide +kernel
theorem dX7_read_106 : decode cX7_read 106 = .ok (.aload_n 0, 1) := by decide +kernel
theorem dX7_read_107 : decode cX7_read 107 = .ok (.invokevirtual 75, 3) := by decide +kernel
theorem dX7_read_110 : decode cX7_read 110 = .ok (.iconst (-1), 1) := by decide +kernel
theorem dX7_read_111 : decode cX7_read 111 = .ok (.if_icmp .eq 10, 3) := by decide +kernel
theorem dX7_read_114 : decode cX7_read 114 = .ok (.aload_n 0, 1) := by decide +kernel
theorem dX7_read_115 : decode cX7_read 115 = .ok (.invokevirtual 132, 3) := by decide +kernel
theorem dX7_read_118 : decode cX7_read 118 = .ok (.goto (-19), 3) := by decide +kernel
theorem dX7_read_121 : decode cX7_read 121 = .ok (.aload_n 0, 1) := by decide +kernel
theorem dX7_read_122 : decode cX7_read 122 = .ok (.iconst 0, 1) := by decide +kernel
theorem dX7_read_123 : decode cX7_read 123 = .ok (.putfield 66, 3) := by decide +kernel
theorem dX7_read_126 : decode cX7_read 126 = .ok (.aload_n 0, 1) := by decide +kernel
theorem dX7_read_127 : decode cX7_read 127 = .ok (.getfield 72, 3) := by decide +kernel
theorem dX7_read_130 : decode cX7_read 130 = .ok (.ifCond .le 10, 3) := by decide +kernel
theorem dX7_read_133 : decode cX7_read 133 = .ok (.iconst (-1), 1) := by decide +kernel
theorem dX7_read_134 : decode cX7_read 134 = .ok (.aload_n 0, 1) := by decide +kernel
theorem dX7_read_135 : decode cX7_read 135 = .ok (.getfield 69, 3) := by decide +kernel
theorem dX7_read_138 : decode cX7_read 138 = .ok (.isub, 1) := by decide +kernel
theorem dX7_read_139 : decode cX7_read 139 = .ok (.ireturn, 1) := by decide +kernel
theorem dX7_read_140 : decode cX7_read 140 = .ok (.aload_n 0, 1) := by decide +kernel
theorem dX7_read_141 : decode cX7_read 141 = .ok (.invokevirtual 135, 3) := by decide +kernel
theorem dX7_read_144 : decode cX7_read 144 = .ok (.aload_n 0, 1) := by decide +kernel
theorem dX7_read_145 : decode cX7_read 145 = .ok (.invokevirtual 138, 3) := by decide +kernel
theorem dX7_read_148 : decode cX7_read 148 = .ok (.ireturn, 1) := by decide +kernel
theorem dX7_fault_0 : decode cX7_fault 0 = .ok (.aload_n 0, 1) := by decide +kernel
theorem dX7_fault_1 : decode cX7_fault 1 = .ok (.iconst 0, 1) := by decide +kernel
theorem dX7_fault_2 : decode cX7_fault 2 = .ok (.putfield 62, 3) := by decide +kernel
theorem dX7_fault_5 : decode cX7_fault 5 = .ok (.aload_n 0, 1) := by decide +kernel
theorem dX7_fault_6 : decode cX7_fault 6 = .ok (.getfield 72, 3) := by decide +kernel
theorem dX7_fault_9 : decode cX7_fault 9 = .ok (.ireturn, 1) := by decide +kernel
theorem dX7_allCases_0 : decode cX7_allCases 0 = .ok (.iconst 1, 1) := by decide +kernel
theorem dX7_allCases_1 : decode cX7_allCases 1 = .ok (.aload_n 0, 1) := by decide +kernel
theorem dX7_allCases_2 : decode cX7_allCases 2 = .ok (.getfield 116, 3) := by decide +kernel
theorem dX7_allCases_5 : decode cX7_allCases 5 = .ok (.ishl, 1) := by decide +kernel
theorem dX7_allCases_6 : decode cX7_allCases 6 = .ok (.ireturn, 1) := by decide +kernel
theorem dX7_isMet_0 : decode cX7_isMet 0 = .ok (.iload_n 2, 1) := by decide +kernel
theorem dX7_isMet_1 : decode cX7_isMet 1 = .ok (.aload_n 0, 1) := by decide +kernel
theorem dX7_isMet_2 : decode cX7_isMet 2 = .ok (.getfield 20, 3) := by decide +kernel
theorem dX7_isMet_5 : decode cX7_isMet 5 = .ok (.iload_n 1, 1) := by decide +kernel
theorem dX7_isMet_6 : decode cX7_isMet 6 = .ok (.iaload, 1) := by decide +kernel
theorem dX7_isMet_7 : decode cX7_isMet 7 = .ok (.iand, 1) := by decide +kernel
theorem dX7_isMet_8 : decode cX7_isMet 8 = .ok (.aload_n 0, 1) := by decide +kernel
theorem dX7_isMet_9 : decode cX7_isMet 9 = .ok (.getfield 20, 3) := by decide +kernel
theorem dX7_isMet_12 : decode cX7_isMet 12 = .ok (.iload_n 1, 1) := by decide +kernel
theorem dX7_isMet_13 : decode cX7_isMet 13 = .ok (.iaload, 1) := by decide +kernel
theorem dX7_isMet_14 : decode cX7_isMet 14 = .ok (.if_icmp .ne 18, 3) := by decide +kernel
theorem dX7_isMet_17 : decode cX7_isMet 17 = .ok (.iload_n 2, 1) := by decide +kernel
theorem dX7_isMet_18 : decode cX7_isMet 18 = .ok (.aload_n 0, 1) := by decide +kernel
theorem dX7_isMet_19 : decode cX7_isMet 19 = .ok (.getfield 23, 3) := by decide +kernel
theorem dX7_isMet_22 : decode cX7_isMet 22 = .ok (.iload_n 1, 1) := by decide +kernel
theorem dX7_isMet_23 : decode cX7_isMet 23 = .ok (.iaload, 1) := by decide +kernel
theorem dX7_isMet_24 : decode cX7_isMet 24 = .ok (.iand, 1) := by decide +kernel
theorem dX7_isMet_25 : decode cX7_isMet 25 = .ok (.ifCond .ne 7, 3) := by decide +kernel
theorem dX7_isMet_28 : decode cX7_isMet 28 = .ok (.iconst 1, 1) := by decide +kernel
theorem dX7_isMet_29 : decode cX7_isMet 29 = .ok (.goto 4, 3) := by decide +kernel
theorem dX7_isMet_32 : decode cX7_isMet 32 = .ok (.iconst 0, 1) := by decide +kernel
theorem dX7_isMet_33 : decode cX7_isMet 33 = .ok (.ireturn, 1) := by decide +kernel
theorem dX7_firstMet_0 : decode cX7_firstMet 0 = .ok (.iconst 0, 1) := by decide +kernel
theorem dX7_firstMet_1 : decode cX7_firstMet 1 = .ok (.istore_n 2, 1) := by decide +kernel
theorem dX7_firstMet_2 : decode cX7_firstMet 2 = .ok (.iload_n 2, 1) := by decide +kernel
theorem dX7_firstMet_3 : decode cX7_firstMet 3 = .ok (.aload_n 0, 1) := by decide +kernel
theorem dX7_firstMet_4 : decode cX7_firstMet 4 = .ok (.getfield 119, 3) := by decide +kernel
theorem dX7_firstMet_7 : decode cX7_firstMet 7 = .ok (.if_icmp .ge 18, 3) := by decide +kernel
theorem dX7_firstMet_10 : decode cX7_firstMet 10 = .ok (.aload_n 0, 1) := by decide +kernel
theorem dX7_firstMet_11 : decode cX7_firstMet 11 = .ok (.iload_n 2, 1) := by decide +kernel
theorem dX7_firstMet_12 : decode cX7_firstMet 12 = .ok (.iload_n 1, 1) := by decide +kernel
theorem dX7_firstMet_13 : decode cX7_firstMet 13 = .ok (.invokevirtual 141, 3) := by decide +kernel
theorem dX7_firstMet_16 : decode cX7_firstMet 16 = .ok (.ifCond .ne 9, 3) := by decide +kernel
theorem dX7_firstMet_19 : decode cX7_firstMet 19 = .ok (.iinc 2 1, 3) := by decide +kernel
theorem dX7_firstMet_22 : decode cX7_firstMet 22 = .ok (.goto (-20), 3) := by decide +kernel
theorem dX7_firstMet_25 : decode cX7_firstMet 25 = .ok (.iload_n 2, 1) := by decide +kernel
theorem dX7_firstMet_26 : decode cX7_firstMet 26 = .ok (.aload_n 0, 1) := by decide +kernel
theorem dX7_firstMet_27 : decode cX7_firstMet 27 = .ok (.getfield 119, 3) := by decide +kernel
theorem dX7_firstMet_30 : decode cX7_firstMet 30 = .ok (.if_icmp .ge 7, 3) := by decide +kernel
theorem dX7_firstMet_33 : decode cX7_firstMet 33 = .ok (.iload_n 2, 1) := by decide +kernel
theorem dX7_firstMet_34 : decode cX7_firstMet 34 = .ok (.goto 4, 3) := by decide +kernel
theorem dX7_firstMet_37 : decode cX7_firstMet 37 = .ok (.iconst (-1), 1) := by decide +kernel
theorem dX7_firstMet_38 : decode cX7_firstMet 38 = .ok (.ireturn, 1) := by decide +kernel
theorem dX7_judge_0 : decode cX7_judge 0 = .ok (.aload_n 0, 1) := by decide +kernel
theorem dX7_judge_1 : decode cX7_judge 1 = .ok (.iconst (-1), 1) := by decide +kernel
theorem dX7_judge_2 : decode cX7_judge 2 = .ok (.putfield 145, 3) := by decide +kernel
theorem dX7_judge_5 : decode cX7_judge 5 = .ok (.aload_n 0, 1) := by decide +kernel
theorem dX7_judge_6 : decode cX7_judge 6 = .ok (.iconst (-1), 1) := by decide +kernel
theorem dX7_judge_7 : decode cX7_judge 7 = .ok (.putfield 148, 3) := by decide +kernel
theorem dX7_judge_10 : decode cX7_judge 10 = .ok (.aload_n 0, 1) := by decide +kernel
theorem dX7_judge_11 : decode cX7_judge 11 = .ok (.iconst (-1), 1) := by decide +kernel
theorem dX7_judge_12 : decode cX7_judge 12 = .ok (.putfield 151, 3) := by decide +kernel
theorem dX7_judge_15 : decode cX7_judge 15 = .ok (.aload_n 0, 1) := by decide +kernel
theorem dX7_judge_16 : decode cX7_judge 16 = .ok (.iconst 0, 1) := by decide +kernel
theorem dX7_judge_17 : decode cX7_judge 17 = .ok (.putfield 154, 3) := by decide +kernel
theorem dX7_judge_20 : decode cX7_judge 20 = .ok (.aload_n 0, 1) := by decide +kernel
theorem dX7_judge_21 : decode cX7_judge 21 = .ok (.iconst 0, 1) := by decide +kernel
theorem dX7_judge_22 : decode cX7_judge 22 = .ok (.putfield 157, 3) := by decide +kernel
theorem dX7_judge_25 : decode cX7_judge 25 = .ok (.aload_n 0, 1) := by decide +kernel
theorem dX7_judge_26 : decode cX7_judge 26 = .ok (.iconst 0, 1) := by decide +kernel
theorem dX7_judge_27 : decode cX7_judge 27 = .ok (.putfield 160, 3) := by decide +kernel
theorem dX7_judge_30 : decode cX7_judge 30 = .ok (.iconst 0, 1) := by decide +kernel
theorem dX7_judge_31 : decode cX7_judge 31 = .ok (.istore_n 1, 1) := by decide +kernel
theorem dX7_judge_32 : decode cX7_judge 32 = .ok (.iload_n 1, 1) := by decide +kernel
theorem dX7_judge_33 : decode cX7_judge 33 = .ok (.aload_n 0, 1) := by decide +kernel
theorem dX7_judge_34 : decode cX7_judge 34 = .ok (.getfield 119, 3) := by decide +kernel
theorem dX7_judge_37 : decode cX7_judge 37 = .ok (.if_icmp .ge 103, 3) := by decide +kernel
theorem dX7_judge_40 : decode cX7_judge 40 = .ok (.iload_n 1, 1) := by decide +kernel
theorem dX7_judge_41 : decode cX7_judge 41 = .ok (.iconst 1, 1) := by decide +kernel
theorem dX7_judge_42 : decode cX7_judge 42 = .ok (.iadd, 1) := by decide +kernel
theorem dX7_judge_43 : decode cX7_judge 43 = .ok (.istore_n 2, 1) := by decide +kernel
theorem dX7_judge_44 : decode cX7_judge 44 = .ok (.iload_n 2, 1) := by decide +kernel
theorem dX7_judge_45 : decode cX7_judge 45 = .ok (.aload_n 0, 1) := by decide +kernel
theorem dX7_judge_46 : decode cX7_judge 46 = .ok (.getfield 119, 3) := by decide +kernel
theorem dX7_judge_49 : decode cX7_judge 49 = .ok (.if_icmp .ge 85, 3) := by decide +kernel
theorem dX7_judge_52 : decode cX7_judge 52 = .ok (.aload_n 0, 1) := by decide +kernel
theorem dX7_judge_53 : decode cX7_judge 53 = .ok (.getfield 26, 3) := by decide +kernel
theorem dX7_judge_56 : decode cX7_judge 56 = .ok (.iload_n 1, 1) := by decide +kernel
theorem dX7_judge_57 : decode cX7_judge 57 = .ok (.iaload, 1) := by decide +kernel
theorem dX7_judge_58 : decode cX7_judge 58 = .ok (.aload_n 0, 1) := by decide +kernel
theorem dX7_judge_59 : decode cX7_judge 59 = .ok (.getfield 26, 3) := by decide +kernel
theorem dX7_judge_62 : decode cX7_judge 62 = .ok (.iload_n 2, 1) := by decide +kernel
theorem dX7_judge_63 : decode cX7_judge 63 = .ok (.iaload, 1) := by decide +kernel
theorem dX7_judge_64 : decode cX7_judge 64 = .ok (.if_icmp .eq 64, 3) := by decide +kernel
theorem dX7_judge_67 : decode cX7_judge 67 = .ok (.aload_n 0, 1) := by decide +kernel
theorem dX7_judge_68 : decode cX7_judge 68 = .ok (.getfield 20, 3) := by decide +kernel
theorem dX7_judge_71 : decode cX7_judge 71 = .ok (.iload_n 1, 1) := by decide +kernel
theorem dX7_judge_72 : decode cX7_judge 72 = .ok (.iaload, 1) := by decide +kernel
theorem dX7_judge_73 : decode cX7_judge 73 = .ok (.aload_n 0, 1) := by decide +kernel
theorem dX7_judge_74 : decode cX7_judge 74 = .ok (.getfield 23, 3) := by decide +kernel
theorem dX7_judge_77 : decode cX7_judge 77 = .ok (.iload_n 2, 1) := by decide +kernel
theorem dX7_judge_78 : decode cX7_judge 78 = .ok (.iaload, 1) := by decide +kernel
theorem dX7_judge_79 : decode cX7_judge 79 = .ok (.iand, 1) := by decide +kernel
theorem dX7_judge_80 : decode cX7_judge 80 = .ok (.ifCond .ne 48, 3) := by decide +kernel
theorem dX7_judge_83 : decode cX7_judge 83 = .ok (.aload_n 0, 1) := by decide +kernel
theorem dX7_judge_84 : decode cX7_judge 84 = .ok (.getfield 23, 3) := by decide +kernel
theorem dX7_judge_87 : decode cX7_judge 87 = .ok (.iload_n 1, 1) := by decide +kernel
theorem dX7_judge_88 : decode cX7_judge 88 = .ok (.iaload, 1) := by decide +kernel
theorem dX7_judge_89 : decode cX7_judge 89 = .ok (.aload_n 0, 1) := by decide +kernel
theorem dX7_judge_90 : decode cX7_judge 90 = .ok (.getfield 20, 3) := by decide +kernel
theorem dX7_judge_93 : decode cX7_judge 93 = .ok (.iload_n 2, 1) := by decide +kernel
theorem dX7_judge_94 : decode cX7_judge 94 = .ok (.iaload, 1) := by decide +kernel
theorem dX7_judge_95 : decode cX7_judge 95 = .ok (.iand, 1) := by decide +kernel
theorem dX7_judge_96 : decode cX7_judge 96 = .ok (.ifCond .ne 32, 3) := by decide +kernel
theorem dX7_judge_99 : decode cX7_judge 99 = .ok (.aload_n 0, 1) := by decide +kernel
theorem dX7_judge_100 : decode cX7_judge 100 = .ok (.iload_n 1, 1) := by decide +kernel
theorem dX7_judge_101 : decode cX7_judge 101 = .ok (.putfield 145, 3) := by decide +kernel
theorem dX7_judge_104 : decode cX7_judge 104 = .ok (.aload_n 0, 1) := by decide +kernel
theorem dX7_judge_105 : decode cX7_judge 105 = .ok (.iload_n 2, 1) := by decide +kernel
theorem dX7_judge_106 : decode cX7_judge 106 = .ok (.putfield 148, 3) := by decide +kernel
theorem dX7_judge_109 : decode cX7_judge 109 = .ok (.aload_n 0, 1) := by decide +kernel
theorem dX7_judge_110 : decode cX7_judge 110 = .ok (.aload_n 0, 1) := by decide +kernel
theorem dX7_judge_111 : decode cX7_judge 111 = .ok (.getfield 20, 3) := by decide +kernel
theorem dX7_judge_114 : decode cX7_judge 114 = .ok (.iload_n 1, 1) := by decide +kernel
theorem dX7_judge_115 : decode cX7_judge 115 = .ok (.iaload, 1) := by decide +kernel
theorem dX7_judge_116 : decode cX7_judge 116 = .ok (.aload_n 0, 1) := by decide +kernel
theorem dX7_judge_117 : decode cX7_judge 117 = .ok (.getfield 20, 3) := by decide +kernel
theorem dX7_judge_120 : decode cX7_judge 120 = .ok (.iload_n 2, 1) := by decide +kernel
theorem dX7_judge_121 : decode cX7_judge 121 = .ok (.iaload, 1) := by decide +kernel
theorem dX7_judge_122 : decode cX7_judge 122 = .ok (.ior, 1) := by decide +kernel
theorem dX7_judge_123 : decode cX7_judge 123 = .ok (.putfield 151, 3) := by decide +kernel
theorem dX7_judge_126 : decode cX7_judge 126 = .ok (.iconst 1, 1) := by decide +kernel
theorem dX7_judge_127 : decode cX7_judge 127 = .ok (.ireturn, 1) := by decide +kernel
theorem dX7_judge_128 : decode cX7_judge 128 = .ok (.iinc 2 1, 3) := by decide +kernel
theorem dX7_judge_131 : decode cX7_judge 131 = .ok (.goto (-87), 3) := by decide +kernel
theorem dX7_judge_134 : decode cX7_judge 134 = .ok (.iinc 1 1, 3) := by decide +kernel
theorem dX7_judge_137 : decode cX7_judge 137 = .ok (.goto (-105), 3) := by decide +kernel
theorem dX7_judge_140 : decode cX7_judge 140 = .ok (.iconst 0, 1) := by decide +kernel
theorem dX7_judge_141 : decode cX7_judge 141 = .ok (.istore_n 1, 1) := by decide +kernel
theorem dX7_judge_142 : decode cX7_judge 142 = .ok (.iload_n 1, 1) := by decide +kernel
theorem dX7_judge_143 : decode cX7_judge 143 = .ok (.aload_n 0, 1) := by decide +kernel
theorem dX7_judge_144 : decode cX7_judge 144 = .ok (.invokevirtual 163, 3) := by decide +kernel
theorem dX7_judge_147 : decode cX7_judge 147 = .ok (.if_icmp .ge 24, 3) := by decide +kernel
theorem dX7_judge_150 : decode cX7_judge 150 = .ok (.aload_n 0, 1) := by decide +kernel
theorem dX7_judge_151 : decode cX7_judge 151 = .ok (.iload_n 1, 1) := by decide +kernel
theorem dX7_judge_152 : decode cX7_judge 152 = .ok (.invokevirtual 166, 3) := by decide +kernel
theorem dX7_judge_155 : decode cX7_judge 155 = .ok (.ifCond .ge 10, 3) := by decide +kernel
theorem dX7_judge_158 : decode cX7_judge 158 = .ok (.aload_n 0, 1) := by decide +kernel
theorem dX7_judge_159 : decode cX7_judge 159 = .ok (.iload_n 1, 1) := by decide +kernel
theorem dX7_judge_160 : decode cX7_judge 160 = .ok (.putfield 151, 3) := by decide +kernel
theorem dX7_judge_163 : decode cX7_judge 163 = .ok (.iconst 2, 1) := by decide +kernel
theorem dX7_judge_164 : decode cX7_judge 164 = .ok (.ireturn, 1) := by decide +kernel
theorem dX7_judge_165 : decode cX7_judge 165 = .ok (.iinc 1 1, 3) := by decide +kernel
theorem dX7_judge_168 : decode cX7_judge 168 = .ok (.goto (-26), 3) := by decide +kernel
theorem dX7_judge_171 : decode cX7_judge 171 = .ok (.aload_n 0, 1) := by decide +kernel
theorem dX7_judge_172 : decode cX7_judge 172 = .ok (.invokevirtual 170, 3) := by decide +kernel
theorem dX7_judge_175 : decode cX7_judge 175 = .ok (.aload_n 0, 1) := by decide +kernel
theorem dX7_judge_176 : decode cX7_judge 176 = .ok (.getfield 154, 3) := by decide +kernel
theorem dX7_judge_179 : decode cX7_judge 179 = .ok (.ifCond .eq 7, 3) := by decide +kernel
theorem dX7_judge_182 : decode cX7_judge 182 = .ok (.iconst 0, 1) := by decide +kernel
theorem dX7_judge_183 : decode cX7_judge 183 = .ok (.goto 4, 3) := by decide +kernel
theorem dX7_judge_186 : decode cX7_judge 186 = .ok (.iconst 3, 1) := by decide +kernel
theorem dX7_judge_187 : decode cX7_judge 187 = .ok (.ireturn, 1) := by decide +kernel
theorem dX7_bits_0 : decode cX7_bits 0 = .ok (.iconst 0, 1) := by decide +kernel
theorem dX7_bits_1 : decode cX7_bits 1 = .ok (.istore_n 1, 1) := by decide +kernel
theorem dX7_bits_2 : decode cX7_bits 2 = .ok (.iconst 0, 1) := by decide +kernel
theorem dX7_bits_3 : decode cX7_bits 3 = .ok (.istore_n 2, 1) := by decide +kernel
theorem dX7_bits_4 : decode cX7_bits 4 = .ok (.iload_n 2, 1) := by decide +kernel
theorem dX7_bits_5 : decode cX7_bits 5 = .ok (.bipush 16, 2) := by decide +kernel
theorem dX7_bits_7 : decode cX7_bits 7 = .ok (.if_icmp .ge 17, 3) := by decide +kernel
theorem dX7_bits_10 : decode cX7_bits 10 = .ok (.iload_n 1, 1) := by decide +kernel
theorem dX7_bits_11 : decode cX7_bits 11 = .ok (.iload_n 0, 1) := by decide +kernel
theorem dX7_bits_12 : decode cX7_bits 12 = .ok (.iload_n 2, 1) := by decide +kernel
theorem dX7_bits_13 : decode cX7_bits 13 = .ok (.ishr, 1) := by decide +kernel
theorem dX7_bits_14 : decode cX7_bits 14 = .ok (.iconst 1, 1) := by decide +kernel
theorem dX7_bits_15 : decode cX7_bits 15 = .ok (.iand, 1) := by decide +kernel
theorem dX7_bits_16 : decode cX7_bits 16 = .ok (.iadd, 1) := by decide +kernel
theorem dX7_bits_17 : decode cX7_bits 17 = .ok (.istore_n 1, 1) := by decide +kernel
theorem dX7_bits_18 : decode cX7_bits 18 = .ok (.iinc 2 1, 3) := by decide +kernel
theorem dX7_bits_21 : decode cX7_bits 21 = .ok (.goto (-17), 3) := by decide +kernel
theorem dX7_bits_24 : decode cX7_bits 24 = .ok (.iload_n 1, 1) := by decide +kernel
theorem dX7_bits_25 : decode cX7_bits 25 = .ok (.ireturn, 1) := by decide +kernel
theorem dX7_canMeet_0 : decode cX7_canMeet 0 = .ok (.aload_n 0, 1) := by decide +kernel
theorem dX7_canMeet_1 : decode cX7_canMeet 1 = .ok (.getfield 23, 3) := by decide +kernel
theorem dX7_canMeet_4 : decode cX7_canMeet 4 = .ok (.iload_n 1, 1) := by decide +kernel
theorem dX7_canMeet_5 : decode cX7_canMeet 5 = .ok (.iaload, 1) := by decide +kernel
theorem dX7_canMeet_6 : decode cX7_canMeet 6 = .ok (.iload_n 2, 1) := by decide +kernel
theorem dX7_canMeet_7 : decode cX7_canMeet 7 = .ok (.iand, 1) := by decide +kernel
theorem dX7_canMeet_8 : decode cX7_canMeet 8 = .ok (.ifCond .ne 18, 3) := by decide +kernel
theorem dX7_canMeet_11 : decode cX7_canMeet 11 = .ok (.aload_n 0, 1) := by decide +kernel
theorem dX7_canMeet_12 : decode cX7_canMeet 12 = .ok (.getfield 20, 3) := by decide +kernel
theorem dX7_canMeet_15 : decode cX7_canMeet 15 = .ok (.iload_n 1, 1) := by decide +kernel
theorem dX7_canMeet_16 : decode cX7_canMeet 16 = .ok (.iaload, 1) := by decide +kernel
theorem dX7_canMeet_17 : decode cX7_canMeet 17 = .ok (.iload_n 3, 1) := by decide +kernel
theorem dX7_canMeet_18 : decode cX7_canMeet 18 = .ok (.iand, 1) := by decide +kernel
theorem dX7_canMeet_19 : decode cX7_canMeet 19 = .ok (.ifCond .ne 7, 3) := by decide +kernel
theorem dX7_canMeet_22 : decode cX7_canMeet 22 = .ok (.iconst 1, 1) := by decide +kernel
theorem dX7_canMeet_23 : decode cX7_canMeet 23 = .ok (.goto 4, 3) := by decide +kernel
theorem dX7_canMeet_26 : decode cX7_canMeet 26 = .ok (.iconst 0, 1) := by decide +kernel
theorem dX7_canMeet_27 : decode cX7_canMeet 27 = .ok (.ireturn, 1) := by decide +kernel
theorem dX7_onlyAction_0 : decode cX7_onlyAction 0 = .ok (.iconst (-1), 1) := by decide +kernel
theorem dX7_onlyAction_1 : decode cX7_onlyAction 1 = .ok (.istore_n 3, 1) := by decide +kernel
theorem dX7_onlyAction_2 : decode cX7_onlyAction 2 = .ok (.iconst 0, 1) := by decide +kernel
theorem dX7_onlyAction_3 : decode cX7_onlyAction 3 = .ok (.istore 4, 2) := by decide +kernel
theorem dX7_onlyAction_5 : decode cX7_onlyAction 5 = .ok (.iload 4, 2) := by decide +kernel
theorem dX7_onlyAction_7 : decode cX7_onlyAction 7 = .ok (.aload_n 0, 1) := by decide +kernel
theorem dX7_onlyAction_8 : decode cX7_onlyAction 8 = .ok (.getfield 119, 3) := by decide +kernel
theorem dX7_onlyAction_11 : decode cX7_onlyAction 11 = .ok (.if_icmp .ge 45, 3) := by decide +kernel
theorem dX7_onlyAction_14 : decode cX7_onlyAction 14 = .ok (.aload_n 0, 1) := by decide +kernel
theorem dX7_onlyAction_15 : decode cX7_onlyAction 15 = .ok (.iload 4, 2) := by decide +kernel
theorem dX7_onlyAction_17 : decode cX7_onlyAction 17 = .ok (.iload_n 1, 1) := by decide +kernel
theorem dX7_onlyAction_18 : decode cX7_onlyAction 18 = .ok (.iload_n 2, 1) := by decide +kernel
theorem dX7_onlyAction_19 : decode cX7_onlyAction 19 = .ok (.invokevirtual 173, 3) := by decide +kernel
theorem dX7_onlyAction_22 : decode cX7_onlyAction 22 = .ok (.ifCond .eq 28, 3) := by decide +kernel
theorem dX7_onlyAction_25 : decode cX7_onlyAction 25 = .ok (.iload_n 3, 1) := by decide +kernel
theorem dX7_onlyAction_26 : decode cX7_onlyAction 26 = .ok (.ifCond .lt 16, 3) := by decide +kernel
theorem dX7_onlyAction_29 : decode cX7_onlyAction 29 = .ok (.iload_n 3, 1) := by decide +kernel
theorem dX7_onlyAction_30 : decode cX7_onlyAction 30 = .ok (.aload_n 0, 1) := by decide +kernel
theorem dX7_onlyAction_31 : decode cX7_onlyAction 31 = .ok (.getfield 26, 3) := by decide +kernel
theorem dX7_onlyAction_34 : decode cX7_onlyAction 34 = .ok (.iload 4, 2) := by decide +kernel
theorem dX7_onlyAction_36 : decode cX7_onlyAction 36 = .ok (.iaload, 1) := by decide +kernel
theorem dX7_onlyAction_37 : decode cX7_onlyAction 37 = .ok (.if_icmp .eq 5, 3) := by decide +kernel
theorem dX7_onlyAction_40 : decode cX7_onlyAction 40 = .ok (.iconst (-1), 1) := by decide +kernel
theorem dX7_onlyAction_41 : decode cX7_onlyAction 41 = .ok (.ireturn, 1) := by decide +kernel
theorem dX7_onlyAction_42 : decode cX7_onlyAction 42 = .ok (.aload_n 0, 1) := by decide +kernel
theorem dX7_onlyAction_43 : decode cX7_onlyAction 43 = .ok (.getfield 26, 3) := by decide +kernel
theorem dX7_onlyAction_46 : decode cX7_onlyAction 46 = .ok (.iload 4, 2) := by decide +kernel
theorem dX7_onlyAction_48 : decode cX7_onlyAction 48 = .ok (.iaload, 1) := by decide +kernel
theorem dX7_onlyAction_49 : decode cX7_onlyAction 49 = .ok (.istore_n 3, 1) := by decide +kernel
theorem dX7_onlyAction_50 : decode cX7_onlyAction 50 = .ok (.iinc 4 1, 3) := by decide +kernel
theorem dX7_onlyAction_53 : decode cX7_onlyAction 53 = .ok (.goto (-48), 3) := by decide +kernel
theorem dX7_onlyAction_56 : decode cX7_onlyAction 56 = .ok (.iload_n 3, 1) := by decide +kernel
theorem dX7_onlyAction_57 : decode cX7_onlyAction 57 = .ok (.ireturn, 1) := by decide +kernel
theorem dX7_bestCondition_0 : decode cX7_bestCondition 0 = .ok (.aload_n 0, 1) := by decide +kernel
theorem dX7_bestCondition_1 : decode cX7_bestCondition 1 = .ok (.invokevirtual 163, 3) := by decide +kernel
theorem dX7_bestCondition_4 : decode cX7_bestCondition 4 = .ok (.iconst 1, 1) := by decide +kernel
theorem dX7_bestCondition_5 : decode cX7_bestCondition 5 = .ok (.isub, 1) := by decide +kernel
theorem dX7_bestCondition_6 : decode cX7_bestCondition 6 = .ok (.iload_n 1, 1) := by decide +kernel
theorem dX7_bestCondition_7 : decode cX7_bestCondition 7 = .ok (.iload_n 2, 1) := by decide +kernel
theorem dX7_bestCondition_8 : decode cX7_bestCondition 8 = .ok (.ior, 1) := by decide +kernel
theorem dX7_bestCondition_9 : decode cX7_bestCondition 9 = .ok (.iconst (-1), 1) := by decide +kernel
theorem dX7_bestCondition_10 : decode cX7_bestCondition 10 = .ok (.ixor, 1) := by decide +kernel
theorem dX7_bestCondition_11 : decode cX7_bestCondition 11 = .ok (.iand, 1) := by decide +kernel
theorem dX7_bestCondition_12 : decode cX7_bestCondition 12 = .ok (.istore_n 3, 1) := by decide +kernel
theorem dX7_bestCondition_13 : decode cX7_bestCondition 13 = .ok (.iconst (-1), 1) := by decide +kernel
theorem dX7_bestCondition_14 : decode cX7_bestCondition 14 = .ok (.istore 4, 2) := by decide +kernel
theorem dX7_bestCondition_16 : decode cX7_bestCondition 16 = .ok (.lconst 0, 1) := by decide +kernel
theorem dX7_bestCondition_17 : decode cX7_bestCondition 17 = .ok (.lstore 5, 2) := by decide +kernel
theorem dX7_bestCondition_19 : decode cX7_bestCondition 19 = .ok (.lconst 0, 1) := by decide +kernel
theorem dX7_bestCondition_20 : decode cX7_bestCondition 20 = .ok (.lstore 7, 2) := by decide +kernel
theorem dX7_bestCondition_22 : decode cX7_bestCondition 22 = .ok (.iconst 0, 1) := by decide +kernel
theorem dX7_bestCondition_23 : decode cX7_bestCondition 23 = .ok (.istore 9, 2) := by decide +kernel
theorem dX7_bestCondition_25 : decode cX7_bestCondition 25 = .ok (.iload 9, 2) := by decide +kernel
theorem dX7_bestCondition_27 : decode cX7_bestCondition 27 = .ok (.aload_n 0, 1) := by decide +kernel
theorem dX7_bestCondition_28 : decode cX7_bestCondition 28 = .ok (.getfield 116, 3) := by decide +kernel
theorem dX7_bestCondition_31 : decode cX7_bestCondition 31 = .ok (.if_icmp .ge 199, 3) := by decide +kernel
theorem dX7_bestCondition_34 : decode cX7_bestCondition 34 = .ok (.iload_n 3, 1) := by decide +kernel
theorem dX7_bestCondition_35 : decode cX7_bestCondition 35 = .ok (.iload 9, 2) := by decide +kernel
theorem dX7_bestCondition_37 : decode cX7_bestCondition 37 = .ok (.ishr, 1) := by decide +kernel
theorem dX7_bestCondition_38 : decode cX7_bestCondition 38 = .ok (.iconst 1, 1) := by decide +kernel
theorem dX7_bestCondition_39 : decode cX7_bestCondition 39 = .ok (.iand, 1) := by decide +kernel
theorem dX7_bestCondition_40 : decode cX7_bestCondition 40 = .ok (.ifCond .ne 6, 3) := by decide +kernel
theorem dX7_bestCondition_43 : decode cX7_bestCondition 43 = .ok (.goto 181, 3) := by decide +kernel
theorem dX7_bestCondition_46 : decode cX7_bestCondition 46 = .ok (.lconst 0, 1) := by decide +kernel
theorem dX7_bestCondition_47 : decode cX7_bestCondition 47 = .ok (.lstore 10, 2) := by decide +kernel
theorem dX7_bestCondition_49 : decode cX7_bestCondition 49 = .ok (.lconst 0, 1) := by decide +kernel
theorem dX7_bestCondition_50 : decode cX7_bestCondition 50 = .ok (.lstore 12, 2) := by decide +kernel
theorem dX7_bestCondition_52 : decode cX7_bestCondition 52 = .ok (.iconst 0, 1) := by decide +kernel
theorem dX7_bestCondition_53 : decode cX7_bestCondition 53 = .ok (.istore 14, 2) := by decide +kernel
theorem dX7_bestCondition_55 : decode cX7_bestCondition 55 = .ok (.iload 14, 2) := by decide +kernel
theorem dX7_bestCondition_57 : decode cX7_bestCondition 57 = .ok (.aload_n 0, 1) := by decide +kernel
theorem dX7_bestCondition_58 : decode cX7_bestCondition 58 = .ok (.getfield 119, 3) := by decide +kernel
theorem dX7_bestCondition_61 : decode cX7_bestCondition 61 = .ok (.if_icmp .ge 105, 3) := by decide +kernel
theorem dX7_bestCondition_64 : decode cX7_bestCondition 64 = .ok (.aload_n 0, 1) := by decide +kernel
theorem dX7_bestCondition_65 : decode cX7_bestCondition 65 = .ok (.iload 14, 2) := by decide +kernel
theorem dX7_bestCondition_67 : decode cX7_bestCondition 67 = .ok (.iload_n 1, 1) := by decide +kernel
theorem dX7_bestCondition_68 : decode cX7_bestCondition 68 = .ok (.iload_n 2, 1) := by decide +kernel
theorem dX7_bestCondition_69 : decode cX7_bestCondition 69 = .ok (.invokevirtual 173, 3) := by decide +kernel
theorem dX7_bestCondition_72 : decode cX7_bestCondition 72 = .ok (.ifCond .eq 88, 3) := by decide +kernel
theorem dX7_bestCondition_75 : decode cX7_bestCondition 75 = .ok (.lconst 1, 1) := by decide +kernel
theorem dX7_bestCondition_76 : decode cX7_bestCondition 76 = .ok (.iload_n 3, 1) := by decide +kernel
theorem dX7_bestCondition_77 : decode cX7_bestCondition 77 = .ok (.aload_n 0, 1) := by decide +kernel
theorem dX7_bestCondition_78 : decode cX7_bestCondition 78 = .ok (.getfield 20, 3) := by decide +kernel
theorem dX7_bestCondition_81 : decode cX7_bestCondition 81 = .ok (.iload 14, 2) := by decide +kernel
theorem dX7_bestCondition_83 : decode cX7_bestCondition 83 = .ok (.iaload, 1) := by decide +kernel
theorem dX7_bestCondition_84 : decode cX7_bestCondition 84 = .ok (.aload_n 0, 1) := by decide +kernel
theorem dX7_bestCondition_85 : decode cX7_bestCondition 85 = .ok (.getfield 23, 3) := by decide +kernel
theorem dX7_bestCondition_88 : decode cX7_bestCondition 88 = .ok (.iload 14, 2) := by decide +kernel
theorem dX7_bestCondition_90 : decode cX7_bestCondition 90 = .ok (.iaload, 1) := by decide +kernel
theorem dX7_bestCondition_91 : decode cX7_bestCondition 91 = .ok (.ior, 1) := by decide +kernel
theorem dX7_bestCondition_92 : decode cX7_bestCondition 92 = .ok (.iconst (-1), 1) := by decide +kernel
theorem dX7_bestCondition_93 : decode cX7_bestCondition 93 = .ok (.ixor, 1) := by decide +kernel
theorem dX7_bestCondition_94 : decode cX7_bestCondition 94 = .ok (.iand, 1) := by decide +kernel
theorem dX7_bestCondition_95 : decode cX7_bestCondition 95 = .ok (.invokestatic 177, 3) := by decide +kernel
theorem dX7_bestCondition_98 : decode cX7_bestCondition 98 = .ok (.lshl, 1) := by decide +kernel
theorem dX7_bestCondition_99 : decode cX7_bestCondition 99 = .ok (.lstore 15, 2) := by decide +kernel
theorem dX7_bestCondition_101 : decode cX7_bestCondition 101 = .ok (.aload_n 0, 1) := by decide +kernel
theorem dX7_bestCondition_102 : decode cX7_bestCondition 102 = .ok (.getfield 20, 3) := by decide +kernel
theorem dX7_bestCondition_105 : decode cX7_bestCondition 105 = .ok (.iload 14, 2) := by decide +kernel
theorem dX7_bestCondition_107 : decode cX7_bestCondition 107 = .ok (.iaload, 1) := by decide +kernel
theorem dX7_bestCondition_108 : decode cX7_bestCondition 108 = .ok (.iload 9, 2) := by decide +kernel
theorem dX7_bestCondition_110 : decode cX7_bestCondition 110 = .ok (.ishr, 1) := by decide +kernel
theorem dX7_bestCondition_111 : decode cX7_bestCondition 111 = .ok (.iconst 1, 1) := by decide +kernel
theorem dX7_bestCondition_112 : decode cX7_bestCondition 112 = .ok (.iand, 1) := by decide +kernel
theorem dX7_bestCondition_113 : decode cX7_bestCondition 113 = .ok (.iconst 1, 1) := by decide +kernel
theorem dX7_bestCondition_114 : decode cX7_bestCondition 114 = .ok (.if_icmp .ne 13, 3) := by decide +kernel
theorem dX7_bestCondition_117 : decode cX7_bestCondition 117 = .ok (.lload 12, 2) := by decide +kernel
theorem dX7_bestCondition_119 : decode cX7_bestCondition 119 = .ok (.lload 15, 2) := by decide +kernel
theorem dX7_bestCondition_121 : decode cX7_bestCondition 121 = .ok (.ladd, 1) := by decide +kernel
theorem dX7_bestCondition_122 : decode cX7_bestCondition 122 = .ok (.lstore 12, 2) := by decide +kernel
theorem dX7_bestCondition_124 : decode cX7_bestCondition 124 = .ok (.goto 36, 3) := by decide +kernel
theorem dX7_bestCondition_127 : decode cX7_bestCondition 127 = .ok (.aload_n 0, 1) := by decide +kernel
theorem dX7_bestCondition_128 : decode cX7_bestCondition 128 = .ok (.getfield 23, 3) := by decide +kernel
theorem dX7_bestCondition_131 : decode cX7_bestCondition 131 = .ok (.iload 14, 2) := by decide +kernel
theorem dX7_bestCondition_133 : decode cX7_bestCondition 133 = .ok (.iaload, 1) := by decide +kernel
theorem dX7_bestCondition_134 : decode cX7_bestCondition 134 = .ok (.iload 9, 2) := by decide +kernel
theorem dX7_bestCondition_136 : decode cX7_bestCondition 136 = .ok (.ishr, 1) := by decide +kernel
theorem dX7_bestCondition_137 : decode cX7_bestCondition 137 = .ok (.iconst 1, 1) := by decide +kernel
theorem dX7_bestCondition_138 : decode cX7_bestCondition 138 = .ok (.iand, 1) := by decide +kernel
theorem dX7_bestCondition_139 : decode cX7_bestCondition 139 = .ok (.iconst 1, 1) := by decide +kernel
theorem dX7_bestCondition_140 : decode cX7_bestCondition 140 = .ok (.if_icmp .ne 13, 3) := by decide +kernel
theorem dX7_bestCondition_143 : decode cX7_bestCondition 143 = .ok (.lload 12, 2) := by decide +kernel
theorem dX7_bestCondition_145 : decode cX7_bestCondition 145 = .ok (.lload 15, 2) := by decide +kernel
theorem dX7_bestCondition_147 : decode cX7_bestCondition 147 = .ok (.lsub, 1) := by decide +kernel
theorem dX7_bestCondition_148 : decode cX7_bestCondition 148 = .ok (.lstore 12, 2) := by decide +kernel
theorem dX7_bestCondition_150 : decode cX7_bestCondition 150 = .ok (.goto 10, 3) := by decide +kernel
theorem dX7_bestCondition_153 : decode cX7_bestCondition 153 = .ok (.lload 10, 2) := by decide +kernel
theorem dX7_bestCondition_155 : decode cX7_bestCondition 155 = .ok (.lload 15, 2) := by decide +kernel
theorem dX7_bestCondition_157 : decode cX7_bestCondition 157 = .ok (.ladd, 1) := by decide +kernel
theorem dX7_bestCondition_158 : decode cX7_bestCondition 158 = .ok (.lstore 10, 2) := by decide +kernel
theorem dX7_bestCondition_160 : decode cX7_bestCondition 160 = .ok (.iinc 14 1, 3) := by decide +kernel
theorem dX7_bestCondition_163 : decode cX7_bestCondition 163 = .ok (.goto (-108), 3) := by decide +kernel
theorem dX7_bestCondition_166 : decode cX7_bestCondition 166 = .ok (.lload 12, 2) := by decide +kernel
theorem dX7_bestCondition_168 : decode cX7_bestCondition 168 = .ok (.lconst 0, 1) := by decide +kernel
theorem dX7_bestCondition_169 : decode cX7_bestCondition 169 = .ok (.lcmp, 1) := by decide +kernel
theorem dX7_bestCondition_170 : decode cX7_bestCondition 170 = .ok (.ifCond .ge 9, 3) := by decide +kernel
theorem dX7_bestCondition_173 : decode cX7_bestCondition 173 = .ok (.lload 12, 2) := by decide +kernel
theorem dX7_bestCondition_175 : decode cX7_bestCondition 175 = .ok (.lneg, 1) := by decide +kernel
theorem dX7_bestCondition_176 : decode cX7_bestCondition 176 = .ok (.goto 5, 3) := by decide +kernel
theorem dX7_bestCondition_179 : decode cX7_bestCondition 179 = .ok (.lload 12, 2) := by decide +kernel
theorem dX7_bestCondition_181 : decode cX7_bestCondition 181 = .ok (.lstore 12, 2) := by decide +kernel
theorem dX7_bestCondition_183 : decode cX7_bestCondition 183 = .ok (.iload 4, 2) := by decide +kernel
theorem dX7_bestCondition_185 : decode cX7_bestCondition 185 = .ok (.ifCond .lt 27, 3) := by decide +kernel
theorem dX7_bestCondition_188 : decode cX7_bestCondition 188 = .ok (.lload 10, 2) := by decide +kernel
theorem dX7_bestCondition_190 : decode cX7_bestCondition 190 = .ok (.lload 5, 2) := by decide +kernel
theorem dX7_bestCondition_192 : decode cX7_bestCondition 192 = .ok (.lcmp, 1) := by decide +kernel
theorem dX7_bestCondition_193 : decode cX7_bestCondition 193 = .ok (.ifCond .lt 19, 3) := by decide +kernel
theorem dX7_bestCondition_196 : decode cX7_bestCondition 196 = .ok (.lload 10, 2) := by decide +kernel
theorem dX7_bestCondition_198 : decode cX7_bestCondition 198 = .ok (.lload 5, 2) := by decide +kernel
theorem dX7_bestCondition_200 : decode cX7_bestCondition 200 = .ok (.lcmp, 1) := by decide +kernel
theorem dX7_bestCondition_201 : decode cX7_bestCondition 201 = .ok (.ifCond .ne 23, 3) := by decide +kernel
theorem dX7_bestCondition_204 : decode cX7_bestCondition 204 = .ok (.lload 12, 2) := by decide +kernel
theorem dX7_bestCondition_206 : decode cX7_bestCondition 206 = .ok (.lload 7, 2) := by decide +kernel
theorem dX7_bestCondition_208 : decode cX7_bestCondition 208 = .ok (.lcmp, 1) := by decide +kernel
theorem dX7_bestCondition_209 : decode cX7_bestCondition 209 = .ok (.ifCond .le 15, 3) := by decide +kernel
theorem dX7_bestCondition_212 : decode cX7_bestCondition 212 = .ok (.iload 9, 2) := by decide +kernel
theorem dX7_bestCondition_214 : decode cX7_bestCondition 214 = .ok (.istore 4, 2) := by decide +kernel
theorem dX7_bestCondition_216 : decode cX7_bestCondition 216 = .ok (.lload 10, 2) := by decide +kernel
theorem dX7_bestCondition_218 : decode cX7_bestCondition 218 = .ok (.lstore 5, 2) := by decide +kernel
theorem dX7_bestCondition_220 : decode cX7_bestCondition 220 = .ok (.lload 12, 2) := by decide +kernel
theorem dX7_bestCondition_222 : decode cX7_bestCondition 222 = .ok (.lstore 7, 2) := by decide +kernel
theorem dX7_bestCondition_224 : decode cX7_bestCondition 224 = .ok (.iinc 9 1, 3) := by decide +kernel
theorem dX7_bestCondition_227 : decode cX7_bestCondition 227 = .ok (.goto (-202), 3) := by decide +kernel
theorem dX7_bestCondition_230 : decode cX7_bestCondition 230 = .ok (.iload 4, 2) := by decide +kernel
theorem dX7_bestCondition_232 : decode cX7_bestCondition 232 = .ok (.ireturn, 1) := by decide +kernel
theorem dX7_grow_0 : decode cX7_grow 0 = .ok (.iconst 1, 1) := by decide +kernel
theorem dX7_grow_1 : decode cX7_grow 1 = .ok (.istore_n 1, 1) := by decide +kernel
theorem dX7_grow_2 : decode cX7_grow 2 = .ok (.aload_n 0, 1) := by decide +kernel
theorem dX7_grow_3 : decode cX7_grow 3 = .ok (.getfield 47, 3) := by decide +kernel
theorem dX7_grow_6 : decode cX7_grow 6 = .ok (.iconst 0, 1) := by decide +kernel
theorem dX7_grow_7 : decode cX7_grow 7 = .ok (.iconst 0, 1) := by decide +kernel
theorem dX7_grow_8 : decode cX7_grow 8 = .ok (.iastore, 1) := by decide +kernel
theorem dX7_grow_9 : decode cX7_grow 9 = .ok (.aload_n 0, 1) := by decide +kernel
theorem dX7_grow_10 : decode cX7_grow 10 = .ok (.getfield 50, 3) := by decide +kernel
theorem dX7_grow_13 : decode cX7_grow 13 = .ok (.iconst 0, 1) := by decide +kernel
theorem dX7_grow_14 : decode cX7_grow 14 = .ok (.iconst 0, 1) := by decide +kernel
theorem dX7_grow_15 : decode cX7_grow 15 = .ok (.iastore, 1) := by decide +kernel
theorem dX7_grow_16 : decode cX7_grow 16 = .ok (.aload_n 0, 1) := by decide +kernel
theorem dX7_grow_17 : decode cX7_grow 17 = .ok (.getfield 53, 3) := by decide +kernel
theorem dX7_grow_20 : decode cX7_grow 20 = .ok (.iconst 0, 1) := by decide +kernel
theorem dX7_grow_21 : decode cX7_grow 21 = .ok (.iconst (-1), 1) := by decide +kernel
theorem dX7_grow_22 : decode cX7_grow 22 = .ok (.iastore, 1) := by decide +kernel
theorem dX7_grow_23 : decode cX7_grow 23 = .ok (.aload_n 0, 1) := by decide +kernel
theorem dX7_grow_24 : decode cX7_grow 24 = .ok (.getfield 56, 3) := by decide +kernel
theorem dX7_grow_27 : decode cX7_grow 27 = .ok (.iconst 0, 1) := by decide +kernel
theorem dX7_grow_28 : decode cX7_grow 28 = .ok (.iconst 0, 1) := by decide +kernel
theorem dX7_grow_29 : decode cX7_grow 29 = .ok (.iastore, 1) := by decide +kernel
theorem dX7_grow_30 : decode cX7_grow 30 = .ok (.aload_n 0, 1) := by decide +kernel
theorem dX7_grow_31 : decode cX7_grow 31 = .ok (.iconst 1, 1) := by decide +kernel
theorem dX7_grow_32 : decode cX7_grow 32 = .ok (.putfield 154, 3) := by decide +kernel
theorem dX7_grow_35 : decode cX7_grow 35 = .ok (.iload_n 1, 1) := by decide +kernel
theorem dX7_grow_36 : decode cX7_grow 36 = .ok (.ifCond .le 289, 3) := by decide +kernel
theorem dX7_grow_39 : decode cX7_grow 39 = .ok (.aload_n 0, 1) := by decide +kernel
theorem dX7_grow_40 : decode cX7_grow 40 = .ok (.getfield 154, 3) := by decide +kernel
theorem dX7_grow_43 : decode cX7_grow 43 = .ok (.ifCond .eq 282, 3) := by decide +kernel
theorem dX7_grow_46 : decode cX7_grow 46 = .ok (.iinc 1 (-1), 3) := by decide +kernel
theorem dX7_grow_49 : decode cX7_grow 49 = .ok (.aload_n 0, 1) := by decide +kernel
theorem dX7_grow_50 : decode cX7_grow 50 = .ok (.getfield 157, 3) := by decide +kernel
theorem dX7_grow_53 : decode cX7_grow 53 = .ok (.sipush 1000, 3) := by decide +kernel
theorem dX7_grow_56 : decode cX7_grow 56 = .ok (.if_icmp .ne 16, 3) := by decide +kernel
theorem dX7_grow_59 : decode cX7_grow 59 = .ok (.aload_n 0, 1) := by decide +kernel
theorem dX7_grow_60 : decode cX7_grow 60 = .ok (.iconst 0, 1) := by decide +kernel
theorem dX7_grow_61 : decode cX7_grow 61 = .ok (.putfield 154, 3) := by decide +kernel
theorem dX7_grow_64 : decode cX7_grow 64 = .ok (.aload_n 0, 1) := by decide +kernel
theorem dX7_grow_65 : decode cX7_grow 65 = .ok (.iconst 0, 1) := by decide +kernel
theorem dX7_grow_66 : decode cX7_grow 66 = .ok (.putfield 157, 3) := by decide +kernel
theorem dX7_grow_69 : decode cX7_grow 69 = .ok (.goto (-34), 3) := by decide +kernel
theorem dX7_grow_72 : decode cX7_grow 72 = .ok (.aload_n 0, 1) := by decide +kernel
theorem dX7_grow_73 : decode cX7_grow 73 = .ok (.getfield 47, 3) := by decide +kernel
theorem dX7_grow_76 : decode cX7_grow 76 = .ok (.iload_n 1, 1) := by decide +kernel
theorem dX7_grow_77 : decode cX7_grow 77 = .ok (.iaload, 1) := by decide +kernel
theorem dX7_grow_78 : decode cX7_grow 78 = .ok (.istore_n 2, 1) := by decide +kernel
theorem dX7_grow_79 : decode cX7_grow 79 = .ok (.aload_n 0, 1) := by decide +kernel
theorem dX7_grow_80 : decode cX7_grow 80 = .ok (.getfield 50, 3) := by decide +kernel
theorem dX7_grow_83 : decode cX7_grow 83 = .ok (.iload_n 1, 1) := by decide +kernel
theorem dX7_grow_84 : decode cX7_grow 84 = .ok (.iaload, 1) := by decide +kernel
theorem dX7_grow_85 : decode cX7_grow 85 = .ok (.istore_n 3, 1) := by decide +kernel
theorem dX7_grow_86 : decode cX7_grow 86 = .ok (.aload_n 0, 1) := by decide +kernel
theorem dX7_grow_87 : decode cX7_grow 87 = .ok (.getfield 56, 3) := by decide +kernel
theorem dX7_grow_90 : decode cX7_grow 90 = .ok (.iload_n 1, 1) := by decide +kernel
theorem dX7_grow_91 : decode cX7_grow 91 = .ok (.iaload, 1) := by decide +kernel
theorem dX7_grow_92 : decode cX7_grow 92 = .ok (.istore 4, 2) := by decide +kernel
theorem dX7_grow_94 : decode cX7_grow 94 = .ok (.aload_n 0, 1) := by decide +kernel
theorem dX7_grow_95 : decode cX7_grow 95 = .ok (.getfield 53, 3) := by decide +kernel
theorem dX7_grow_98 : decode cX7_grow 98 = .ok (.iload_n 1, 1) := by decide +kernel
theorem dX7_grow_99 : decode cX7_grow 99 = .ok (.iaload, 1) := by decide +kernel
theorem dX7_grow_100 : decode cX7_grow 100 = .ok (.istore 5, 2) := by decide +kernel
theorem dX7_grow_102 : decode cX7_grow 102 = .ok (.aload_n 0, 1) := by decide +kernel
theorem dX7_grow_103 : decode cX7_grow 103 = .ok (.getfield 157, 3) := by decide +kernel
theorem dX7_grow_106 : decode cX7_grow 106 = .ok (.istore 6, 2) := by decide +kernel
theorem dX7_grow_108 : decode cX7_grow 108 = .ok (.aload_n 0, 1) := by decide +kernel
theorem dX7_grow_109 : decode cX7_grow 109 = .ok (.dup, 1) := by decide +kernel
theorem dX7_grow_110 : decode cX7_grow 110 = .ok (.getfield 157, 3) := by decide +kernel
theorem dX7_grow_113 : decode cX7_grow 113 = .ok (.iconst 1, 1) := by decide +kernel
theorem dX7_grow_114 : decode cX7_grow 114 = .ok (.iadd, 1) := by decide +kernel
theorem dX7_grow_115 : decode cX7_grow 115 = .ok (.putfield 157, 3) := by decide +kernel
theorem dX7_grow_118 : decode cX7_grow 118 = .ok (.iload 5, 2) := by decide +kernel
theorem dX7_grow_120 : decode cX7_grow 120 = .ok (.ifCond .lt 24, 3) := by decide +kernel
theorem dX7_grow_123 : decode cX7_grow 123 = .ok (.iload 6, 2) := by decide +kernel
theorem dX7_grow_125 : decode cX7_grow 125 = .ok (.iload 5, 2) := by decide +kernel
theorem dX7_grow_127 : decode cX7_grow 127 = .ok (.iconst 1, 1) := by decide +kernel
theorem dX7_grow_128 : decode cX7_grow 128 = .ok (.iadd, 1) := by decide +kernel
theorem dX7_grow_129 : decode cX7_grow 129 = .ok (.if_icmp .ne 15, 3) := by decide +kernel
theorem dX7_grow_132 : decode cX7_grow 132 = .ok (.aload_n 0, 1) := by decide +kernel
theorem dX7_grow_133 : decode cX7_grow 133 = .ok (.getfield 32, 3) := by decide +kernel
theorem dX7_grow_136 : decode cX7_grow 136 = .ok (.iload 5, 2) := by decide +kernel
theorem dX7_grow_138 : decode cX7_grow 138 = .ok (.iload 6, 2) := by decide +kernel
theorem dX7_grow_140 : decode cX7_grow 140 = .ok (.iastore, 1) := by decide +kernel
theorem dX7_grow_141 : decode cX7_grow 141 = .ok (.goto 17, 3) := by decide +kernel
theorem dX7_grow_144 : decode cX7_grow 144 = .ok (.iload 5, 2) := by decide +kernel
theorem dX7_grow_146 : decode cX7_grow 146 = .ok (.ifCond .lt 12, 3) := by decide +kernel
theorem dX7_grow_149 : decode cX7_grow 149 = .ok (.aload_n 0, 1) := by decide +kernel
theorem dX7_grow_150 : decode cX7_grow 150 = .ok (.getfield 35, 3) := by decide +kernel
theorem dX7_grow_153 : decode cX7_grow 153 = .ok (.iload 5, 2) := by decide +kernel
theorem dX7_grow_155 : decode cX7_grow 155 = .ok (.iload 6, 2) := by decide +kernel
theorem dX7_grow_157 : decode cX7_grow 157 = .ok (.iastore, 1) := by decide +kernel
theorem dX7_grow_158 : decode cX7_grow 158 = .ok (.aload_n 0, 1) := by decide +kernel
theorem dX7_grow_159 : decode cX7_grow 159 = .ok (.getfield 41, 3) := by decide +kernel
theorem dX7_grow_162 : decode cX7_grow 162 = .ok (.iload 6, 2) := by decide +kernel
theorem dX7_grow_164 : decode cX7_grow 164 = .ok (.iload 4, 2) := by decide +kernel
theorem dX7_grow_166 : decode cX7_grow 166 = .ok (.iastore, 1) := by decide +kernel
theorem dX7_grow_167 : decode cX7_grow 167 = .ok (.aload_n 0, 1) := by decide +kernel
theorem dX7_grow_168 : decode cX7_grow 168 = .ok (.getfield 38, 3) := by decide +kernel
theorem dX7_grow_171 : decode cX7_grow 171 = .ok (.iload 6, 2) := by decide +kernel
theorem dX7_grow_173 : decode cX7_grow 173 = .ok (.aload_n 0, 1) := by decide +kernel
theorem dX7_grow_174 : decode cX7_grow 174 = .ok (.iload_n 2, 1) := by decide +kernel
theorem dX7_grow_175 : decode cX7_grow 175 = .ok (.iload_n 3, 1) := by decide +kernel
theorem dX7_grow_176 : decode cX7_grow 176 = .ok (.invokevirtual 180, 3) := by decide +kernel
theorem dX7_grow_179 : decode cX7_grow 179 = .ok (.iastore, 1) := by decide +kernel
theorem dX7_grow_180 : decode cX7_grow 180 = .ok (.aload_n 0, 1) := by decide +kernel
theorem dX7_grow_181 : decode cX7_grow 181 = .ok (.getfield 29, 3) := by decide +kernel
theorem dX7_grow_184 : decode cX7_grow 184 = .ok (.iload 6, 2) := by decide +kernel
theorem dX7_grow_186 : decode cX7_grow 186 = .ok (.aload_n 0, 1) := by decide +kernel
theorem dX7_grow_187 : decode cX7_grow 187 = .ok (.getfield 38, 3) := by decide +kernel
theorem dX7_grow_190 : decode cX7_grow 190 = .ok (.iload 6, 2) := by decide +kernel
theorem dX7_grow_192 : decode cX7_grow 192 = .ok (.iaload, 1) := by decide +kernel
theorem dX7_grow_193 : decode cX7_grow 193 = .ok (.ifCond .ge 12, 3) := by decide +kernel
theorem dX7_grow_196 : decode cX7_grow 196 = .ok (.aload_n 0, 1) := by decide +kernel
theorem dX7_grow_197 : decode cX7_grow 197 = .ok (.iload_n 2, 1) := by decide +kernel
theorem dX7_grow_198 : decode cX7_grow 198 = .ok (.iload_n 3, 1) := by decide +kernel
theorem dX7_grow_199 : decode cX7_grow 199 = .ok (.invokevirtual 184, 3) := by decide +kernel
theorem dX7_grow_202 : decode cX7_grow 202 = .ok (.goto 4, 3) := by decide +kernel
theorem dX7_grow_205 : decode cX7_grow 205 = .ok (.iconst (-1), 1) := by decide +kernel
theorem dX7_grow_206 : decode cX7_grow 206 = .ok (.iastore, 1) := by decide +kernel
theorem dX7_grow_207 : decode cX7_grow 207 = .ok (.aload_n 0, 1) := by decide +kernel
theorem dX7_grow_208 : decode cX7_grow 208 = .ok (.getfield 32, 3) := by decide +kernel
theorem dX7_grow_211 : decode cX7_grow 211 = .ok (.iload 6, 2) := by decide +kernel
theorem dX7_grow_213 : decode cX7_grow 213 = .ok (.iconst (-1), 1) := by decide +kernel
theorem dX7_grow_214 : decode cX7_grow 214 = .ok (.iastore, 1) := by decide +kernel
theorem dX7_grow_215 : decode cX7_grow 215 = .ok (.aload_n 0, 1) := by decide +kernel
theorem dX7_grow_216 : decode cX7_grow 216 = .ok (.getfield 35, 3) := by decide +kernel
theorem dX7_grow_219 : decode cX7_grow 219 = .ok (.iload 6, 2) := by decide +kernel
theorem dX7_grow_221 : decode cX7_grow 221 = .ok (.iconst (-1), 1) := by decide +kernel
theorem dX7_grow_222 : decode cX7_grow 222 = .ok (.iastore, 1) := by decide +kernel
theorem dX7_grow_223 : decode cX7_grow 223 = .ok (.aload_n 0, 1) := by decide +kernel
theorem dX7_grow_224 : decode cX7_grow 224 = .ok (.getfield 29, 3) := by decide +kernel
theorem dX7_grow_227 : decode cX7_grow 227 = .ok (.iload 6, 2) := by decide +kernel
theorem dX7_grow_229 : decode cX7_grow 229 = .ok (.iaload, 1) := by decide +kernel
theorem dX7_grow_230 : decode cX7_grow 230 = .ok (.ifCond .lt 92, 3) := by decide +kernel
theorem dX7_grow_233 : decode cX7_grow 233 = .ok (.iconst 1, 1) := by decide +kernel
theorem dX7_grow_234 : decode cX7_grow 234 = .ok (.aload_n 0, 1) := by decide +kernel
theorem dX7_grow_235 : decode cX7_grow 235 = .ok (.getfield 29, 3) := by decide +kernel
theorem dX7_grow_238 : decode cX7_grow 238 = .ok (.iload 6, 2) := by decide +kernel
theorem dX7_grow_240 : decode cX7_grow 240 = .ok (.iaload, 1) := by decide +kernel
theorem dX7_grow_241 : decode cX7_grow 241 = .ok (.ishl, 1) := by decide +kernel
theorem dX7_grow_242 : decode cX7_grow 242 = .ok (.istore 7, 2) := by decide +kernel
theorem dX7_grow_244 : decode cX7_grow 244 = .ok (.aload_n 0, 1) := by decide +kernel
theorem dX7_grow_245 : decode cX7_grow 245 = .ok (.getfield 47, 3) := by decide +kernel
theorem dX7_grow_248 : decode cX7_grow 248 = .ok (.iload_n 1, 1) := by decide +kernel
theorem dX7_grow_249 : decode cX7_grow 249 = .ok (.iload_n 2, 1) := by decide +kernel
theorem dX7_grow_250 : decode cX7_grow 250 = .ok (.iastore, 1) := by decide +kernel
theorem dX7_grow_251 : decode cX7_grow 251 = .ok (.aload_n 0, 1) := by decide +kernel
theorem dX7_grow_252 : decode cX7_grow 252 = .ok (.getfield 50, 3) := by decide +kernel
theorem dX7_grow_255 : decode cX7_grow 255 = .ok (.iload_n 1, 1) := by decide +kernel
theorem dX7_grow_256 : decode cX7_grow 256 = .ok (.iload_n 3, 1) := by decide +kernel
theorem dX7_grow_257 : decode cX7_grow 257 = .ok (.iload 7, 2) := by decide +kernel
theorem dX7_grow_259 : decode cX7_grow 259 = .ok (.ior, 1) := by decide +kernel
theorem dX7_grow_260 : decode cX7_grow 260 = .ok (.iastore, 1) := by decide +kernel
theorem dX7_grow_261 : decode cX7_grow 261 = .ok (.aload_n 0, 1) := by decide +kernel
theorem dX7_grow_262 : decode cX7_grow 262 = .ok (.getfield 47, 3) := by decide +kernel
theorem dX7_grow_265 : decode cX7_grow 265 = .ok (.iload_n 1, 1) := by decide +kernel
theorem dX7_grow_266 : decode cX7_grow 266 = .ok (.iconst 1, 1) := by decide +kernel
theorem dX7_grow_267 : decode cX7_grow 267 = .ok (.iadd, 1) := by decide +kernel
theorem dX7_grow_268 : decode cX7_grow 268 = .ok (.iload_n 2, 1) := by decide +kernel
theorem dX7_grow_269 : decode cX7_grow 269 = .ok (.iload 7, 2) := by decide +kernel
theorem dX7_grow_271 : decode cX7_grow 271 = .ok (.ior, 1) := by decide +kernel
theorem dX7_grow_272 : decode cX7_grow 272 = .ok (.iastore, 1) := by decide +kernel
theorem dX7_grow_273 : decode cX7_grow 273 = .ok (.aload_n 0, 1) := by decide +kernel
theorem dX7_grow_274 : decode cX7_grow 274 = .ok (.getfield 50, 3) := by decide +kernel
theorem dX7_grow_277 : decode cX7_grow 277 = .ok (.iload_n 1, 1) := by decide +kernel
theorem dX7_grow_278 : decode cX7_grow 278 = .ok (.iconst 1, 1) := by decide +kernel
theorem dX7_grow_279 : decode cX7_grow 279 = .ok (.iadd, 1) := by decide +kernel
theorem dX7_grow_280 : decode cX7_grow 280 = .ok (.iload_n 3, 1) := by decide +kernel
theorem dX7_grow_281 : decode cX7_grow 281 = .ok (.iastore, 1) := by decide +kernel
theorem dX7_grow_282 : decode cX7_grow 282 = .ok (.iload_n 1, 1) := by decide +kernel
theorem dX7_grow_283 : decode cX7_grow 283 = .ok (.istore 8, 2) := by decide +kernel
theorem dX7_grow_285 : decode cX7_grow 285 = .ok (.iload 8, 2) := by decide +kernel
theorem dX7_grow_287 : decode cX7_grow 287 = .ok (.iload_n 1, 1) := by decide +kernel
theorem dX7_grow_288 : decode cX7_grow 288 = .ok (.iconst 2, 1) := by decide +kernel
theorem dX7_grow_289 : decode cX7_grow 289 = .ok (.iadd, 1) := by decide +kernel
theorem dX7_grow_290 : decode cX7_grow 290 = .ok (.if_icmp .ge 29, 3) := by decide +kernel
theorem dX7_grow_293 : decode cX7_grow 293 = .ok (.aload_n 0, 1) := by decide +kernel
theorem dX7_grow_294 : decode cX7_grow 294 = .ok (.getfield 53, 3) := by decide +kernel
theorem dX7_grow_297 : decode cX7_grow 297 = .ok (.iload 8, 2) := by decide +kernel
theorem dX7_grow_299 : decode cX7_grow 299 = .ok (.iload 6, 2) := by decide +kernel
theorem dX7_grow_301 : decode cX7_grow 301 = .ok (.iastore, 1) := by decide +kernel
theorem dX7_grow_302 : decode cX7_grow 302 = .ok (.aload_n 0, 1) := by decide +kernel
theorem dX7_grow_303 : decode cX7_grow 303 = .ok (.getfield 56, 3) := by decide +kernel
theorem dX7_grow_306 : decode cX7_grow 306 = .ok (.iload 8, 2) := by decide +kernel
theorem dX7_grow_308 : decode cX7_grow 308 = .ok (.iload 4, 2) := by decide +kernel
theorem dX7_grow_310 : decode cX7_grow 310 = .ok (.iconst 1, 1) := by decide +kernel
theorem dX7_grow_311 : decode cX7_grow 311 = .ok (.iadd, 1) := by decide +kernel
theorem dX7_grow_312 : decode cX7_grow 312 = .ok (.iastore, 1) := by decide +kernel
theorem dX7_grow_313 : decode cX7_grow 313 = .ok (.iinc 8 1, 3) := by decide +kernel
theorem dX7_grow_316 : decode cX7_grow 316 = .ok (.goto (-31), 3) := by decide +kernel
theorem dX7_grow_319 : decode cX7_grow 319 = .ok (.iinc 1 2, 3) := by decide +kernel
theorem dX7_grow_322 : decode cX7_grow 322 = .ok (.goto (-287), 3) := by decide +kernel
theorem dX7_grow_325 : decode cX7_grow 325 = .ok (.aload_n 0, 1) := by decide +kernel
theorem dX7_grow_326 : decode cX7_grow 326 = .ok (.getfield 154, 3) := by decide +kernel
theorem dX7_grow_329 : decode cX7_grow 329 = .ok (.ifCond .eq 7, 3) := by decide +kernel
theorem dX7_grow_332 : decode cX7_grow 332 = .ok (.aload_n 0, 1) := by decide +kernel
theorem dX7_grow_333 : decode cX7_grow 333 = .ok (.invokevirtual 187, 3) := by decide +kernel
theorem dX7_grow_336 : decode cX7_grow 336 = .ok (.return_, 1) := by decide +kernel
theorem dX7_write_0 : decode cX7_write 0 = .ok (.iconst 0, 1) := by decide +kernel
theorem dX7_write_1 : decode cX7_write 1 = .ok (.istore_n 1, 1) := by decide +kernel
theorem dX7_write_2 : decode cX7_write 2 = .ok (.iconst 0, 1) := by decide +kernel
theorem dX7_write_3 : decode cX7_write 3 = .ok (.istore_n 2, 1) := by decide +kernel
theorem dX7_write_4 : decode cX7_write 4 = .ok (.iload_n 2, 1) := by decide +kernel
theorem dX7_write_5 : decode cX7_write 5 = .ok (.aload_n 0, 1) := by decide +kernel
theorem dX7_write_6 : decode cX7_write 6 = .ok (.getfield 157, 3) := by decide +kernel
theorem dX7_write_9 : decode cX7_write 9 = .ok (.if_icmp .ge 33, 3) := by decide +kernel
theorem dX7_write_12 : decode cX7_write 12 = .ok (.aload_n 0, 1) := by decide +kernel
theorem dX7_write_13 : decode cX7_write 13 = .ok (.getfield 44, 3) := by decide +kernel
theorem dX7_write_16 : decode cX7_write 16 = .ok (.iload_n 2, 1) := by decide +kernel
theorem dX7_write_17 : decode cX7_write 17 = .ok (.iload_n 1, 1) := by decide +kernel
theorem dX7_write_18 : decode cX7_write 18 = .ok (.iastore, 1) := by decide +kernel
theorem dX7_write_19 : decode cX7_write 19 = .ok (.iload_n 1, 1) := by decide +kernel
theorem dX7_write_20 : decode cX7_write 20 = .ok (.aload_n 0, 1) := by decide +kernel
theorem dX7_write_21 : decode cX7_write 21 = .ok (.getfield 29, 3) := by decide +kernel
theorem dX7_write_24 : decode cX7_write 24 = .ok (.iload_n 2, 1) := by decide +kernel
theorem dX7_write_25 : decode cX7_write 25 = .ok (.iaload, 1) := by decide +kernel
theorem dX7_write_26 : decode cX7_write 26 = .ok (.ifCond .ge 7, 3) := by decide +kernel
theorem dX7_write_29 : decode cX7_write 29 = .ok (.iconst 1, 1) := by decide +kernel
theorem dX7_write_30 : decode cX7_write 30 = .ok (.goto 4, 3) := by decide +kernel
theorem dX7_write_33 : decode cX7_write 33 = .ok (.iconst 3, 1) := by decide +kernel
theorem dX7_write_34 : decode cX7_write 34 = .ok (.iadd, 1) := by decide +kernel
theorem dX7_write_35 : decode cX7_write 35 = .ok (.istore_n 1, 1) := by decide +kernel
theorem dX7_write_36 : decode cX7_write 36 = .ok (.iinc 2 1, 3) := by decide +kernel
theorem dX7_write_39 : decode cX7_write 39 = .ok (.goto (-35), 3) := by decide +kernel
theorem dX7_write_42 : decode cX7_write 42 = .ok (.aload_n 0, 1) := by decide +kernel
theorem dX7_write_43 : decode cX7_write 43 = .ok (.iload_n 1, 1) := by decide +kernel
theorem dX7_write_44 : decode cX7_write 44 = .ok (.putfield 160, 3) := by decide +kernel
theorem dX7_write_47 : decode cX7_write 47 = .ok (.iconst 0, 1) := by decide +kernel
theorem dX7_write_48 : decode cX7_write 48 = .ok (.istore_n 2, 1) := by decide +kernel
theorem dX7_write_49 : decode cX7_write 49 = .ok (.iload_n 2, 1) := by decide +kernel
theorem dX7_write_50 : decode cX7_write 50 = .ok (.aload_n 0, 1) := by decide +kernel
theorem dX7_write_51 : decode cX7_write 51 = .ok (.getfield 157, 3) := by decide +kernel
theorem dX7_write_54 : decode cX7_write 54 = .ok (.if_icmp .ge 101, 3) := by decide +kernel
theorem dX7_write_57 : decode cX7_write 57 = .ok (.aload_n 0, 1) := by decide +kernel
theorem dX7_write_58 : decode cX7_write 58 = .ok (.getfield 44, 3) := by decide +kernel
theorem dX7_write_61 : decode cX7_write 61 = .ok (.iload_n 2, 1) := by decide +kernel
theorem dX7_write_62 : decode cX7_write 62 = .ok (.iaload, 1) := by decide +kernel
theorem dX7_write_63 : decode cX7_write 63 = .ok (.istore_n 3, 1) := by decide +kernel
theorem dX7_write_64 : decode cX7_write 64 = .ok (.aload_n 0, 1) := by decide +kernel
theorem dX7_write_65 : decode cX7_write 65 = .ok (.getfield 29, 3) := by decide +kernel
theorem dX7_write_68 : decode cX7_write 68 = .ok (.iload_n 2, 1) := by decide +kernel
theorem dX7_write_69 : decode cX7_write 69 = .ok (.iaload, 1) := by decide +kernel
theorem dX7_write_70 : decode cX7_write 70 = .ok (.ifCond .ge 22, 3) := by decide +kernel
theorem dX7_write_73 : decode cX7_write 73 = .ok (.aload_n 0, 1) := by decide +kernel
theorem dX7_write_74 : decode cX7_write 74 = .ok (.getfield 59, 3) := by decide +kernel
theorem dX7_write_77 : decode cX7_write 77 = .ok (.iload_n 3, 1) := by decide +kernel
theorem dX7_write_78 : decode cX7_write 78 = .ok (.sipush 128, 3) := by decide +kernel
theorem dX7_write_81 : decode cX7_write 81 = .ok (.aload_n 0, 1) := by decide +kernel
theorem dX7_write_82 : decode cX7_write 82 = .ok (.getfield 38, 3) := by decide +kernel
theorem dX7_write_85 : decode cX7_write 85 = .ok (.iload_n 2, 1) := by decide +kernel
theorem dX7_write_86 : decode cX7_write 86 = .ok (.iaload, 1) := by decide +kernel
theorem dX7_write_87 : decode cX7_write 87 = .ok (.iadd, 1) := by decide +kernel
theorem dX7_write_88 : decode cX7_write 88 = .ok (.iastore, 1) := by decide +kernel
theorem dX7_write_89 : decode cX7_write 89 = .ok (.goto 60, 3) := by decide +kernel
theorem dX7_write_92 : decode cX7_write 92 = .ok (.aload_n 0, 1) := by decide +kernel
theorem dX7_write_93 : decode cX7_write 93 = .ok (.getfield 59, 3) := by decide +kernel
theorem dX7_write_96 : decode cX7_write 96 = .ok (.iload_n 3, 1) := by decide +kernel
theorem dX7_write_97 : decode cX7_write 97 = .ok (.aload_n 0, 1) := by decide +kernel
theorem dX7_write_98 : decode cX7_write 98 = .ok (.getfield 29, 3) := by decide +kernel
theorem dX7_write_101 : decode cX7_write 101 = .ok (.iload_n 2, 1) := by decide +kernel
theorem dX7_write_102 : decode cX7_write 102 = .ok (.iaload, 1) := by decide +kernel
theorem dX7_write_103 : decode cX7_write 103 = .ok (.iastore, 1) := by decide +kernel
theorem dX7_write_104 : decode cX7_write 104 = .ok (.aload_n 0, 1) := by decide +kernel
theorem dX7_write_105 : decode cX7_write 105 = .ok (.getfield 59, 3) := by decide +kernel
theorem dX7_write_108 : decode cX7_write 108 = .ok (.iload_n 3, 1) := by decide +kernel
theorem dX7_write_109 : decode cX7_write 109 = .ok (.iconst 1, 1) := by decide +kernel
theorem dX7_write_110 : decode cX7_write 110 = .ok (.iadd, 1) := by decide +kernel
theorem dX7_write_111 : decode cX7_write 111 = .ok (.aload_n 0, 1) := by decide +kernel
theorem dX7_write_112 : decode cX7_write 112 = .ok (.getfield 44, 3) := by decide +kernel
theorem dX7_write_115 : decode cX7_write 115 = .ok (.aload_n 0, 1) := by decide +kernel
theorem dX7_write_116 : decode cX7_write 116 = .ok (.getfield 35, 3) := by decide +kernel
theorem dX7_write_119 : decode cX7_write 119 = .ok (.iload_n 2, 1) := by decide +kernel
theorem dX7_write_120 : decode cX7_write 120 = .ok (.iaload, 1) := by decide +kernel
theorem dX7_write_121 : decode cX7_write 121 = .ok (.iaload, 1) := by decide +kernel
theorem dX7_write_122 : decode cX7_write 122 = .ok (.bipush 8, 2) := by decide +kernel
theorem dX7_write_124 : decode cX7_write 124 = .ok (.ishr, 1) := by decide +kernel
theorem dX7_write_125 : decode cX7_write 125 = .ok (.iastore, 1) := by decide +kernel
theorem dX7_write_126 : decode cX7_write 126 = .ok (.aload_n 0, 1) := by decide +kernel
theorem dX7_write_127 : decode cX7_write 127 = .ok (.getfield 59, 3) := by decide +kernel
theorem dX7_write_130 : decode cX7_write 130 = .ok (.iload_n 3, 1) := by decide +kernel
theorem dX7_write_131 : decode cX7_write 131 = .ok (.iconst 2, 1) := by decide +kernel
theorem dX7_write_132 : decode cX7_write 132 = .ok (.iadd, 1) := by decide +kernel
theorem dX7_write_133 : decode cX7_write 133 = .ok (.aload_n 0, 1) := by decide +kernel
theorem dX7_write_134 : decode cX7_write 134 = .ok (.getfield 44, 3) := by decide +kernel
theorem dX7_write_137 : decode cX7_write 137 = .ok (.aload_n 0, 1) := by decide +kernel
theorem dX7_write_138 : decode cX7_write 138 = .ok (.getfield 35, 3) := by decide +kernel
theorem dX7_write_141 : decode cX7_write 141 = .ok (.iload_n 2, 1) := by decide +kernel
theorem dX7_write_142 : decode cX7_write 142 = .ok (.iaload, 1) := by decide +kernel
theorem dX7_write_143 : decode cX7_write 143 = .ok (.iaload, 1) := by decide +kernel
theorem dX7_write_144 : decode cX7_write 144 = .ok (.sipush 255, 3) := by decide +kernel
theorem dX7_write_147 : decode cX7_write 147 = .ok (.iand, 1) := by decide +kernel
theorem dX7_write_148 : decode cX7_write 148 = .ok (.iastore, 1) := by decide +kernel
theorem dX7_write_149 : decode cX7_write 149 = .ok (.iinc 2 1, 3) := by decide +kernel
theorem dX7_write_152 : decode cX7_write 152 = .ok (.goto (-103), 3) := by decide +kernel
theorem dX7_write_155 : decode cX7_write 155 = .ok (.return_, 1) := by decide +kernel
theorem dX7_amiss_0 : decode cX7_amiss 0 = .ok (.aload_n 0, 1) := by decide +kernel
theorem dX7_amiss_1 : decode cX7_amiss 1 = .ok (.aload_n 0, 1) := by decide +kernel
theorem dX7_amiss_2 : decode cX7_amiss 2 = .ok (.getfield 125, 3) := by decide +kernel
theorem dX7_amiss_5 : decode cX7_amiss 5 = .ok (.ifCond .ne 7, 3) := by decide +kernel
theorem dX7_amiss_8 : decode cX7_amiss 8 = .ok (.iconst 1, 1) := by decide +kernel
theorem dX7_amiss_9 : decode cX7_amiss 9 = .ok (.goto 17, 3) := by decide +kernel
theorem dX7_amiss_12 : decode cX7_amiss 12 = .ok (.iload_n 1, 1) := by decide +kernel
theorem dX7_amiss_13 : decode cX7_amiss 13 = .ok (.ifCond .lt 8, 3) := by decide +kernel
theorem dX7_amiss_16 : decode cX7_amiss 16 = .ok (.iload_n 1, 1) := by decide +kernel
theorem dX7_amiss_17 : decode cX7_amiss 17 = .ok (.iconst 2, 1) := by decide +kernel
theorem dX7_amiss_18 : decode cX7_amiss 18 = .ok (.if_icmp .le 7, 3) := by decide +kernel
theorem dX7_amiss_21 : decode cX7_amiss 21 = .ok (.iconst 2, 1) := by decide +kernel
theorem dX7_amiss_22 : decode cX7_amiss 22 = .ok (.goto 4, 3) := by decide +kernel
theorem dX7_amiss_25 : decode cX7_amiss 25 = .ok (.iconst 0, 1) := by decide +kernel
theorem dX7_amiss_26 : decode cX7_amiss 26 = .ok (.putfield 62, 3) := by decide +kernel
theorem dX7_amiss_29 : decode cX7_amiss 29 = .ok (.aload_n 0, 1) := by decide +kernel
theorem dX7_amiss_30 : decode cX7_amiss 30 = .ok (.getfield 62, 3) := by decide +kernel
theorem dX7_amiss_33 : decode cX7_amiss 33 = .ok (.ifCond .le 7, 3) := by decide +kernel
theorem dX7_amiss_36 : decode cX7_amiss 36 = .ok (.iconst 0, 1) := by decide +kernel
theorem dX7_amiss_37 : decode cX7_amiss 37 = .ok (.goto 30, 3) := by decide +kernel
theorem dX7_amiss_40 : decode cX7_amiss 40 = .ok (.iload_n 1, 1) := by decide +kernel
theorem dX7_amiss_41 : decode cX7_amiss 41 = .ok (.ifCond .ne 10, 3) := by decide +kernel
theorem dX7_amiss_44 : decode cX7_amiss 44 = .ok (.aload_n 0, 1) := by decide +kernel
theorem dX7_amiss_45 : decode cX7_amiss 45 = .ok (.getfield 145, 3) := by decide +kernel
theorem dX7_amiss_48 : decode cX7_amiss 48 = .ok (.goto 19, 3) := by decide +kernel
theorem dX7_amiss_51 : decode cX7_amiss 51 = .ok (.iload_n 1, 1) := by decide +kernel
theorem dX7_amiss_52 : decode cX7_amiss 52 = .ok (.iconst 1, 1) := by decide +kernel
theorem dX7_amiss_53 : decode cX7_amiss 53 = .ok (.if_icmp .ne 10, 3) := by decide +kernel
theorem dX7_amiss_56 : decode cX7_amiss 56 = .ok (.aload_n 0, 1) := by decide +kernel
theorem dX7_amiss_57 : decode cX7_amiss 57 = .ok (.getfield 148, 3) := by decide +kernel
theorem dX7_amiss_60 : decode cX7_amiss 60 = .ok (.goto 7, 3) := by decide +kernel
theorem dX7_amiss_63 : decode cX7_amiss 63 = .ok (.aload_n 0, 1) := by decide +kernel
theorem dX7_amiss_64 : decode cX7_amiss 64 = .ok (.getfield 151, 3) := by decide +kernel
theorem dX7_amiss_67 : decode cX7_amiss 67 = .ok (.ireturn, 1) := by decide +kernel
theorem dX7_count_0 : decode cX7_count 0 = .ok (.aload_n 0, 1) := by decide +kernel
theorem dX7_count_1 : decode cX7_count 1 = .ok (.iload_n 1, 1) := by decide +kernel
theorem dX7_count_2 : decode cX7_count 2 = .ok (.ifCond .lt 9, 3) := by decide +kernel
theorem dX7_count_5 : decode cX7_count 5 = .ok (.iload_n 1, 1) := by decide +kernel
theorem dX7_count_6 : decode cX7_count 6 = .ok (.bipush 7, 2) := by decide +kernel
theorem dX7_count_8 : decode cX7_count 8 = .ok (.if_icmp .le 7, 3) := by decide +kernel
theorem dX7_count_11 : decode cX7_count 11 = .ok (.iconst 1, 1) := by decide +kernel
theorem dX7_count_12 : decode cX7_count 12 = .ok (.goto 4, 3) := by decide +kernel
theorem dX7_count_15 : decode cX7_count 15 = .ok (.iconst 0, 1) := by decide +kernel
theorem dX7_count_16 : decode cX7_count 16 = .ok (.putfield 62, 3) := by decide +kernel
theorem dX7_count_19 : decode cX7_count 19 = .ok (.iload_n 1, 1) := by decide +kernel
theorem dX7_count_20 : decode cX7_count 20 = .ok (.bipush 7, 2) := by decide +kernel
theorem dX7_count_22 : decode cX7_count 22 = .ok (.if_icmp .ne 8, 3) := by decide +kernel
theorem dX7_count_25 : decode cX7_count 25 = .ok (.aload_n 0, 1) := by decide +kernel
theorem dX7_count_26 : decode cX7_count 26 = .ok (.getfield 66, 3) := by decide +kernel
theorem dX7_count_29 : decode cX7_count 29 = .ok (.ireturn, 1) := by decide +kernel
theorem dX7_count_30 : decode cX7_count 30 = .ok (.aload_n 0, 1) := by decide +kernel
theorem dX7_count_31 : decode cX7_count 31 = .ok (.getfield 62, 3) := by decide +kernel
theorem dX7_count_34 : decode cX7_count 34 = .ok (.ifCond .gt 10, 3) := by decide +kernel
theorem dX7_count_37 : decode cX7_count 37 = .ok (.aload_n 0, 1) := by decide +kernel
theorem dX7_count_38 : decode cX7_count 38 = .ok (.getfield 125, 3) := by decide +kernel
theorem dX7_count_41 : decode cX7_count 41 = .ok (.ifCond .ne 5, 3) := by decide +kernel
theorem dX7_count_44 : decode cX7_count 44 = .ok (.iconst 0, 1) := by decide +kernel
theorem dX7_count_45 : decode cX7_count 45 = .ok (.ireturn, 1) := by decide +kernel
theorem dX7_count_46 : decode cX7_count 46 = .ok (.iconst 0, 1) := by decide +kernel
theorem dX7_count_47 : decode cX7_count 47 = .ok (.istore_n 2, 1) := by decide +kernel
theorem dX7_count_48 : decode cX7_count 48 = .ok (.iload_n 1, 1) := by decide +kernel
theorem dX7_count_49 : decode cX7_count 49 = .ok (.tableswitch 99 0 5 #[39, 44, 49, 54, 59, 94], 39) := by decide +kernel
theorem dX7_count_88 : decode cX7_count 88 = .ok (.aload_n 0, 1) := by decide +kernel
theorem dX7_count_89 : decode cX7_count 89 = .ok (.getfield 116, 3) := by decide +kernel
theorem dX7_count_92 : decode cX7_count 92 = .ok (.ireturn, 1) := by decide +kernel
theorem dX7_count_93 : decode cX7_count 93 = .ok (.aload_n 0, 1) := by decide +kernel
theorem dX7_count_94 : decode cX7_count 94 = .ok (.getfield 119, 3) := by decide +kernel
theorem dX7_count_97 : decode cX7_count 97 = .ok (.ireturn, 1) := by decide +kernel
theorem dX7_count_98 : decode cX7_count 98 = .ok (.aload_n 0, 1) := by decide +kernel
theorem dX7_count_99 : decode cX7_count 99 = .ok (.getfield 122, 3) := by decide +kernel
theorem dX7_count_102 : decode cX7_count 102 = .ok (.ireturn, 1) := by decide +kernel
theorem dX7_count_103 : decode cX7_count 103 = .ok (.aload_n 0, 1) := by decide +kernel
theorem dX7_count_104 : decode cX7_count 104 = .ok (.getfield 157, 3) := by decide +kernel
theorem dX7_count_107 : decode cX7_count 107 = .ok (.ireturn, 1) := by decide +kernel
theorem dX7_count_108 : decode cX7_count 108 = .ok (.iconst 0, 1) := by decide +kernel
theorem dX7_count_109 : decode cX7_count 109 = .ok (.istore_n 3, 1) := by decide +kernel
theorem dX7_count_110 : decode cX7_count 110 = .ok (.iload_n 3, 1) := by decide +kernel
theorem dX7_count_111 : decode cX7_count 111 = .ok (.aload_n 0, 1) := by decide +kernel
theorem dX7_count_112 : decode cX7_count 112 = .ok (.getfield 157, 3) := by decide +kernel
theorem dX7_count_115 : decode cX7_count 115 = .ok (.if_icmp .ge 26, 3) := by decide +kernel
theorem dX7_count_118 : decode cX7_count 118 = .ok (.iload_n 2, 1) := by decide +kernel
theorem dX7_count_119 : decode cX7_count 119 = .ok (.aload_n 0, 1) := by decide +kernel
theorem dX7_count_120 : decode cX7_count 120 = .ok (.getfield 29, 3) := by decide +kernel
theorem dX7_count_123 : decode cX7_count 123 = .ok (.iload_n 3, 1) := by decide +kernel
theorem dX7_count_124 : decode cX7_count 124 = .ok (.iaload, 1) := by decide +kernel
theorem dX7_count_125 : decode cX7_count 125 = .ok (.ifCond .ge 7, 3) := by decide +kernel
theorem dX7_count_128 : decode cX7_count 128 = .ok (.iconst 1, 1) := by decide +kernel
theorem dX7_count_129 : decode cX7_count 129 = .ok (.goto 4, 3) := by decide +kernel
theorem dX7_count_132 : decode cX7_count 132 = .ok (.iconst 0, 1) := by decide +kernel
theorem dX7_count_133 : decode cX7_count 133 = .ok (.iadd, 1) := by decide +kernel
theorem dX7_count_134 : decode cX7_count 134 = .ok (.istore_n 2, 1) := by decide +kernel
theorem dX7_count_135 : decode cX7_count 135 = .ok (.iinc 3 1, 3) := by decide +kernel
theorem dX7_count_138 : decode cX7_count 138 = .ok (.goto (-28), 3) := by decide +kernel
theorem dX7_count_141 : decode cX7_count 141 = .ok (.iload_n 2, 1) := by decide +kernel
theorem dX7_count_142 : decode cX7_count 142 = .ok (.ireturn, 1) := by decide +kernel
theorem dX7_count_143 : decode cX7_count 143 = .ok (.aload_n 0, 1) := by decide +kernel
theorem dX7_count_144 : decode cX7_count 144 = .ok (.getfield 160, 3) := by decide +kernel
theorem dX7_count_147 : decode cX7_count 147 = .ok (.ireturn, 1) := by decide +kernel
theorem dX7_count_148 : decode cX7_count 148 = .ok (.iconst 0, 1) := by decide +kernel
theorem dX7_count_149 : decode cX7_count 149 = .ok (.istore_n 3, 1) := by decide +kernel
theorem dX7_count_150 : decode cX7_count 150 = .ok (.iload_n 3, 1) := by decide +kernel
theorem dX7_count_151 : decode cX7_count 151 = .ok (.aload_n 0, 1) := by decide +kernel
theorem dX7_count_152 : decode cX7_count 152 = .ok (.getfield 157, 3) := by decide +kernel
theorem dX7_count_155 : decode cX7_count 155 = .ok (.if_icmp .ge 30, 3) := by decide +kernel
theorem dX7_count_158 : decode cX7_count 158 = .ok (.aload_n 0, 1) := by decide +kernel
theorem dX7_count_159 : decode cX7_count 159 = .ok (.getfield 41, 3) := by decide +kernel
theorem dX7_count_162 : decode cX7_count 162 = .ok (.iload_n 3, 1) := by decide +kernel
theorem dX7_count_163 : decode cX7_count 163 = .ok (.iaload, 1) := by decide +kernel
theorem dX7_count_164 : decode cX7_count 164 = .ok (.iload_n 2, 1) := by decide +kernel
theorem dX7_count_165 : decode cX7_count 165 = .ok (.if_icmp .le 12, 3) := by decide +kernel
theorem dX7_count_168 : decode cX7_count 168 = .ok (.aload_n 0, 1) := by decide +kernel
theorem dX7_count_169 : decode cX7_count 169 = .ok (.getfield 41, 3) := by decide +kernel
theorem dX7_count_172 : decode cX7_count 172 = .ok (.iload_n 3, 1) := by decide +kernel
theorem dX7_count_173 : decode cX7_count 173 = .ok (.iaload, 1) := by decide +kernel
theorem dX7_count_174 : decode cX7_count 174 = .ok (.goto 4, 3) := by decide +kernel
theorem dX7_count_177 : decode cX7_count 177 = .ok (.iload_n 2, 1) := by decide +kernel
theorem dX7_count_178 : decode cX7_count 178 = .ok (.istore_n 2, 1) := by decide +kernel
theorem dX7_count_179 : decode cX7_count 179 = .ok (.iinc 3 1, 3) := by decide +kernel
theorem dX7_count_182 : decode cX7_count 182 = .ok (.goto (-32), 3) := by decide +kernel
theorem dX7_count_185 : decode cX7_count 185 = .ok (.iload_n 2, 1) := by decide +kernel
theorem dX7_count_186 : decode cX7_count 186 = .ok (.ireturn, 1) := by decide +kernel
theorem dX7_rule_0 : decode cX7_rule 0 = .ok (.aload_n 0, 1) := by decide +kernel
theorem dX7_rule_1 : decode cX7_rule 1 = .ok (.aload_n 0, 1) := by decide +kernel
theorem dX7_rule_2 : decode cX7_rule 2 = .ok (.getfield 125, 3) := by decide +kernel
theorem dX7_rule_5 : decode cX7_rule 5 = .ok (.ifCond .eq 28, 3) := by decide +kernel
theorem dX7_rule_8 : decode cX7_rule 8 = .ok (.iload_n 1, 1) := by decide +kernel
theorem dX7_rule_9 : decode cX7_rule 9 = .ok (.ifCond .lt 24, 3) := by decide +kernel
theorem dX7_rule_12 : decode cX7_rule 12 = .ok (.iload_n 1, 1) := by decide +kernel
theorem dX7_rule_13 : decode cX7_rule 13 = .ok (.aload_n 0, 1) := by decide +kernel
theorem dX7_rule_14 : decode cX7_rule 14 = .ok (.getfield 119, 3) := by decide +kernel
theorem dX7_rule_17 : decode cX7_rule 17 = .ok (.if_icmp .ge 16, 3) := by decide +kernel
theorem dX7_rule_20 : decode cX7_rule 20 = .ok (.iload_n 2, 1) := by decide +kernel
theorem dX7_rule_21 : decode cX7_rule 21 = .ok (.iconst (-1), 1) := by decide +kernel
theorem dX7_rule_22 : decode cX7_rule 22 = .ok (.if_icmp .lt 11, 3) := by decide +kernel
theorem dX7_rule_25 : decode cX7_rule 25 = .ok (.iload_n 2, 1) := by decide +kernel
theorem dX7_rule_26 : decode cX7_rule 26 = .ok (.aload_n 0, 1) := by decide +kernel
theorem dX7_rule_27 : decode cX7_rule 27 = .ok (.getfield 116, 3) := by decide +kernel
theorem dX7_rule_30 : decode cX7_rule 30 = .ok (.if_icmp .lt 7, 3) := by decide +kernel
theorem dX7_rule_33 : decode cX7_rule 33 = .ok (.iconst 1, 1) := by decide +kernel
theorem dX7_rule_34 : decode cX7_rule 34 = .ok (.goto 4, 3) := by decide +kernel
theorem dX7_rule_37 : decode cX7_rule 37 = .ok (.iconst 0, 1) := by decide +kernel
theorem dX7_rule_38 : decode cX7_rule 38 = .ok (.putfield 62, 3) := by decide +kernel
theorem dX7_rule_41 : decode cX7_rule 41 = .ok (.aload_n 0, 1) := by decide +kernel
theorem dX7_rule_42 : decode cX7_rule 42 = .ok (.getfield 62, 3) := by decide +kernel
theorem dX7_rule_45 : decode cX7_rule 45 = .ok (.ifCond .le 5, 3) := by decide +kernel
theorem dX7_rule_48 : decode cX7_rule 48 = .ok (.iconst 0, 1) := by decide +kernel
theorem dX7_rule_49 : decode cX7_rule 49 = .ok (.ireturn, 1) := by decide +kernel
theorem dX7_rule_50 : decode cX7_rule 50 = .ok (.iload_n 2, 1) := by decide +kernel
theorem dX7_rule_51 : decode cX7_rule 51 = .ok (.iconst (-1), 1) := by decide +kernel
theorem dX7_rule_52 : decode cX7_rule 52 = .ok (.if_icmp .ne 12, 3) := by decide +kernel
theorem dX7_rule_55 : decode cX7_rule 55 = .ok (.aload_n 0, 1) := by decide +kernel
theorem dX7_rule_56 : decode cX7_rule 56 = .ok (.getfield 26, 3) := by decide +kernel
theorem dX7_rule_59 : decode cX7_rule 59 = .ok (.iload_n 1, 1) := by decide +kernel
theorem dX7_rule_60 : decode cX7_rule 60 = .ok (.iaload, 1) := by decide +kernel
theorem dX7_rule_61 : decode cX7_rule 61 = .ok (.goto 40, 3) := by decide +kernel
theorem dX7_rule_64 : decode cX7_rule 64 = .ok (.aload_n 0, 1) := by decide +kernel
theorem dX7_rule_65 : decode cX7_rule 65 = .ok (.getfield 20, 3) := by decide +kernel
theorem dX7_rule_68 : decode cX7_rule 68 = .ok (.iload_n 1, 1) := by decide +kernel
theorem dX7_rule_69 : decode cX7_rule 69 = .ok (.iaload, 1) := by decide +kernel
theorem dX7_rule_70 : decode cX7_rule 70 = .ok (.iload_n 2, 1) := by decide +kernel
theorem dX7_rule_71 : decode cX7_rule 71 = .ok (.ishr, 1) := by decide +kernel
theorem dX7_rule_72 : decode cX7_rule 72 = .ok (.iconst 1, 1) := by decide +kernel
theorem dX7_rule_73 : decode cX7_rule 73 = .ok (.iand, 1) := by decide +kernel
theorem dX7_rule_74 : decode cX7_rule 74 = .ok (.iconst 1, 1) := by decide +kernel
theorem dX7_rule_75 : decode cX7_rule 75 = .ok (.if_icmp .ne 7, 3) := by decide +kernel
theorem dX7_rule_78 : decode cX7_rule 78 = .ok (.iconst 1, 1) := by decide +kernel
theorem dX7_rule_79 : decode cX7_rule 79 = .ok (.goto 22, 3) := by decide +kernel
theorem dX7_rule_82 : decode cX7_rule 82 = .ok (.aload_n 0, 1) := by decide +kernel
theorem dX7_rule_83 : decode cX7_rule 83 = .ok (.getfield 23, 3) := by decide +kernel
theorem dX7_rule_86 : decode cX7_rule 86 = .ok (.iload_n 1, 1) := by decide +kernel
theorem dX7_rule_87 : decode cX7_rule 87 = .ok (.iaload, 1) := by decide +kernel
theorem dX7_rule_88 : decode cX7_rule 88 = .ok (.iload_n 2, 1) := by decide +kernel
theorem dX7_rule_89 : decode cX7_rule 89 = .ok (.ishr, 1) := by decide +kernel
theorem dX7_rule_90 : decode cX7_rule 90 = .ok (.iconst 1, 1) := by decide +kernel
theorem dX7_rule_91 : decode cX7_rule 91 = .ok (.iand, 1) := by decide +kernel
theorem dX7_rule_92 : decode cX7_rule 92 = .ok (.iconst 1, 1) := by decide +kernel
theorem dX7_rule_93 : decode cX7_rule 93 = .ok (.if_icmp .ne 7, 3) := by decide +kernel
theorem dX7_rule_96 : decode cX7_rule 96 = .ok (.iconst 0, 1) := by decide +kernel
theorem dX7_rule_97 : decode cX7_rule 97 = .ok (.goto 4, 3) := by decide +kernel
theorem dX7_rule_100 : decode cX7_rule 100 = .ok (.iconst 2, 1) := by decide +kernel
theorem dX7_rule_101 : decode cX7_rule 101 = .ok (.ireturn, 1) := by decide +kernel
theorem dX7_name_0 : decode cX7_name 0 = .ok (.iload_n 1, 1) := by decide +kernel
theorem dX7_name_1 : decode cX7_name 1 = .ok (.ifCond .eq 10, 3) := by decide +kernel
theorem dX7_name_4 : decode cX7_name 4 = .ok (.bipush 16, 2) := by decide +kernel
theorem dX7_name_6 : decode cX7_name 6 = .ok (.iload_n 2, 1) := by decide +kernel
theorem dX7_name_7 : decode cX7_name 7 = .ok (.iadd, 1) := by decide +kernel
theorem dX7_name_8 : decode cX7_name 8 = .ok (.goto 4, 3) := by decide +kernel
theorem dX7_name_11 : decode cX7_name 11 = .ok (.iload_n 2, 1) := by decide +kernel
theorem dX7_name_12 : decode cX7_name 12 = .ok (.istore 4, 2) := by decide +kernel
theorem dX7_name_14 : decode cX7_name 14 = .ok (.aload_n 0, 1) := by decide +kernel
theorem dX7_name_15 : decode cX7_name 15 = .ok (.aload_n 0, 1) := by decide +kernel
theorem dX7_name_16 : decode cX7_name 16 = .ok (.getfield 125, 3) := by decide +kernel
theorem dX7_name_19 : decode cX7_name 19 = .ok (.ifCond .eq 42, 3) := by decide +kernel
theorem dX7_name_22 : decode cX7_name 22 = .ok (.iload_n 2, 1) := by decide +kernel
theorem dX7_name_23 : decode cX7_name 23 = .ok (.ifCond .lt 38, 3) := by decide +kernel
theorem dX7_name_26 : decode cX7_name 26 = .ok (.iload_n 2, 1) := by decide +kernel
theorem dX7_name_27 : decode cX7_name 27 = .ok (.iload_n 1, 1) := by decide +kernel
theorem dX7_name_28 : decode cX7_name 28 = .ok (.ifCond .eq 10, 3) := by decide +kernel
theorem dX7_name_31 : decode cX7_name 31 = .ok (.aload_n 0, 1) := by decide +kernel
theorem dX7_name_32 : decode cX7_name 32 = .ok (.getfield 122, 3) := by decide +kernel
theorem dX7_name_35 : decode cX7_name 35 = .ok (.goto 7, 3) := by decide +kernel
theorem dX7_name_38 : decode cX7_name 38 = .ok (.aload_n 0, 1) := by decide +kernel
theorem dX7_name_39 : decode cX7_name 39 = .ok (.getfield 116, 3) := by decide +kernel
theorem dX7_name_42 : decode cX7_name 42 = .ok (.if_icmp .ge 19, 3) := by decide +kernel
theorem dX7_name_45 : decode cX7_name 45 = .ok (.iload_n 3, 1) := by decide +kernel
theorem dX7_name_46 : decode cX7_name 46 = .ok (.iconst (-1), 1) := by decide +kernel
theorem dX7_name_47 : decode cX7_name 47 = .ok (.if_icmp .lt 14, 3) := by decide +kernel
theorem dX7_name_50 : decode cX7_name 50 = .ok (.iload_n 3, 1) := by decide +kernel
theorem dX7_name_51 : decode cX7_name 51 = .ok (.aload_n 0, 1) := by decide +kernel
theorem dX7_name_52 : decode cX7_name 52 = .ok (.getfield 16, 3) := by decide +kernel
theorem dX7_name_55 : decode cX7_name 55 = .ok (.iload 4, 2) := by decide +kernel
theorem dX7_name_57 : decode cX7_name 57 = .ok (.iaload, 1) := by decide +kernel
theorem dX7_name_58 : decode cX7_name 58 = .ok (.if_icmp .lt 7, 3) := by decide +kernel
theorem dX7_name_61 : decode cX7_name 61 = .ok (.iconst 1, 1) := by decide +kernel
theorem dX7_name_62 : decode cX7_name 62 = .ok (.goto 4, 3) := by decide +kernel
theorem dX7_name_65 : decode cX7_name 65 = .ok (.iconst 0, 1) := by decide +kernel
theorem dX7_name_66 : decode cX7_name 66 = .ok (.putfield 62, 3) := by decide +kernel
theorem dX7_name_69 : decode cX7_name 69 = .ok (.aload_n 0, 1) := by decide +kernel
theorem dX7_name_70 : decode cX7_name 70 = .ok (.getfield 62, 3) := by decide +kernel
theorem dX7_name_73 : decode cX7_name 73 = .ok (.ifCond .le 7, 3) := by decide +kernel
theorem dX7_name_76 : decode cX7_name 76 = .ok (.iconst 0, 1) := by decide +kernel
theorem dX7_name_77 : decode cX7_name 77 = .ok (.goto 30, 3) := by decide +kernel
theorem dX7_name_80 : decode cX7_name 80 = .ok (.iload_n 3, 1) := by decide +kernel
theorem dX7_name_81 : decode cX7_name 81 = .ok (.iconst (-1), 1) := by decide +kernel
theorem dX7_name_82 : decode cX7_name 82 = .ok (.if_icmp .ne 13, 3) := by decide +kernel
theorem dX7_name_85 : decode cX7_name 85 = .ok (.aload_n 0, 1) := by decide +kernel
theorem dX7_name_86 : decode cX7_name 86 = .ok (.getfield 16, 3) := by decide +kernel
theorem dX7_name_89 : decode cX7_name 89 = .ok (.iload 4, 2) := by decide +kernel
theorem dX7_name_91 : decode cX7_name 91 = .ok (.iaload, 1) := by decide +kernel
theorem dX7_name_92 : decode cX7_name 92 = .ok (.goto 15, 3) := by decide +kernel
theorem dX7_name_95 : decode cX7_name 95 = .ok (.aload_n 0, 1) := by decide +kernel
theorem dX7_name_96 : decode cX7_name 96 = .ok (.getfield 13, 3) := by decide +kernel
theorem dX7_name_99 : decode cX7_name 99 = .ok (.bipush 10, 2) := by decide +kernel
theorem dX7_name_101 : decode cX7_name 101 = .ok (.iload 4, 2) := by decide +kernel
theorem dX7_name_103 : decode cX7_name 103 = .ok (.imul, 1) := by decide +kernel
theorem dX7_name_104 : decode cX7_name 104 = .ok (.iload_n 3, 1) := by decide +kernel
theorem dX7_name_105 : decode cX7_name 105 = .ok (.iadd, 1) := by decide +kernel
theorem dX7_name_106 : decode cX7_name 106 = .ok (.baload, 1) := by decide +kernel
theorem dX7_name_107 : decode cX7_name 107 = .ok (.ireturn, 1) := by decide +kernel
theorem dX7_isCase_0 : decode cX7_isCase 0 = .ok (.iload_n 1, 1) := by decide +kernel
theorem dX7_isCase_1 : decode cX7_isCase 1 = .ok (.ifCond .lt 15, 3) := by decide +kernel
theorem dX7_isCase_4 : decode cX7_isCase 4 = .ok (.iload_n 1, 1) := by decide +kernel
theorem dX7_isCase_5 : decode cX7_isCase 5 = .ok (.aload_n 0, 1) := by decide +kernel
theorem dX7_isCase_6 : decode cX7_isCase 6 = .ok (.invokevirtual 163, 3) := by decide +kernel
theorem dX7_isCase_9 : decode cX7_isCase 9 = .ok (.if_icmp .ge 7, 3) := by decide +kernel
theorem dX7_isCase_12 : decode cX7_isCase 12 = .ok (.iconst 1, 1) := by decide +kernel
theorem dX7_isCase_13 : decode cX7_isCase 13 = .ok (.goto 4, 3) := by decide +kernel
theorem dX7_isCase_16 : decode cX7_isCase 16 = .ok (.iconst 0, 1) := by decide +kernel
theorem dX7_isCase_17 : decode cX7_isCase 17 = .ok (.ireturn, 1) := by decide +kernel
theorem dX7_meets_0 : decode cX7_meets 0 = .ok (.aload_n 0, 1) := by decide +kernel
theorem dX7_meets_1 : decode cX7_meets 1 = .ok (.aload_n 0, 1) := by decide +kernel
theorem dX7_meets_2 : decode cX7_meets 2 = .ok (.getfield 125, 3) := by decide +kernel
theorem dX7_meets_5 : decode cX7_meets 5 = .ok (.ifCond .ne 7, 3) := by decide +kernel
theorem dX7_meets_8 : decode cX7_meets 8 = .ok (.iconst 1, 1) := by decide +kernel
theorem dX7_meets_9 : decode cX7_meets 9 = .ok (.goto 16, 3) := by decide +kernel
theorem dX7_meets_12 : decode cX7_meets 12 = .ok (.aload_n 0, 1) := by decide +kernel
theorem dX7_meets_13 : decode cX7_meets 13 = .ok (.iload_n 1, 1) := by decide +kernel
theorem dX7_meets_14 : decode cX7_meets 14 = .ok (.invokevirtual 190, 3) := by decide +kernel
theorem dX7_meets_17 : decode cX7_meets 17 = .ok (.ifCond .ne 7, 3) := by decide +kernel
theorem dX7_meets_20 : decode cX7_meets 20 = .ok (.iconst 2, 1) := by decide +kernel
theorem dX7_meets_21 : decode cX7_meets 21 = .ok (.goto 4, 3) := by decide +kernel
theorem dX7_meets_24 : decode cX7_meets 24 = .ok (.iconst 0, 1) := by decide +kernel
theorem dX7_meets_25 : decode cX7_meets 25 = .ok (.putfield 62, 3) := by decide +kernel
theorem dX7_meets_28 : decode cX7_meets 28 = .ok (.aload_n 0, 1) := by decide +kernel
theorem dX7_meets_29 : decode cX7_meets 29 = .ok (.getfield 62, 3) := by decide +kernel
theorem dX7_meets_32 : decode cX7_meets 32 = .ok (.ifCond .le 7, 3) := by decide +kernel
theorem dX7_meets_35 : decode cX7_meets 35 = .ok (.iconst 0, 1) := by decide +kernel
theorem dX7_meets_36 : decode cX7_meets 36 = .ok (.goto 8, 3) := by decide +kernel
theorem dX7_meets_39 : decode cX7_meets 39 = .ok (.aload_n 0, 1) := by decide +kernel
theorem dX7_meets_40 : decode cX7_meets 40 = .ok (.iload_n 1, 1) := by decide +kernel
theorem dX7_meets_41 : decode cX7_meets 41 = .ok (.invokevirtual 166, 3) := by decide +kernel
theorem dX7_meets_44 : decode cX7_meets 44 = .ok (.ireturn, 1) := by decide +kernel
theorem dX7_cases_0 : decode cX7_cases 0 = .ok (.aload_n 0, 1) := by decide +kernel
theorem dX7_cases_1 : decode cX7_cases 1 = .ok (.aload_n 0, 1) := by decide +kernel
theorem dX7_cases_2 : decode cX7_cases 2 = .ok (.getfield 125, 3) := by decide +kernel
theorem dX7_cases_5 : decode cX7_cases 5 = .ok (.ifCond .ne 7, 3) := by decide +kernel
theorem dX7_cases_8 : decode cX7_cases 8 = .ok (.iconst 1, 1) := by decide +kernel
theorem dX7_cases_9 : decode cX7_cases 9 = .ok (.goto 21, 3) := by decide +kernel
theorem dX7_cases_12 : decode cX7_cases 12 = .ok (.iload_n 1, 1) := by decide +kernel
theorem dX7_cases_13 : decode cX7_cases 13 = .ok (.iconst (-1), 1) := by decide +kernel
theorem dX7_cases_14 : decode cX7_cases 14 = .ok (.if_icmp .lt 11, 3) := by decide +kernel
theorem dX7_cases_17 : decode cX7_cases 17 = .ok (.iload_n 1, 1) := by decide +kernel
theorem dX7_cases_18 : decode cX7_cases 18 = .ok (.aload_n 0, 1) := by decide +kernel
theorem dX7_cases_19 : decode cX7_cases 19 = .ok (.getfield 122, 3) := by decide +kernel
theorem dX7_cases_22 : decode cX7_cases 22 = .ok (.if_icmp .lt 7, 3) := by decide +kernel
theorem dX7_cases_25 : decode cX7_cases 25 = .ok (.iconst 2, 1) := by decide +kernel
theorem dX7_cases_26 : decode cX7_cases 26 = .ok (.goto 4, 3) := by decide +kernel
theorem dX7_cases_29 : decode cX7_cases 29 = .ok (.iconst 0, 1) := by decide +kernel
theorem dX7_cases_30 : decode cX7_cases 30 = .ok (.putfield 62, 3) := by decide +kernel
theorem dX7_cases_33 : decode cX7_cases 33 = .ok (.aload_n 0, 1) := by decide +kernel
theorem dX7_cases_34 : decode cX7_cases 34 = .ok (.getfield 62, 3) := by decide +kernel
theorem dX7_cases_37 : decode cX7_cases 37 = .ok (.ifCond .le 5, 3) := by decide +kernel
theorem dX7_cases_40 : decode cX7_cases 40 = .ok (.iconst 0, 1) := by decide +kernel
theorem dX7_cases_41 : decode cX7_cases 41 = .ok (.ireturn, 1) := by decide +kernel
theorem dX7_cases_42 : decode cX7_cases 42 = .ok (.iconst 0, 1) := by decide +kernel
theorem dX7_cases_43 : decode cX7_cases 43 = .ok (.istore_n 2, 1) := by decide +kernel
theorem dX7_cases_44 : decode cX7_cases 44 = .ok (.iconst 0, 1) := by decide +kernel
theorem dX7_cases_45 : decode cX7_cases 45 = .ok (.istore_n 3, 1) := by decide +kernel
theorem dX7_cases_46 : decode cX7_cases 46 = .ok (.iload_n 3, 1) := by decide +kernel
theorem dX7_cases_47 : decode cX7_cases 47 = .ok (.aload_n 0, 1) := by decide +kernel
theorem dX7_cases_48 : decode cX7_cases 48 = .ok (.invokevirtual 163, 3) := by decide +kernel
theorem dX7_cases_51 : decode cX7_cases 51 = .ok (.if_icmp .ge 98, 3) := by decide +kernel
theorem dX7_cases_54 : decode cX7_cases 54 = .ok (.iload_n 1, 1) := by decide +kernel
theorem dX7_cases_55 : decode cX7_cases 55 = .ok (.iconst (-1), 1) := by decide +kernel
theorem dX7_cases_56 : decode cX7_cases 56 = .ok (.if_icmp .ne 15, 3) := by decide +kernel
theorem dX7_cases_59 : decode cX7_cases 59 = .ok (.aload_n 0, 1) := by decide +kernel
theorem dX7_cases_60 : decode cX7_cases 60 = .ok (.iload_n 3, 1) := by decide +kernel
theorem dX7_cases_61 : decode cX7_cases 61 = .ok (.invokevirtual 166, 3) := by decide +kernel
theorem dX7_cases_64 : decode cX7_cases 64 = .ok (.ifCond .ge 7, 3) := by decide +kernel
theorem dX7_cases_67 : decode cX7_cases 67 = .ok (.iconst 1, 1) := by decide +kernel
theorem dX7_cases_68 : decode cX7_cases 68 = .ok (.goto 4, 3) := by decide +kernel
theorem dX7_cases_71 : decode cX7_cases 71 = .ok (.iconst 0, 1) := by decide +kernel
theorem dX7_cases_72 : decode cX7_cases 72 = .ok (.istore 4, 2) := by decide +kernel
theorem dX7_cases_74 : decode cX7_cases 74 = .ok (.iconst 0, 1) := by decide +kernel
theorem dX7_cases_75 : decode cX7_cases 75 = .ok (.istore 5, 2) := by decide +kernel
theorem dX7_cases_77 : decode cX7_cases 77 = .ok (.iload 5, 2) := by decide +kernel
theorem dX7_cases_79 : decode cX7_cases 79 = .ok (.aload_n 0, 1) := by decide +kernel
theorem dX7_cases_80 : decode cX7_cases 80 = .ok (.getfield 119, 3) := by decide +kernel
theorem dX7_cases_83 : decode cX7_cases 83 = .ok (.if_icmp .ge 47, 3) := by decide +kernel
theorem dX7_cases_86 : decode cX7_cases 86 = .ok (.iload 4, 2) := by decide +kernel
theorem dX7_cases_88 : decode cX7_cases 88 = .ok (.ifCond .ne 42, 3) := by decide +kernel
theorem dX7_cases_91 : decode cX7_cases 91 = .ok (.iload_n 1, 1) := by decide +kernel
theorem dX7_cases_92 : decode cX7_cases 92 = .ok (.iconst (-1), 1) := by decide +kernel
theorem dX7_cases_93 : decode cX7_cases 93 = .ok (.if_icmp .eq 37, 3) := by decide +kernel
theorem dX7_cases_96 : decode cX7_cases 96 = .ok (.aload_n 0, 1) := by decide +kernel
theorem dX7_cases_97 : decode cX7_cases 97 = .ok (.getfield 26, 3) := by decide +kernel
theorem dX7_cases_100 : decode cX7_cases 100 = .ok (.iload 5, 2) := by decide +kernel
theorem dX7_cases_102 : decode cX7_cases 102 = .ok (.iaload, 1) := by decide +kernel
theorem dX7_cases_103 : decode cX7_cases 103 = .ok (.iload_n 1, 1) := by decide +kernel
theorem dX7_cases_104 : decode cX7_cases 104 = .ok (.if_icmp .ne 17, 3) := by decide +kernel
theorem dX7_cases_107 : decode cX7_cases 107 = .ok (.aload_n 0, 1) := by decide +kernel
theorem dX7_cases_108 : decode cX7_cases 108 = .ok (.iload 5, 2) := by decide +kernel
theorem dX7_cases_110 : decode cX7_cases 110 = .ok (.iload_n 3, 1) := by decide +kernel
theorem dX7_cases_111 : decode cX7_cases 111 = .ok (.invokevirtual 141, 3) := by decide +kernel
theorem dX7_cases_114 : decode cX7_cases 114 = .ok (.ifCond .eq 7, 3) := by decide +kernel
theorem dX7_cases_117 : decode cX7_cases 117 = .ok (.iconst 1, 1) := by decide +kernel
theorem dX7_cases_118 : decode cX7_cases 118 = .ok (.goto 4, 3) := by decide +kernel
theorem dX7_cases_121 : decode cX7_cases 121 = .ok (.iconst 0, 1) := by decide +kernel
theorem dX7_cases_122 : decode cX7_cases 122 = .ok (.istore 4, 2) := by decide +kernel
theorem dX7_cases_124 : decode cX7_cases 124 = .ok (.iinc 5 1, 3) := by decide +kernel
theorem dX7_cases_127 : decode cX7_cases 127 = .ok (.goto (-50), 3) := by decide +kernel
theorem dX7_cases_130 : decode cX7_cases 130 = .ok (.iload_n 2, 1) := by decide +kernel
theorem dX7_cases_131 : decode cX7_cases 131 = .ok (.iload 4, 2) := by decide +kernel
theorem dX7_cases_133 : decode cX7_cases 133 = .ok (.ifCond .eq 7, 3) := by decide +kernel
theorem dX7_cases_136 : decode cX7_cases 136 = .ok (.iconst 1, 1) := by decide +kernel
theorem dX7_cases_137 : decode cX7_cases 137 = .ok (.goto 4, 3) := by decide +kernel
theorem dX7_cases_140 : decode cX7_cases 140 = .ok (.iconst 0, 1) := by decide +kernel
theorem dX7_cases_141 : decode cX7_cases 141 = .ok (.iadd, 1) := by decide +kernel
theorem dX7_cases_142 : decode cX7_cases 142 = .ok (.istore_n 2, 1) := by decide +kernel
theorem dX7_cases_143 : decode cX7_cases 143 = .ok (.iinc 3 1, 3) := by decide +kernel
theorem dX7_cases_146 : decode cX7_cases 146 = .ok (.goto (-100), 3) := by decide +kernel
theorem dX7_cases_149 : decode cX7_cases 149 = .ok (.iload_n 2, 1) := by decide +kernel
theorem dX7_cases_150 : decode cX7_cases 150 = .ok (.ireturn, 1) := by decide +kernel
theorem dX7_node_0 : decode cX7_node 0 = .ok (.aload_n 0, 1) := by decide +kernel
theorem dX7_node_1 : decode cX7_node 1 = .ok (.aload_n 0, 1) := by decide +kernel
theorem dX7_node_2 : decode cX7_node 2 = .ok (.getfield 154, 3) := by decide +kernel
theorem dX7_node_5 : decode cX7_node 5 = .ok (.ifCond .ne 7, 3) := by decide +kernel
theorem dX7_node_8 : decode cX7_node 8 = .ok (.iconst 1, 1) := by decide +kernel
theorem dX7_node_9 : decode cX7_node 9 = .ok (.goto 29, 3) := by decide +kernel
theorem dX7_node_12 : decode cX7_node 12 = .ok (.iload_n 1, 1) := by decide +kernel
theorem dX7_node_13 : decode cX7_node 13 = .ok (.ifCond .lt 20, 3) := by decide +kernel
theorem dX7_node_16 : decode cX7_node 16 = .ok (.iload_n 1, 1) := by decide +kernel
theorem dX7_node_17 : decode cX7_node 17 = .ok (.aload_n 0, 1) := by decide +kernel
theorem dX7_node_18 : decode cX7_node 18 = .ok (.getfield 157, 3) := by decide +kernel
theorem dX7_node_21 : decode cX7_node 21 = .ok (.if_icmp .ge 12, 3) := by decide +kernel
theorem dX7_node_24 : decode cX7_node 24 = .ok (.iload_n 2, 1) := by decide +kernel
theorem dX7_node_25 : decode cX7_node 25 = .ok (.ifCond .lt 8, 3) := by decide +kernel
theorem dX7_node_28 : decode cX7_node 28 = .ok (.iload_n 2, 1) := by decide +kernel
theorem dX7_node_29 : decode cX7_node 29 = .ok (.iconst 3, 1) := by decide +kernel
theorem dX7_node_30 : decode cX7_node 30 = .ok (.if_icmp .le 7, 3) := by decide +kernel
theorem dX7_node_33 : decode cX7_node 33 = .ok (.iconst 2, 1) := by decide +kernel
theorem dX7_node_34 : decode cX7_node 34 = .ok (.goto 4, 3) := by decide +kernel
theorem dX7_node_37 : decode cX7_node 37 = .ok (.iconst 0, 1) := by decide +kernel
theorem dX7_node_38 : decode cX7_node 38 = .ok (.putfield 62, 3) := by decide +kernel
theorem dX7_node_41 : decode cX7_node 41 = .ok (.aload_n 0, 1) := by decide +kernel
theorem dX7_node_42 : decode cX7_node 42 = .ok (.getfield 62, 3) := by decide +kernel
theorem dX7_node_45 : decode cX7_node 45 = .ok (.ifCond .le 7, 3) := by decide +kernel
theorem dX7_node_48 : decode cX7_node 48 = .ok (.iconst 0, 1) := by decide +kernel
theorem dX7_node_49 : decode cX7_node 49 = .ok (.goto 50, 3) := by decide +kernel
theorem dX7_node_52 : decode cX7_node 52 = .ok (.iload_n 2, 1) := by decide +kernel
theorem dX7_node_53 : decode cX7_node 53 = .ok (.ifCond .ne 12, 3) := by decide +kernel
theorem dX7_node_56 : decode cX7_node 56 = .ok (.aload_n 0, 1) := by decide +kernel
theorem dX7_node_57 : decode cX7_node 57 = .ok (.getfield 29, 3) := by decide +kernel
theorem dX7_node_60 : decode cX7_node 60 = .ok (.iload_n 1, 1) := by decide +kernel
theorem dX7_node_61 : decode cX7_node 61 = .ok (.iaload, 1) := by decide +kernel
theorem dX7_node_62 : decode cX7_node 62 = .ok (.goto 37, 3) := by decide +kernel
theorem dX7_node_65 : decode cX7_node 65 = .ok (.iload_n 2, 1) := by decide +kernel
theorem dX7_node_66 : decode cX7_node 66 = .ok (.iconst 1, 1) := by decide +kernel
theorem dX7_node_67 : decode cX7_node 67 = .ok (.if_icmp .ne 12, 3) := by decide +kernel
theorem dX7_node_70 : decode cX7_node 70 = .ok (.aload_n 0, 1) := by decide +kernel
theorem dX7_node_71 : decode cX7_node 71 = .ok (.getfield 32, 3) := by decide +kernel
theorem dX7_node_74 : decode cX7_node 74 = .ok (.iload_n 1, 1) := by decide +kernel
theorem dX7_node_75 : decode cX7_node 75 = .ok (.iaload, 1) := by decide +kernel
theorem dX7_node_76 : decode cX7_node 76 = .ok (.goto 23, 3) := by decide +kernel
theorem dX7_node_79 : decode cX7_node 79 = .ok (.iload_n 2, 1) := by decide +kernel
theorem dX7_node_80 : decode cX7_node 80 = .ok (.iconst 2, 1) := by decide +kernel
theorem dX7_node_81 : decode cX7_node 81 = .ok (.if_icmp .ne 12, 3) := by decide +kernel
theorem dX7_node_84 : decode cX7_node 84 = .ok (.aload_n 0, 1) := by decide +kernel
theorem dX7_node_85 : decode cX7_node 85 = .ok (.getfield 35, 3) := by decide +kernel
theorem dX7_node_88 : decode cX7_node 88 = .ok (.iload_n 1, 1) := by decide +kernel
theorem dX7_node_89 : decode cX7_node 89 = .ok (.iaload, 1) := by decide +kernel
theorem dX7_node_90 : decode cX7_node 90 = .ok (.goto 9, 3) := by decide +kernel
theorem dX7_node_93 : decode cX7_node 93 = .ok (.aload_n 0, 1) := by decide +kernel
theorem dX7_node_94 : decode cX7_node 94 = .ok (.getfield 38, 3) := by decide +kernel
theorem dX7_node_97 : decode cX7_node 97 = .ok (.iload_n 1, 1) := by decide +kernel
theorem dX7_node_98 : decode cX7_node 98 = .ok (.iaload, 1) := by decide +kernel
theorem dX7_node_99 : decode cX7_node 99 = .ok (.ireturn, 1) := by decide +kernel
theorem dX7_code_0 : decode cX7_code 0 = .ok (.aload_n 0, 1) := by decide +kernel
theorem dX7_code_1 : decode cX7_code 1 = .ok (.aload_n 0, 1) := by decide +kernel
theorem dX7_code_2 : decode cX7_code 2 = .ok (.getfield 154, 3) := by decide +kernel
theorem dX7_code_5 : decode cX7_code 5 = .ok (.ifCond .ne 7, 3) := by decide +kernel
theorem dX7_code_8 : decode cX7_code 8 = .ok (.iconst 1, 1) := by decide +kernel
theorem dX7_code_9 : decode cX7_code 9 = .ok (.goto 20, 3) := by decide +kernel
theorem dX7_code_12 : decode cX7_code 12 = .ok (.iload_n 1, 1) := by decide +kernel
theorem dX7_code_13 : decode cX7_code 13 = .ok (.ifCond .lt 11, 3) := by decide +kernel
theorem dX7_code_16 : decode cX7_code 16 = .ok (.iload_n 1, 1) := by decide +kernel
theorem dX7_code_17 : decode cX7_code 17 = .ok (.aload_n 0, 1) := by decide +kernel
theorem dX7_code_18 : decode cX7_code 18 = .ok (.getfield 160, 3) := by decide +kernel
theorem dX7_code_21 : decode cX7_code 21 = .ok (.if_icmp .lt 7, 3) := by decide +kernel
theorem dX7_code_24 : decode cX7_code 24 = .ok (.iconst 2, 1) := by decide +kernel
theorem dX7_code_25 : decode cX7_code 25 = .ok (.goto 4, 3) := by decide +kernel
theorem dX7_code_28 : decode cX7_code 28 = .ok (.iconst 0, 1) := by decide +kernel
theorem dX7_code_29 : decode cX7_code 29 = .ok (.putfield 62, 3) := by decide +kernel
theorem dX7_code_32 : decode cX7_code 32 = .ok (.aload_n 0, 1) := by decide +kernel
theorem dX7_code_33 : decode cX7_code 33 = .ok (.getfield 62, 3) := by decide +kernel
theorem dX7_code_36 : decode cX7_code 36 = .ok (.ifCond .le 7, 3) := by decide +kernel
theorem dX7_code_39 : decode cX7_code 39 = .ok (.iconst 0, 1) := by decide +kernel
theorem dX7_code_40 : decode cX7_code 40 = .ok (.goto 9, 3) := by decide +kernel
theorem dX7_code_43 : decode cX7_code 43 = .ok (.aload_n 0, 1) := by decide +kernel
theorem dX7_code_44 : decode cX7_code 44 = .ok (.getfield 59, 3) := by decide +kernel
theorem dX7_code_47 : decode cX7_code 47 = .ok (.iload_n 1, 1) := by decide +kernel
theorem dX7_code_48 : decode cX7_code 48 = .ok (.iaload, 1) := by decide +kernel
theorem dX7_code_49 : decode cX7_code 49 = .ok (.ireturn, 1) := by decide +kernel
theorem dX7_run_0 : decode cX7_run 0 = .ok (.aload_n 0, 1) := by decide +kernel
theorem dX7_run_1 : decode cX7_run 1 = .ok (.aload_n 0, 1) := by decide +kernel
theorem dX7_run_2 : decode cX7_run 2 = .ok (.getfield 154, 3) := by decide +kernel
theorem dX7_run_5 : decode cX7_run 5 = .ok (.ifCond .ne 7, 3) := by decide +kernel
theorem dX7_run_8 : decode cX7_run 8 = .ok (.iconst 1, 1) := by decide +kernel
theorem dX7_run_9 : decode cX7_run 9 = .ok (.goto 16, 3) := by decide +kernel
theorem dX7_run_12 : decode cX7_run 12 = .ok (.aload_n 0, 1) := by decide +kernel
theorem dX7_run_13 : decode cX7_run 13 = .ok (.iload_n 1, 1) := by decide +kernel
theorem dX7_run_14 : decode cX7_run 14 = .ok (.invokevirtual 190, 3) := by decide +kernel
theorem dX7_run_17 : decode cX7_run 17 = .ok (.ifCond .ne 7, 3) := by decide +kernel
theorem dX7_run_20 : decode cX7_run 20 = .ok (.iconst 2, 1) := by decide +kernel
theorem dX7_run_21 : decode cX7_run 21 = .ok (.goto 4, 3) := by decide +kernel
theorem dX7_run_24 : decode cX7_run 24 = .ok (.iconst 0, 1) := by decide +kernel
theorem dX7_run_25 : decode cX7_run 25 = .ok (.putfield 62, 3) := by decide +kernel
theorem dX7_run_28 : decode cX7_run 28 = .ok (.aload_n 0, 1) := by decide +kernel
theorem dX7_run_29 : decode cX7_run 29 = .ok (.getfield 62, 3) := by decide +kernel
theorem dX7_run_32 : decode cX7_run 32 = .ok (.ifCond .le 5, 3) := by decide +kernel
theorem dX7_run_35 : decode cX7_run 35 = .ok (.iconst 0, 1) := by decide +kernel
theorem dX7_run_36 : decode cX7_run 36 = .ok (.ireturn, 1) := by decide +kernel
theorem dX7_run_37 : decode cX7_run 37 = .ok (.iconst 0, 1) := by decide +kernel
theorem dX7_run_38 : decode cX7_run 38 = .ok (.istore_n 3, 1) := by decide +kernel
theorem dX7_run_39 : decode cX7_run 39 = .ok (.iconst 0, 1) := by decide +kernel
theorem dX7_run_40 : decode cX7_run 40 = .ok (.istore 4, 2) := by decide +kernel
theorem dX7_run_42 : decode cX7_run 42 = .ok (.aload_n 0, 1) := by decide +kernel
theorem dX7_run_43 : decode cX7_run 43 = .ok (.getfield 59, 3) := by decide +kernel
theorem dX7_run_46 : decode cX7_run 46 = .ok (.iload_n 3, 1) := by decide +kernel
theorem dX7_run_47 : decode cX7_run 47 = .ok (.iaload, 1) := by decide +kernel
theorem dX7_run_48 : decode cX7_run 48 = .ok (.sipush 128, 3) := by decide +kernel
theorem dX7_run_51 : decode cX7_run 51 = .ok (.if_icmp .ge 50, 3) := by decide +kernel
theorem dX7_run_54 : decode cX7_run 54 = .ok (.iload_n 1, 1) := by decide +kernel
theorem dX7_run_55 : decode cX7_run 55 = .ok (.aload_n 0, 1) := by decide +kernel
theorem dX7_run_56 : decode cX7_run 56 = .ok (.getfield 59, 3) := by decide +kernel
theorem dX7_run_59 : decode cX7_run 59 = .ok (.iload_n 3, 1) := by decide +kernel
theorem dX7_run_60 : decode cX7_run 60 = .ok (.iaload, 1) := by decide +kernel
theorem dX7_run_61 : decode cX7_run 61 = .ok (.ishr, 1) := by decide +kernel
theorem dX7_run_62 : decode cX7_run 62 = .ok (.iconst 1, 1) := by decide +kernel
theorem dX7_run_63 : decode cX7_run 63 = .ok (.iand, 1) := by decide +kernel
theorem dX7_run_64 : decode cX7_run 64 = .ok (.iconst 1, 1) := by decide +kernel
theorem dX7_run_65 : decode cX7_run 65 = .ok (.if_icmp .ne 9, 3) := by decide +kernel
theorem dX7_run_68 : decode cX7_run 68 = .ok (.iload_n 3, 1) := by decide +kernel
theorem dX7_run_69 : decode cX7_run 69 = .ok (.iconst 3, 1) := by decide +kernel
theorem dX7_run_70 : decode cX7_run 70 = .ok (.iadd, 1) := by decide +kernel
theorem dX7_run_71 : decode cX7_run 71 = .ok (.goto 23, 3) := by decide +kernel
theorem dX7_run_74 : decode cX7_run 74 = .ok (.aload_n 0, 1) := by decide +kernel
theorem dX7_run_75 : decode cX7_run 75 = .ok (.getfield 59, 3) := by decide +kernel
theorem dX7_run_78 : decode cX7_run 78 = .ok (.iload_n 3, 1) := by decide +kernel
theorem dX7_run_79 : decode cX7_run 79 = .ok (.iconst 1, 1) := by decide +kernel
theorem dX7_run_80 : decode cX7_run 80 = .ok (.iadd, 1) := by decide +kernel
theorem dX7_run_81 : decode cX7_run 81 = .ok (.iaload, 1) := by decide +kernel
theorem dX7_run_82 : decode cX7_run 82 = .ok (.bipush 8, 2) := by decide +kernel
theorem dX7_run_84 : decode cX7_run 84 = .ok (.ishl, 1) := by decide +kernel
theorem dX7_run_85 : decode cX7_run 85 = .ok (.aload_n 0, 1) := by decide +kernel
theorem dX7_run_86 : decode cX7_run 86 = .ok (.getfield 59, 3) := by decide +kernel
theorem dX7_run_89 : decode cX7_run 89 = .ok (.iload_n 3, 1) := by decide +kernel
theorem dX7_run_90 : decode cX7_run 90 = .ok (.iconst 2, 1) := by decide +kernel
theorem dX7_run_91 : decode cX7_run 91 = .ok (.iadd, 1) := by decide +kernel
theorem dX7_run_92 : decode cX7_run 92 = .ok (.iaload, 1) := by decide +kernel
theorem dX7_run_93 : decode cX7_run 93 = .ok (.ior, 1) := by decide +kernel
theorem dX7_run_94 : decode cX7_run 94 = .ok (.istore_n 3, 1) := by decide +kernel
theorem dX7_run_95 : decode cX7_run 95 = .ok (.iinc 4 1, 3) := by decide +kernel
theorem dX7_run_98 : decode cX7_run 98 = .ok (.goto (-56), 3) := by decide +kernel
theorem dX7_run_101 : decode cX7_run 101 = .ok (.iload_n 2, 1) := by decide +kernel
theorem dX7_run_102 : decode cX7_run 102 = .ok (.ifCond .eq 8, 3) := by decide +kernel
theorem dX7_run_105 : decode cX7_run 105 = .ok (.iload 4, 2) := by decide +kernel
theorem dX7_run_107 : decode cX7_run 107 = .ok (.goto 13, 3) := by decide +kernel
theorem dX7_run_110 : decode cX7_run 110 = .ok (.aload_n 0, 1) := by decide +kernel
theorem dX7_run_111 : decode cX7_run 111 = .ok (.getfield 59, 3) := by decide +kernel
theorem dX7_run_114 : decode cX7_run 114 = .ok (.iload_n 3, 1) := by decide +kernel
theorem dX7_run_115 : decode cX7_run 115 = .ok (.iaload, 1) := by decide +kernel
theorem dX7_run_116 : decode cX7_run 116 = .ok (.sipush 128, 3) := by decide +kernel
theorem dX7_run_119 : decode cX7_run 119 = .ok (.isub, 1) := by decide +kernel
theorem dX7_run_120 : decode cX7_run 120 = .ok (.ireturn, 1) := by decide +kernel
theorem dX7_tests_0 : decode cX7_tests 0 = .ok (.aload_n 0, 1) := by decide +kernel
theorem dX7_tests_1 : decode cX7_tests 1 = .ok (.aload_n 0, 1) := by decide +kernel
theorem dX7_tests_2 : decode cX7_tests 2 = .ok (.getfield 154, 3) := by decide +kernel
theorem dX7_tests_5 : decode cX7_tests 5 = .ok (.ifCond .ne 7, 3) := by decide +kernel
theorem dX7_tests_8 : decode cX7_tests 8 = .ok (.iconst 1, 1) := by decide +kernel
theorem dX7_tests_9 : decode cX7_tests 9 = .ok (.goto 4, 3) := by decide +kernel
theorem dX7_tests_12 : decode cX7_tests 12 = .ok (.iconst 0, 1) := by decide +kernel
theorem dX7_tests_13 : decode cX7_tests 13 = .ok (.putfield 62, 3) := by decide +kernel
theorem dX7_tests_16 : decode cX7_tests 16 = .ok (.lconst 0, 1) := by decide +kernel
theorem dX7_tests_17 : decode cX7_tests 17 = .ok (.lstore_n 1, 1) := by decide +kernel
theorem dX7_tests_18 : decode cX7_tests 18 = .ok (.iconst 0, 1) := by decide +kernel
theorem dX7_tests_19 : decode cX7_tests 19 = .ok (.istore_n 3, 1) := by decide +kernel
theorem dX7_tests_20 : decode cX7_tests 20 = .ok (.iload_n 3, 1) := by decide +kernel
theorem dX7_tests_21 : decode cX7_tests 21 = .ok (.aload_n 0, 1) := by decide +kernel
theorem dX7_tests_22 : decode cX7_tests 22 = .ok (.getfield 157, 3) := by decide +kernel
theorem dX7_tests_25 : decode cX7_tests 25 = .ok (.if_icmp .ge 51, 3) := by decide +kernel
theorem dX7_tests_28 : decode cX7_tests 28 = .ok (.aload_n 0, 1) := by decide +kernel
theorem dX7_tests_29 : decode cX7_tests 29 = .ok (.getfield 62, 3) := by decide +kernel
theorem dX7_tests_32 : decode cX7_tests 32 = .ok (.ifCond .ne 44, 3) := by decide +kernel
theorem dX7_tests_35 : decode cX7_tests 35 = .ok (.lload_n 1, 1) := by decide +kernel
theorem dX7_tests_36 : decode cX7_tests 36 = .ok (.aload_n 0, 1) := by decide +kernel
theorem dX7_tests_37 : decode cX7_tests 37 = .ok (.getfield 29, 3) := by decide +kernel
theorem dX7_tests_40 : decode cX7_tests 40 = .ok (.iload_n 3, 1) := by decide +kernel
theorem dX7_tests_41 : decode cX7_tests 41 = .ok (.iaload, 1) := by decide +kernel
theorem dX7_tests_42 : decode cX7_tests 42 = .ok (.ifCond .ge 25, 3) := by decide +kernel
theorem dX7_tests_45 : decode cX7_tests 45 = .ok (.aload_n 0, 1) := by decide +kernel
theorem dX7_tests_46 : decode cX7_tests 46 = .ok (.getfield 41, 3) := by decide +kernel
theorem dX7_tests_49 : decode cX7_tests 49 = .ok (.iload_n 3, 1) := by decide +kernel
theorem dX7_tests_50 : decode cX7_tests 50 = .ok (.iaload, 1) := by decide +kernel
theorem dX7_tests_51 : decode cX7_tests 51 = .ok (.i2l, 1) := by decide +kernel
theorem dX7_tests_52 : decode cX7_tests 52 = .ok (.aload_n 0, 1) := by decide +kernel
theorem dX7_tests_53 : decode cX7_tests 53 = .ok (.getfield 116, 3) := by decide +kernel
theorem dX7_tests_56 : decode cX7_tests 56 = .ok (.aload_n 0, 1) := by decide +kernel
theorem dX7_tests_57 : decode cX7_tests 57 = .ok (.getfield 41, 3) := by decide +kernel
theorem dX7_tests_60 : decode cX7_tests 60 = .ok (.iload_n 3, 1) := by decide +kernel
theorem dX7_tests_61 : decode cX7_tests 61 = .ok (.iaload, 1) := by decide +kernel
theorem dX7_tests_62 : decode cX7_tests 62 = .ok (.isub, 1) := by decide +kernel
theorem dX7_tests_63 : decode cX7_tests 63 = .ok (.lshl, 1) := by decide +kernel
theorem dX7_tests_64 : decode cX7_tests 64 = .ok (.goto 4, 3) := by decide +kernel
theorem dX7_tests_67 : decode cX7_tests 67 = .ok (.lconst 0, 1) := by decide +kernel
theorem dX7_tests_68 : decode cX7_tests 68 = .ok (.ladd, 1) := by decide +kernel
theorem dX7_tests_69 : decode cX7_tests 69 = .ok (.lstore_n 1, 1) := by decide +kernel
theorem dX7_tests_70 : decode cX7_tests 70 = .ok (.iinc 3 1, 3) := by decide +kernel
theorem dX7_tests_73 : decode cX7_tests 73 = .ok (.goto (-53), 3) := by decide +kernel
theorem dX7_tests_76 : decode cX7_tests 76 = .ok (.lload_n 1, 1) := by decide +kernel
theorem dX7_tests_77 : decode cX7_tests 77 = .ok (.lreturn, 1) := by decide +kernel
end
section
theorem lenR_256 {k : Nat} (h : k < 9 ∨ 16 ≤ k) : lenR k = 256 := by
  unfold lenR
  repeat' split
  all_goals omega
theorem sw_of {x : Int32} {n : Nat} (h : ¬ (x.toInt < 0 ∨ (n : Int) < x.toInt)) (hn : n < 2 ^ 31) : ∃ j : Nat, j ≤ n ∧ x = nI j := by
  have h0 : ¬ x < 0 := fun q => h (Or.inl (by rw [Int32.lt_iff_toInt_lt] at q; simpa using q))
  obtain ⟨j, hj, rfl⟩ := nI_of h0
  refine ⟨j, ?_, rfl⟩
  rw [nI_toInt hj] at h
  omega
theorem pn_X0_write : plainName yX0_write.cls = true := by decide +kernel
theorem hd_X0_write : yX0_write.cls = RX0 ∧ yX0_write.cls ≠ "java/lang/invoke/MethodHandle" ∧ yX0_write.cls ≠ "java/lang/invoke/VarHandle" ∧ (parseMethodDescriptor yX0_write.desc).map (fun d => d.parameters.length) = some 1 := by decide +kernel
theorem pn_X0_setPlaces : plainName yX0_setPlaces.cls = true := by decide +kernel
theorem hd_X0_setPlaces : yX0_setPlaces.cls = RX0 ∧ yX0_setPlaces.cls ≠ "java/lang/invoke/MethodHandle" ∧ yX0_setPlaces.cls ≠ "java/lang/invoke/VarHandle" ∧ (parseMethodDescriptor yX0_setPlaces.desc).map (fun d => d.parameters.length) = some 1 := by decide +kernel
theorem pn_X0_append : plainName yX0_append.cls = true := by decide +kernel
theorem hd_X0_append : yX0_append.cls = RX0 ∧ yX0_append.cls ≠ "java/lang/invoke/MethodHandle" ∧ yX0_append.cls ≠ "java/lang/invoke/VarHandle" ∧ (parseMethodDescriptor yX0_append.desc).map (fun d => d.parameters.length) = some 1 := by decide +kernel
theorem pn_X0_follow : plainName yX0_follow.cls = true := by decide +kernel
theorem hd_X0_follow : yX0_follow.cls = RX0 ∧ yX0_follow.cls ≠ "java/lang/invoke/MethodHandle" ∧ yX0_follow.cls ≠ "java/lang/invoke/VarHandle" ∧ (parseMethodDescriptor yX0_follow.desc).map (fun d => d.parameters.length) = some 2 := by decide +kernel
theorem pn_X1_letterOf : plainName yX1_letterOf.cls = true := by decide +kernel
theorem hd_X1_letterOf : yX1_letterOf.cls = RX1 ∧ yX1_letterOf.cls ≠ "java/lang/invoke/MethodHandle" ∧ yX1_letterOf.cls ≠ "java/lang/invoke/VarHandle" ∧ (parseMethodDescriptor yX1_letterOf.desc).map (fun d => d.parameters.length) = some 1 := by decide +kernel
theorem pn_X1_find : plainName yX1_find.cls = true := by decide +kernel
theorem hd_X1_find : yX1_find.cls = RX1 ∧ yX1_find.cls ≠ "java/lang/invoke/MethodHandle" ∧ yX1_find.cls ≠ "java/lang/invoke/VarHandle" ∧ (parseMethodDescriptor yX1_find.desc).map (fun d => d.parameters.length) = some 1 := by decide +kernel
theorem pn_X1_add : plainName yX1_add.cls = true := by decide +kernel
theorem hd_X1_add : yX1_add.cls = RX1 ∧ yX1_add.cls ≠ "java/lang/invoke/MethodHandle" ∧ yX1_add.cls ≠ "java/lang/invoke/VarHandle" ∧ (parseMethodDescriptor yX1_add.desc).map (fun d => d.parameters.length) = some 1 := by decide +kernel
theorem pn_X1_letterAt : plainName yX1_letterAt.cls = true := by decide +kernel
theorem hd_X1_letterAt : yX1_letterAt.cls = RX1 ∧ yX1_letterAt.cls ≠ "java/lang/invoke/MethodHandle" ∧ yX1_letterAt.cls ≠ "java/lang/invoke/VarHandle" ∧ (parseMethodDescriptor yX1_letterAt.desc).map (fun d => d.parameters.length) = some 2 := by decide +kernel
theorem pn_X1_lengthOf : plainName yX1_lengthOf.cls = true := by decide +kernel
theorem hd_X1_lengthOf : yX1_lengthOf.cls = RX1 ∧ yX1_lengthOf.cls ≠ "java/lang/invoke/MethodHandle" ∧ yX1_lengthOf.cls ≠ "java/lang/invoke/VarHandle" ∧ (parseMethodDescriptor yX1_lengthOf.desc).map (fun d => d.parameters.length) = some 1 := by decide +kernel
theorem pn_X1_byteOf : plainName yX1_byteOf.cls = true := by decide +kernel
theorem hd_X1_byteOf : yX1_byteOf.cls = RX1 ∧ yX1_byteOf.cls ≠ "java/lang/invoke/MethodHandle" ∧ yX1_byteOf.cls ≠ "java/lang/invoke/VarHandle" ∧ (parseMethodDescriptor yX1_byteOf.desc).map (fun d => d.parameters.length) = some 2 := by decide +kernel
theorem pn_X2_clear : plainName yX2_clear.cls = true := by decide +kernel
theorem hd_X2_clear : yX2_clear.cls = RX2 ∧ yX2_clear.cls ≠ "java/lang/invoke/MethodHandle" ∧ yX2_clear.cls ≠ "java/lang/invoke/VarHandle" ∧ (parseMethodDescriptor yX2_clear.desc).map (fun d => d.parameters.length) = some 0 := by decide +kernel
theorem pn_X2_add : plainName yX2_add.cls = true := by decide +kernel
theorem hd_X2_add : yX2_add.cls = RX2 ∧ yX2_add.cls ≠ "java/lang/invoke/MethodHandle" ∧ yX2_add.cls ≠ "java/lang/invoke/VarHandle" ∧ (parseMethodDescriptor yX2_add.desc).map (fun d => d.parameters.length) = some 3 := by decide +kernel
theorem pn_X2_caseCount : plainName yX2_caseCount.cls = true := by decide +kernel
theorem hd_X2_caseCount : yX2_caseCount.cls = RX2 ∧ yX2_caseCount.cls ≠ "java/lang/invoke/MethodHandle" ∧ yX2_caseCount.cls ≠ "java/lang/invoke/VarHandle" ∧ (parseMethodDescriptor yX2_caseCount.desc).map (fun d => d.parameters.length) = some 0 := by decide +kernel
theorem pn_X2_markOf : plainName yX2_markOf.cls = true := by decide +kernel
theorem hd_X2_markOf : yX2_markOf.cls = RX2 ∧ yX2_markOf.cls ≠ "java/lang/invoke/MethodHandle" ∧ yX2_markOf.cls ≠ "java/lang/invoke/VarHandle" ∧ (parseMethodDescriptor yX2_markOf.desc).map (fun d => d.parameters.length) = some 2 := by decide +kernel
theorem pn_X2_firstThatMeets : plainName yX2_firstThatMeets.cls = true := by decide +kernel
theorem hd_X2_firstThatMeets : yX2_firstThatMeets.cls = RX2 ∧ yX2_firstThatMeets.cls ≠ "java/lang/invoke/MethodHandle" ∧ yX2_firstThatMeets.cls ≠ "java/lang/invoke/VarHandle" ∧ (parseMethodDescriptor yX2_firstThatMeets.desc).map (fun d => d.parameters.length) = some 1 := by decide +kernel
theorem pn_X2_contradict : plainName yX2_contradict.cls = true := by decide +kernel
theorem hd_X2_contradict : yX2_contradict.cls = RX2 ∧ yX2_contradict.cls ≠ "java/lang/invoke/MethodHandle" ∧ yX2_contradict.cls ≠ "java/lang/invoke/VarHandle" ∧ (parseMethodDescriptor yX2_contradict.desc).map (fun d => d.parameters.length) = some 2 := by decide +kernel
theorem pn_X3_append : plainName yX3_append.cls = true := by decide +kernel
theorem hd_X3_append : yX3_append.cls = RX3 ∧ yX3_append.cls ≠ "java/lang/invoke/MethodHandle" ∧ yX3_append.cls ≠ "java/lang/invoke/VarHandle" ∧ (parseMethodDescriptor yX3_append.desc).map (fun d => d.parameters.length) = some 1 := by decide +kernel
theorem pn_X3_byteAt : plainName yX3_byteAt.cls = true := by decide +kernel
theorem hd_X3_byteAt : yX3_byteAt.cls = RX3 ∧ yX3_byteAt.cls ≠ "java/lang/invoke/MethodHandle" ∧ yX3_byteAt.cls ≠ "java/lang/invoke/VarHandle" ∧ (parseMethodDescriptor yX3_byteAt.desc).map (fun d => d.parameters.length) = some 1 := by decide +kernel
theorem pn_X3_parse : plainName yX3_parse.cls = true := by decide +kernel
theorem hd_X3_parse : yX3_parse.cls = RX3 ∧ yX3_parse.cls ≠ "java/lang/invoke/MethodHandle" ∧ yX3_parse.cls ≠ "java/lang/invoke/VarHandle" ∧ (parseMethodDescriptor yX3_parse.desc).map (fun d => d.parameters.length) = some 1 := by decide +kernel
theorem pn_X3_fail : plainName yX3_fail.cls = true := by decide +kernel
theorem hd_X3_fail : yX3_fail.cls = RX3 ∧ yX3_fail.cls ≠ "java/lang/invoke/MethodHandle" ∧ yX3_fail.cls ≠ "java/lang/invoke/VarHandle" ∧ (parseMethodDescriptor yX3_fail.desc).map (fun d => d.parameters.length) = some 2 := by decide +kernel
theorem pn_X3_look : plainName yX3_look.cls = true := by decide +kernel
theorem hd_X3_look : yX3_look.cls = RX3 ∧ yX3_look.cls ≠ "java/lang/invoke/MethodHandle" ∧ yX3_look.cls ≠ "java/lang/invoke/VarHandle" ∧ (parseMethodDescriptor yX3_look.desc).map (fun d => d.parameters.length) = some 0 := by decide +kernel
theorem pn_X3_passByte : plainName yX3_passByte.cls = true := by decide +kernel
theorem hd_X3_passByte : yX3_passByte.cls = RX3 ∧ yX3_passByte.cls ≠ "java/lang/invoke/MethodHandle" ∧ yX3_passByte.cls ≠ "java/lang/invoke/VarHandle" ∧ (parseMethodDescriptor yX3_passByte.desc).map (fun d => d.parameters.length) = some 1 := by decide +kernel
theorem pn_X3_passName : plainName yX3_passName.cls = true := by decide +kernel
theorem hd_X3_passName : yX3_passName.cls = RX3 ∧ yX3_passName.cls ≠ "java/lang/invoke/MethodHandle" ∧ yX3_passName.cls ≠ "java/lang/invoke/VarHandle" ∧ (parseMethodDescriptor yX3_passName.desc).map (fun d => d.parameters.length) = some 0 := by decide +kernel
theorem pn_X3_isWord : plainName yX3_isWord.cls = true := by decide +kernel
theorem hd_X3_isWord : yX3_isWord.cls = RX3 ∧ yX3_isWord.cls ≠ "java/lang/invoke/MethodHandle" ∧ yX3_isWord.cls ≠ "java/lang/invoke/VarHandle" ∧ (parseMethodDescriptor yX3_isWord.desc).map (fun d => d.parameters.length) = some 1 := by decide +kernel
theorem pn_X3_passConditions : plainName yX3_passConditions.cls = true := by decide +kernel
theorem hd_X3_passConditions : yX3_passConditions.cls = RX3 ∧ yX3_passConditions.cls ≠ "java/lang/invoke/MethodHandle" ∧ yX3_passConditions.cls ≠ "java/lang/invoke/VarHandle" ∧ (parseMethodDescriptor yX3_passConditions.desc).map (fun d => d.parameters.length) = some 1 := by decide +kernel
theorem pn_X3_passCondition : plainName yX3_passCondition.cls = true := by decide +kernel
theorem hd_X3_passCondition : yX3_passCondition.cls = RX3 ∧ yX3_passCondition.cls ≠ "java/lang/invoke/MethodHandle" ∧ yX3_passCondition.cls ≠ "java/lang/invoke/VarHandle" ∧ (parseMethodDescriptor yX3_passCondition.desc).map (fun d => d.parameters.length) = some 1 := by decide +kernel
theorem pn_X3_passRules : plainName yX3_passRules.cls = true := by decide +kernel
theorem hd_X3_passRules : yX3_passRules.cls = RX3 ∧ yX3_passRules.cls ≠ "java/lang/invoke/MethodHandle" ∧ yX3_passRules.cls ≠ "java/lang/invoke/VarHandle" ∧ (parseMethodDescriptor yX3_passRules.desc).map (fun d => d.parameters.length) = some 1 := by decide +kernel
theorem pn_X3_passRule : plainName yX3_passRule.cls = true := by decide +kernel
theorem hd_X3_passRule : yX3_passRule.cls = RX3 ∧ yX3_passRule.cls ≠ "java/lang/invoke/MethodHandle" ∧ yX3_passRule.cls ≠ "java/lang/invoke/VarHandle" ∧ (parseMethodDescriptor yX3_passRule.desc).map (fun d => d.parameters.length) = some 1 := by decide +kernel
theorem pn_X3_passAction : plainName yX3_passAction.cls = true := by decide +kernel
theorem hd_X3_passAction : yX3_passAction.cls = RX3 ∧ yX3_passAction.cls ≠ "java/lang/invoke/MethodHandle" ∧ yX3_passAction.cls ≠ "java/lang/invoke/VarHandle" ∧ (parseMethodDescriptor yX3_passAction.desc).map (fun d => d.parameters.length) = some 1 := by decide +kernel
theorem pn_X4_clear : plainName yX4_clear.cls = true := by decide +kernel
theorem hd_X4_clear : yX4_clear.cls = RX4 ∧ yX4_clear.cls ≠ "java/lang/invoke/MethodHandle" ∧ yX4_clear.cls ≠ "java/lang/invoke/VarHandle" ∧ (parseMethodDescriptor yX4_clear.desc).map (fun d => d.parameters.length) = some 0 := by decide +kernel
theorem pn_X4_isLeaf : plainName yX4_isLeaf.cls = true := by decide +kernel
theorem hd_X4_isLeaf : yX4_isLeaf.cls = RX4 ∧ yX4_isLeaf.cls ≠ "java/lang/invoke/MethodHandle" ∧ yX4_isLeaf.cls ≠ "java/lang/invoke/VarHandle" ∧ (parseMethodDescriptor yX4_isLeaf.desc).map (fun d => d.parameters.length) = some 1 := by decide +kernel
theorem pn_X4_build : plainName yX4_build.cls = true := by decide +kernel
theorem hd_X4_build : yX4_build.cls = RX4 ∧ yX4_build.cls ≠ "java/lang/invoke/MethodHandle" ∧ yX4_build.cls ≠ "java/lang/invoke/VarHandle" ∧ (parseMethodDescriptor yX4_build.desc).map (fun d => d.parameters.length) = some 1 := by decide +kernel
theorem pn_X4_grow : plainName yX4_grow.cls = true := by decide +kernel
theorem hd_X4_grow : yX4_grow.cls = RX4 ∧ yX4_grow.cls ≠ "java/lang/invoke/MethodHandle" ∧ yX4_grow.cls ≠ "java/lang/invoke/VarHandle" ∧ (parseMethodDescriptor yX4_grow.desc).map (fun d => d.parameters.length) = some 4 := by decide +kernel
theorem pn_X4_addLeaf : plainName yX4_addLeaf.cls = true := by decide +kernel
theorem hd_X4_addLeaf : yX4_addLeaf.cls = RX4 ∧ yX4_addLeaf.cls ≠ "java/lang/invoke/MethodHandle" ∧ yX4_addLeaf.cls ≠ "java/lang/invoke/VarHandle" ∧ (parseMethodDescriptor yX4_addLeaf.desc).map (fun d => d.parameters.length) = some 2 := by decide +kernel
theorem pn_X4_addNode : plainName yX4_addNode.cls = true := by decide +kernel
theorem hd_X4_addNode : yX4_addNode.cls = RX4 ∧ yX4_addNode.cls ≠ "java/lang/invoke/MethodHandle" ∧ yX4_addNode.cls ≠ "java/lang/invoke/VarHandle" ∧ (parseMethodDescriptor yX4_addNode.desc).map (fun d => d.parameters.length) = some 1 := by decide +kernel
theorem pn_X5_start : plainName yX5_start.cls = true := by decide +kernel
theorem hd_X5_start : yX5_start.cls = RX5 ∧ yX5_start.cls ≠ "java/lang/invoke/MethodHandle" ∧ yX5_start.cls ≠ "java/lang/invoke/VarHandle" ∧ (parseMethodDescriptor yX5_start.desc).map (fun d => d.parameters.length) = some 2 := by decide +kernel
theorem pn_X5_step : plainName yX5_step.cls = true := by decide +kernel
theorem hd_X5_step : yX5_step.cls = RX5 ∧ yX5_step.cls ≠ "java/lang/invoke/MethodHandle" ∧ yX5_step.cls ≠ "java/lang/invoke/VarHandle" ∧ (parseMethodDescriptor yX5_step.desc).map (fun d => d.parameters.length) = some 3 := by decide +kernel
theorem pn_X5_splittingBit : plainName yX5_splittingBit.cls = true := by decide +kernel
theorem hd_X5_splittingBit : yX5_splittingBit.cls = RX5 ∧ yX5_splittingBit.cls ≠ "java/lang/invoke/MethodHandle" ∧ yX5_splittingBit.cls ≠ "java/lang/invoke/VarHandle" ∧ (parseMethodDescriptor yX5_splittingBit.desc).map (fun d => d.parameters.length) = some 2 := by decide +kernel
theorem pn_X5_leastGap : plainName yX5_leastGap.cls = true := by decide +kernel
theorem hd_X5_leastGap : yX5_leastGap.cls = RX5 ∧ yX5_leastGap.cls ≠ "java/lang/invoke/MethodHandle" ∧ yX5_leastGap.cls ≠ "java/lang/invoke/VarHandle" ∧ (parseMethodDescriptor yX5_leastGap.desc).map (fun d => d.parameters.length) = some 0 := by decide +kernel
theorem pn_X5_leastGapFrom : plainName yX5_leastGapFrom.cls = true := by decide +kernel
theorem hd_X5_leastGapFrom : yX5_leastGapFrom.cls = RX5 ∧ yX5_leastGapFrom.cls ≠ "java/lang/invoke/MethodHandle" ∧ yX5_leastGapFrom.cls ≠ "java/lang/invoke/VarHandle" ∧ (parseMethodDescriptor yX5_leastGapFrom.desc).map (fun d => d.parameters.length) = some 4 := by decide +kernel
theorem pn_X5_casesMet : plainName yX5_casesMet.cls = true := by decide +kernel
theorem hd_X5_casesMet : yX5_casesMet.cls = RX5 ∧ yX5_casesMet.cls ≠ "java/lang/invoke/MethodHandle" ∧ yX5_casesMet.cls ≠ "java/lang/invoke/VarHandle" ∧ (parseMethodDescriptor yX5_casesMet.desc).map (fun d => d.parameters.length) = some 0 := by decide +kernel
theorem pn_X5_casesMetFrom : plainName yX5_casesMetFrom.cls = true := by decide +kernel
theorem hd_X5_casesMetFrom : yX5_casesMetFrom.cls = RX5 ∧ yX5_casesMetFrom.cls ≠ "java/lang/invoke/MethodHandle" ∧ yX5_casesMetFrom.cls ≠ "java/lang/invoke/VarHandle" ∧ (parseMethodDescriptor yX5_casesMetFrom.desc).map (fun d => d.parameters.length) = some 3 := by decide +kernel
theorem pn_X5_oneAction : plainName yX5_oneAction.cls = true := by decide +kernel
theorem hd_X5_oneAction : yX5_oneAction.cls = RX5 ∧ yX5_oneAction.cls ≠ "java/lang/invoke/MethodHandle" ∧ yX5_oneAction.cls ≠ "java/lang/invoke/VarHandle" ∧ (parseMethodDescriptor yX5_oneAction.desc).map (fun d => d.parameters.length) = some 1 := by decide +kernel
theorem pn_X5_choose : plainName yX5_choose.cls = true := by decide +kernel
theorem hd_X5_choose : yX5_choose.cls = RX5 ∧ yX5_choose.cls ≠ "java/lang/invoke/MethodHandle" ∧ yX5_choose.cls ≠ "java/lang/invoke/VarHandle" ∧ (parseMethodDescriptor yX5_choose.desc).map (fun d => d.parameters.length) = some 2 := by decide +kernel
theorem pn_X5_isBetter : plainName yX5_isBetter.cls = true := by decide +kernel
theorem hd_X5_isBetter : yX5_isBetter.cls = RX5 ∧ yX5_isBetter.cls ≠ "java/lang/invoke/MethodHandle" ∧ yX5_isBetter.cls ≠ "java/lang/invoke/VarHandle" ∧ (parseMethodDescriptor yX5_isBetter.desc).map (fun d => d.parameters.length) = some 2 := by decide +kernel
theorem pn_X5_weigh : plainName yX5_weigh.cls = true := by decide +kernel
theorem hd_X5_weigh : yX5_weigh.cls = RX5 ∧ yX5_weigh.cls ≠ "java/lang/invoke/MethodHandle" ∧ yX5_weigh.cls ≠ "java/lang/invoke/VarHandle" ∧ (parseMethodDescriptor yX5_weigh.desc).map (fun d => d.parameters.length) = some 2 := by decide +kernel
theorem pn_X5_addWeight : plainName yX5_addWeight.cls = true := by decide +kernel
theorem hd_X5_addWeight : yX5_addWeight.cls = RX5 ∧ yX5_addWeight.cls ≠ "java/lang/invoke/MethodHandle" ∧ yX5_addWeight.cls ≠ "java/lang/invoke/VarHandle" ∧ (parseMethodDescriptor yX5_addWeight.desc).map (fun d => d.parameters.length) = some 2 := by decide +kernel
theorem pn_X6_type : plainName yX6_type.cls = true := by decide +kernel
theorem hd_X6_type : yX6_type.cls = RX6 ∧ yX6_type.cls ≠ "java/lang/invoke/MethodHandle" ∧ yX6_type.cls ≠ "java/lang/invoke/VarHandle" ∧ (parseMethodDescriptor yX6_type.desc).map (fun d => d.parameters.length) = some 2 := by decide +kernel
theorem pn_X6_keep : plainName yX6_keep.cls = true := by decide +kernel
theorem hd_X6_keep : yX6_keep.cls = RX6 ∧ yX6_keep.cls ≠ "java/lang/invoke/MethodHandle" ∧ yX6_keep.cls ≠ "java/lang/invoke/VarHandle" ∧ (parseMethodDescriptor yX6_keep.desc).map (fun d => d.parameters.length) = some 1 := by decide +kernel
theorem pn_X6_read : plainName yX6_read.cls = true := by decide +kernel
theorem hd_X6_read : yX6_read.cls = RX6 ∧ yX6_read.cls ≠ "java/lang/invoke/MethodHandle" ∧ yX6_read.cls ≠ "java/lang/invoke/VarHandle" ∧ (parseMethodDescriptor yX6_read.desc).map (fun d => d.parameters.length) = some 0 := by decide +kernel
theorem pn_X6_fault : plainName yX6_fault.cls = true := by decide +kernel
theorem hd_X6_fault : yX6_fault.cls = RX6 ∧ yX6_fault.cls ≠ "java/lang/invoke/MethodHandle" ∧ yX6_fault.cls ≠ "java/lang/invoke/VarHandle" ∧ (parseMethodDescriptor yX6_fault.desc).map (fun d => d.parameters.length) = some 0 := by decide +kernel
theorem pn_X6_amiss : plainName yX6_amiss.cls = true := by decide +kernel
theorem hd_X6_amiss : yX6_amiss.cls = RX6 ∧ yX6_amiss.cls ≠ "java/lang/invoke/MethodHandle" ∧ yX6_amiss.cls ≠ "java/lang/invoke/VarHandle" ∧ (parseMethodDescriptor yX6_amiss.desc).map (fun d => d.parameters.length) = some 1 := by decide +kernel
theorem pn_X6_count : plainName yX6_count.cls = true := by decide +kernel
theorem hd_X6_count : yX6_count.cls = RX6 ∧ yX6_count.cls ≠ "java/lang/invoke/MethodHandle" ∧ yX6_count.cls ≠ "java/lang/invoke/VarHandle" ∧ (parseMethodDescriptor yX6_count.desc).map (fun d => d.parameters.length) = some 1 := by decide +kernel
theorem pn_X6_rule : plainName yX6_rule.cls = true := by decide +kernel
theorem hd_X6_rule : yX6_rule.cls = RX6 ∧ yX6_rule.cls ≠ "java/lang/invoke/MethodHandle" ∧ yX6_rule.cls ≠ "java/lang/invoke/VarHandle" ∧ (parseMethodDescriptor yX6_rule.desc).map (fun d => d.parameters.length) = some 2 := by decide +kernel
theorem pn_X6_name : plainName yX6_name.cls = true := by decide +kernel
theorem hd_X6_name : yX6_name.cls = RX6 ∧ yX6_name.cls ≠ "java/lang/invoke/MethodHandle" ∧ yX6_name.cls ≠ "java/lang/invoke/VarHandle" ∧ (parseMethodDescriptor yX6_name.desc).map (fun d => d.parameters.length) = some 3 := by decide +kernel
theorem pn_X6_meets : plainName yX6_meets.cls = true := by decide +kernel
theorem hd_X6_meets : yX6_meets.cls = RX6 ∧ yX6_meets.cls ≠ "java/lang/invoke/MethodHandle" ∧ yX6_meets.cls ≠ "java/lang/invoke/VarHandle" ∧ (parseMethodDescriptor yX6_meets.desc).map (fun d => d.parameters.length) = some 1 := by decide +kernel
theorem pn_X6_cases : plainName yX6_cases.cls = true := by decide +kernel
theorem hd_X6_cases : yX6_cases.cls = RX6 ∧ yX6_cases.cls ≠ "java/lang/invoke/MethodHandle" ∧ yX6_cases.cls ≠ "java/lang/invoke/VarHandle" ∧ (parseMethodDescriptor yX6_cases.desc).map (fun d => d.parameters.length) = some 1 := by decide +kernel
theorem pn_X6_node : plainName yX6_node.cls = true := by decide +kernel
theorem hd_X6_node : yX6_node.cls = RX6 ∧ yX6_node.cls ≠ "java/lang/invoke/MethodHandle" ∧ yX6_node.cls ≠ "java/lang/invoke/VarHandle" ∧ (parseMethodDescriptor yX6_node.desc).map (fun d => d.parameters.length) = some 2 := by decide +kernel
theorem pn_X6_code : plainName yX6_code.cls = true := by decide +kernel
theorem hd_X6_code : yX6_code.cls = RX6 ∧ yX6_code.cls ≠ "java/lang/invoke/MethodHandle" ∧ yX6_code.cls ≠ "java/lang/invoke/VarHandle" ∧ (parseMethodDescriptor yX6_code.desc).map (fun d => d.parameters.length) = some 1 := by decide +kernel
theorem pn_X6_run : plainName yX6_run.cls = true := by decide +kernel
theorem hd_X6_run : yX6_run.cls = RX6 ∧ yX6_run.cls ≠ "java/lang/invoke/MethodHandle" ∧ yX6_run.cls ≠ "java/lang/invoke/VarHandle" ∧ (parseMethodDescriptor yX6_run.desc).map (fun d => d.parameters.length) = some 2 := by decide +kernel
theorem pn_X6_tests : plainName yX6_tests.cls = true := by decide +kernel
theorem hd_X6_tests : yX6_tests.cls = RX6 ∧ yX6_tests.cls ≠ "java/lang/invoke/MethodHandle" ∧ yX6_tests.cls ≠ "java/lang/invoke/VarHandle" ∧ (parseMethodDescriptor yX6_tests.desc).map (fun d => d.parameters.length) = some 0 := by decide +kernel
theorem pn_X6_needTable : plainName yX6_needTable.cls = true := by decide +kernel
theorem hd_X6_needTable : yX6_needTable.cls = RX6 ∧ yX6_needTable.cls ≠ "java/lang/invoke/MethodHandle" ∧ yX6_needTable.cls ≠ "java/lang/invoke/VarHandle" ∧ (parseMethodDescriptor yX6_needTable.desc).map (fun d => d.parameters.length) = some 0 := by decide +kernel
theorem pn_X6_needTree : plainName yX6_needTree.cls = true := by decide +kernel
theorem hd_X6_needTree : yX6_needTree.cls = RX6 ∧ yX6_needTree.cls ≠ "java/lang/invoke/MethodHandle" ∧ yX6_needTree.cls ≠ "java/lang/invoke/VarHandle" ∧ (parseMethodDescriptor yX6_needTree.desc).map (fun d => d.parameters.length) = some 0 := by decide +kernel
theorem pn_X6_needCase : plainName yX6_needCase.cls = true := by decide +kernel
theorem hd_X6_needCase : yX6_needCase.cls = RX6 ∧ yX6_needCase.cls ≠ "java/lang/invoke/MethodHandle" ∧ yX6_needCase.cls ≠ "java/lang/invoke/VarHandle" ∧ (parseMethodDescriptor yX6_needCase.desc).map (fun d => d.parameters.length) = some 1 := by decide +kernel
theorem pn_X6_judge : plainName yX6_judge.cls = true := by decide +kernel
theorem hd_X6_judge : yX6_judge.cls = RX6 ∧ yX6_judge.cls ≠ "java/lang/invoke/MethodHandle" ∧ yX6_judge.cls ≠ "java/lang/invoke/VarHandle" ∧ (parseMethodDescriptor yX6_judge.desc).map (fun d => d.parameters.length) = some 0 := by decide +kernel
theorem pn_X6_findAmiss : plainName yX6_findAmiss.cls = true := by decide +kernel
theorem hd_X6_findAmiss : yX6_findAmiss.cls = RX6 ∧ yX6_findAmiss.cls ≠ "java/lang/invoke/MethodHandle" ∧ yX6_findAmiss.cls ≠ "java/lang/invoke/VarHandle" ∧ (parseMethodDescriptor yX6_findAmiss.desc).map (fun d => d.parameters.length) = some 0 := by decide +kernel
theorem pn_X6_findContradiction : plainName yX6_findContradiction.cls = true := by decide +kernel
theorem hd_X6_findContradiction : yX6_findContradiction.cls = RX6 ∧ yX6_findContradiction.cls ≠ "java/lang/invoke/MethodHandle" ∧ yX6_findContradiction.cls ≠ "java/lang/invoke/VarHandle" ∧ (parseMethodDescriptor yX6_findContradiction.desc).map (fun d => d.parameters.length) = some 0 := by decide +kernel
theorem pn_X7_thrown : plainName yX7_thrown.cls = true := by decide +kernel
theorem hd_X7_thrown : yX7_thrown.cls = RX7 ∧ yX7_thrown.cls ≠ "java/lang/invoke/MethodHandle" ∧ yX7_thrown.cls ≠ "java/lang/invoke/VarHandle" ∧ (parseMethodDescriptor yX7_thrown.desc).map (fun d => d.parameters.length) = some 0 := by decide +kernel
theorem pn_X7_type : plainName yX7_type.cls = true := by decide +kernel
theorem hd_X7_type : yX7_type.cls = RX7 ∧ yX7_type.cls ≠ "java/lang/invoke/MethodHandle" ∧ yX7_type.cls ≠ "java/lang/invoke/VarHandle" ∧ (parseMethodDescriptor yX7_type.desc).map (fun d => d.parameters.length) = some 2 := by decide +kernel
theorem pn_X7_keep : plainName yX7_keep.cls = true := by decide +kernel
theorem hd_X7_keep : yX7_keep.cls = RX7 ∧ yX7_keep.cls ≠ "java/lang/invoke/MethodHandle" ∧ yX7_keep.cls ≠ "java/lang/invoke/VarHandle" ∧ (parseMethodDescriptor yX7_keep.desc).map (fun d => d.parameters.length) = some 1 := by decide +kernel
theorem pn_X7_look : plainName yX7_look.cls = true := by decide +kernel
theorem hd_X7_look : yX7_look.cls = RX7 ∧ yX7_look.cls ≠ "java/lang/invoke/MethodHandle" ∧ yX7_look.cls ≠ "java/lang/invoke/VarHandle" ∧ (parseMethodDescriptor yX7_look.desc).map (fun d => d.parameters.length) = some 0 := by decide +kernel
theorem pn_X7_bad : plainName yX7_bad.cls = true := by decide +kernel
theorem hd_X7_bad : yX7_bad.cls = RX7 ∧ yX7_bad.cls ≠ "java/lang/invoke/MethodHandle" ∧ yX7_bad.cls ≠ "java/lang/invoke/VarHandle" ∧ (parseMethodDescriptor yX7_bad.desc).map (fun d => d.parameters.length) = some 2 := by decide +kernel
theorem pn_X7_isLetter : plainName yX7_isLetter.cls = true := by decide +kernel
theorem hd_X7_isLetter : yX7_isLetter.cls = RX7 ∧ yX7_isLetter.cls ≠ "java/lang/invoke/MethodHandle" ∧ yX7_isLetter.cls ≠ "java/lang/invoke/VarHandle" ∧ (parseMethodDescriptor yX7_isLetter.desc).map (fun d => d.parameters.length) = some 1 := by decide +kernel
theorem pn_X7_isDigit : plainName yX7_isDigit.cls = true := by decide +kernel
theorem hd_X7_isDigit : yX7_isDigit.cls = RX7 ∧ yX7_isDigit.cls ≠ "java/lang/invoke/MethodHandle" ∧ yX7_isDigit.cls ≠ "java/lang/invoke/VarHandle" ∧ (parseMethodDescriptor yX7_isDigit.desc).map (fun d => d.parameters.length) = some 1 := by decide +kernel
theorem pn_X7_nameEnd : plainName yX7_nameEnd.cls = true := by decide +kernel
theorem hd_X7_nameEnd : yX7_nameEnd.cls = RX7 ∧ yX7_nameEnd.cls ≠ "java/lang/invoke/MethodHandle" ∧ yX7_nameEnd.cls ≠ "java/lang/invoke/VarHandle" ∧ (parseMethodDescriptor yX7_nameEnd.desc).map (fun d => d.parameters.length) = some 0 := by decide +kernel
theorem pn_X7_word : plainName yX7_word.cls = true := by decide +kernel
theorem hd_X7_word : yX7_word.cls = RX7 ∧ yX7_word.cls ≠ "java/lang/invoke/MethodHandle" ∧ yX7_word.cls ≠ "java/lang/invoke/VarHandle" ∧ (parseMethodDescriptor yX7_word.desc).map (fun d => d.parameters.length) = some 2 := by decide +kernel
theorem pn_X7_sign : plainName yX7_sign.cls = true := by decide +kernel
theorem hd_X7_sign : yX7_sign.cls = RX7 ∧ yX7_sign.cls ≠ "java/lang/invoke/MethodHandle" ∧ yX7_sign.cls ≠ "java/lang/invoke/VarHandle" ∧ (parseMethodDescriptor yX7_sign.desc).map (fun d => d.parameters.length) = some 1 := by decide +kernel
theorem pn_X7_find : plainName yX7_find.cls = true := by decide +kernel
theorem hd_X7_find : yX7_find.cls = RX7 ∧ yX7_find.cls ≠ "java/lang/invoke/MethodHandle" ∧ yX7_find.cls ≠ "java/lang/invoke/VarHandle" ∧ (parseMethodDescriptor yX7_find.desc).map (fun d => d.parameters.length) = some 3 := by decide +kernel
theorem pn_X7_store : plainName yX7_store.cls = true := by decide +kernel
theorem hd_X7_store : yX7_store.cls = RX7 ∧ yX7_store.cls ≠ "java/lang/invoke/MethodHandle" ∧ yX7_store.cls ≠ "java/lang/invoke/VarHandle" ∧ (parseMethodDescriptor yX7_store.desc).map (fun d => d.parameters.length) = some 2 := by decide +kernel
theorem pn_X7_readCondition : plainName yX7_readCondition.cls = true := by decide +kernel
theorem hd_X7_readCondition : yX7_readCondition.cls = RX7 ∧ yX7_readCondition.cls ≠ "java/lang/invoke/MethodHandle" ∧ yX7_readCondition.cls ≠ "java/lang/invoke/VarHandle" ∧ (parseMethodDescriptor yX7_readCondition.desc).map (fun d => d.parameters.length) = some 0 := by decide +kernel
theorem pn_X7_readRule : plainName yX7_readRule.cls = true := by decide +kernel
theorem hd_X7_readRule : yX7_readRule.cls = RX7 ∧ yX7_readRule.cls ≠ "java/lang/invoke/MethodHandle" ∧ yX7_readRule.cls ≠ "java/lang/invoke/VarHandle" ∧ (parseMethodDescriptor yX7_readRule.desc).map (fun d => d.parameters.length) = some 0 := by decide +kernel
theorem pn_X7_take : plainName yX7_take.cls = true := by decide +kernel
theorem hd_X7_take : yX7_take.cls = RX7 ∧ yX7_take.cls ≠ "java/lang/invoke/MethodHandle" ∧ yX7_take.cls ≠ "java/lang/invoke/VarHandle" ∧ (parseMethodDescriptor yX7_take.desc).map (fun d => d.parameters.length) = some 0 := by decide +kernel
theorem pn_X7_read : plainName yX7_read.cls = true := by decide +kernel
theorem hd_X7_read : yX7_read.cls = RX7 ∧ yX7_read.cls ≠ "java/lang/invoke/MethodHandle" ∧ yX7_read.cls ≠ "java/lang/invoke/VarHandle" ∧ (parseMethodDescriptor yX7_read.desc).map (fun d => d.parameters.length) = some 0 := by decide +kernel
theorem pn_X7_fault : plainName yX7_fault.cls = true := by decide +kernel
theorem hd_X7_fault : yX7_fault.cls = RX7 ∧ yX7_fault.cls ≠ "java/lang/invoke/MethodHandle" ∧ yX7_fault.cls ≠ "java/lang/invoke/VarHandle" ∧ (parseMethodDescriptor yX7_fault.desc).map (fun d => d.parameters.length) = some 0 := by decide +kernel
theorem pn_X7_allCases : plainName yX7_allCases.cls = true := by decide +kernel
theorem hd_X7_allCases : yX7_allCases.cls = RX7 ∧ yX7_allCases.cls ≠ "java/lang/invoke/MethodHandle" ∧ yX7_allCases.cls ≠ "java/lang/invoke/VarHandle" ∧ (parseMethodDescriptor yX7_allCases.desc).map (fun d => d.parameters.length) = some 0 := by decide +kernel
theorem pn_X7_isMet : plainName yX7_isMet.cls = true := by decide +kernel
theorem hd_X7_isMet : yX7_isMet.cls = RX7 ∧ yX7_isMet.cls ≠ "java/lang/invoke/MethodHandle" ∧ yX7_isMet.cls ≠ "java/lang/invoke/VarHandle" ∧ (parseMethodDescriptor yX7_isMet.desc).map (fun d => d.parameters.length) = some 2 := by decide +kernel
theorem pn_X7_firstMet : plainName yX7_firstMet.cls = true := by decide +kernel
theorem hd_X7_firstMet : yX7_firstMet.cls = RX7 ∧ yX7_firstMet.cls ≠ "java/lang/invoke/MethodHandle" ∧ yX7_firstMet.cls ≠ "java/lang/invoke/VarHandle" ∧ (parseMethodDescriptor yX7_firstMet.desc).map (fun d => d.parameters.length) = some 1 := by decide +kernel
theorem pn_X7_judge : plainName yX7_judge.cls = true := by decide +kernel
theorem hd_X7_judge : yX7_judge.cls = RX7 ∧ yX7_judge.cls ≠ "java/lang/invoke/MethodHandle" ∧ yX7_judge.cls ≠ "java/lang/invoke/VarHandle" ∧ (parseMethodDescriptor yX7_judge.desc).map (fun d => d.parameters.length) = some 0 := by decide +kernel
theorem pn_X7_bits : plainName yX7_bits.cls = true := by decide +kernel
theorem hd_X7_bits : yX7_bits.cls = RX7 ∧ yX7_bits.cls ≠ "java/lang/invoke/MethodHandle" ∧ yX7_bits.cls ≠ "java/lang/invoke/VarHandle" ∧ (parseMethodDescriptor yX7_bits.desc).map (fun d => d.parameters.length) = some 1 := by decide +kernel
theorem pn_X7_canMeet : plainName yX7_canMeet.cls = true := by decide +kernel
theorem hd_X7_canMeet : yX7_canMeet.cls = RX7 ∧ yX7_canMeet.cls ≠ "java/lang/invoke/MethodHandle" ∧ yX7_canMeet.cls ≠ "java/lang/invoke/VarHandle" ∧ (parseMethodDescriptor yX7_canMeet.desc).map (fun d => d.parameters.length) = some 3 := by decide +kernel
theorem pn_X7_onlyAction : plainName yX7_onlyAction.cls = true := by decide +kernel
theorem hd_X7_onlyAction : yX7_onlyAction.cls = RX7 ∧ yX7_onlyAction.cls ≠ "java/lang/invoke/MethodHandle" ∧ yX7_onlyAction.cls ≠ "java/lang/invoke/VarHandle" ∧ (parseMethodDescriptor yX7_onlyAction.desc).map (fun d => d.parameters.length) = some 2 := by decide +kernel
theorem pn_X7_bestCondition : plainName yX7_bestCondition.cls = true := by decide +kernel
theorem hd_X7_bestCondition : yX7_bestCondition.cls = RX7 ∧ yX7_bestCondition.cls ≠ "java/lang/invoke/MethodHandle" ∧ yX7_bestCondition.cls ≠ "java/lang/invoke/VarHandle" ∧ (parseMethodDescriptor yX7_bestCondition.desc).map (fun d => d.parameters.length) = some 2 := by decide +kernel
theorem pn_X7_grow : plainName yX7_grow.cls = true := by decide +kernel
theorem hd_X7_grow : yX7_grow.cls = RX7 ∧ yX7_grow.cls ≠ "java/lang/invoke/MethodHandle" ∧ yX7_grow.cls ≠ "java/lang/invoke/VarHandle" ∧ (parseMethodDescriptor yX7_grow.desc).map (fun d => d.parameters.length) = some 0 := by decide +kernel
theorem pn_X7_write : plainName yX7_write.cls = true := by decide +kernel
theorem hd_X7_write : yX7_write.cls = RX7 ∧ yX7_write.cls ≠ "java/lang/invoke/MethodHandle" ∧ yX7_write.cls ≠ "java/lang/invoke/VarHandle" ∧ (parseMethodDescriptor yX7_write.desc).map (fun d => d.parameters.length) = some 0 := by decide +kernel
theorem pn_X7_amiss : plainName yX7_amiss.cls = true := by decide +kernel
theorem hd_X7_amiss : yX7_amiss.cls = RX7 ∧ yX7_amiss.cls ≠ "java/lang/invoke/MethodHandle" ∧ yX7_amiss.cls ≠ "java/lang/invoke/VarHandle" ∧ (parseMethodDescriptor yX7_amiss.desc).map (fun d => d.parameters.length) = some 1 := by decide +kernel
theorem pn_X7_count : plainName yX7_count.cls = true := by decide +kernel
theorem hd_X7_count : yX7_count.cls = RX7 ∧ yX7_count.cls ≠ "java/lang/invoke/MethodHandle" ∧ yX7_count.cls ≠ "java/lang/invoke/VarHandle" ∧ (parseMethodDescriptor yX7_count.desc).map (fun d => d.parameters.length) = some 1 := by decide +kernel
theorem pn_X7_rule : plainName yX7_rule.cls = true := by decide +kernel
theorem hd_X7_rule : yX7_rule.cls = RX7 ∧ yX7_rule.cls ≠ "java/lang/invoke/MethodHandle" ∧ yX7_rule.cls ≠ "java/lang/invoke/VarHandle" ∧ (parseMethodDescriptor yX7_rule.desc).map (fun d => d.parameters.length) = some 2 := by decide +kernel
theorem pn_X7_name : plainName yX7_name.cls = true := by decide +kernel
theorem hd_X7_name : yX7_name.cls = RX7 ∧ yX7_name.cls ≠ "java/lang/invoke/MethodHandle" ∧ yX7_name.cls ≠ "java/lang/invoke/VarHandle" ∧ (parseMethodDescriptor yX7_name.desc).map (fun d => d.parameters.length) = some 3 := by decide +kernel
theorem pn_X7_isCase : plainName yX7_isCase.cls = true := by decide +kernel
theorem hd_X7_isCase : yX7_isCase.cls = RX7 ∧ yX7_isCase.cls ≠ "java/lang/invoke/MethodHandle" ∧ yX7_isCase.cls ≠ "java/lang/invoke/VarHandle" ∧ (parseMethodDescriptor yX7_isCase.desc).map (fun d => d.parameters.length) = some 1 := by decide +kernel
theorem pn_X7_meets : plainName yX7_meets.cls = true := by decide +kernel
theorem hd_X7_meets : yX7_meets.cls = RX7 ∧ yX7_meets.cls ≠ "java/lang/invoke/MethodHandle" ∧ yX7_meets.cls ≠ "java/lang/invoke/VarHandle" ∧ (parseMethodDescriptor yX7_meets.desc).map (fun d => d.parameters.length) = some 1 := by decide +kernel
theorem pn_X7_cases : plainName yX7_cases.cls = true := by decide +kernel
theorem hd_X7_cases : yX7_cases.cls = RX7 ∧ yX7_cases.cls ≠ "java/lang/invoke/MethodHandle" ∧ yX7_cases.cls ≠ "java/lang/invoke/VarHandle" ∧ (parseMethodDescriptor yX7_cases.desc).map (fun d => d.parameters.length) = some 1 := by decide +kernel
theorem pn_X7_node : plainName yX7_node.cls = true := by decide +kernel
theorem hd_X7_node : yX7_node.cls = RX7 ∧ yX7_node.cls ≠ "java/lang/invoke/MethodHandle" ∧ yX7_node.cls ≠ "java/lang/invoke/VarHandle" ∧ (parseMethodDescriptor yX7_node.desc).map (fun d => d.parameters.length) = some 2 := by decide +kernel
theorem pn_X7_code : plainName yX7_code.cls = true := by decide +kernel
theorem hd_X7_code : yX7_code.cls = RX7 ∧ yX7_code.cls ≠ "java/lang/invoke/MethodHandle" ∧ yX7_code.cls ≠ "java/lang/invoke/VarHandle" ∧ (parseMethodDescriptor yX7_code.desc).map (fun d => d.parameters.length) = some 1 := by decide +kernel
theorem pn_X7_run : plainName yX7_run.cls = true := by decide +kernel
theorem hd_X7_run : yX7_run.cls = RX7 ∧ yX7_run.cls ≠ "java/lang/invoke/MethodHandle" ∧ yX7_run.cls ≠ "java/lang/invoke/VarHandle" ∧ (parseMethodDescriptor yX7_run.desc).map (fun d => d.parameters.length) = some 2 := by decide +kernel
theorem pn_X7_tests : plainName yX7_tests.cls = true := by decide +kernel
theorem hd_X7_tests : yX7_tests.cls = RX7 ∧ yX7_tests.cls ≠ "java/lang/invoke/MethodHandle" ∧ yX7_tests.cls ≠ "java/lang/invoke/VarHandle" ∧ (parseMethodDescriptor yX7_tests.desc).map (fun d => d.parameters.length) = some 0 := by decide +kernel
theorem pn_J6_bitCount_0f7a4 : plainName yJ6_bitCount_0f7a4.cls = true := by decide +kernel
theorem hd_J6_bitCount_0f7a4 : yJ6_bitCount_0f7a4.cls = RJ6 ∧ yJ6_bitCount_0f7a4.cls ≠ "java/lang/invoke/MethodHandle" ∧ yJ6_bitCount_0f7a4.cls ≠ "java/lang/invoke/VarHandle" ∧ (parseMethodDescriptor yJ6_bitCount_0f7a4.desc).map (fun d => d.parameters.length) = some 1 := by decide +kernel
theorem pn_L_type : plainName yL_type.cls = true := by decide +kernel
theorem hd_L_type : yL_type.cls = RL ∧ yL_type.cls ≠ "java/lang/invoke/MethodHandle" ∧ yL_type.cls ≠ "java/lang/invoke/VarHandle" ∧ (parseMethodDescriptor yL_type.desc).map (fun d => d.parameters.length) = some 4 := by decide +kernel
theorem pn_L_keep : plainName yL_keep.cls = true := by decide +kernel
theorem hd_L_keep : yL_keep.cls = RL ∧ yL_keep.cls ≠ "java/lang/invoke/MethodHandle" ∧ yL_keep.cls ≠ "java/lang/invoke/VarHandle" ∧ (parseMethodDescriptor yL_keep.desc).map (fun d => d.parameters.length) = some 2 := by decide +kernel
theorem pn_L_amiss : plainName yL_amiss.cls = true := by decide +kernel
theorem hd_L_amiss : yL_amiss.cls = RL ∧ yL_amiss.cls ≠ "java/lang/invoke/MethodHandle" ∧ yL_amiss.cls ≠ "java/lang/invoke/VarHandle" ∧ (parseMethodDescriptor yL_amiss.desc).map (fun d => d.parameters.length) = some 3 := by decide +kernel
theorem pn_L_count : plainName yL_count.cls = true := by decide +kernel
theorem hd_L_count : yL_count.cls = RL ∧ yL_count.cls ≠ "java/lang/invoke/MethodHandle" ∧ yL_count.cls ≠ "java/lang/invoke/VarHandle" ∧ (parseMethodDescriptor yL_count.desc).map (fun d => d.parameters.length) = some 3 := by decide +kernel
theorem pn_L_rule : plainName yL_rule.cls = true := by decide +kernel
theorem hd_L_rule : yL_rule.cls = RL ∧ yL_rule.cls ≠ "java/lang/invoke/MethodHandle" ∧ yL_rule.cls ≠ "java/lang/invoke/VarHandle" ∧ (parseMethodDescriptor yL_rule.desc).map (fun d => d.parameters.length) = some 4 := by decide +kernel
theorem pn_L_name : plainName yL_name.cls = true := by decide +kernel
theorem hd_L_name : yL_name.cls = RL ∧ yL_name.cls ≠ "java/lang/invoke/MethodHandle" ∧ yL_name.cls ≠ "java/lang/invoke/VarHandle" ∧ (parseMethodDescriptor yL_name.desc).map (fun d => d.parameters.length) = some 5 := by decide +kernel
theorem pn_L_meets : plainName yL_meets.cls = true := by decide +kernel
theorem hd_L_meets : yL_meets.cls = RL ∧ yL_meets.cls ≠ "java/lang/invoke/MethodHandle" ∧ yL_meets.cls ≠ "java/lang/invoke/VarHandle" ∧ (parseMethodDescriptor yL_meets.desc).map (fun d => d.parameters.length) = some 3 := by decide +kernel
theorem pn_L_cases : plainName yL_cases.cls = true := by decide +kernel
theorem hd_L_cases : yL_cases.cls = RL ∧ yL_cases.cls ≠ "java/lang/invoke/MethodHandle" ∧ yL_cases.cls ≠ "java/lang/invoke/VarHandle" ∧ (parseMethodDescriptor yL_cases.desc).map (fun d => d.parameters.length) = some 3 := by decide +kernel
theorem pn_L_node : plainName yL_node.cls = true := by decide +kernel
theorem hd_L_node : yL_node.cls = RL ∧ yL_node.cls ≠ "java/lang/invoke/MethodHandle" ∧ yL_node.cls ≠ "java/lang/invoke/VarHandle" ∧ (parseMethodDescriptor yL_node.desc).map (fun d => d.parameters.length) = some 4 := by decide +kernel
theorem pn_L_code : plainName yL_code.cls = true := by decide +kernel
theorem hd_L_code : yL_code.cls = RL ∧ yL_code.cls ≠ "java/lang/invoke/MethodHandle" ∧ yL_code.cls ≠ "java/lang/invoke/VarHandle" ∧ (parseMethodDescriptor yL_code.desc).map (fun d => d.parameters.length) = some 3 := by decide +kernel
theorem pn_L_run : plainName yL_run.cls = true := by decide +kernel
theorem hd_L_run : yL_run.cls = RL ∧ yL_run.cls ≠ "java/lang/invoke/MethodHandle" ∧ yL_run.cls ≠ "java/lang/invoke/VarHandle" ∧ (parseMethodDescriptor yL_run.desc).map (fun d => d.parameters.length) = some 4 := by decide +kernel
theorem pn_L_tests : plainName yL_tests.cls = true := by decide +kernel
theorem hd_L_tests : yL_tests.cls = RL ∧ yL_tests.cls ≠ "java/lang/invoke/MethodHandle" ∧ yL_tests.cls ≠ "java/lang/invoke/VarHandle" ∧ (parseMethodDescriptor yL_tests.desc).map (fun d => d.parameters.length) = some 2 := by decide +kernel
end
section
def wX1_letterOf_b19 (Q : Int32 → ST → Prop) (x0 : Int32) (u : ST) : Prop :=
  ((x0 < 48 → Q 0 u) ∧ (¬ x0 < 48 → ((57 < x0 → Q 0 u) ∧ (¬ 57 < x0 → Q ((x0 - 48) + 27) u))))
set_option maxHeartbeats 4000000 in
set_option maxRecDepth 100000 in
theorem kX1_letterOf_b19 {p : Program} {l : Launch} {e : Env} {s : State} {m : MethodId} {args : Array Value} {below : List Frame} {meth : Method} {c : Code} {D : va_G} {cy : CY} {A : Nat → Prop} {ad : Nat → Nat} {Q : Int32 → ST → Prop} (C : kC p m c cX1_letterOf 1 s args RX1 D cy A) (hr : meth.sig.returnType = some .int) (hlk : meth.locks = false) : ∀ (x0 : Int32) (u : ST) (H : Heap) (locs : List Loc) (ls : Array Slot), wX1_letterOf_b19 Q x0 u → kH D (cW cy ad) A s u H locs → lv_has ls 1 [(0, .int x0)] → W p l e (kRm 0) s m args below meth c H locs 0 0 (MQ below (kQi D (cW cy ad) cy A Q) args s 0 0 A) (F0 m 19 ls []) := by
  intro x0 u H locs ls hw h hl
  obtain ⟨⟨hx, hb, hml, hown, hts⟩, hK, hA⟩ := id C
  unfold wX1_letterOf_b19 at hw
  refine lv_iload_n hx hb dX1_letterOf_19 rfl (lv_at hl 0 rfl) ?_
  refine lv_bipush (v := 48) hx hb dX1_letterOf_20 (by decide) ?_
  refine lv_icmp_lt (tgt := 41) hx hb dX1_letterOf_22 (by decide) (fun c_22 => ?_) (fun c_22 => ?_)
  · have hw := hw.1 c_22
    refine lv_iconst (v := 0) hx hb dX1_letterOf_41 (by decide) ?_
    exact kretI C hr hlk h hw dX1_letterOf_42
  · have hw := hw.2 c_22
    refine lv_iload_n hx hb dX1_letterOf_25 rfl (lv_at hl 0 rfl) ?_
    refine lv_bipush (v := 57) hx hb dX1_letterOf_26 (by decide) ?_
    refine lv_icmp_gt (tgt := 41) hx hb dX1_letterOf_28 (by decide) (fun c_28 => ?_) (fun c_28 => ?_)
    · have hw := hw.1 c_28
      refine lv_iconst (v := 0) hx hb dX1_letterOf_41 (by decide) ?_
      exact kretI C hr hlk h hw dX1_letterOf_42
    · have hw := hw.2 c_28
      refine lv_iload_n hx hb dX1_letterOf_31 rfl (lv_at hl 0 rfl) ?_
      refine lv_bipush (v := 48) hx hb dX1_letterOf_32 (by decide) ?_
      refine lv_isub hx hb dX1_letterOf_34 ?_
      refine lv_bipush (v := 27) hx hb dX1_letterOf_35 (by decide) ?_
      refine lv_iadd hx hb dX1_letterOf_37 ?_
      refine lv_goto (tgt := 42) hx hb dX1_letterOf_38 (by decide) ?_
      exact kretI C hr hlk h hw dX1_letterOf_42
def wX1_letterOf (x0 : Int32) (u : ST) (Q : Int32 → ST → Prop) : Prop :=
  ((x0 < 97 → wX1_letterOf_b19 Q x0 u) ∧ (¬ x0 < 97 → ((122 < x0 → wX1_letterOf_b19 Q x0 u) ∧ (¬ 122 < x0 → Q ((x0 - 97) + 1) u))))
set_option maxHeartbeats 4000000 in
set_option maxRecDepth 100000 in
theorem mX1_letterOf (l : Launch) (D : va_G) (cy : CY) (ad : Nat → Nat) (x0 : Int32) (u : ST) (sz : Nat) {Q : Int32 → ST → Prop} (hw : wX1_letterOf x0 u Q) : Met l yX1_letterOf (wM yX1_letterOf cX1_letterOf 1 (some .int)) (kRm 0) (kPc D (cW cy ad) cy u sz [.int x0]) (kQi D (cW cy ad) cy (va_A (cW cy ad u) sz) Q) 0 0 (va_A (cW cy ad u) sz) := by
  refine kMet pn_X1_letterOf (Nat.le_of_ble_eq_true rfl) (fun p e s m below meth c ls hsz C hr hlk hex h hl => ?_)
  have hl : lv_has ls 1 [(0, .int x0)] := hl
  obtain ⟨⟨hx, hb, hml, hown, hts⟩, hK, hA⟩ := id C
  unfold wX1_letterOf at hw
  have h : kH D (cW cy ad) (va_A (cW cy ad u) sz) s u s.heap [] := h
  refine lv_iload_n hx hb dX1_letterOf_0 rfl (lv_at hl 0 rfl) ?_
  refine lv_bipush (v := 97) hx hb dX1_letterOf_1 (by decide) ?_
  refine lv_icmp_lt (tgt := 19) hx hb dX1_letterOf_3 (by decide) (fun c_3 => ?_) (fun c_3 => ?_)
  · have hw := hw.1 c_3
    exact kX1_letterOf_b19 C hr hlk x0 _ _ _ _ hw h (lv_sub hl [0] rfl)
  · have hw := hw.2 c_3
    refine lv_iload_n hx hb dX1_letterOf_6 rfl (lv_at hl 0 rfl) ?_
    refine lv_bipush (v := 122) hx hb dX1_letterOf_7 (by decide) ?_
    refine lv_icmp_gt (tgt := 19) hx hb dX1_letterOf_9 (by decide) (fun c_9 => ?_) (fun c_9 => ?_)
    · have hw := hw.1 c_9
      exact kX1_letterOf_b19 C hr hlk x0 _ _ _ _ hw h (lv_sub hl [0] rfl)
    · have hw := hw.2 c_9
      refine lv_iload_n hx hb dX1_letterOf_12 rfl (lv_at hl 0 rfl) ?_
      refine lv_bipush (v := 97) hx hb dX1_letterOf_13 (by decide) ?_
      refine lv_isub hx hb dX1_letterOf_15 ?_
      refine lv_iconst (v := 1) hx hb dX1_letterOf_16 (by decide) ?_
      refine lv_iadd hx hb dX1_letterOf_17 ?_
      exact kretI C hr hlk h hw dX1_letterOf_18

def wX1_find_B2 (K2 : Nat → Int64 → Int32 → ST → Prop) (Q : Int32 → ST → Prop) (t0 : Nat) (y1 : Int64) (x3 : Int32) (u : ST) : Prop :=
  (((gI u (12 + t0)) ≤ x3 → Q (-1) u) ∧ (¬ (gI u (12 + t0)) ≤ x3 → (vp_in x3 (lenL (1 + t0)) ∧ ((¬ (lg_cmp (gB u (1 + t0) x3.toNatClampNeg) y1) = 0 → K2 t0 y1 (x3 + 1) u) ∧ ((lg_cmp (gB u (1 + t0) x3.toNatClampNeg) y1) = 0 → Q x3 u)))))
set_option maxHeartbeats 4000000 in
set_option maxRecDepth 100000 in
theorem kX1_find_B2 {p : Program} {l : Launch} {e : Env} {s : State} {m : MethodId} {args : Array Value} {below : List Frame} {meth : Method} {c : Code} {D : va_G} {cy : CY} {A : Nat → Prop} {ad : Nat → Nat} {K2 : Nat → Int64 → Int32 → ST → Prop} {Q : Int32 → ST → Prop} (C : kC p m c cX1_find 4 s args RX1 D cy A) (hr : meth.sig.returnType = some .int) (hlk : meth.locks = false) (g2 : ∀ (t0 : Nat) (y1 : Int64) (x3 : Int32) (u : ST) (H : Heap) (locs : List Loc) (ls : Array Slot), K2 t0 y1 x3 u → t0 < 4 → kH D (cW cy ad) A s u H locs → lv_has ls 4 [(0, .ref (aN ad t0)), (1, .long y1), (3, .int x3)] → W p l e (kRm 0) s m args below meth c H locs 0 0 (MQ below (kQi D (cW cy ad) cy A Q) args s 0 0 A) (F0 m 2 ls [])) : ∀ (t0 : Nat) (y1 : Int64) (x3 : Int32) (u : ST) (H : Heap) (locs : List Loc) (ls : Array Slot), wX1_find_B2 K2 Q t0 y1 x3 u → t0 < 4 → kH D (cW cy ad) A s u H locs → lv_has ls 4 [(0, .ref (aN ad t0)), (1, .long y1), (3, .int x3)] → W p l e (kRm 0) s m args below meth c H locs 0 0 (MQ below (kQi D (cW cy ad) cy A Q) args s 0 0 A) (F0 m 2 ls []) := by
  intro t0 y1 x3 u H locs ls hw f_t0 h hl
  obtain ⟨⟨hx, hb, hml, hown, hts⟩, hK, hA⟩ := id C
  unfold wX1_find_B2 at hw
  refine lv_iload_n hx hb dX1_find_2 rfl (lv_at hl 2 rfl) ?_
  refine lv_aload_n hx hb dX1_find_3 rfl (lv_at hl 0 rfl) ?_
  refine kget C h (4 + t0) (cW_N cy ad u t0 (by omega)) rfl inBX1 1 (Nat.le_of_ble_eq_true rfl) wi_fl_X1_15 rfl dX1_find_4 ?_
  refine lv_icmp_ge (tgt := 29) hx hb dX1_find_7 (by decide) (fun c_7 => ?_) (fun c_7 => ?_)
  · have hw := hw.1 c_7
    refine lv_iconst (v := (-1)) hx hb dX1_find_29 (by decide) ?_
    exact kretI C hr hlk h hw dX1_find_30
  · have hw := hw.2 c_7
    refine lv_aload_n hx hb dX1_find_10 rfl (lv_at hl 0 rfl) ?_
    refine kget C h (4 + t0) (cW_N cy ad u t0 (by omega)) rfl inBX1 0 (Nat.le_of_ble_eq_true rfl) wi_fl_X1_9 rfl dX1_find_11 ?_
    refine lv_iload_n hx hb dX1_find_14 rfl (lv_at hl 2 rfl) ?_
    obtain ⟨i_15, hw⟩ := hw
    refine klald C h (11 + (1 + t0)) (cW_L cy ad u (1 + t0) (by omega)) i_15 dX1_find_15 ?_
    refine lv_lload_n hx hb dX1_find_16 rfl (lv_at hl 1 rfl) ?_
    refine W.lcmp hx hb dX1_find_17 ?_
    refine lv_if_ne (tgt := 23) hx hb dX1_find_18 (by decide) (fun c_18 => ?_) (fun c_18 => ?_)
    · have hw := hw.1 c_18
      refine lv_iinc (v := x3 + 1) (lv' := [(3, .int (x3 + 1)), (0, .ref (aN ad t0)), (1, .long y1)]) hx hb dX1_find_23 hl (k := 2) rfl rfl (by decide) rfl (fun ls hl => ?_)
      refine lv_goto (tgt := 2) hx hb dX1_find_26 (by decide) ?_
      exact g2 t0 y1 (x3 + 1) _ _ _ _ hw (by omega) h (lv_sub hl [1, 2, 0] rfl)
    · have hw := hw.2 c_18
      refine lv_iload_n hx hb dX1_find_21 rfl (lv_at hl 2 rfl) ?_
      exact kretI C hr hlk h hw dX1_find_22
def wX1_find_L2 (Q : Int32 → ST → Prop) : Nat → Nat → Int64 → Int32 → ST → Prop
  | 0, _, _, _, _ => False
  | n + 1, t0, y1, x3, u => wX1_find_B2 (wX1_find_L2 Q n) Q t0 y1 x3 u
set_option maxHeartbeats 4000000 in
theorem kX1_find_L2 {p : Program} {l : Launch} {e : Env} {s : State} {m : MethodId} {args : Array Value} {below : List Frame} {meth : Method} {c : Code} {D : va_G} {cy : CY} {A : Nat → Prop} {ad : Nat → Nat} {Q : Int32 → ST → Prop} (C : kC p m c cX1_find 4 s args RX1 D cy A) (hr : meth.sig.returnType = some .int) (hlk : meth.locks = false) : ∀ n : Nat, ∀ (t0 : Nat) (y1 : Int64) (x3 : Int32) (u : ST) (H : Heap) (locs : List Loc) (ls : Array Slot), wX1_find_L2 Q n t0 y1 x3 u → t0 < 4 → kH D (cW cy ad) A s u H locs → lv_has ls 4 [(0, .ref (aN ad t0)), (1, .long y1), (3, .int x3)] → W p l e (kRm 0) s m args below meth c H locs 0 0 (MQ below (kQi D (cW cy ad) cy A Q) args s 0 0 A) (F0 m 2 ls []) := by
  intro n
  induction n with
  | zero => intro t0 y1 x3 u H locs ls hw; exact False.elim hw
  | succ n ih => exact kX1_find_B2 C hr hlk ih
def wX1_find (t0 : Nat) (y1 : Int64) (u : ST) (Q : Int32 → ST → Prop) : Prop :=
  (∃ n : Nat, wX1_find_L2 Q n t0 y1 0 u)
set_option maxHeartbeats 4000000 in
set_option maxRecDepth 100000 in
theorem mX1_find (l : Launch) (D : va_G) (cy : CY) (ad : Nat → Nat) (t0 : Nat) (y1 : Int64) (u : ST) (sz : Nat) {Q : Int32 → ST → Prop} (f_t0 : t0 < 4) (hw : wX1_find t0 y1 u Q) : Met l yX1_find (wM yX1_find cX1_find 4 (some .int)) (kRm 0) (kPc D (cW cy ad) cy u sz [.ref (aN ad t0), .long y1]) (kQi D (cW cy ad) cy (va_A (cW cy ad u) sz) Q) 0 0 (va_A (cW cy ad u) sz) := by
  refine kMet pn_X1_find (Nat.le_of_ble_eq_true rfl) (fun p e s m below meth c ls hsz C hr hlk hex h hl => ?_)
  have hl : lv_has ls 4 [(0, .ref (aN ad t0)), (1, .long y1)] := hl
  obtain ⟨⟨hx, hb, hml, hown, hts⟩, hK, hA⟩ := id C
  unfold wX1_find at hw
  have h : kH D (cW cy ad) (va_A (cW cy ad u) sz) s u s.heap [] := h
  refine lv_iconst (v := 0) hx hb dX1_find_0 (by decide) ?_
  refine lv_istore_n (lv' := [(3, .int 0), (0, .ref (aN ad t0)), (1, .long y1)]) hx hb dX1_find_1 rfl hl (by decide) rfl (fun ls hl => ?_)
  obtain ⟨n, hw⟩ := hw
  exact kX1_find_L2 C hr hlk n t0 y1 0 _ _ _ _ hw (by omega) h (lv_sub hl [1, 2, 0] rfl)

def wX1_add (t0 : Nat) (y1 : Int64) (u : ST) (Q : Int32 → ST → Prop) : Prop :=
  (((gI u (12 + t0)) < (nI (lenL (1 + t0))) → (vp_in (gI u (12 + t0)) (lenL (1 + t0)) ∧ Q 1 (sI (sB u (1 + t0) (gI u (12 + t0)).toNatClampNeg y1) (12 + t0) ((gI (sB u (1 + t0) (gI u (12 + t0)).toNatClampNeg y1) (12 + t0)) + 1)))) ∧ (¬ (gI u (12 + t0)) < (nI (lenL (1 + t0))) → Q 0 u))
set_option maxHeartbeats 4000000 in
set_option maxRecDepth 100000 in
theorem mX1_add (l : Launch) (D : va_G) (cy : CY) (ad : Nat → Nat) (t0 : Nat) (y1 : Int64) (u : ST) (sz : Nat) {Q : Int32 → ST → Prop} (f_t0 : t0 < 4) (hw : wX1_add t0 y1 u Q) : Met l yX1_add (wM yX1_add cX1_add 3 (some .boolean)) (kRm 0) (kPc D (cW cy ad) cy u sz [.ref (aN ad t0), .long y1]) (kQi D (cW cy ad) cy (va_A (cW cy ad u) sz) Q) 0 0 (va_A (cW cy ad u) sz) := by
  refine kMet pn_X1_add (Nat.le_of_ble_eq_true rfl) (fun p e s m below meth c ls hsz C hr hlk hex h hl => ?_)
  have hl : lv_has ls 3 [(0, .ref (aN ad t0)), (1, .long y1)] := hl
  obtain ⟨⟨hx, hb, hml, hown, hts⟩, hK, hA⟩ := id C
  unfold wX1_add at hw
  have h : kH D (cW cy ad) (va_A (cW cy ad u) sz) s u s.heap [] := h
  refine lv_aload_n hx hb dX1_add_0 rfl (lv_at hl 0 rfl) ?_
  refine kget C h (4 + t0) (cW_N cy ad u t0 (by omega)) rfl inBX1 1 (Nat.le_of_ble_eq_true rfl) wi_fl_X1_15 rfl dX1_add_1 ?_
  refine lv_aload_n hx hb dX1_add_4 rfl (lv_at hl 0 rfl) ?_
  refine kget C h (4 + t0) (cW_N cy ad u t0 (by omega)) rfl inBX1 0 (Nat.le_of_ble_eq_true rfl) wi_fl_X1_9 rfl dX1_add_5 ?_
  refine kalenL C h (11 + (1 + t0)) (cW_L cy ad u (1 + t0) (by omega)) dX1_add_8 ?_
  refine lv_icmp_lt (tgt := 14) hx hb dX1_add_9 (by decide) (fun c_9 => ?_) (fun c_9 => ?_)
  · have hw := hw.1 c_9
    refine lv_aload_n hx hb dX1_add_14 rfl (lv_at hl 0 rfl) ?_
    refine kget C h (4 + t0) (cW_N cy ad u t0 (by omega)) rfl inBX1 0 (Nat.le_of_ble_eq_true rfl) wi_fl_X1_9 rfl dX1_add_15 ?_
    refine lv_aload_n hx hb dX1_add_18 rfl (lv_at hl 0 rfl) ?_
    refine kget C h (4 + t0) (cW_N cy ad u t0 (by omega)) rfl inBX1 1 (Nat.le_of_ble_eq_true rfl) wi_fl_X1_15 rfl dX1_add_19 ?_
    refine lv_lload_n hx hb dX1_add_22 rfl (lv_at hl 1 rfl) ?_
    obtain ⟨i_23, hw⟩ := hw
    refine klast C h (11 + (1 + t0)) (cW_L cy ad u (1 + t0) (by omega)) i_23 (cS_L cy ad u (gI u (12 + t0)).toNatClampNeg y1 (1 + t0) (by omega)) dX1_add_23 (fun H locs h => ?_)
    refine lv_aload_n hx hb dX1_add_24 rfl (lv_at hl 0 rfl) ?_
    refine lv_dup hx hb dX1_add_25 rfl ?_
    refine kget C h (4 + t0) (cW_N cy ad (sB u (1 + t0) (gI u (12 + t0)).toNatClampNeg y1) t0 (by omega)) rfl inBX1 1 (Nat.le_of_ble_eq_true rfl) wi_fl_X1_15 rfl dX1_add_26 ?_
    refine lv_iconst (v := 1) hx hb dX1_add_29 (by decide) ?_
    refine lv_iadd hx hb dX1_add_30 ?_
    refine kput C h (4 + t0) (cW_N cy ad (sB u (1 + t0) (gI u (12 + t0)).toNatClampNeg y1) t0 (by omega)) rfl inBX1 tyX1_ok nmX1 1 (Nat.le_of_ble_eq_true rfl) wi_fl_X1_15 rfl rfl rfl (Nat.le_of_ble_eq_true rfl) (cS_NM_1 cy ad (sB u (1 + t0) (gI u (12 + t0)).toNatClampNeg y1) ((gI (sB u (1 + t0) (gI u (12 + t0)).toNatClampNeg y1) (12 + t0)) + 1) t0 (by omega)) dX1_add_31 (fun H locs h => ?_)
    refine lv_iconst (v := 1) hx hb dX1_add_34 (by decide) ?_
    exact kretZ C hr hlk h (Or.inr rfl) hw dX1_add_35
  · have hw := hw.2 c_9
    refine lv_iconst (v := 0) hx hb dX1_add_12 (by decide) ?_
    exact kretZ C hr hlk h (Or.inl rfl) hw dX1_add_13

def wX1_letterAt (t0 : Nat) (x1 : Int32) (x2 : Int32) (u : ST) (Q : Int32 → ST → Prop) : Prop :=
  (vp_in x1 (lenL (1 + t0)) ∧ Q (((((gB u (1 + t0) x1.toNatClampNeg : Int64).toUInt64 >>> ((6 * x2 : Int32).toInt64.toUInt64 &&& Int64.toUInt64 63)).toInt64 : Int64).toInt32) &&& 63) u)
set_option maxHeartbeats 4000000 in
set_option maxRecDepth 100000 in
theorem mX1_letterAt (l : Launch) (D : va_G) (cy : CY) (ad : Nat → Nat) (t0 : Nat) (x1 : Int32) (x2 : Int32) (u : ST) (sz : Nat) {Q : Int32 → ST → Prop} (f_t0 : t0 < 4) (hw : wX1_letterAt t0 x1 x2 u Q) : Met l yX1_letterAt (wM yX1_letterAt cX1_letterAt 3 (some .int)) (kRm 0) (kPc D (cW cy ad) cy u sz [.ref (aN ad t0), .int x1, .int x2]) (kQi D (cW cy ad) cy (va_A (cW cy ad u) sz) Q) 0 0 (va_A (cW cy ad u) sz) := by
  refine kMet pn_X1_letterAt (Nat.le_of_ble_eq_true rfl) (fun p e s m below meth c ls hsz C hr hlk hex h hl => ?_)
  have hl : lv_has ls 3 [(0, .ref (aN ad t0)), (1, .int x1), (2, .int x2)] := hl
  obtain ⟨⟨hx, hb, hml, hown, hts⟩, hK, hA⟩ := id C
  unfold wX1_letterAt at hw
  have h : kH D (cW cy ad) (va_A (cW cy ad u) sz) s u s.heap [] := h
  refine lv_aload_n hx hb dX1_letterAt_0 rfl (lv_at hl 0 rfl) ?_
  refine kget C h (4 + t0) (cW_N cy ad u t0 (by omega)) rfl inBX1 0 (Nat.le_of_ble_eq_true rfl) wi_fl_X1_9 rfl dX1_letterAt_1 ?_
  refine lv_iload_n hx hb dX1_letterAt_4 rfl (lv_at hl 1 rfl) ?_
  obtain ⟨i_5, hw⟩ := hw
  refine klald C h (11 + (1 + t0)) (cW_L cy ad u (1 + t0) (by omega)) i_5 dX1_letterAt_5 ?_
  refine lv_bipush (v := 6) hx hb dX1_letterAt_6 (by decide) ?_
  refine lv_iload_n hx hb dX1_letterAt_8 rfl (lv_at hl 2 rfl) ?_
  refine lv_imul hx hb dX1_letterAt_9 ?_
  refine lv_lushr hx hb dX1_letterAt_10 rfl ?_
  refine lv_l2i hx hb dX1_letterAt_11 rfl ?_
  refine lv_bipush (v := 63) hx hb dX1_letterAt_12 (by decide) ?_
  refine lv_iand hx hb dX1_letterAt_14 ?_
  exact kretI C hr hlk h hw dX1_letterAt_15

def wX1_lengthOf_B2 (K2 : Nat → Int32 → Int32 → ST → Prop) (Q : Int32 → ST → Prop) (t0 : Nat) (x1 : Int32) (x2 : Int32) (u : ST) : Prop :=
  ((10 ≤ x2 → Q x2 u) ∧ (¬ 10 ≤ x2 → wX1_letterAt t0 x1 x2 u (fun r_1 u_2 => ((r_1 = 0 → Q x2 u_2) ∧ (¬ r_1 = 0 → K2 t0 x1 (x2 + 1) u_2)))))
set_option maxHeartbeats 4000000 in
set_option maxRecDepth 100000 in
theorem kX1_lengthOf_B2 {p : Program} {l : Launch} {e : Env} {s : State} {m : MethodId} {args : Array Value} {below : List Frame} {meth : Method} {c : Code} {D : va_G} {cy : CY} {A : Nat → Prop} {ad : Nat → Nat} {K2 : Nat → Int32 → Int32 → ST → Prop} {Q : Int32 → ST → Prop} (C : kC p m c cX1_lengthOf 3 s args RX1 D cy A) (hr : meth.sig.returnType = some .int) (hlk : meth.locks = false) (g2 : ∀ (t0 : Nat) (x1 : Int32) (x2 : Int32) (u : ST) (H : Heap) (locs : List Loc) (ls : Array Slot), K2 t0 x1 x2 u → t0 < 4 → kH D (cW cy ad) A s u H locs → lv_has ls 3 [(0, .ref (aN ad t0)), (1, .int x1), (2, .int x2)] → W p l e (kRm 1) s m args below meth c H locs 0 0 (MQ below (kQi D (cW cy ad) cy A Q) args s 0 0 A) (F0 m 2 ls [])) : ∀ (t0 : Nat) (x1 : Int32) (x2 : Int32) (u : ST) (H : Heap) (locs : List Loc) (ls : Array Slot), wX1_lengthOf_B2 K2 Q t0 x1 x2 u → t0 < 4 → kH D (cW cy ad) A s u H locs → lv_has ls 3 [(0, .ref (aN ad t0)), (1, .int x1), (2, .int x2)] → W p l e (kRm 1) s m args below meth c H locs 0 0 (MQ below (kQi D (cW cy ad) cy A Q) args s 0 0 A) (F0 m 2 ls []) := by
  intro t0 x1 x2 u H locs ls hw f_t0 h hl
  obtain ⟨⟨hx, hb, hml, hown, hts⟩, hK, hA⟩ := id C
  unfold wX1_lengthOf_B2 at hw
  refine lv_iload_n hx hb dX1_lengthOf_2 rfl (lv_at hl 2 rfl) ?_
  refine lv_bipush (v := 10) hx hb dX1_lengthOf_3 (by decide) ?_
  refine lv_icmp_ge (tgt := 23) hx hb dX1_lengthOf_5 (by decide) (fun c_5 => ?_) (fun c_5 => ?_)
  · have hw := hw.1 c_5
    refine lv_iload_n hx hb dX1_lengthOf_23 rfl (lv_at hl 2 rfl) ?_
    exact kretI C hr hlk h hw dX1_lengthOf_24
  · have hw := hw.2 c_5
    refine lv_aload_n hx hb dX1_lengthOf_8 rfl (lv_at hl 0 rfl) ?_
    refine lv_iload_n hx hb dX1_lengthOf_9 rfl (lv_at hl 1 rfl) ?_
    refine lv_iload_n hx hb dX1_lengthOf_10 rfl (lv_at hl 2 rfl) ?_
    refine kVi (As := [.int x1, .int x2]) (rest := []) C h (cwV 2 hts (gd_V wi_ml_X1_19 wi_im_X1_letterAt wi_se_X1_letterAt wi_in_X1 wi_co_X1_letterAt) rfl rfl rfl hd_X1_letterAt ⟨Nat.le_of_ble_eq_true rfl, Nat.le_of_ble_eq_true rfl⟩) (4 + t0) (cW_N cy ad u t0 (by omega)) rfl rfl (mX1_letterAt l D cy ad t0 x1 x2 _ _ (by omega) hw) rfl hl.1 rfl (Nat.le_of_ble_eq_true rfl) ⟨Nat.zero_le _, Nat.zero_le _⟩ dX1_lengthOf_11 (fun r_1 u_2 H locs hw h => ?_)
    refine lv_if_eq (tgt := 23) hx hb dX1_lengthOf_14 (by decide) (fun c_14 => ?_) (fun c_14 => ?_)
    · have hw := hw.1 c_14
      refine lv_iload_n hx hb dX1_lengthOf_23 rfl (lv_at hl 2 rfl) ?_
      exact kretI C hr hlk h hw dX1_lengthOf_24
    · have hw := hw.2 c_14
      refine lv_iinc (v := x2 + 1) (lv' := [(2, .int (x2 + 1)), (0, .ref (aN ad t0)), (1, .int x1)]) hx hb dX1_lengthOf_17 hl (k := 2) rfl rfl (by decide) rfl (fun ls hl => ?_)
      refine lv_goto (tgt := 2) hx hb dX1_lengthOf_20 (by decide) ?_
      exact g2 t0 x1 (x2 + 1) _ _ _ _ hw (by omega) h (lv_sub hl [1, 2, 0] rfl)
def wX1_lengthOf_L2 (Q : Int32 → ST → Prop) : Nat → Nat → Int32 → Int32 → ST → Prop
  | 0, _, _, _, _ => False
  | n + 1, t0, x1, x2, u => wX1_lengthOf_B2 (wX1_lengthOf_L2 Q n) Q t0 x1 x2 u
set_option maxHeartbeats 4000000 in
theorem kX1_lengthOf_L2 {p : Program} {l : Launch} {e : Env} {s : State} {m : MethodId} {args : Array Value} {below : List Frame} {meth : Method} {c : Code} {D : va_G} {cy : CY} {A : Nat → Prop} {ad : Nat → Nat} {Q : Int32 → ST → Prop} (C : kC p m c cX1_lengthOf 3 s args RX1 D cy A) (hr : meth.sig.returnType = some .int) (hlk : meth.locks = false) : ∀ n : Nat, ∀ (t0 : Nat) (x1 : Int32) (x2 : Int32) (u : ST) (H : Heap) (locs : List Loc) (ls : Array Slot), wX1_lengthOf_L2 Q n t0 x1 x2 u → t0 < 4 → kH D (cW cy ad) A s u H locs → lv_has ls 3 [(0, .ref (aN ad t0)), (1, .int x1), (2, .int x2)] → W p l e (kRm 1) s m args below meth c H locs 0 0 (MQ below (kQi D (cW cy ad) cy A Q) args s 0 0 A) (F0 m 2 ls []) := by
  intro n
  induction n with
  | zero => intro t0 x1 x2 u H locs ls hw; exact False.elim hw
  | succ n ih => exact kX1_lengthOf_B2 C hr hlk ih
def wX1_lengthOf (t0 : Nat) (x1 : Int32) (u : ST) (Q : Int32 → ST → Prop) : Prop :=
  (∃ n : Nat, wX1_lengthOf_L2 Q n t0 x1 0 u)
set_option maxHeartbeats 4000000 in
set_option maxRecDepth 100000 in
theorem mX1_lengthOf (l : Launch) (D : va_G) (cy : CY) (ad : Nat → Nat) (t0 : Nat) (x1 : Int32) (u : ST) (sz : Nat) {Q : Int32 → ST → Prop} (f_t0 : t0 < 4) (hw : wX1_lengthOf t0 x1 u Q) : Met l yX1_lengthOf (wM yX1_lengthOf cX1_lengthOf 3 (some .int)) (kRm 1) (kPc D (cW cy ad) cy u sz [.ref (aN ad t0), .int x1]) (kQi D (cW cy ad) cy (va_A (cW cy ad u) sz) Q) 0 0 (va_A (cW cy ad u) sz) := by
  refine kMet pn_X1_lengthOf (Nat.le_of_ble_eq_true rfl) (fun p e s m below meth c ls hsz C hr hlk hex h hl => ?_)
  have hl : lv_has ls 3 [(0, .ref (aN ad t0)), (1, .int x1)] := hl
  obtain ⟨⟨hx, hb, hml, hown, hts⟩, hK, hA⟩ := id C
  unfold wX1_lengthOf at hw
  have h : kH D (cW cy ad) (va_A (cW cy ad u) sz) s u s.heap [] := h
  refine lv_iconst (v := 0) hx hb dX1_lengthOf_0 (by decide) ?_
  refine lv_istore_n (lv' := [(2, .int 0), (0, .ref (aN ad t0)), (1, .int x1)]) hx hb dX1_lengthOf_1 rfl hl (by decide) rfl (fun ls hl => ?_)
  obtain ⟨n, hw⟩ := hw
  exact kX1_lengthOf_L2 C hr hlk n t0 x1 0 _ _ _ _ hw (by omega) h (lv_sub hl [1, 2, 0] rfl)

def wX1_byteOf (t0 : Nat) (x1 : Int32) (x2 : Int32) (u : ST) (Q : Int32 → ST → Prop) : Prop :=
  wX1_letterAt t0 x1 x2 u (fun r_1 u_2 => ((26 < r_1 → Q ((48 + r_1) - 27) u_2) ∧ (¬ 26 < r_1 → Q ((97 + r_1) - 1) u_2)))
set_option maxHeartbeats 4000000 in
set_option maxRecDepth 100000 in
theorem mX1_byteOf (l : Launch) (D : va_G) (cy : CY) (ad : Nat → Nat) (t0 : Nat) (x1 : Int32) (x2 : Int32) (u : ST) (sz : Nat) {Q : Int32 → ST → Prop} (f_t0 : t0 < 4) (hw : wX1_byteOf t0 x1 x2 u Q) : Met l yX1_byteOf (wM yX1_byteOf cX1_byteOf 4 (some .int)) (kRm 1) (kPc D (cW cy ad) cy u sz [.ref (aN ad t0), .int x1, .int x2]) (kQi D (cW cy ad) cy (va_A (cW cy ad u) sz) Q) 0 0 (va_A (cW cy ad u) sz) := by
  refine kMet pn_X1_byteOf (Nat.le_of_ble_eq_true rfl) (fun p e s m below meth c ls hsz C hr hlk hex h hl => ?_)
  have hl : lv_has ls 4 [(0, .ref (aN ad t0)), (1, .int x1), (2, .int x2)] := hl
  obtain ⟨⟨hx, hb, hml, hown, hts⟩, hK, hA⟩ := id C
  unfold wX1_byteOf at hw
  have h : kH D (cW cy ad) (va_A (cW cy ad u) sz) s u s.heap [] := h
  refine lv_aload_n hx hb dX1_byteOf_0 rfl (lv_at hl 0 rfl) ?_
  refine lv_iload_n hx hb dX1_byteOf_1 rfl (lv_at hl 1 rfl) ?_
  refine lv_iload_n hx hb dX1_byteOf_2 rfl (lv_at hl 2 rfl) ?_
  refine kVi (As := [.int x1, .int x2]) (rest := []) C h (cwV 2 hts (gd_V wi_ml_X1_19 wi_im_X1_letterAt wi_se_X1_letterAt wi_in_X1 wi_co_X1_letterAt) rfl rfl rfl hd_X1_letterAt ⟨Nat.le_of_ble_eq_true rfl, Nat.le_of_ble_eq_true rfl⟩) (4 + t0) (cW_N cy ad u t0 (by omega)) rfl rfl (mX1_letterAt l D cy ad t0 x1 x2 _ _ (by omega) hw) rfl hl.1 rfl (Nat.le_of_ble_eq_true rfl) ⟨Nat.zero_le _, Nat.zero_le _⟩ dX1_byteOf_3 (fun r_1 u_2 H locs hw h => ?_)
  refine lv_istore_n (lv' := [(3, .int r_1), (0, .ref (aN ad t0)), (1, .int x1), (2, .int x2)]) hx hb dX1_byteOf_6 rfl hl (by decide) rfl (fun ls hl => ?_)
  refine lv_iload_n hx hb dX1_byteOf_7 rfl (lv_at hl 0 rfl) ?_
  refine lv_bipush (v := 26) hx hb dX1_byteOf_8 (by decide) ?_
  refine lv_icmp_gt (tgt := 22) hx hb dX1_byteOf_10 (by decide) (fun c_10 => ?_) (fun c_10 => ?_)
  · have hw := hw.1 c_10
    refine lv_bipush (v := 48) hx hb dX1_byteOf_22 (by decide) ?_
    refine lv_iload_n hx hb dX1_byteOf_24 rfl (lv_at hl 0 rfl) ?_
    refine lv_iadd hx hb dX1_byteOf_25 ?_
    refine lv_bipush (v := 27) hx hb dX1_byteOf_26 (by decide) ?_
    refine lv_isub hx hb dX1_byteOf_28 ?_
    exact kretI C hr hlk h hw dX1_byteOf_29
  · have hw := hw.2 c_10
    refine lv_bipush (v := 97) hx hb dX1_byteOf_13 (by decide) ?_
    refine lv_iload_n hx hb dX1_byteOf_15 rfl (lv_at hl 0 rfl) ?_
    refine lv_iadd hx hb dX1_byteOf_16 ?_
    refine lv_iconst (v := 1) hx hb dX1_byteOf_17 (by decide) ?_
    refine lv_isub hx hb dX1_byteOf_18 ?_
    refine lv_goto (tgt := 29) hx hb dX1_byteOf_19 (by decide) ?_
    exact kretI C hr hlk h hw dX1_byteOf_29
end
section
def wX2_clear (t0 : Nat) (u : ST) (Q : ST → Prop) : Prop :=
  Q (sI (sI (sI u (12 + (2 * t0)) 0) (12 + (2 * t0 + 1)) 0) (10 + t0) 0)
set_option maxHeartbeats 4000000 in
set_option maxRecDepth 100000 in
theorem mX2_clear (l : Launch) (D : va_G) (cy : CY) (ad : Nat → Nat) (t0 : Nat) (u : ST) (sz : Nat) {Q : ST → Prop} (f_t0 : t0 < 2) (hw : wX2_clear t0 u Q) : Met l yX2_clear (wM yX2_clear cX2_clear 1 none) (kRm 0) (kPc D (cW cy ad) cy u sz [.ref (aT ad t0)]) (kQv D (cW cy ad) cy (va_A (cW cy ad u) sz) Q) 0 0 (va_A (cW cy ad u) sz) := by
  refine kMet pn_X2_clear (Nat.le_of_ble_eq_true rfl) (fun p e s m below meth c ls hsz C hr hlk hex h hl => ?_)
  have hl : lv_has ls 1 [(0, .ref (aT ad t0))] := hl
  obtain ⟨⟨hx, hb, hml, hown, hts⟩, hK, hA⟩ := id C
  unfold wX2_clear at hw
  have h : kH D (cW cy ad) (va_A (cW cy ad u) sz) s u s.heap [] := h
  refine lv_aload_n hx hb dX2_clear_0 rfl (lv_at hl 0 rfl) ?_
  refine kget C h (2 + t0) (cW_T cy ad u t0 (by omega)) rfl inBX2 0 (Nat.le_of_ble_eq_true rfl) wi_fl_X2_14 rfl dX2_clear_1 ?_
  refine lv_iconst (v := 0) hx hb dX2_clear_4 (by decide) ?_
  refine kput C h (4 + (2 * t0)) (cW_N cy ad u (2 * t0) (by omega)) rfl inBX1 tyX1_ok nmX1 1 (Nat.le_of_ble_eq_true rfl) wi_fl_X2_33 rfl rfl rfl (Nat.le_of_ble_eq_true rfl) (cS_NM_1 cy ad u 0 (2 * t0) (by omega)) dX2_clear_5 (fun H locs h => ?_)
  refine lv_aload_n hx hb dX2_clear_8 rfl (lv_at hl 0 rfl) ?_
  refine kget C h (2 + t0) (cW_T cy ad (sI u (12 + (2 * t0)) 0) t0 (by omega)) rfl inBX2 1 (Nat.le_of_ble_eq_true rfl) wi_fl_X2_20 rfl dX2_clear_9 ?_
  refine lv_iconst (v := 0) hx hb dX2_clear_12 (by decide) ?_
  refine kput C h (4 + (2 * t0 + 1)) (cW_N cy ad (sI u (12 + (2 * t0)) 0) (2 * t0 + 1) (by omega)) rfl inBX1 tyX1_ok nmX1 1 (Nat.le_of_ble_eq_true rfl) wi_fl_X2_33 rfl rfl rfl (Nat.le_of_ble_eq_true rfl) (cS_NM_1 cy ad (sI u (12 + (2 * t0)) 0) 0 (2 * t0 + 1) (by omega)) dX2_clear_13 (fun H locs h => ?_)
  refine lv_aload_n hx hb dX2_clear_16 rfl (lv_at hl 0 rfl) ?_
  refine lv_iconst (v := 0) hx hb dX2_clear_17 (by decide) ?_
  refine kput C h (2 + t0) (cW_T cy ad (sI (sI u (12 + (2 * t0)) 0) (12 + (2 * t0 + 1)) 0) t0 (by omega)) rfl inBX2 tyX2_ok nmX2 5 (Nat.le_of_ble_eq_true rfl) wi_fl_X2_37 rfl rfl rfl (Nat.le_of_ble_eq_true rfl) (cS_TB_5 cy ad (sI (sI u (12 + (2 * t0)) 0) (12 + (2 * t0 + 1)) 0) 0 t0 (by omega)) dX2_clear_18 (fun H locs h => ?_)
  exact kretV C hr hlk h hw dX2_clear_21

def wX2_add (t0 : Nat) (x1 : Int32) (x2 : Int32) (x3 : Int32) (u : ST) (Q : ST → Prop) : Prop :=
  (vp_in (gI u (10 + t0)) 256 ∧ (vp_in (gI (sR u (3 * t0) (gI u (10 + t0)).toNatClampNeg x1) (10 + t0)) 256 ∧ (vp_in (gI (sR (sR u (3 * t0) (gI u (10 + t0)).toNatClampNeg x1) (3 * t0 + 1) (gI (sR u (3 * t0) (gI u (10 + t0)).toNatClampNeg x1) (10 + t0)).toNatClampNeg x2) (10 + t0)) 256 ∧ Q (sI (sR (sR (sR u (3 * t0) (gI u (10 + t0)).toNatClampNeg x1) (3 * t0 + 1) (gI (sR u (3 * t0) (gI u (10 + t0)).toNatClampNeg x1) (10 + t0)).toNatClampNeg x2) (3 * t0 + 2) (gI (sR (sR u (3 * t0) (gI u (10 + t0)).toNatClampNeg x1) (3 * t0 + 1) (gI (sR u (3 * t0) (gI u (10 + t0)).toNatClampNeg x1) (10 + t0)).toNatClampNeg x2) (10 + t0)).toNatClampNeg x3) (10 + t0) ((gI (sR (sR (sR u (3 * t0) (gI u (10 + t0)).toNatClampNeg x1) (3 * t0 + 1) (gI (sR u (3 * t0) (gI u (10 + t0)).toNatClampNeg x1) (10 + t0)).toNatClampNeg x2) (3 * t0 + 2) (gI (sR (sR u (3 * t0) (gI u (10 + t0)).toNatClampNeg x1) (3 * t0 + 1) (gI (sR u (3 * t0) (gI u (10 + t0)).toNatClampNeg x1) (10 + t0)).toNatClampNeg x2) (10 + t0)).toNatClampNeg x3) (10 + t0)) + 1)))))
set_option maxHeartbeats 4000000 in
set_option maxRecDepth 100000 in
theorem mX2_add (l : Launch) (D : va_G) (cy : CY) (ad : Nat → Nat) (t0 : Nat) (x1 : Int32) (x2 : Int32) (x3 : Int32) (u : ST) (sz : Nat) {Q : ST → Prop} (f_t0 : t0 < 2) (hw : wX2_add t0 x1 x2 x3 u Q) : Met l yX2_add (wM yX2_add cX2_add 4 none) (kRm 0) (kPc D (cW cy ad) cy u sz [.ref (aT ad t0), .int x1, .int x2, .int x3]) (kQv D (cW cy ad) cy (va_A (cW cy ad u) sz) Q) 0 0 (va_A (cW cy ad u) sz) := by
  refine kMet pn_X2_add (Nat.le_of_ble_eq_true rfl) (fun p e s m below meth c ls hsz C hr hlk hex h hl => ?_)
  have hl : lv_has ls 4 [(0, .ref (aT ad t0)), (1, .int x1), (2, .int x2), (3, .int x3)] := hl
  obtain ⟨⟨hx, hb, hml, hown, hts⟩, hK, hA⟩ := id C
  unfold wX2_add at hw
  have h : kH D (cW cy ad) (va_A (cW cy ad u) sz) s u s.heap [] := h
  refine lv_aload_n hx hb dX2_add_0 rfl (lv_at hl 0 rfl) ?_
  refine kget C h (2 + t0) (cW_T cy ad u t0 (by omega)) rfl inBX2 2 (Nat.le_of_ble_eq_true rfl) wi_fl_X2_23 rfl dX2_add_1 ?_
  refine lv_aload_n hx hb dX2_add_4 rfl (lv_at hl 0 rfl) ?_
  refine kget C h (2 + t0) (cW_T cy ad u t0 (by omega)) rfl inBX2 5 (Nat.le_of_ble_eq_true rfl) wi_fl_X2_37 rfl dX2_add_5 ?_
  refine lv_iload_n hx hb dX2_add_8 rfl (lv_at hl 1 rfl) ?_
  obtain ⟨i_9, hw⟩ := hw
  refine kiast C h (17 + (3 * t0)) (cW_R cy ad u (3 * t0) (by omega)) (by rw [lenR_256 (by omega)]; exact i_9) (cS_R cy ad u (gI u (10 + t0)).toNatClampNeg x1 (3 * t0) (by omega)) dX2_add_9 (fun H locs h => ?_)
  refine lv_aload_n hx hb dX2_add_10 rfl (lv_at hl 0 rfl) ?_
  refine kget C h (2 + t0) (cW_T cy ad (sR u (3 * t0) (gI u (10 + t0)).toNatClampNeg x1) t0 (by omega)) rfl inBX2 3 (Nat.le_of_ble_eq_true rfl) wi_fl_X2_27 rfl dX2_add_11 ?_
  refine lv_aload_n hx hb dX2_add_14 rfl (lv_at hl 0 rfl) ?_
  refine kget C h (2 + t0) (cW_T cy ad (sR u (3 * t0) (gI u (10 + t0)).toNatClampNeg x1) t0 (by omega)) rfl inBX2 5 (Nat.le_of_ble_eq_true rfl) wi_fl_X2_37 rfl dX2_add_15 ?_
  refine lv_iload_n hx hb dX2_add_18 rfl (lv_at hl 2 rfl) ?_
  obtain ⟨i_19, hw⟩ := hw
  refine kiast C h (17 + (3 * t0 + 1)) (cW_R cy ad (sR u (3 * t0) (gI u (10 + t0)).toNatClampNeg x1) (3 * t0 + 1) (by omega)) (by rw [lenR_256 (by omega)]; exact i_19) (cS_R cy ad (sR u (3 * t0) (gI u (10 + t0)).toNatClampNeg x1) (gI (sR u (3 * t0) (gI u (10 + t0)).toNatClampNeg x1) (10 + t0)).toNatClampNeg x2 (3 * t0 + 1) (by omega)) dX2_add_19 (fun H locs h => ?_)
  refine lv_aload_n hx hb dX2_add_20 rfl (lv_at hl 0 rfl) ?_
  refine kget C h (2 + t0) (cW_T cy ad (sR (sR u (3 * t0) (gI u (10 + t0)).toNatClampNeg x1) (3 * t0 + 1) (gI (sR u (3 * t0) (gI u (10 + t0)).toNatClampNeg x1) (10 + t0)).toNatClampNeg x2) t0 (by omega)) rfl inBX2 4 (Nat.le_of_ble_eq_true rfl) wi_fl_X2_30 rfl dX2_add_21 ?_
  refine lv_aload_n hx hb dX2_add_24 rfl (lv_at hl 0 rfl) ?_
  refine kget C h (2 + t0) (cW_T cy ad (sR (sR u (3 * t0) (gI u (10 + t0)).toNatClampNeg x1) (3 * t0 + 1) (gI (sR u (3 * t0) (gI u (10 + t0)).toNatClampNeg x1) (10 + t0)).toNatClampNeg x2) t0 (by omega)) rfl inBX2 5 (Nat.le_of_ble_eq_true rfl) wi_fl_X2_37 rfl dX2_add_25 ?_
  refine lv_iload_n hx hb dX2_add_28 rfl (lv_at hl 3 rfl) ?_
  obtain ⟨i_29, hw⟩ := hw
  refine kiast C h (17 + (3 * t0 + 2)) (cW_R cy ad (sR (sR u (3 * t0) (gI u (10 + t0)).toNatClampNeg x1) (3 * t0 + 1) (gI (sR u (3 * t0) (gI u (10 + t0)).toNatClampNeg x1) (10 + t0)).toNatClampNeg x2) (3 * t0 + 2) (by omega)) (by rw [lenR_256 (by omega)]; exact i_29) (cS_R cy ad (sR (sR u (3 * t0) (gI u (10 + t0)).toNatClampNeg x1) (3 * t0 + 1) (gI (sR u (3 * t0) (gI u (10 + t0)).toNatClampNeg x1) (10 + t0)).toNatClampNeg x2) (gI (sR (sR u (3 * t0) (gI u (10 + t0)).toNatClampNeg x1) (3 * t0 + 1) (gI (sR u (3 * t0) (gI u (10 + t0)).toNatClampNeg x1) (10 + t0)).toNatClampNeg x2) (10 + t0)).toNatClampNeg x3 (3 * t0 + 2) (by omega)) dX2_add_29 (fun H locs h => ?_)
  refine lv_aload_n hx hb dX2_add_30 rfl (lv_at hl 0 rfl) ?_
  refine lv_dup hx hb dX2_add_31 rfl ?_
  refine kget C h (2 + t0) (cW_T cy ad (sR (sR (sR u (3 * t0) (gI u (10 + t0)).toNatClampNeg x1) (3 * t0 + 1) (gI (sR u (3 * t0) (gI u (10 + t0)).toNatClampNeg x1) (10 + t0)).toNatClampNeg x2) (3 * t0 + 2) (gI (sR (sR u (3 * t0) (gI u (10 + t0)).toNatClampNeg x1) (3 * t0 + 1) (gI (sR u (3 * t0) (gI u (10 + t0)).toNatClampNeg x1) (10 + t0)).toNatClampNeg x2) (10 + t0)).toNatClampNeg x3) t0 (by omega)) rfl inBX2 5 (Nat.le_of_ble_eq_true rfl) wi_fl_X2_37 rfl dX2_add_32 ?_
  refine lv_iconst (v := 1) hx hb dX2_add_35 (by decide) ?_
  refine lv_iadd hx hb dX2_add_36 ?_
  refine kput C h (2 + t0) (cW_T cy ad (sR (sR (sR u (3 * t0) (gI u (10 + t0)).toNatClampNeg x1) (3 * t0 + 1) (gI (sR u (3 * t0) (gI u (10 + t0)).toNatClampNeg x1) (10 + t0)).toNatClampNeg x2) (3 * t0 + 2) (gI (sR (sR u (3 * t0) (gI u (10 + t0)).toNatClampNeg x1) (3 * t0 + 1) (gI (sR u (3 * t0) (gI u (10 + t0)).toNatClampNeg x1) (10 + t0)).toNatClampNeg x2) (10 + t0)).toNatClampNeg x3) t0 (by omega)) rfl inBX2 tyX2_ok nmX2 5 (Nat.le_of_ble_eq_true rfl) wi_fl_X2_37 rfl rfl rfl (Nat.le_of_ble_eq_true rfl) (cS_TB_5 cy ad (sR (sR (sR u (3 * t0) (gI u (10 + t0)).toNatClampNeg x1) (3 * t0 + 1) (gI (sR u (3 * t0) (gI u (10 + t0)).toNatClampNeg x1) (10 + t0)).toNatClampNeg x2) (3 * t0 + 2) (gI (sR (sR u (3 * t0) (gI u (10 + t0)).toNatClampNeg x1) (3 * t0 + 1) (gI (sR u (3 * t0) (gI u (10 + t0)).toNatClampNeg x1) (10 + t0)).toNatClampNeg x2) (10 + t0)).toNatClampNeg x3) ((gI (sR (sR (sR u (3 * t0) (gI u (10 + t0)).toNatClampNeg x1) (3 * t0 + 1) (gI (sR u (3 * t0) (gI u (10 + t0)).toNatClampNeg x1) (10 + t0)).toNatClampNeg x2) (3 * t0 + 2) (gI (sR (sR u (3 * t0) (gI u (10 + t0)).toNatClampNeg x1) (3 * t0 + 1) (gI (sR u (3 * t0) (gI u (10 + t0)).toNatClampNeg x1) (10 + t0)).toNatClampNeg x2) (10 + t0)).toNatClampNeg x3) (10 + t0)) + 1) t0 (by omega)) dX2_add_37 (fun H locs h => ?_)
  exact kretV C hr hlk h hw dX2_add_40

def wX2_caseCount (t0 : Nat) (u : ST) (Q : Int32 → ST → Prop) : Prop :=
  Q (1 <<< ((gI u (12 + (2 * t0))) &&& 31)) u
set_option maxHeartbeats 4000000 in
set_option maxRecDepth 100000 in
theorem mX2_caseCount (l : Launch) (D : va_G) (cy : CY) (ad : Nat → Nat) (t0 : Nat) (u : ST) (sz : Nat) {Q : Int32 → ST → Prop} (f_t0 : t0 < 2) (hw : wX2_caseCount t0 u Q) : Met l yX2_caseCount (wM yX2_caseCount cX2_caseCount 1 (some .int)) (kRm 0) (kPc D (cW cy ad) cy u sz [.ref (aT ad t0)]) (kQi D (cW cy ad) cy (va_A (cW cy ad u) sz) Q) 0 0 (va_A (cW cy ad u) sz) := by
  refine kMet pn_X2_caseCount (Nat.le_of_ble_eq_true rfl) (fun p e s m below meth c ls hsz C hr hlk hex h hl => ?_)
  have hl : lv_has ls 1 [(0, .ref (aT ad t0))] := hl
  obtain ⟨⟨hx, hb, hml, hown, hts⟩, hK, hA⟩ := id C
  unfold wX2_caseCount at hw
  have h : kH D (cW cy ad) (va_A (cW cy ad u) sz) s u s.heap [] := h
  refine lv_iconst (v := 1) hx hb dX2_caseCount_0 (by decide) ?_
  refine lv_aload_n hx hb dX2_caseCount_1 rfl (lv_at hl 0 rfl) ?_
  refine kget C h (2 + t0) (cW_T cy ad u t0 (by omega)) rfl inBX2 0 (Nat.le_of_ble_eq_true rfl) wi_fl_X2_14 rfl dX2_caseCount_2 ?_
  refine kget C h (4 + (2 * t0)) (cW_N cy ad u (2 * t0) (by omega)) rfl inBX1 1 (Nat.le_of_ble_eq_true rfl) wi_fl_X2_33 rfl dX2_caseCount_5 ?_
  refine lv_ishl hx hb dX2_caseCount_8 ?_
  exact kretI C hr hlk h hw dX2_caseCount_9

def wX2_markOf (t0 : Nat) (x1 : Int32) (x2 : Int32) (u : ST) (Q : Int32 → ST → Prop) : Prop :=
  (vp_in x1 256 ∧ ((((gR u (3 * t0) x1.toNatClampNeg) &&& x2) = 0 → (vp_in x1 256 ∧ ((((gR u (3 * t0 + 1) x1.toNatClampNeg) &&& x2) = 0 → Q 2 u) ∧ (¬ ((gR u (3 * t0 + 1) x1.toNatClampNeg) &&& x2) = 0 → Q 0 u)))) ∧ (¬ ((gR u (3 * t0) x1.toNatClampNeg) &&& x2) = 0 → Q 1 u)))
set_option maxHeartbeats 4000000 in
set_option maxRecDepth 100000 in
theorem mX2_markOf (l : Launch) (D : va_G) (cy : CY) (ad : Nat → Nat) (t0 : Nat) (x1 : Int32) (x2 : Int32) (u : ST) (sz : Nat) {Q : Int32 → ST → Prop} (f_t0 : t0 < 2) (hw : wX2_markOf t0 x1 x2 u Q) : Met l yX2_markOf (wM yX2_markOf cX2_markOf 3 (some .int)) (kRm 0) (kPc D (cW cy ad) cy u sz [.ref (aT ad t0), .int x1, .int x2]) (kQi D (cW cy ad) cy (va_A (cW cy ad u) sz) Q) 0 0 (va_A (cW cy ad u) sz) := by
  refine kMet pn_X2_markOf (Nat.le_of_ble_eq_true rfl) (fun p e s m below meth c ls hsz C hr hlk hex h hl => ?_)
  have hl : lv_has ls 3 [(0, .ref (aT ad t0)), (1, .int x1), (2, .int x2)] := hl
  obtain ⟨⟨hx, hb, hml, hown, hts⟩, hK, hA⟩ := id C
  unfold wX2_markOf at hw
  have h : kH D (cW cy ad) (va_A (cW cy ad u) sz) s u s.heap [] := h
  refine lv_aload_n hx hb dX2_markOf_0 rfl (lv_at hl 0 rfl) ?_
  refine kget C h (2 + t0) (cW_T cy ad u t0 (by omega)) rfl inBX2 2 (Nat.le_of_ble_eq_true rfl) wi_fl_X2_23 rfl dX2_markOf_1 ?_
  refine lv_iload_n hx hb dX2_markOf_4 rfl (lv_at hl 1 rfl) ?_
  obtain ⟨i_5, hw⟩ := hw
  refine kiald C h (17 + (3 * t0)) (cW_R cy ad u (3 * t0) (by omega)) (by rw [lenR_256 (by omega)]; exact i_5) dX2_markOf_5 ?_
  refine lv_iload_n hx hb dX2_markOf_6 rfl (lv_at hl 2 rfl) ?_
  refine lv_iand hx hb dX2_markOf_7 ?_
  refine lv_if_eq (tgt := 13) hx hb dX2_markOf_8 (by decide) (fun c_8 => ?_) (fun c_8 => ?_)
  · have hw := hw.1 c_8
    refine lv_aload_n hx hb dX2_markOf_13 rfl (lv_at hl 0 rfl) ?_
    refine kget C h (2 + t0) (cW_T cy ad u t0 (by omega)) rfl inBX2 3 (Nat.le_of_ble_eq_true rfl) wi_fl_X2_27 rfl dX2_markOf_14 ?_
    refine lv_iload_n hx hb dX2_markOf_17 rfl (lv_at hl 1 rfl) ?_
    obtain ⟨i_18, hw⟩ := hw
    refine kiald C h (17 + (3 * t0 + 1)) (cW_R cy ad u (3 * t0 + 1) (by omega)) (by rw [lenR_256 (by omega)]; exact i_18) dX2_markOf_18 ?_
    refine lv_iload_n hx hb dX2_markOf_19 rfl (lv_at hl 2 rfl) ?_
    refine lv_iand hx hb dX2_markOf_20 ?_
    refine lv_if_eq (tgt := 28) hx hb dX2_markOf_21 (by decide) (fun c_21 => ?_) (fun c_21 => ?_)
    · have hw := hw.1 c_21
      refine lv_iconst (v := 2) hx hb dX2_markOf_28 (by decide) ?_
      exact kretI C hr hlk h hw dX2_markOf_29
    · have hw := hw.2 c_21
      refine lv_iconst (v := 0) hx hb dX2_markOf_24 (by decide) ?_
      refine lv_goto (tgt := 29) hx hb dX2_markOf_25 (by decide) ?_
      exact kretI C hr hlk h hw dX2_markOf_29
  · have hw := hw.2 c_8
    refine lv_iconst (v := 1) hx hb dX2_markOf_11 (by decide) ?_
    exact kretI C hr hlk h hw dX2_markOf_12

def wX2_firstThatMeets_b40 (K2 : Nat → Int32 → Int32 → ST → Prop) (Q : Int32 → ST → Prop) (t0 : Nat) (x1 : Int32) (x2 : Int32) (u : ST) : Prop :=
  K2 t0 x1 (x2 + 1) u
set_option maxHeartbeats 4000000 in
set_option maxRecDepth 100000 in
theorem kX2_firstThatMeets_b40 {p : Program} {l : Launch} {e : Env} {s : State} {m : MethodId} {args : Array Value} {below : List Frame} {meth : Method} {c : Code} {D : va_G} {cy : CY} {A : Nat → Prop} {ad : Nat → Nat} {K2 : Nat → Int32 → Int32 → ST → Prop} {Q : Int32 → ST → Prop} (C : kC p m c cX2_firstThatMeets 3 s args RX2 D cy A) (hr : meth.sig.returnType = some .int) (hlk : meth.locks = false) (g2 : ∀ (t0 : Nat) (x1 : Int32) (x2 : Int32) (u : ST) (H : Heap) (locs : List Loc) (ls : Array Slot), K2 t0 x1 x2 u → t0 < 2 → kH D (cW cy ad) A s u H locs → lv_has ls 3 [(0, .ref (aT ad t0)), (1, .int x1), (2, .int x2)] → W p l e (kRm 0) s m args below meth c H locs 0 0 (MQ below (kQi D (cW cy ad) cy A Q) args s 0 0 A) (F0 m 2 ls [])) : ∀ (t0 : Nat) (x1 : Int32) (x2 : Int32) (u : ST) (H : Heap) (locs : List Loc) (ls : Array Slot), wX2_firstThatMeets_b40 K2 Q t0 x1 x2 u → t0 < 2 → kH D (cW cy ad) A s u H locs → lv_has ls 3 [(0, .ref (aT ad t0)), (1, .int x1), (2, .int x2)] → W p l e (kRm 0) s m args below meth c H locs 0 0 (MQ below (kQi D (cW cy ad) cy A Q) args s 0 0 A) (F0 m 40 ls []) := by
  intro t0 x1 x2 u H locs ls hw f_t0 h hl
  obtain ⟨⟨hx, hb, hml, hown, hts⟩, hK, hA⟩ := id C
  unfold wX2_firstThatMeets_b40 at hw
  refine lv_iinc (v := x2 + 1) (lv' := [(2, .int (x2 + 1)), (0, .ref (aT ad t0)), (1, .int x1)]) hx hb dX2_firstThatMeets_40 hl (k := 2) rfl rfl (by decide) rfl (fun ls hl => ?_)
  refine lv_goto (tgt := 2) hx hb dX2_firstThatMeets_43 (by decide) ?_
  exact g2 t0 x1 (x2 + 1) _ _ _ _ hw (by omega) h (lv_sub hl [1, 2, 0] rfl)
def wX2_firstThatMeets_B2 (K2 : Nat → Int32 → Int32 → ST → Prop) (Q : Int32 → ST → Prop) (t0 : Nat) (x1 : Int32) (x2 : Int32) (u : ST) : Prop :=
  (((gI u (10 + t0)) ≤ x2 → Q (-1) u) ∧ (¬ (gI u (10 + t0)) ≤ x2 → (vp_in x2 256 ∧ (vp_in x2 256 ∧ ((¬ (x1 &&& (gR u (3 * t0) x2.toNatClampNeg)) = (gR u (3 * t0) x2.toNatClampNeg) → wX2_firstThatMeets_b40 K2 Q t0 x1 x2 u) ∧ ((x1 &&& (gR u (3 * t0) x2.toNatClampNeg)) = (gR u (3 * t0) x2.toNatClampNeg) → (vp_in x2 256 ∧ ((¬ (x1 &&& (gR u (3 * t0 + 1) x2.toNatClampNeg)) = 0 → wX2_firstThatMeets_b40 K2 Q t0 x1 x2 u) ∧ ((x1 &&& (gR u (3 * t0 + 1) x2.toNatClampNeg)) = 0 → Q x2 u)))))))))
set_option maxHeartbeats 4000000 in
set_option maxRecDepth 100000 in
theorem kX2_firstThatMeets_B2 {p : Program} {l : Launch} {e : Env} {s : State} {m : MethodId} {args : Array Value} {below : List Frame} {meth : Method} {c : Code} {D : va_G} {cy : CY} {A : Nat → Prop} {ad : Nat → Nat} {K2 : Nat → Int32 → Int32 → ST → Prop} {Q : Int32 → ST → Prop} (C : kC p m c cX2_firstThatMeets 3 s args RX2 D cy A) (hr : meth.sig.returnType = some .int) (hlk : meth.locks = false) (g2 : ∀ (t0 : Nat) (x1 : Int32) (x2 : Int32) (u : ST) (H : Heap) (locs : List Loc) (ls : Array Slot), K2 t0 x1 x2 u → t0 < 2 → kH D (cW cy ad) A s u H locs → lv_has ls 3 [(0, .ref (aT ad t0)), (1, .int x1), (2, .int x2)] → W p l e (kRm 0) s m args below meth c H locs 0 0 (MQ below (kQi D (cW cy ad) cy A Q) args s 0 0 A) (F0 m 2 ls [])) : ∀ (t0 : Nat) (x1 : Int32) (x2 : Int32) (u : ST) (H : Heap) (locs : List Loc) (ls : Array Slot), wX2_firstThatMeets_B2 K2 Q t0 x1 x2 u → t0 < 2 → kH D (cW cy ad) A s u H locs → lv_has ls 3 [(0, .ref (aT ad t0)), (1, .int x1), (2, .int x2)] → W p l e (kRm 0) s m args below meth c H locs 0 0 (MQ below (kQi D (cW cy ad) cy A Q) args s 0 0 A) (F0 m 2 ls []) := by
  intro t0 x1 x2 u H locs ls hw f_t0 h hl
  obtain ⟨⟨hx, hb, hml, hown, hts⟩, hK, hA⟩ := id C
  unfold wX2_firstThatMeets_B2 at hw
  refine lv_iload_n hx hb dX2_firstThatMeets_2 rfl (lv_at hl 2 rfl) ?_
  refine lv_aload_n hx hb dX2_firstThatMeets_3 rfl (lv_at hl 0 rfl) ?_
  refine kget C h (2 + t0) (cW_T cy ad u t0 (by omega)) rfl inBX2 5 (Nat.le_of_ble_eq_true rfl) wi_fl_X2_37 rfl dX2_firstThatMeets_4 ?_
  refine lv_icmp_ge (tgt := 46) hx hb dX2_firstThatMeets_7 (by decide) (fun c_7 => ?_) (fun c_7 => ?_)
  · have hw := hw.1 c_7
    refine lv_iconst (v := (-1)) hx hb dX2_firstThatMeets_46 (by decide) ?_
    exact kretI C hr hlk h hw dX2_firstThatMeets_47
  · have hw := hw.2 c_7
    refine lv_iload_n hx hb dX2_firstThatMeets_10 rfl (lv_at hl 1 rfl) ?_
    refine lv_aload_n hx hb dX2_firstThatMeets_11 rfl (lv_at hl 0 rfl) ?_
    refine kget C h (2 + t0) (cW_T cy ad u t0 (by omega)) rfl inBX2 2 (Nat.le_of_ble_eq_true rfl) wi_fl_X2_23 rfl dX2_firstThatMeets_12 ?_
    refine lv_iload_n hx hb dX2_firstThatMeets_15 rfl (lv_at hl 2 rfl) ?_
    obtain ⟨i_16, hw⟩ := hw
    refine kiald C h (17 + (3 * t0)) (cW_R cy ad u (3 * t0) (by omega)) (by rw [lenR_256 (by omega)]; exact i_16) dX2_firstThatMeets_16 ?_
    refine lv_iand hx hb dX2_firstThatMeets_17 ?_
    refine lv_aload_n hx hb dX2_firstThatMeets_18 rfl (lv_at hl 0 rfl) ?_
    refine kget C h (2 + t0) (cW_T cy ad u t0 (by omega)) rfl inBX2 2 (Nat.le_of_ble_eq_true rfl) wi_fl_X2_23 rfl dX2_firstThatMeets_19 ?_
    refine lv_iload_n hx hb dX2_firstThatMeets_22 rfl (lv_at hl 2 rfl) ?_
    obtain ⟨i_23, hw⟩ := hw
    refine kiald C h (17 + (3 * t0)) (cW_R cy ad u (3 * t0) (by omega)) (by rw [lenR_256 (by omega)]; exact i_23) dX2_firstThatMeets_23 ?_
    refine lv_icmp_ne (tgt := 40) hx hb dX2_firstThatMeets_24 (by decide) (fun c_24 => ?_) (fun c_24 => ?_)
    · have hw := hw.1 c_24
      exact kX2_firstThatMeets_b40 C hr hlk g2 t0 x1 x2 _ _ _ _ hw (by omega) h (lv_sub hl [0, 1, 2] rfl)
    · have hw := hw.2 c_24
      refine lv_iload_n hx hb dX2_firstThatMeets_27 rfl (lv_at hl 1 rfl) ?_
      refine lv_aload_n hx hb dX2_firstThatMeets_28 rfl (lv_at hl 0 rfl) ?_
      refine kget C h (2 + t0) (cW_T cy ad u t0 (by omega)) rfl inBX2 3 (Nat.le_of_ble_eq_true rfl) wi_fl_X2_27 rfl dX2_firstThatMeets_29 ?_
      refine lv_iload_n hx hb dX2_firstThatMeets_32 rfl (lv_at hl 2 rfl) ?_
      obtain ⟨i_33, hw⟩ := hw
      refine kiald C h (17 + (3 * t0 + 1)) (cW_R cy ad u (3 * t0 + 1) (by omega)) (by rw [lenR_256 (by omega)]; exact i_33) dX2_firstThatMeets_33 ?_
      refine lv_iand hx hb dX2_firstThatMeets_34 ?_
      refine lv_if_ne (tgt := 40) hx hb dX2_firstThatMeets_35 (by decide) (fun c_35 => ?_) (fun c_35 => ?_)
      · have hw := hw.1 c_35
        exact kX2_firstThatMeets_b40 C hr hlk g2 t0 x1 x2 _ _ _ _ hw (by omega) h (lv_sub hl [0, 1, 2] rfl)
      · have hw := hw.2 c_35
        refine lv_iload_n hx hb dX2_firstThatMeets_38 rfl (lv_at hl 2 rfl) ?_
        exact kretI C hr hlk h hw dX2_firstThatMeets_39
def wX2_firstThatMeets_L2 (Q : Int32 → ST → Prop) : Nat → Nat → Int32 → Int32 → ST → Prop
  | 0, _, _, _, _ => False
  | n + 1, t0, x1, x2, u => wX2_firstThatMeets_B2 (wX2_firstThatMeets_L2 Q n) Q t0 x1 x2 u
set_option maxHeartbeats 4000000 in
theorem kX2_firstThatMeets_L2 {p : Program} {l : Launch} {e : Env} {s : State} {m : MethodId} {args : Array Value} {below : List Frame} {meth : Method} {c : Code} {D : va_G} {cy : CY} {A : Nat → Prop} {ad : Nat → Nat} {Q : Int32 → ST → Prop} (C : kC p m c cX2_firstThatMeets 3 s args RX2 D cy A) (hr : meth.sig.returnType = some .int) (hlk : meth.locks = false) : ∀ n : Nat, ∀ (t0 : Nat) (x1 : Int32) (x2 : Int32) (u : ST) (H : Heap) (locs : List Loc) (ls : Array Slot), wX2_firstThatMeets_L2 Q n t0 x1 x2 u → t0 < 2 → kH D (cW cy ad) A s u H locs → lv_has ls 3 [(0, .ref (aT ad t0)), (1, .int x1), (2, .int x2)] → W p l e (kRm 0) s m args below meth c H locs 0 0 (MQ below (kQi D (cW cy ad) cy A Q) args s 0 0 A) (F0 m 2 ls []) := by
  intro n
  induction n with
  | zero => intro t0 x1 x2 u H locs ls hw; exact False.elim hw
  | succ n ih => exact kX2_firstThatMeets_B2 C hr hlk ih
def wX2_firstThatMeets (t0 : Nat) (x1 : Int32) (u : ST) (Q : Int32 → ST → Prop) : Prop :=
  (∃ n : Nat, wX2_firstThatMeets_L2 Q n t0 x1 0 u)
set_option maxHeartbeats 4000000 in
set_option maxRecDepth 100000 in
theorem mX2_firstThatMeets (l : Launch) (D : va_G) (cy : CY) (ad : Nat → Nat) (t0 : Nat) (x1 : Int32) (u : ST) (sz : Nat) {Q : Int32 → ST → Prop} (f_t0 : t0 < 2) (hw : wX2_firstThatMeets t0 x1 u Q) : Met l yX2_firstThatMeets (wM yX2_firstThatMeets cX2_firstThatMeets 3 (some .int)) (kRm 0) (kPc D (cW cy ad) cy u sz [.ref (aT ad t0), .int x1]) (kQi D (cW cy ad) cy (va_A (cW cy ad u) sz) Q) 0 0 (va_A (cW cy ad u) sz) := by
  refine kMet pn_X2_firstThatMeets (Nat.le_of_ble_eq_true rfl) (fun p e s m below meth c ls hsz C hr hlk hex h hl => ?_)
  have hl : lv_has ls 3 [(0, .ref (aT ad t0)), (1, .int x1)] := hl
  obtain ⟨⟨hx, hb, hml, hown, hts⟩, hK, hA⟩ := id C
  unfold wX2_firstThatMeets at hw
  have h : kH D (cW cy ad) (va_A (cW cy ad u) sz) s u s.heap [] := h
  refine lv_iconst (v := 0) hx hb dX2_firstThatMeets_0 (by decide) ?_
  refine lv_istore_n (lv' := [(2, .int 0), (0, .ref (aT ad t0)), (1, .int x1)]) hx hb dX2_firstThatMeets_1 rfl hl (by decide) rfl (fun ls hl => ?_)
  obtain ⟨n, hw⟩ := hw
  exact kX2_firstThatMeets_L2 C hr hlk n t0 x1 0 _ _ _ _ hw (by omega) h (lv_sub hl [1, 2, 0] rfl)

def wX2_contradict (t0 : Nat) (x1 : Int32) (x2 : Int32) (u : ST) (Q : Int32 → ST → Prop) : Prop :=
  (vp_in x1 256 ∧ (vp_in x2 256 ∧ (((gR u (3 * t0 + 2) x1.toNatClampNeg) = (gR u (3 * t0 + 2) x2.toNatClampNeg) → Q 0 u) ∧ (¬ (gR u (3 * t0 + 2) x1.toNatClampNeg) = (gR u (3 * t0 + 2) x2.toNatClampNeg) → (vp_in x1 256 ∧ (vp_in x2 256 ∧ ((¬ ((gR u (3 * t0) x1.toNatClampNeg) &&& (gR u (3 * t0 + 1) x2.toNatClampNeg)) = 0 → Q 0 u) ∧ (((gR u (3 * t0) x1.toNatClampNeg) &&& (gR u (3 * t0 + 1) x2.toNatClampNeg)) = 0 → (vp_in x1 256 ∧ (vp_in x2 256 ∧ ((¬ ((gR u (3 * t0 + 1) x1.toNatClampNeg) &&& (gR u (3 * t0) x2.toNatClampNeg)) = 0 → Q 0 u) ∧ (((gR u (3 * t0 + 1) x1.toNatClampNeg) &&& (gR u (3 * t0) x2.toNatClampNeg)) = 0 → Q 1 u))))))))))))
set_option maxHeartbeats 4000000 in
set_option maxRecDepth 100000 in
theorem mX2_contradict (l : Launch) (D : va_G) (cy : CY) (ad : Nat → Nat) (t0 : Nat) (x1 : Int32) (x2 : Int32) (u : ST) (sz : Nat) {Q : Int32 → ST → Prop} (f_t0 : t0 < 2) (hw : wX2_contradict t0 x1 x2 u Q) : Met l yX2_contradict (wM yX2_contradict cX2_contradict 3 (some .boolean)) (kRm 0) (kPc D (cW cy ad) cy u sz [.ref (aT ad t0), .int x1, .int x2]) (kQi D (cW cy ad) cy (va_A (cW cy ad u) sz) Q) 0 0 (va_A (cW cy ad u) sz) := by
  refine kMet pn_X2_contradict (Nat.le_of_ble_eq_true rfl) (fun p e s m below meth c ls hsz C hr hlk hex h hl => ?_)
  have hl : lv_has ls 3 [(0, .ref (aT ad t0)), (1, .int x1), (2, .int x2)] := hl
  obtain ⟨⟨hx, hb, hml, hown, hts⟩, hK, hA⟩ := id C
  unfold wX2_contradict at hw
  have h : kH D (cW cy ad) (va_A (cW cy ad u) sz) s u s.heap [] := h
  refine lv_aload_n hx hb dX2_contradict_0 rfl (lv_at hl 0 rfl) ?_
  refine kget C h (2 + t0) (cW_T cy ad u t0 (by omega)) rfl inBX2 4 (Nat.le_of_ble_eq_true rfl) wi_fl_X2_30 rfl dX2_contradict_1 ?_
  refine lv_iload_n hx hb dX2_contradict_4 rfl (lv_at hl 1 rfl) ?_
  obtain ⟨i_5, hw⟩ := hw
  refine kiald C h (17 + (3 * t0 + 2)) (cW_R cy ad u (3 * t0 + 2) (by omega)) (by rw [lenR_256 (by omega)]; exact i_5) dX2_contradict_5 ?_
  refine lv_aload_n hx hb dX2_contradict_6 rfl (lv_at hl 0 rfl) ?_
  refine kget C h (2 + t0) (cW_T cy ad u t0 (by omega)) rfl inBX2 4 (Nat.le_of_ble_eq_true rfl) wi_fl_X2_30 rfl dX2_contradict_7 ?_
  refine lv_iload_n hx hb dX2_contradict_10 rfl (lv_at hl 2 rfl) ?_
  obtain ⟨i_11, hw⟩ := hw
  refine kiald C h (17 + (3 * t0 + 2)) (cW_R cy ad u (3 * t0 + 2) (by omega)) (by rw [lenR_256 (by omega)]; exact i_11) dX2_contradict_11 ?_
  refine lv_icmp_eq (tgt := 51) hx hb dX2_contradict_12 (by decide) (fun c_12 => ?_) (fun c_12 => ?_)
  · have hw := hw.1 c_12
    refine lv_iconst (v := 0) hx hb dX2_contradict_51 (by decide) ?_
    exact kretZ C hr hlk h (Or.inl rfl) hw dX2_contradict_52
  · have hw := hw.2 c_12
    refine lv_aload_n hx hb dX2_contradict_15 rfl (lv_at hl 0 rfl) ?_
    refine kget C h (2 + t0) (cW_T cy ad u t0 (by omega)) rfl inBX2 2 (Nat.le_of_ble_eq_true rfl) wi_fl_X2_23 rfl dX2_contradict_16 ?_
    refine lv_iload_n hx hb dX2_contradict_19 rfl (lv_at hl 1 rfl) ?_
    obtain ⟨i_20, hw⟩ := hw
    refine kiald C h (17 + (3 * t0)) (cW_R cy ad u (3 * t0) (by omega)) (by rw [lenR_256 (by omega)]; exact i_20) dX2_contradict_20 ?_
    refine lv_aload_n hx hb dX2_contradict_21 rfl (lv_at hl 0 rfl) ?_
    refine kget C h (2 + t0) (cW_T cy ad u t0 (by omega)) rfl inBX2 3 (Nat.le_of_ble_eq_true rfl) wi_fl_X2_27 rfl dX2_contradict_22 ?_
    refine lv_iload_n hx hb dX2_contradict_25 rfl (lv_at hl 2 rfl) ?_
    obtain ⟨i_26, hw⟩ := hw
    refine kiald C h (17 + (3 * t0 + 1)) (cW_R cy ad u (3 * t0 + 1) (by omega)) (by rw [lenR_256 (by omega)]; exact i_26) dX2_contradict_26 ?_
    refine lv_iand hx hb dX2_contradict_27 ?_
    refine lv_if_ne (tgt := 51) hx hb dX2_contradict_28 (by decide) (fun c_28 => ?_) (fun c_28 => ?_)
    · have hw := hw.1 c_28
      refine lv_iconst (v := 0) hx hb dX2_contradict_51 (by decide) ?_
      exact kretZ C hr hlk h (Or.inl rfl) hw dX2_contradict_52
    · have hw := hw.2 c_28
      refine lv_aload_n hx hb dX2_contradict_31 rfl (lv_at hl 0 rfl) ?_
      refine kget C h (2 + t0) (cW_T cy ad u t0 (by omega)) rfl inBX2 3 (Nat.le_of_ble_eq_true rfl) wi_fl_X2_27 rfl dX2_contradict_32 ?_
      refine lv_iload_n hx hb dX2_contradict_35 rfl (lv_at hl 1 rfl) ?_
      obtain ⟨i_36, hw⟩ := hw
      refine kiald C h (17 + (3 * t0 + 1)) (cW_R cy ad u (3 * t0 + 1) (by omega)) (by rw [lenR_256 (by omega)]; exact i_36) dX2_contradict_36 ?_
      refine lv_aload_n hx hb dX2_contradict_37 rfl (lv_at hl 0 rfl) ?_
      refine kget C h (2 + t0) (cW_T cy ad u t0 (by omega)) rfl inBX2 2 (Nat.le_of_ble_eq_true rfl) wi_fl_X2_23 rfl dX2_contradict_38 ?_
      refine lv_iload_n hx hb dX2_contradict_41 rfl (lv_at hl 2 rfl) ?_
      obtain ⟨i_42, hw⟩ := hw
      refine kiald C h (17 + (3 * t0)) (cW_R cy ad u (3 * t0) (by omega)) (by rw [lenR_256 (by omega)]; exact i_42) dX2_contradict_42 ?_
      refine lv_iand hx hb dX2_contradict_43 ?_
      refine lv_if_ne (tgt := 51) hx hb dX2_contradict_44 (by decide) (fun c_44 => ?_) (fun c_44 => ?_)
      · have hw := hw.1 c_44
        refine lv_iconst (v := 0) hx hb dX2_contradict_51 (by decide) ?_
        exact kretZ C hr hlk h (Or.inl rfl) hw dX2_contradict_52
      · have hw := hw.2 c_44
        refine lv_iconst (v := 1) hx hb dX2_contradict_47 (by decide) ?_
        refine lv_goto (tgt := 52) hx hb dX2_contradict_48 (by decide) ?_
        exact kretZ C hr hlk h (Or.inr rfl) hw dX2_contradict_52
end
section
def wX3_append (x1 : Int32) (u : ST) (Q : ST → Prop) : Prop :=
  (vp_in ((gI u 5) >>> (3 &&& 31)) 1000 ∧ (∀ x3_1 : Int64, x3_1 = (gB u 0 ((gI u 5) >>> (3 &&& 31)).toNatClampNeg) &&& (((255 : Int64) <<< ((8 * ((gI u 5) &&& 7) : Int32).toInt64 &&& 63)) ^^^ (-1)) → (vp_in ((gI u 5) >>> (3 &&& 31)) 1000 ∧ Q (sI (sB u 0 ((gI u 5) >>> (3 &&& 31)).toNatClampNeg (x3_1 ||| (((x1 : Int32).toInt64 : Int64) <<< ((8 * ((gI u 5) &&& 7) : Int32).toInt64 &&& 63)))) 5 ((gI (sB u 0 ((gI u 5) >>> (3 &&& 31)).toNatClampNeg (x3_1 ||| (((x1 : Int32).toInt64 : Int64) <<< ((8 * ((gI u 5) &&& 7) : Int32).toInt64 &&& 63)))) 5) + 1)))))
set_option maxHeartbeats 4000000 in
set_option maxRecDepth 100000 in
theorem mX3_append (l : Launch) (D : va_G) (cy : CY) (ad : Nat → Nat) (x1 : Int32) (u : ST) (sz : Nat) {Q : ST → Prop} (hw : wX3_append x1 u Q) : Met l yX3_append (wM yX3_append cX3_append 5 none) (kRm 0) (kPc D (cW cy ad) cy u sz [.ref (ad 1), .int x1]) (kQv D (cW cy ad) cy (va_A (cW cy ad u) sz) Q) 0 0 (va_A (cW cy ad u) sz) := by
  refine kMet pn_X3_append (Nat.le_of_ble_eq_true rfl) (fun p e s m below meth c ls hsz C hr hlk hex h hl => ?_)
  have hl : lv_has ls 5 [(0, .ref (ad 1)), (1, .int x1)] := hl
  obtain ⟨⟨hx, hb, hml, hown, hts⟩, hK, hA⟩ := id C
  unfold wX3_append at hw
  have h : kH D (cW cy ad) (va_A (cW cy ad u) sz) s u s.heap [] := h
  refine lv_bipush (v := 8) hx hb dX3_append_0 (by decide) ?_
  refine lv_aload_n hx hb dX3_append_2 rfl (lv_at hl 0 rfl) ?_
  refine kget C h 1 rfl rfl inBX3 1 (Nat.le_of_ble_eq_true rfl) wi_fl_X3_15 rfl dX3_append_3 ?_
  refine lv_bipush (v := 7) hx hb dX3_append_6 (by decide) ?_
  refine lv_iand hx hb dX3_append_8 ?_
  refine lv_imul hx hb dX3_append_9 ?_
  refine lv_istore_n (lv' := [(2, .int (8 * ((gI u 5) &&& 7))), (0, .ref (ad 1)), (1, .int x1)]) hx hb dX3_append_10 rfl hl (by decide) rfl (fun ls hl => ?_)
  refine lv_aload_n hx hb dX3_append_11 rfl (lv_at hl 1 rfl) ?_
  refine kget C h 1 rfl rfl inBX3 0 (Nat.le_of_ble_eq_true rfl) wi_fl_X3_9 rfl dX3_append_12 ?_
  refine lv_aload_n hx hb dX3_append_15 rfl (lv_at hl 1 rfl) ?_
  refine kget C h 1 rfl rfl inBX3 1 (Nat.le_of_ble_eq_true rfl) wi_fl_X3_15 rfl dX3_append_16 ?_
  refine lv_iconst (v := 3) hx hb dX3_append_19 (by decide) ?_
  refine lv_ishr hx hb dX3_append_20 ?_
  obtain ⟨i_21, hw⟩ := hw
  refine klald C h 11 rfl i_21 dX3_append_21 ?_
  refine lv_ldc2 hx hb hown (hts _ wi_ld_X3_19) dX3_append_22 ?_
  refine lv_iload_n hx hb dX3_append_25 rfl (lv_at hl 0 rfl) ?_
  refine lv_lshl hx hb dX3_append_26 rfl ?_
  refine lv_ldc2 hx hb hown (hts _ wi_ld_X3_21) dX3_append_27 ?_
  refine lv_lxor hx hb dX3_append_30 ?_
  refine lv_land hx hb dX3_append_31 ?_
  refine lv_topl (fun x3_1 ex3_1 => ?_)
  have hw := hw x3_1 ex3_1
  refine lv_lstore_n (lv' := [(3, .long x3_1), (2, .int (8 * ((gI u 5) &&& 7))), (0, .ref (ad 1)), (1, .int x1)]) hx hb dX3_append_32 rfl hl (by decide) rfl (fun ls hl => ?_)
  refine lv_aload_n hx hb dX3_append_33 rfl (lv_at hl 2 rfl) ?_
  refine kget C h 1 rfl rfl inBX3 0 (Nat.le_of_ble_eq_true rfl) wi_fl_X3_9 rfl dX3_append_34 ?_
  refine lv_aload_n hx hb dX3_append_37 rfl (lv_at hl 2 rfl) ?_
  refine kget C h 1 rfl rfl inBX3 1 (Nat.le_of_ble_eq_true rfl) wi_fl_X3_15 rfl dX3_append_38 ?_
  refine lv_iconst (v := 3) hx hb dX3_append_41 (by decide) ?_
  refine lv_ishr hx hb dX3_append_42 ?_
  refine lv_lload_n hx hb dX3_append_43 rfl (lv_at hl 0 rfl) ?_
  refine lv_iload_n hx hb dX3_append_44 rfl (lv_at hl 3 rfl) ?_
  refine lv_i2l hx hb dX3_append_45 rfl ?_
  refine lv_iload_n hx hb dX3_append_46 rfl (lv_at hl 1 rfl) ?_
  refine lv_lshl hx hb dX3_append_47 rfl ?_
  refine lv_lor hx hb dX3_append_48 ?_
  obtain ⟨i_49, hw⟩ := hw
  refine klast C h 11 rfl i_49 (cS_L cy ad u ((gI u 5) >>> (3 &&& 31)).toNatClampNeg (x3_1 ||| (((x1 : Int32).toInt64 : Int64) <<< ((8 * ((gI u 5) &&& 7) : Int32).toInt64 &&& 63))) 0 (Nat.le_of_ble_eq_true rfl)) dX3_append_49 (fun H locs h => ?_)
  refine lv_aload_n hx hb dX3_append_50 rfl (lv_at hl 2 rfl) ?_
  refine lv_dup hx hb dX3_append_51 rfl ?_
  refine kget C h 1 rfl rfl inBX3 1 (Nat.le_of_ble_eq_true rfl) wi_fl_X3_15 rfl dX3_append_52 ?_
  refine lv_iconst (v := 1) hx hb dX3_append_55 (by decide) ?_
  refine lv_iadd hx hb dX3_append_56 ?_
  refine kput C h 1 rfl rfl inBX3 tyX3_ok nmX3 1 (Nat.le_of_ble_eq_true rfl) wi_fl_X3_15 rfl rfl rfl (Nat.le_of_ble_eq_true rfl) (cS_TP_1 cy ad (sB u 0 ((gI u 5) >>> (3 &&& 31)).toNatClampNeg (x3_1 ||| (((x1 : Int32).toInt64 : Int64) <<< ((8 * ((gI u 5) &&& 7) : Int32).toInt64 &&& 63)))) ((gI (sB u 0 ((gI u 5) >>> (3 &&& 31)).toNatClampNeg (x3_1 ||| (((x1 : Int32).toInt64 : Int64) <<< ((8 * ((gI u 5) &&& 7) : Int32).toInt64 &&& 63)))) 5) + 1)) dX3_append_57 (fun H locs h => ?_)
  exact kretV C hr hlk h hw dX3_append_60

def wX3_byteAt (x1 : Int32) (u : ST) (Q : Int32 → ST → Prop) : Prop :=
  (vp_in (x1 >>> (3 &&& 31)) 1000 ∧ Q (((((gB u 0 (x1 >>> (3 &&& 31)).toNatClampNeg : Int64).toUInt64 >>> ((8 * (x1 &&& 7) : Int32).toInt64.toUInt64 &&& Int64.toUInt64 63)).toInt64 : Int64).toInt32) &&& 255) u)
set_option maxHeartbeats 4000000 in
set_option maxRecDepth 100000 in
theorem mX3_byteAt (l : Launch) (D : va_G) (cy : CY) (ad : Nat → Nat) (x1 : Int32) (u : ST) (sz : Nat) {Q : Int32 → ST → Prop} (hw : wX3_byteAt x1 u Q) : Met l yX3_byteAt (wM yX3_byteAt cX3_byteAt 2 (some .int)) (kRm 0) (kPc D (cW cy ad) cy u sz [.ref (ad 1), .int x1]) (kQi D (cW cy ad) cy (va_A (cW cy ad u) sz) Q) 0 0 (va_A (cW cy ad u) sz) := by
  refine kMet pn_X3_byteAt (Nat.le_of_ble_eq_true rfl) (fun p e s m below meth c ls hsz C hr hlk hex h hl => ?_)
  have hl : lv_has ls 2 [(0, .ref (ad 1)), (1, .int x1)] := hl
  obtain ⟨⟨hx, hb, hml, hown, hts⟩, hK, hA⟩ := id C
  unfold wX3_byteAt at hw
  have h : kH D (cW cy ad) (va_A (cW cy ad u) sz) s u s.heap [] := h
  refine lv_aload_n hx hb dX3_byteAt_0 rfl (lv_at hl 0 rfl) ?_
  refine kget C h 1 rfl rfl inBX3 0 (Nat.le_of_ble_eq_true rfl) wi_fl_X3_9 rfl dX3_byteAt_1 ?_
  refine lv_iload_n hx hb dX3_byteAt_4 rfl (lv_at hl 1 rfl) ?_
  refine lv_iconst (v := 3) hx hb dX3_byteAt_5 (by decide) ?_
  refine lv_ishr hx hb dX3_byteAt_6 ?_
  obtain ⟨i_7, hw⟩ := hw
  refine klald C h 11 rfl i_7 dX3_byteAt_7 ?_
  refine lv_bipush (v := 8) hx hb dX3_byteAt_8 (by decide) ?_
  refine lv_iload_n hx hb dX3_byteAt_10 rfl (lv_at hl 1 rfl) ?_
  refine lv_bipush (v := 7) hx hb dX3_byteAt_11 (by decide) ?_
  refine lv_iand hx hb dX3_byteAt_13 ?_
  refine lv_imul hx hb dX3_byteAt_14 ?_
  refine lv_lushr hx hb dX3_byteAt_15 rfl ?_
  refine lv_l2i hx hb dX3_byteAt_16 rfl ?_
  refine lv_sipush (v := 255) hx hb dX3_byteAt_17 (by decide) ?_
  refine lv_iand hx hb dX3_byteAt_20 ?_
  exact kretI C hr hlk h hw dX3_byteAt_21

def wX3_fail (x1 : Int32) (x2 : Int32) (u : ST) (Q : Int32 → ST → Prop) : Prop :=
  Q 0 (sI (sI u 8 x1) 9 x2)
set_option maxHeartbeats 4000000 in
set_option maxRecDepth 100000 in
theorem mX3_fail (l : Launch) (D : va_G) (cy : CY) (ad : Nat → Nat) (x1 : Int32) (x2 : Int32) (u : ST) (sz : Nat) {Q : Int32 → ST → Prop} (hw : wX3_fail x1 x2 u Q) : Met l yX3_fail (wM yX3_fail cX3_fail 3 (some .boolean)) (kRm 0) (kPc D (cW cy ad) cy u sz [.ref (ad 1), .int x1, .int x2]) (kQi D (cW cy ad) cy (va_A (cW cy ad u) sz) Q) 0 0 (va_A (cW cy ad u) sz) := by
  refine kMet pn_X3_fail (Nat.le_of_ble_eq_true rfl) (fun p e s m below meth c ls hsz C hr hlk hex h hl => ?_)
  have hl : lv_has ls 3 [(0, .ref (ad 1)), (1, .int x1), (2, .int x2)] := hl
  obtain ⟨⟨hx, hb, hml, hown, hts⟩, hK, hA⟩ := id C
  unfold wX3_fail at hw
  have h : kH D (cW cy ad) (va_A (cW cy ad u) sz) s u s.heap [] := h
  refine lv_aload_n hx hb dX3_fail_0 rfl (lv_at hl 0 rfl) ?_
  refine lv_iload_n hx hb dX3_fail_1 rfl (lv_at hl 1 rfl) ?_
  refine kput C h 1 rfl rfl inBX3 tyX3_ok nmX3 5 (Nat.le_of_ble_eq_true rfl) wi_fl_X3_26 rfl rfl rfl (Nat.le_of_ble_eq_true rfl) (cS_TP_5 cy ad u x1) dX3_fail_2 (fun H locs h => ?_)
  refine lv_aload_n hx hb dX3_fail_5 rfl (lv_at hl 0 rfl) ?_
  refine lv_iload_n hx hb dX3_fail_6 rfl (lv_at hl 2 rfl) ?_
  refine kput C h 1 rfl rfl inBX3 tyX3_ok nmX3 6 (Nat.le_of_ble_eq_true rfl) wi_fl_X3_51 rfl rfl rfl (Nat.le_of_ble_eq_true rfl) (cS_TP_6 cy ad (sI u 8 x1) x2) dX3_fail_7 (fun H locs h => ?_)
  refine lv_iconst (v := 0) hx hb dX3_fail_10 (by decide) ?_
  exact kretZ C hr hlk h (Or.inl rfl) hw dX3_fail_11

def wX3_look_b46 (K0 : ST → Prop) (Q : Int32 → ST → Prop) (u : ST) : Prop :=
  K0  (sI u 6 ((gI u 6) + 1))
set_option maxHeartbeats 4000000 in
set_option maxRecDepth 100000 in
theorem kX3_look_b46 {p : Program} {l : Launch} {e : Env} {s : State} {m : MethodId} {args : Array Value} {below : List Frame} {meth : Method} {c : Code} {D : va_G} {cy : CY} {A : Nat → Prop} {ad : Nat → Nat} {K0 : ST → Prop} {Q : Int32 → ST → Prop} (C : kC p m c cX3_look 2 s args RX3 D cy A) (hr : meth.sig.returnType = some .int) (hlk : meth.locks = false) (g0 : ∀ (u : ST) (H : Heap) (locs : List Loc) (ls : Array Slot), K0  u → kH D (cW cy ad) A s u H locs → lv_has ls 2 [(0, .ref (ad 1))] → W p l e (kRm 1) s m args below meth c H locs 0 0 (MQ below (kQi D (cW cy ad) cy A Q) args s 0 0 A) (F0 m 0 ls [])) : ∀ (u : ST) (H : Heap) (locs : List Loc) (ls : Array Slot), wX3_look_b46 K0 Q  u → kH D (cW cy ad) A s u H locs → lv_has ls 2 [(0, .ref (ad 1))] → W p l e (kRm 1) s m args below meth c H locs 0 0 (MQ below (kQi D (cW cy ad) cy A Q) args s 0 0 A) (F0 m 46 ls []) := by
  intro  u H locs ls hw h hl
  obtain ⟨⟨hx, hb, hml, hown, hts⟩, hK, hA⟩ := id C
  unfold wX3_look_b46 at hw
  refine lv_aload_n hx hb dX3_look_46 rfl (lv_at hl 0 rfl) ?_
  refine lv_dup hx hb dX3_look_47 rfl ?_
  refine kget C h 1 rfl rfl inBX3 2 (Nat.le_of_ble_eq_true rfl) wi_fl_X3_23 rfl dX3_look_48 ?_
  refine lv_iconst (v := 1) hx hb dX3_look_51 (by decide) ?_
  refine lv_iadd hx hb dX3_look_52 ?_
  refine kput C h 1 rfl rfl inBX3 tyX3_ok nmX3 2 (Nat.le_of_ble_eq_true rfl) wi_fl_X3_23 rfl rfl rfl (Nat.le_of_ble_eq_true rfl) (cS_TP_2 cy ad u ((gI u 6) + 1)) dX3_look_53 (fun H locs h => ?_)
  refine lv_goto (tgt := 0) hx hb dX3_look_56 (by decide) ?_
  exact g0  _ _ _ _ hw h (lv_sub hl [0] rfl)
def wX3_look_B0 (K0 : ST → Prop) (Q : Int32 → ST → Prop) (u : ST) : Prop :=
  (((gI u 5) ≤ (gI u 6) → Q (-1) u) ∧ (¬ (gI u 5) ≤ (gI u 6) → wX3_byteAt (gI u 6) u (fun r_1 u_2 => ((r_1 = 9 → wX3_look_b46 K0 Q  u_2) ∧ (¬ r_1 = 9 → ((r_1 = 10 → wX3_look_b46 K0 Q  u_2) ∧ (¬ r_1 = 10 → ((r_1 = 13 → wX3_look_b46 K0 Q  u_2) ∧ (¬ r_1 = 13 → ((r_1 = 32 → wX3_look_b46 K0 Q  u_2) ∧ (¬ r_1 = 32 → Q r_1 u_2)))))))))))
set_option maxHeartbeats 4000000 in
set_option maxRecDepth 100000 in
theorem kX3_look_B0 {p : Program} {l : Launch} {e : Env} {s : State} {m : MethodId} {args : Array Value} {below : List Frame} {meth : Method} {c : Code} {D : va_G} {cy : CY} {A : Nat → Prop} {ad : Nat → Nat} {K0 : ST → Prop} {Q : Int32 → ST → Prop} (C : kC p m c cX3_look 2 s args RX3 D cy A) (hr : meth.sig.returnType = some .int) (hlk : meth.locks = false) (g0 : ∀ (u : ST) (H : Heap) (locs : List Loc) (ls : Array Slot), K0  u → kH D (cW cy ad) A s u H locs → lv_has ls 2 [(0, .ref (ad 1))] → W p l e (kRm 1) s m args below meth c H locs 0 0 (MQ below (kQi D (cW cy ad) cy A Q) args s 0 0 A) (F0 m 0 ls [])) : ∀ (u : ST) (H : Heap) (locs : List Loc) (ls : Array Slot), wX3_look_B0 K0 Q  u → kH D (cW cy ad) A s u H locs → lv_has ls 2 [(0, .ref (ad 1))] → W p l e (kRm 1) s m args below meth c H locs 0 0 (MQ below (kQi D (cW cy ad) cy A Q) args s 0 0 A) (F0 m 0 ls []) := by
  intro  u H locs ls hw h hl
  obtain ⟨⟨hx, hb, hml, hown, hts⟩, hK, hA⟩ := id C
  unfold wX3_look_B0 at hw
  refine lv_aload_n hx hb dX3_look_0 rfl (lv_at hl 0 rfl) ?_
  refine kget C h 1 rfl rfl inBX3 2 (Nat.le_of_ble_eq_true rfl) wi_fl_X3_23 rfl dX3_look_1 ?_
  refine lv_aload_n hx hb dX3_look_4 rfl (lv_at hl 0 rfl) ?_
  refine kget C h 1 rfl rfl inBX3 1 (Nat.le_of_ble_eq_true rfl) wi_fl_X3_15 rfl dX3_look_5 ?_
  refine lv_icmp_ge (tgt := 59) hx hb dX3_look_8 (by decide) (fun c_8 => ?_) (fun c_8 => ?_)
  · have hw := hw.1 c_8
    refine lv_iconst (v := (-1)) hx hb dX3_look_59 (by decide) ?_
    exact kretI C hr hlk h hw dX3_look_60
  · have hw := hw.2 c_8
    refine lv_aload_n hx hb dX3_look_11 rfl (lv_at hl 0 rfl) ?_
    refine lv_aload_n hx hb dX3_look_12 rfl (lv_at hl 0 rfl) ?_
    refine kget C h 1 rfl rfl inBX3 2 (Nat.le_of_ble_eq_true rfl) wi_fl_X3_23 rfl dX3_look_13 ?_
    refine kVi (As := [.int (gI u 6)]) (rest := []) C h (cwV 1 hts (gd_V wi_ml_X3_54 wi_im_X3_byteAt wi_se_X3_byteAt wi_in_X3 wi_co_X3_byteAt) rfl rfl rfl hd_X3_byteAt ⟨Nat.le_of_ble_eq_true rfl, Nat.le_of_ble_eq_true rfl⟩) 1 rfl rfl rfl (mX3_byteAt l D cy ad (gI u 6) _ _ hw) rfl hl.1 rfl (Nat.le_of_ble_eq_true rfl) ⟨Nat.zero_le _, Nat.zero_le _⟩ dX3_look_16 (fun r_1 u_2 H locs hw h => ?_)
    refine lv_istore_n (lv' := [(1, .int r_1), (0, .ref (ad 1))]) hx hb dX3_look_19 rfl hl (by decide) rfl (fun ls hl => ?_)
    refine lv_iload_n hx hb dX3_look_20 rfl (lv_at hl 0 rfl) ?_
    refine lv_bipush (v := 9) hx hb dX3_look_21 (by decide) ?_
    refine lv_icmp_eq (tgt := 46) hx hb dX3_look_23 (by decide) (fun c_23 => ?_) (fun c_23 => ?_)
    · have hw := hw.1 c_23
      exact kX3_look_b46 C hr hlk g0  _ _ _ _ hw h (lv_sub hl [1] rfl)
    · have hw := hw.2 c_23
      refine lv_iload_n hx hb dX3_look_26 rfl (lv_at hl 0 rfl) ?_
      refine lv_bipush (v := 10) hx hb dX3_look_27 (by decide) ?_
      refine lv_icmp_eq (tgt := 46) hx hb dX3_look_29 (by decide) (fun c_29 => ?_) (fun c_29 => ?_)
      · have hw := hw.1 c_29
        exact kX3_look_b46 C hr hlk g0  _ _ _ _ hw h (lv_sub hl [1] rfl)
      · have hw := hw.2 c_29
        refine lv_iload_n hx hb dX3_look_32 rfl (lv_at hl 0 rfl) ?_
        refine lv_bipush (v := 13) hx hb dX3_look_33 (by decide) ?_
        refine lv_icmp_eq (tgt := 46) hx hb dX3_look_35 (by decide) (fun c_35 => ?_) (fun c_35 => ?_)
        · have hw := hw.1 c_35
          exact kX3_look_b46 C hr hlk g0  _ _ _ _ hw h (lv_sub hl [1] rfl)
        · have hw := hw.2 c_35
          refine lv_iload_n hx hb dX3_look_38 rfl (lv_at hl 0 rfl) ?_
          refine lv_bipush (v := 32) hx hb dX3_look_39 (by decide) ?_
          refine lv_icmp_eq (tgt := 46) hx hb dX3_look_41 (by decide) (fun c_41 => ?_) (fun c_41 => ?_)
          · have hw := hw.1 c_41
            exact kX3_look_b46 C hr hlk g0  _ _ _ _ hw h (lv_sub hl [1] rfl)
          · have hw := hw.2 c_41
            refine lv_iload_n hx hb dX3_look_44 rfl (lv_at hl 0 rfl) ?_
            exact kretI C hr hlk h hw dX3_look_45
def wX3_look_L0 (Q : Int32 → ST → Prop) : Nat → ST → Prop
  | 0, _ => False
  | n + 1, u => wX3_look_B0 (wX3_look_L0 Q n) Q  u
set_option maxHeartbeats 4000000 in
theorem kX3_look_L0 {p : Program} {l : Launch} {e : Env} {s : State} {m : MethodId} {args : Array Value} {below : List Frame} {meth : Method} {c : Code} {D : va_G} {cy : CY} {A : Nat → Prop} {ad : Nat → Nat} {Q : Int32 → ST → Prop} (C : kC p m c cX3_look 2 s args RX3 D cy A) (hr : meth.sig.returnType = some .int) (hlk : meth.locks = false) : ∀ n : Nat, ∀ (u : ST) (H : Heap) (locs : List Loc) (ls : Array Slot), wX3_look_L0 Q n  u → kH D (cW cy ad) A s u H locs → lv_has ls 2 [(0, .ref (ad 1))] → W p l e (kRm 1) s m args below meth c H locs 0 0 (MQ below (kQi D (cW cy ad) cy A Q) args s 0 0 A) (F0 m 0 ls []) := by
  intro n
  induction n with
  | zero => intro  u H locs ls hw; exact False.elim hw
  | succ n ih => exact kX3_look_B0 C hr hlk ih
def wX3_look (u : ST) (Q : Int32 → ST → Prop) : Prop :=
  (∃ n : Nat, wX3_look_L0 Q n  u)
set_option maxHeartbeats 4000000 in
set_option maxRecDepth 100000 in
theorem mX3_look (l : Launch) (D : va_G) (cy : CY) (ad : Nat → Nat) (u : ST) (sz : Nat) {Q : Int32 → ST → Prop} (hw : wX3_look  u Q) : Met l yX3_look (wM yX3_look cX3_look 2 (some .int)) (kRm 1) (kPc D (cW cy ad) cy u sz [.ref (ad 1)]) (kQi D (cW cy ad) cy (va_A (cW cy ad u) sz) Q) 0 0 (va_A (cW cy ad u) sz) := by
  refine kMet pn_X3_look (Nat.le_of_ble_eq_true rfl) (fun p e s m below meth c ls hsz C hr hlk hex h hl => ?_)
  have hl : lv_has ls 2 [(0, .ref (ad 1))] := hl
  obtain ⟨⟨hx, hb, hml, hown, hts⟩, hK, hA⟩ := id C
  unfold wX3_look at hw
  have h : kH D (cW cy ad) (va_A (cW cy ad u) sz) s u s.heap [] := h
  obtain ⟨n, hw⟩ := hw
  exact kX3_look_L0 C hr hlk n  _ _ _ _ hw h (lv_sub hl [0] rfl)

def wX3_passByte (x1 : Int32) (u : ST) (Q : Int32 → ST → Prop) : Prop :=
  wX3_look  u (fun r_1 u_2 => ((r_1 = x1 → Q 1 (sI u_2 6 ((gI u_2 6) + 1))) ∧ (¬ r_1 = x1 → wX3_fail 1 (gI u_2 6) u_2 (fun r_3 u_4 => ((r_3 = 0 ∨ r_3 = 1) ∧ Q r_3 u_4)))))
set_option maxHeartbeats 4000000 in
set_option maxRecDepth 100000 in
theorem mX3_passByte (l : Launch) (D : va_G) (cy : CY) (ad : Nat → Nat) (x1 : Int32) (u : ST) (sz : Nat) {Q : Int32 → ST → Prop} (hw : wX3_passByte x1 u Q) : Met l yX3_passByte (wM yX3_passByte cX3_passByte 2 (some .boolean)) (kRm 2) (kPc D (cW cy ad) cy u sz [.ref (ad 1), .int x1]) (kQi D (cW cy ad) cy (va_A (cW cy ad u) sz) Q) 0 0 (va_A (cW cy ad u) sz) := by
  refine kMet pn_X3_passByte (Nat.le_of_ble_eq_true rfl) (fun p e s m below meth c ls hsz C hr hlk hex h hl => ?_)
  have hl : lv_has ls 2 [(0, .ref (ad 1)), (1, .int x1)] := hl
  obtain ⟨⟨hx, hb, hml, hown, hts⟩, hK, hA⟩ := id C
  unfold wX3_passByte at hw
  have h : kH D (cW cy ad) (va_A (cW cy ad u) sz) s u s.heap [] := h
  refine lv_aload_n hx hb dX3_passByte_0 rfl (lv_at hl 0 rfl) ?_
  refine kVi (As := []) (rest := []) C h (cwV 0 hts (gd_V wi_ml_X3_58 wi_im_X3_look wi_se_X3_look wi_in_X3 wi_co_X3_look) rfl rfl rfl hd_X3_look ⟨Nat.le_of_ble_eq_true rfl, Nat.le_of_ble_eq_true rfl⟩) 1 rfl rfl rfl (mX3_look l D cy ad  _ _ hw) rfl hl.1 rfl (Nat.le_of_ble_eq_true rfl) ⟨Nat.zero_le _, Nat.zero_le _⟩ dX3_passByte_1 (fun r_1 u_2 H locs hw h => ?_)
  refine lv_iload_n hx hb dX3_passByte_4 rfl (lv_at hl 1 rfl) ?_
  refine lv_icmp_eq (tgt := 18) hx hb dX3_passByte_5 (by decide) (fun c_5 => ?_) (fun c_5 => ?_)
  · have hw := hw.1 c_5
    refine lv_aload_n hx hb dX3_passByte_18 rfl (lv_at hl 0 rfl) ?_
    refine lv_dup hx hb dX3_passByte_19 rfl ?_
    refine kget C h 1 rfl rfl inBX3 2 (Nat.le_of_ble_eq_true rfl) wi_fl_X3_23 rfl dX3_passByte_20 ?_
    refine lv_iconst (v := 1) hx hb dX3_passByte_23 (by decide) ?_
    refine lv_iadd hx hb dX3_passByte_24 ?_
    refine kput C h 1 rfl rfl inBX3 tyX3_ok nmX3 2 (Nat.le_of_ble_eq_true rfl) wi_fl_X3_23 rfl rfl rfl (Nat.le_of_ble_eq_true rfl) (cS_TP_2 cy ad u_2 ((gI u_2 6) + 1)) dX3_passByte_25 (fun H locs h => ?_)
    refine lv_iconst (v := 1) hx hb dX3_passByte_28 (by decide) ?_
    exact kretZ C hr hlk h (Or.inr rfl) hw dX3_passByte_29
  · have hw := hw.2 c_5
    refine lv_aload_n hx hb dX3_passByte_8 rfl (lv_at hl 0 rfl) ?_
    refine lv_iconst (v := 1) hx hb dX3_passByte_9 (by decide) ?_
    refine lv_aload_n hx hb dX3_passByte_10 rfl (lv_at hl 0 rfl) ?_
    refine kget C h 1 rfl rfl inBX3 2 (Nat.le_of_ble_eq_true rfl) wi_fl_X3_23 rfl dX3_passByte_11 ?_
    refine kVi (As := [.int 1, .int (gI u_2 6)]) (rest := []) C h (cwV 2 hts (gd_V wi_ml_X3_62 wi_im_X3_fail wi_se_X3_fail wi_in_X3 wi_co_X3_fail) rfl rfl rfl hd_X3_fail ⟨Nat.le_of_ble_eq_true rfl, Nat.le_of_ble_eq_true rfl⟩) 1 rfl rfl rfl (mX3_fail l D cy ad 1 (gI u_2 6) _ _ hw) rfl hl.1 rfl (Nat.le_of_ble_eq_true rfl) ⟨Nat.zero_le _, Nat.zero_le _⟩ dX3_passByte_14 (fun r_3 u_4 H locs hw h => ?_)
    exact kretZ C hr hlk h hw.1 hw.2 dX3_passByte_17

def wX3_passName_b17 (Q : Int32 → ST → Prop) (u : ST) : Prop :=
  wX3_fail 1 (gI u 6) u (fun r_1 u_2 => ((r_1 = 0 ∨ r_1 = 1) ∧ Q r_1 u_2))
set_option maxHeartbeats 4000000 in
set_option maxRecDepth 100000 in
theorem kX3_passName_b17 {p : Program} {l : Launch} {e : Env} {s : State} {m : MethodId} {args : Array Value} {below : List Frame} {meth : Method} {c : Code} {D : va_G} {cy : CY} {A : Nat → Prop} {ad : Nat → Nat} {Q : Int32 → ST → Prop} (C : kC p m c cX3_passName 2 s args RX3 D cy A) (hr : meth.sig.returnType = some .boolean) (hlk : meth.locks = false) : ∀ (u : ST) (H : Heap) (locs : List Loc) (ls : Array Slot), wX3_passName_b17 Q  u → kH D (cW cy ad) A s u H locs → lv_has ls 2 [(0, .ref (ad 1))] → W p l e (kRm 2) s m args below meth c H locs 0 0 (MQ below (kQi D (cW cy ad) cy A Q) args s 0 0 A) (F0 m 17 ls []) := by
  intro  u H locs ls hw h hl
  obtain ⟨⟨hx, hb, hml, hown, hts⟩, hK, hA⟩ := id C
  unfold wX3_passName_b17 at hw
  refine lv_aload_n hx hb dX3_passName_17 rfl (lv_at hl 0 rfl) ?_
  refine lv_iconst (v := 1) hx hb dX3_passName_18 (by decide) ?_
  refine lv_aload_n hx hb dX3_passName_19 rfl (lv_at hl 0 rfl) ?_
  refine kget C h 1 rfl rfl inBX3 2 (Nat.le_of_ble_eq_true rfl) wi_fl_X3_23 rfl dX3_passName_20 ?_
  refine kVi (As := [.int 1, .int (gI u 6)]) (rest := []) C h (cwV 2 hts (gd_V wi_ml_X3_62 wi_im_X3_fail wi_se_X3_fail wi_in_X3 wi_co_X3_fail) rfl rfl rfl hd_X3_fail ⟨Nat.le_of_ble_eq_true rfl, Nat.le_of_ble_eq_true rfl⟩) 1 rfl rfl rfl (mX3_fail l D cy ad 1 (gI u 6) _ _ hw) rfl hl.1 rfl (Nat.le_of_ble_eq_true rfl) ⟨Nat.zero_le _, Nat.zero_le _⟩ dX3_passName_23 (fun r_1 u_2 H locs hw h => ?_)
  exact kretZ C hr hlk h hw.1 hw.2 dX3_passName_26
def wX3_passName_b113 (K40 : ST → Prop) (Q : Int32 → ST → Prop) (u : ST) : Prop :=
  K40  (sI u 6 ((gI u 6) + 1))
set_option maxHeartbeats 4000000 in
set_option maxRecDepth 100000 in
theorem kX3_passName_b113 {p : Program} {l : Launch} {e : Env} {s : State} {m : MethodId} {args : Array Value} {below : List Frame} {meth : Method} {c : Code} {D : va_G} {cy : CY} {A : Nat → Prop} {ad : Nat → Nat} {K40 : ST → Prop} {Q : Int32 → ST → Prop} (C : kC p m c cX3_passName 2 s args RX3 D cy A) (hr : meth.sig.returnType = some .boolean) (hlk : meth.locks = false) (g40 : ∀ (u : ST) (H : Heap) (locs : List Loc) (ls : Array Slot), K40  u → kH D (cW cy ad) A s u H locs → lv_has ls 2 [(0, .ref (ad 1))] → W p l e (kRm 2) s m args below meth c H locs 0 0 (MQ below (kQi D (cW cy ad) cy A Q) args s 0 0 A) (F0 m 40 ls [])) : ∀ (u : ST) (H : Heap) (locs : List Loc) (ls : Array Slot), wX3_passName_b113 K40 Q  u → kH D (cW cy ad) A s u H locs → lv_has ls 2 [(0, .ref (ad 1))] → W p l e (kRm 2) s m args below meth c H locs 0 0 (MQ below (kQi D (cW cy ad) cy A Q) args s 0 0 A) (F0 m 113 ls []) := by
  intro  u H locs ls hw h hl
  obtain ⟨⟨hx, hb, hml, hown, hts⟩, hK, hA⟩ := id C
  unfold wX3_passName_b113 at hw
  refine lv_aload_n hx hb dX3_passName_113 rfl (lv_at hl 0 rfl) ?_
  refine lv_dup hx hb dX3_passName_114 rfl ?_
  refine kget C h 1 rfl rfl inBX3 2 (Nat.le_of_ble_eq_true rfl) wi_fl_X3_23 rfl dX3_passName_115 ?_
  refine lv_iconst (v := 1) hx hb dX3_passName_118 (by decide) ?_
  refine lv_iadd hx hb dX3_passName_119 ?_
  refine kput C h 1 rfl rfl inBX3 tyX3_ok nmX3 2 (Nat.le_of_ble_eq_true rfl) wi_fl_X3_23 rfl rfl rfl (Nat.le_of_ble_eq_true rfl) (cS_TP_2 cy ad u ((gI u 6) + 1)) dX3_passName_120 (fun H locs h => ?_)
  refine lv_goto (tgt := 40) hx hb dX3_passName_123 (by decide) ?_
  exact g40  _ _ _ _ hw h (lv_sub hl [0] rfl)
def wX3_passName_b126 (Q : Int32 → ST → Prop) (u : ST) : Prop :=
  ((((gI u 6) - (gI u 7)) ≤ 10 → Q 1 u) ∧ (¬ ((gI u 6) - (gI u 7)) ≤ 10 → wX3_fail 1 (gI u 7) u (fun r_1 u_2 => ((r_1 = 0 → Q 0 u_2) ∧ (¬ r_1 = 0 → Q 1 u_2)))))
set_option maxHeartbeats 4000000 in
set_option maxRecDepth 100000 in
theorem kX3_passName_b126 {p : Program} {l : Launch} {e : Env} {s : State} {m : MethodId} {args : Array Value} {below : List Frame} {meth : Method} {c : Code} {D : va_G} {cy : CY} {A : Nat → Prop} {ad : Nat → Nat} {Q : Int32 → ST → Prop} (C : kC p m c cX3_passName 2 s args RX3 D cy A) (hr : meth.sig.returnType = some .boolean) (hlk : meth.locks = false) : ∀ (u : ST) (H : Heap) (locs : List Loc) (ls : Array Slot), wX3_passName_b126 Q  u → kH D (cW cy ad) A s u H locs → lv_has ls 2 [(0, .ref (ad 1))] → W p l e (kRm 2) s m args below meth c H locs 0 0 (MQ below (kQi D (cW cy ad) cy A Q) args s 0 0 A) (F0 m 126 ls []) := by
  intro  u H locs ls hw h hl
  obtain ⟨⟨hx, hb, hml, hown, hts⟩, hK, hA⟩ := id C
  unfold wX3_passName_b126 at hw
  refine lv_aload_n hx hb dX3_passName_126 rfl (lv_at hl 0 rfl) ?_
  refine kget C h 1 rfl rfl inBX3 2 (Nat.le_of_ble_eq_true rfl) wi_fl_X3_23 rfl dX3_passName_127 ?_
  refine lv_aload_n hx hb dX3_passName_130 rfl (lv_at hl 0 rfl) ?_
  refine kget C h 1 rfl rfl inBX3 3 (Nat.le_of_ble_eq_true rfl) wi_fl_X3_66 rfl dX3_passName_131 ?_
  refine lv_isub hx hb dX3_passName_134 ?_
  refine lv_bipush (v := 10) hx hb dX3_passName_135 (by decide) ?_
  refine lv_icmp_le (tgt := 152) hx hb dX3_passName_137 (by decide) (fun c_137 => ?_) (fun c_137 => ?_)
  · have hw := hw.1 c_137
    refine lv_iconst (v := 1) hx hb dX3_passName_152 (by decide) ?_
    refine lv_goto (tgt := 157) hx hb dX3_passName_153 (by decide) ?_
    exact kretZ C hr hlk h (Or.inr rfl) hw dX3_passName_157
  · have hw := hw.2 c_137
    refine lv_aload_n hx hb dX3_passName_140 rfl (lv_at hl 0 rfl) ?_
    refine lv_iconst (v := 1) hx hb dX3_passName_141 (by decide) ?_
    refine lv_aload_n hx hb dX3_passName_142 rfl (lv_at hl 0 rfl) ?_
    refine kget C h 1 rfl rfl inBX3 3 (Nat.le_of_ble_eq_true rfl) wi_fl_X3_66 rfl dX3_passName_143 ?_
    refine kVi (As := [.int 1, .int (gI u 7)]) (rest := []) C h (cwV 2 hts (gd_V wi_ml_X3_62 wi_im_X3_fail wi_se_X3_fail wi_in_X3 wi_co_X3_fail) rfl rfl rfl hd_X3_fail ⟨Nat.le_of_ble_eq_true rfl, Nat.le_of_ble_eq_true rfl⟩) 1 rfl rfl rfl (mX3_fail l D cy ad 1 (gI u 7) _ _ hw) rfl hl.1 rfl (Nat.le_of_ble_eq_true rfl) ⟨Nat.zero_le _, Nat.zero_le _⟩ dX3_passName_146 (fun r_1 u_2 H locs hw h => ?_)
    refine lv_if_eq (tgt := 156) hx hb dX3_passName_149 (by decide) (fun c_149 => ?_) (fun c_149 => ?_)
    · have hw := hw.1 c_149
      refine lv_iconst (v := 0) hx hb dX3_passName_156 (by decide) ?_
      exact kretZ C hr hlk h (Or.inl rfl) hw dX3_passName_157
    · have hw := hw.2 c_149
      refine lv_iconst (v := 1) hx hb dX3_passName_152 (by decide) ?_
      refine lv_goto (tgt := 157) hx hb dX3_passName_153 (by decide) ?_
      exact kretZ C hr hlk h (Or.inr rfl) hw dX3_passName_157
def wX3_passName_B40 (K40 : ST → Prop) (Q : Int32 → ST → Prop) (u : ST) : Prop :=
  (((gI u 5) ≤ (gI u 6) → wX3_passName_b126 Q  u) ∧ (¬ (gI u 5) ≤ (gI u 6) → wX3_byteAt (gI u 6) u (fun r_1 u_2 => wX1_letterOf r_1 u_2 (fun r_3 u_4 => ((r_3 = 0 → wX3_passName_b126 Q  u_4) ∧ (¬ r_3 = 0 → ((10 ≤ ((gI u_4 6) - (gI u_4 7)) → wX3_passName_b113 K40 Q  u_4) ∧ (¬ 10 ≤ ((gI u_4 6) - (gI u_4 7)) → wX3_byteAt (gI u_4 6) u_4 (fun r_5 u_6 => wX1_letterOf r_5 u_6 (fun r_7 u_8 => wX3_passName_b113 K40 Q  (sJ u_8 0 ((gJ u_4 0) ||| (((r_7 : Int32).toInt64 : Int64) <<< ((6 * ((gI u_8 6) - (gI u_8 7)) : Int32).toInt64 &&& 63))))))))))))))
set_option maxHeartbeats 4000000 in
set_option maxRecDepth 100000 in
theorem kX3_passName_B40 {p : Program} {l : Launch} {e : Env} {s : State} {m : MethodId} {args : Array Value} {below : List Frame} {meth : Method} {c : Code} {D : va_G} {cy : CY} {A : Nat → Prop} {ad : Nat → Nat} {K40 : ST → Prop} {Q : Int32 → ST → Prop} (C : kC p m c cX3_passName 2 s args RX3 D cy A) (hr : meth.sig.returnType = some .boolean) (hlk : meth.locks = false) (g40 : ∀ (u : ST) (H : Heap) (locs : List Loc) (ls : Array Slot), K40  u → kH D (cW cy ad) A s u H locs → lv_has ls 2 [(0, .ref (ad 1))] → W p l e (kRm 2) s m args below meth c H locs 0 0 (MQ below (kQi D (cW cy ad) cy A Q) args s 0 0 A) (F0 m 40 ls [])) : ∀ (u : ST) (H : Heap) (locs : List Loc) (ls : Array Slot), wX3_passName_B40 K40 Q  u → kH D (cW cy ad) A s u H locs → lv_has ls 2 [(0, .ref (ad 1))] → W p l e (kRm 2) s m args below meth c H locs 0 0 (MQ below (kQi D (cW cy ad) cy A Q) args s 0 0 A) (F0 m 40 ls []) := by
  intro  u H locs ls hw h hl
  obtain ⟨⟨hx, hb, hml, hown, hts⟩, hK, hA⟩ := id C
  unfold wX3_passName_B40 at hw
  refine lv_aload_n hx hb dX3_passName_40 rfl (lv_at hl 0 rfl) ?_
  refine kget C h 1 rfl rfl inBX3 2 (Nat.le_of_ble_eq_true rfl) wi_fl_X3_23 rfl dX3_passName_41 ?_
  refine lv_aload_n hx hb dX3_passName_44 rfl (lv_at hl 0 rfl) ?_
  refine kget C h 1 rfl rfl inBX3 1 (Nat.le_of_ble_eq_true rfl) wi_fl_X3_15 rfl dX3_passName_45 ?_
  refine lv_icmp_ge (tgt := 126) hx hb dX3_passName_48 (by decide) (fun c_48 => ?_) (fun c_48 => ?_)
  · have hw := hw.1 c_48
    exact kX3_passName_b126 C hr hlk  _ _ _ _ hw h (lv_sub hl [0] rfl)
  · have hw := hw.2 c_48
    refine lv_aload_n hx hb dX3_passName_51 rfl (lv_at hl 0 rfl) ?_
    refine lv_aload_n hx hb dX3_passName_52 rfl (lv_at hl 0 rfl) ?_
    refine kget C h 1 rfl rfl inBX3 2 (Nat.le_of_ble_eq_true rfl) wi_fl_X3_23 rfl dX3_passName_53 ?_
    refine kVi (As := [.int (gI u 6)]) (rest := []) C h (cwV 1 hts (gd_V wi_ml_X3_54 wi_im_X3_byteAt wi_se_X3_byteAt wi_in_X3 wi_co_X3_byteAt) rfl rfl rfl hd_X3_byteAt ⟨Nat.le_of_ble_eq_true rfl, Nat.le_of_ble_eq_true rfl⟩) 1 rfl rfl rfl (mX3_byteAt l D cy ad (gI u 6) _ _ hw) rfl hl.1 rfl (Nat.le_of_ble_eq_true rfl) ⟨Nat.zero_le _, Nat.zero_le _⟩ dX3_passName_56 (fun r_1 u_2 H locs hw h => ?_)
    refine kSi (As := [.int r_1]) (rest := []) C h (va_cwS 1 hts (gd_S wi_ml_X3_73 wi_st_X1_letterOf wi_in_X1 wi_co_X1_letterOf) rfl rfl rfl hd_X1_letterOf.2 ⟨Nat.le_of_ble_eq_true rfl, Nat.le_of_ble_eq_true rfl⟩) (mX1_letterOf l D cy ad r_1 _ _ hw) rfl hl.1 rfl (Nat.le_of_ble_eq_true rfl) ⟨Nat.zero_le _, Nat.zero_le _⟩ dX3_passName_59 (fun r_3 u_4 H locs hw h => ?_)
    refine lv_if_eq (tgt := 126) hx hb dX3_passName_62 (by decide) (fun c_62 => ?_) (fun c_62 => ?_)
    · have hw := hw.1 c_62
      exact kX3_passName_b126 C hr hlk  _ _ _ _ hw h (lv_sub hl [0] rfl)
    · have hw := hw.2 c_62
      refine lv_aload_n hx hb dX3_passName_65 rfl (lv_at hl 0 rfl) ?_
      refine kget C h 1 rfl rfl inBX3 2 (Nat.le_of_ble_eq_true rfl) wi_fl_X3_23 rfl dX3_passName_66 ?_
      refine lv_aload_n hx hb dX3_passName_69 rfl (lv_at hl 0 rfl) ?_
      refine kget C h 1 rfl rfl inBX3 3 (Nat.le_of_ble_eq_true rfl) wi_fl_X3_66 rfl dX3_passName_70 ?_
      refine lv_isub hx hb dX3_passName_73 ?_
      refine lv_bipush (v := 10) hx hb dX3_passName_74 (by decide) ?_
      refine lv_icmp_ge (tgt := 113) hx hb dX3_passName_76 (by decide) (fun c_76 => ?_) (fun c_76 => ?_)
      · have hw := hw.1 c_76
        exact kX3_passName_b113 C hr hlk g40  _ _ _ _ hw h (lv_sub hl [0] rfl)
      · have hw := hw.2 c_76
        refine lv_aload_n hx hb dX3_passName_79 rfl (lv_at hl 0 rfl) ?_
        refine lv_dup hx hb dX3_passName_80 rfl ?_
        refine kget C h 1 rfl rfl inBX3 4 (Nat.le_of_ble_eq_true rfl) wi_fl_X3_69 rfl dX3_passName_81 ?_
        refine lv_aload_n hx hb dX3_passName_84 rfl (lv_at hl 0 rfl) ?_
        refine lv_aload_n hx hb dX3_passName_85 rfl (lv_at hl 0 rfl) ?_
        refine kget C h 1 rfl rfl inBX3 2 (Nat.le_of_ble_eq_true rfl) wi_fl_X3_23 rfl dX3_passName_86 ?_
        refine kVi (As := [.int (gI u_4 6)]) (rest := [.long (gJ u_4 0), .ref (ad 1)]) C h (cwV 1 hts (gd_V wi_ml_X3_54 wi_im_X3_byteAt wi_se_X3_byteAt wi_in_X3 wi_co_X3_byteAt) rfl rfl rfl hd_X3_byteAt ⟨Nat.le_of_ble_eq_true rfl, Nat.le_of_ble_eq_true rfl⟩) 1 rfl rfl rfl (mX3_byteAt l D cy ad (gI u_4 6) _ _ hw) rfl hl.1 rfl (Nat.le_of_ble_eq_true rfl) ⟨Nat.zero_le _, Nat.zero_le _⟩ dX3_passName_89 (fun r_5 u_6 H locs hw h => ?_)
        refine kSi (As := [.int r_5]) (rest := [.long (gJ u_4 0), .ref (ad 1)]) C h (va_cwS 1 hts (gd_S wi_ml_X3_73 wi_st_X1_letterOf wi_in_X1 wi_co_X1_letterOf) rfl rfl rfl hd_X1_letterOf.2 ⟨Nat.le_of_ble_eq_true rfl, Nat.le_of_ble_eq_true rfl⟩) (mX1_letterOf l D cy ad r_5 _ _ hw) rfl hl.1 rfl (Nat.le_of_ble_eq_true rfl) ⟨Nat.zero_le _, Nat.zero_le _⟩ dX3_passName_92 (fun r_7 u_8 H locs hw h => ?_)
        refine lv_i2l hx hb dX3_passName_95 rfl ?_
        refine lv_bipush (v := 6) hx hb dX3_passName_96 (by decide) ?_
        refine lv_aload_n hx hb dX3_passName_98 rfl (lv_at hl 0 rfl) ?_
        refine kget C h 1 rfl rfl inBX3 2 (Nat.le_of_ble_eq_true rfl) wi_fl_X3_23 rfl dX3_passName_99 ?_
        refine lv_aload_n hx hb dX3_passName_102 rfl (lv_at hl 0 rfl) ?_
        refine kget C h 1 rfl rfl inBX3 3 (Nat.le_of_ble_eq_true rfl) wi_fl_X3_66 rfl dX3_passName_103 ?_
        refine lv_isub hx hb dX3_passName_106 ?_
        refine lv_imul hx hb dX3_passName_107 ?_
        refine lv_lshl hx hb dX3_passName_108 rfl ?_
        refine lv_lor hx hb dX3_passName_109 ?_
        refine kput C h 1 rfl rfl inBX3 tyX3_ok nmX3 4 (Nat.le_of_ble_eq_true rfl) wi_fl_X3_69 rfl rfl rfl (Nat.le_of_ble_eq_true rfl) (cS_TP_4 cy ad u_8 ((gJ u_4 0) ||| (((r_7 : Int32).toInt64 : Int64) <<< ((6 * ((gI u_8 6) - (gI u_8 7)) : Int32).toInt64 &&& 63)))) dX3_passName_110 (fun H locs h => ?_)
        exact kX3_passName_b113 C hr hlk g40  _ _ _ _ hw h (lv_sub hl [0] rfl)
def wX3_passName_L40 (Q : Int32 → ST → Prop) : Nat → ST → Prop
  | 0, _ => False
  | n + 1, u => wX3_passName_B40 (wX3_passName_L40 Q n) Q  u
set_option maxHeartbeats 4000000 in
theorem kX3_passName_L40 {p : Program} {l : Launch} {e : Env} {s : State} {m : MethodId} {args : Array Value} {below : List Frame} {meth : Method} {c : Code} {D : va_G} {cy : CY} {A : Nat → Prop} {ad : Nat → Nat} {Q : Int32 → ST → Prop} (C : kC p m c cX3_passName 2 s args RX3 D cy A) (hr : meth.sig.returnType = some .boolean) (hlk : meth.locks = false) : ∀ n : Nat, ∀ (u : ST) (H : Heap) (locs : List Loc) (ls : Array Slot), wX3_passName_L40 Q n  u → kH D (cW cy ad) A s u H locs → lv_has ls 2 [(0, .ref (ad 1))] → W p l e (kRm 2) s m args below meth c H locs 0 0 (MQ below (kQi D (cW cy ad) cy A Q) args s 0 0 A) (F0 m 40 ls []) := by
  intro n
  induction n with
  | zero => intro  u H locs ls hw; exact False.elim hw
  | succ n ih => exact kX3_passName_B40 C hr hlk ih
def wX3_passName (u : ST) (Q : Int32 → ST → Prop) : Prop :=
  wX3_look  u (fun r_1 u_2 => ((r_1 < 97 → wX3_passName_b17 Q  u_2) ∧ (¬ r_1 < 97 → ((r_1 ≤ 122 → (∃ n : Nat, wX3_passName_L40 Q n  (sJ (sI u_2 7 (gI u_2 6)) 0 0))) ∧ (¬ r_1 ≤ 122 → wX3_passName_b17 Q  u_2)))))
set_option maxHeartbeats 4000000 in
set_option maxRecDepth 100000 in
theorem mX3_passName (l : Launch) (D : va_G) (cy : CY) (ad : Nat → Nat) (u : ST) (sz : Nat) {Q : Int32 → ST → Prop} (hw : wX3_passName  u Q) : Met l yX3_passName (wM yX3_passName cX3_passName 2 (some .boolean)) (kRm 2) (kPc D (cW cy ad) cy u sz [.ref (ad 1)]) (kQi D (cW cy ad) cy (va_A (cW cy ad u) sz) Q) 0 0 (va_A (cW cy ad u) sz) := by
  refine kMet pn_X3_passName (Nat.le_of_ble_eq_true rfl) (fun p e s m below meth c ls hsz C hr hlk hex h hl => ?_)
  have hl : lv_has ls 2 [(0, .ref (ad 1))] := hl
  obtain ⟨⟨hx, hb, hml, hown, hts⟩, hK, hA⟩ := id C
  unfold wX3_passName at hw
  have h : kH D (cW cy ad) (va_A (cW cy ad u) sz) s u s.heap [] := h
  refine lv_aload_n hx hb dX3_passName_0 rfl (lv_at hl 0 rfl) ?_
  refine kVi (As := []) (rest := []) C h (cwV 0 hts (gd_V wi_ml_X3_58 wi_im_X3_look wi_se_X3_look wi_in_X3 wi_co_X3_look) rfl rfl rfl hd_X3_look ⟨Nat.le_of_ble_eq_true rfl, Nat.le_of_ble_eq_true rfl⟩) 1 rfl rfl rfl (mX3_look l D cy ad  _ _ hw) rfl hl.1 rfl (Nat.le_of_ble_eq_true rfl) ⟨Nat.zero_le _, Nat.zero_le _⟩ dX3_passName_1 (fun r_1 u_2 H locs hw h => ?_)
  refine lv_istore_n (lv' := [(1, .int r_1), (0, .ref (ad 1))]) hx hb dX3_passName_4 rfl hl (by decide) rfl (fun ls hl => ?_)
  refine lv_iload_n hx hb dX3_passName_5 rfl (lv_at hl 0 rfl) ?_
  refine lv_bipush (v := 97) hx hb dX3_passName_6 (by decide) ?_
  refine lv_icmp_lt (tgt := 17) hx hb dX3_passName_8 (by decide) (fun c_8 => ?_) (fun c_8 => ?_)
  · have hw := hw.1 c_8
    exact kX3_passName_b17 C hr hlk  _ _ _ _ hw h (lv_sub hl [1] rfl)
  · have hw := hw.2 c_8
    refine lv_iload_n hx hb dX3_passName_11 rfl (lv_at hl 0 rfl) ?_
    refine lv_bipush (v := 122) hx hb dX3_passName_12 (by decide) ?_
    refine lv_icmp_le (tgt := 27) hx hb dX3_passName_14 (by decide) (fun c_14 => ?_) (fun c_14 => ?_)
    · have hw := hw.1 c_14
      refine lv_aload_n hx hb dX3_passName_27 rfl (lv_at hl 1 rfl) ?_
      refine lv_aload_n hx hb dX3_passName_28 rfl (lv_at hl 1 rfl) ?_
      refine kget C h 1 rfl rfl inBX3 2 (Nat.le_of_ble_eq_true rfl) wi_fl_X3_23 rfl dX3_passName_29 ?_
      refine kput C h 1 rfl rfl inBX3 tyX3_ok nmX3 3 (Nat.le_of_ble_eq_true rfl) wi_fl_X3_66 rfl rfl rfl (Nat.le_of_ble_eq_true rfl) (cS_TP_3 cy ad u_2 (gI u_2 6)) dX3_passName_32 (fun H locs h => ?_)
      refine lv_aload_n hx hb dX3_passName_35 rfl (lv_at hl 1 rfl) ?_
      refine lv_lconst (v := 0) hx hb dX3_passName_36 rfl ?_
      refine kput C h 1 rfl rfl inBX3 tyX3_ok nmX3 4 (Nat.le_of_ble_eq_true rfl) wi_fl_X3_69 rfl rfl rfl (Nat.le_of_ble_eq_true rfl) (cS_TP_4 cy ad (sI u_2 7 (gI u_2 6)) 0) dX3_passName_37 (fun H locs h => ?_)
      obtain ⟨n, hw⟩ := hw
      exact kX3_passName_L40 C hr hlk n  _ _ _ _ hw h (lv_sub hl [1] rfl)
    · have hw := hw.2 c_14
      exact kX3_passName_b17 C hr hlk  _ _ _ _ hw h (lv_sub hl [1] rfl)

def wX3_isWord (y1 : Int64) (u : ST) (Q : Int32 → ST → Prop) : Prop :=
  (((lg_cmp (gJ u 0) y1) = 0 → Q 1 u) ∧ (¬ (lg_cmp (gJ u 0) y1) = 0 → wX3_fail 1 (gI u 7) u (fun r_1 u_2 => ((r_1 = 0 → Q 0 u_2) ∧ (¬ r_1 = 0 → Q 1 u_2)))))
set_option maxHeartbeats 4000000 in
set_option maxRecDepth 100000 in
theorem mX3_isWord (l : Launch) (D : va_G) (cy : CY) (ad : Nat → Nat) (y1 : Int64) (u : ST) (sz : Nat) {Q : Int32 → ST → Prop} (hw : wX3_isWord y1 u Q) : Met l yX3_isWord (wM yX3_isWord cX3_isWord 3 (some .boolean)) (kRm 1) (kPc D (cW cy ad) cy u sz [.ref (ad 1), .long y1]) (kQi D (cW cy ad) cy (va_A (cW cy ad u) sz) Q) 0 0 (va_A (cW cy ad u) sz) := by
  refine kMet pn_X3_isWord (Nat.le_of_ble_eq_true rfl) (fun p e s m below meth c ls hsz C hr hlk hex h hl => ?_)
  have hl : lv_has ls 3 [(0, .ref (ad 1)), (1, .long y1)] := hl
  obtain ⟨⟨hx, hb, hml, hown, hts⟩, hK, hA⟩ := id C
  unfold wX3_isWord at hw
  have h : kH D (cW cy ad) (va_A (cW cy ad u) sz) s u s.heap [] := h
  refine lv_aload_n hx hb dX3_isWord_0 rfl (lv_at hl 0 rfl) ?_
  refine kget C h 1 rfl rfl inBX3 4 (Nat.le_of_ble_eq_true rfl) wi_fl_X3_69 rfl dX3_isWord_1 ?_
  refine lv_lload_n hx hb dX3_isWord_4 rfl (lv_at hl 1 rfl) ?_
  refine W.lcmp hx hb dX3_isWord_5 ?_
  refine lv_if_eq (tgt := 21) hx hb dX3_isWord_6 (by decide) (fun c_6 => ?_) (fun c_6 => ?_)
  · have hw := hw.1 c_6
    refine lv_iconst (v := 1) hx hb dX3_isWord_21 (by decide) ?_
    refine lv_goto (tgt := 26) hx hb dX3_isWord_22 (by decide) ?_
    exact kretZ C hr hlk h (Or.inr rfl) hw dX3_isWord_26
  · have hw := hw.2 c_6
    refine lv_aload_n hx hb dX3_isWord_9 rfl (lv_at hl 0 rfl) ?_
    refine lv_iconst (v := 1) hx hb dX3_isWord_10 (by decide) ?_
    refine lv_aload_n hx hb dX3_isWord_11 rfl (lv_at hl 0 rfl) ?_
    refine kget C h 1 rfl rfl inBX3 3 (Nat.le_of_ble_eq_true rfl) wi_fl_X3_66 rfl dX3_isWord_12 ?_
    refine kVi (As := [.int 1, .int (gI u 7)]) (rest := []) C h (cwV 2 hts (gd_V wi_ml_X3_62 wi_im_X3_fail wi_se_X3_fail wi_in_X3 wi_co_X3_fail) rfl rfl rfl hd_X3_fail ⟨Nat.le_of_ble_eq_true rfl, Nat.le_of_ble_eq_true rfl⟩) 1 rfl rfl rfl (mX3_fail l D cy ad 1 (gI u 7) _ _ hw) rfl hl.1 rfl (Nat.le_of_ble_eq_true rfl) ⟨Nat.zero_le _, Nat.zero_le _⟩ dX3_isWord_15 (fun r_1 u_2 H locs hw h => ?_)
    refine lv_if_eq (tgt := 25) hx hb dX3_isWord_18 (by decide) (fun c_18 => ?_) (fun c_18 => ?_)
    · have hw := hw.1 c_18
      refine lv_iconst (v := 0) hx hb dX3_isWord_25 (by decide) ?_
      exact kretZ C hr hlk h (Or.inl rfl) hw dX3_isWord_26
    · have hw := hw.2 c_18
      refine lv_iconst (v := 1) hx hb dX3_isWord_21 (by decide) ?_
      refine lv_goto (tgt := 26) hx hb dX3_isWord_22 (by decide) ?_
      exact kretZ C hr hlk h (Or.inr rfl) hw dX3_isWord_26

def wX3_passCondition (t1 : Nat) (u : ST) (Q : Int32 → ST → Prop) : Prop :=
  wX3_passName  u (fun r_1 u_2 => ((¬ r_1 = 0 → wX1_find t1 (gJ u_2 0) u_2 (fun r_3 u_4 => ((r_3 = (-1) → wX1_add t1 (gJ u_4 0) u_4 (fun r_5 u_6 => ((¬ r_5 = 0 → Q 1 u_6) ∧ (r_5 = 0 → wX3_fail 3 (gI u_6 7) u_6 (fun r_7 u_8 => ((r_7 = 0 → Q 0 u_8) ∧ (¬ r_7 = 0 → Q 1 u_8))))))) ∧ (¬ r_3 = (-1) → wX3_fail 2 (gI u_4 7) u_4 (fun r_9 u_10 => ((r_9 = 0 ∨ r_9 = 1) ∧ Q r_9 u_10)))))) ∧ (r_1 = 0 → Q 0 u_2)))
set_option maxHeartbeats 4000000 in
set_option maxRecDepth 100000 in
theorem mX3_passCondition (l : Launch) (D : va_G) (cy : CY) (ad : Nat → Nat) (t1 : Nat) (u : ST) (sz : Nat) {Q : Int32 → ST → Prop} (f_t1 : t1 < 4) (hw : wX3_passCondition t1 u Q) : Met l yX3_passCondition (wM yX3_passCondition cX3_passCondition 2 (some .boolean)) (kRm 3) (kPc D (cW cy ad) cy u sz [.ref (ad 1), .ref (aN ad t1)]) (kQi D (cW cy ad) cy (va_A (cW cy ad u) sz) Q) 0 0 (va_A (cW cy ad u) sz) := by
  refine kMet pn_X3_passCondition (Nat.le_of_ble_eq_true rfl) (fun p e s m below meth c ls hsz C hr hlk hex h hl => ?_)
  have hl : lv_has ls 2 [(0, .ref (ad 1)), (1, .ref (aN ad t1))] := hl
  obtain ⟨⟨hx, hb, hml, hown, hts⟩, hK, hA⟩ := id C
  unfold wX3_passCondition at hw
  have h : kH D (cW cy ad) (va_A (cW cy ad u) sz) s u s.heap [] := h
  refine lv_aload_n hx hb dX3_passCondition_0 rfl (lv_at hl 0 rfl) ?_
  refine kVi (As := []) (rest := []) C h (cwV 0 hts (gd_V wi_ml_X3_34 wi_im_X3_passName wi_se_X3_passName wi_in_X3 wi_co_X3_passName) rfl rfl rfl hd_X3_passName ⟨Nat.le_of_ble_eq_true rfl, Nat.le_of_ble_eq_true rfl⟩) 1 rfl rfl rfl (mX3_passName l D cy ad  _ _ hw) rfl hl.1 rfl (Nat.le_of_ble_eq_true rfl) ⟨Nat.zero_le _, Nat.zero_le _⟩ dX3_passCondition_1 (fun r_1 u_2 H locs hw h => ?_)
  refine lv_if_ne (tgt := 9) hx hb dX3_passCondition_4 (by decide) (fun c_4 => ?_) (fun c_4 => ?_)
  · have hw := hw.1 c_4
    refine lv_aload_n hx hb dX3_passCondition_9 rfl (lv_at hl 1 rfl) ?_
    refine lv_aload_n hx hb dX3_passCondition_10 rfl (lv_at hl 0 rfl) ?_
    refine kget C h 1 rfl rfl inBX3 4 (Nat.le_of_ble_eq_true rfl) wi_fl_X3_69 rfl dX3_passCondition_11 ?_
    refine kVi (As := [.long (gJ u_2 0)]) (rest := []) C h (cwV 1 hts (gd_V wi_ml_X3_90 wi_im_X1_find wi_se_X1_find wi_in_X1 wi_co_X1_find) rfl rfl rfl hd_X1_find ⟨Nat.le_of_ble_eq_true rfl, Nat.le_of_ble_eq_true rfl⟩) (4 + t1) (cW_N cy ad u_2 t1 (by omega)) rfl rfl (mX1_find l D cy ad t1 (gJ u_2 0) _ _ (by omega) hw) rfl hl.1 rfl (Nat.le_of_ble_eq_true rfl) ⟨Nat.zero_le _, Nat.zero_le _⟩ dX3_passCondition_14 (fun r_3 u_4 H locs hw h => ?_)
    refine lv_iconst (v := (-1)) hx hb dX3_passCondition_17 (by decide) ?_
    refine lv_icmp_eq (tgt := 31) hx hb dX3_passCondition_18 (by decide) (fun c_18 => ?_) (fun c_18 => ?_)
    · have hw := hw.1 c_18
      refine lv_aload_n hx hb dX3_passCondition_31 rfl (lv_at hl 1 rfl) ?_
      refine lv_aload_n hx hb dX3_passCondition_32 rfl (lv_at hl 0 rfl) ?_
      refine kget C h 1 rfl rfl inBX3 4 (Nat.le_of_ble_eq_true rfl) wi_fl_X3_69 rfl dX3_passCondition_33 ?_
      refine kVi (As := [.long (gJ u_4 0)]) (rest := []) C h (cwV 1 hts (gd_V wi_ml_X3_94 wi_im_X1_add wi_se_X1_add wi_in_X1 wi_co_X1_add) rfl rfl rfl hd_X1_add ⟨Nat.le_of_ble_eq_true rfl, Nat.le_of_ble_eq_true rfl⟩) (4 + t1) (cW_N cy ad u_4 t1 (by omega)) rfl rfl (mX1_add l D cy ad t1 (gJ u_4 0) _ _ (by omega) hw) rfl hl.1 rfl (Nat.le_of_ble_eq_true rfl) ⟨Nat.zero_le _, Nat.zero_le _⟩ dX3_passCondition_36 (fun r_5 u_6 H locs hw h => ?_)
      refine lv_if_ne (tgt := 54) hx hb dX3_passCondition_39 (by decide) (fun c_39 => ?_) (fun c_39 => ?_)
      · have hw := hw.1 c_39
        refine lv_iconst (v := 1) hx hb dX3_passCondition_54 (by decide) ?_
        refine lv_goto (tgt := 59) hx hb dX3_passCondition_55 (by decide) ?_
        exact kretZ C hr hlk h (Or.inr rfl) hw dX3_passCondition_59
      · have hw := hw.2 c_39
        refine lv_aload_n hx hb dX3_passCondition_42 rfl (lv_at hl 0 rfl) ?_
        refine lv_iconst (v := 3) hx hb dX3_passCondition_43 (by decide) ?_
        refine lv_aload_n hx hb dX3_passCondition_44 rfl (lv_at hl 0 rfl) ?_
        refine kget C h 1 rfl rfl inBX3 3 (Nat.le_of_ble_eq_true rfl) wi_fl_X3_66 rfl dX3_passCondition_45 ?_
        refine kVi (As := [.int 3, .int (gI u_6 7)]) (rest := []) C h (cwV 2 hts (gd_V wi_ml_X3_62 wi_im_X3_fail wi_se_X3_fail wi_in_X3 wi_co_X3_fail) rfl rfl rfl hd_X3_fail ⟨Nat.le_of_ble_eq_true rfl, Nat.le_of_ble_eq_true rfl⟩) 1 rfl rfl rfl (mX3_fail l D cy ad 3 (gI u_6 7) _ _ hw) rfl hl.1 rfl (Nat.le_of_ble_eq_true rfl) ⟨Nat.zero_le _, Nat.zero_le _⟩ dX3_passCondition_48 (fun r_7 u_8 H locs hw h => ?_)
        refine lv_if_eq (tgt := 58) hx hb dX3_passCondition_51 (by decide) (fun c_51 => ?_) (fun c_51 => ?_)
        · have hw := hw.1 c_51
          refine lv_iconst (v := 0) hx hb dX3_passCondition_58 (by decide) ?_
          exact kretZ C hr hlk h (Or.inl rfl) hw dX3_passCondition_59
        · have hw := hw.2 c_51
          refine lv_iconst (v := 1) hx hb dX3_passCondition_54 (by decide) ?_
          refine lv_goto (tgt := 59) hx hb dX3_passCondition_55 (by decide) ?_
          exact kretZ C hr hlk h (Or.inr rfl) hw dX3_passCondition_59
    · have hw := hw.2 c_18
      refine lv_aload_n hx hb dX3_passCondition_21 rfl (lv_at hl 0 rfl) ?_
      refine lv_iconst (v := 2) hx hb dX3_passCondition_22 (by decide) ?_
      refine lv_aload_n hx hb dX3_passCondition_23 rfl (lv_at hl 0 rfl) ?_
      refine kget C h 1 rfl rfl inBX3 3 (Nat.le_of_ble_eq_true rfl) wi_fl_X3_66 rfl dX3_passCondition_24 ?_
      refine kVi (As := [.int 2, .int (gI u_4 7)]) (rest := []) C h (cwV 2 hts (gd_V wi_ml_X3_62 wi_im_X3_fail wi_se_X3_fail wi_in_X3 wi_co_X3_fail) rfl rfl rfl hd_X3_fail ⟨Nat.le_of_ble_eq_true rfl, Nat.le_of_ble_eq_true rfl⟩) 1 rfl rfl rfl (mX3_fail l D cy ad 2 (gI u_4 7) _ _ hw) rfl hl.1 rfl (Nat.le_of_ble_eq_true rfl) ⟨Nat.zero_le _, Nat.zero_le _⟩ dX3_passCondition_27 (fun r_9 u_10 H locs hw h => ?_)
      exact kretZ C hr hlk h hw.1 hw.2 dX3_passCondition_30
  · have hw := hw.2 c_4
    refine lv_iconst (v := 0) hx hb dX3_passCondition_7 (by decide) ?_
    exact kretZ C hr hlk h (Or.inl rfl) hw dX3_passCondition_8

def wX3_passConditions_B2 (K2 : Nat → Int32 → ST → Prop) (Q : Int32 → ST → Prop) (t1 : Nat) (x2 : Int32) (u : ST) : Prop :=
  ((16 < x2 → wX3_fail 3 (gI u 7) u (fun r_1 u_2 => ((r_1 = 0 ∨ r_1 = 1) ∧ Q r_1 u_2))) ∧ (¬ 16 < x2 → wX3_passCondition (2 * t1) u (fun r_3 u_4 => ((¬ r_3 = 0 → wX3_look  u_4 (fun r_5 u_6 => ((r_5 = 44 → K2 t1 (x2 + 1) (sI u_6 6 ((gI u_6 6) + 1))) ∧ (¬ r_5 = 44 → wX3_passByte 59 u_6 (fun r_7 u_8 => ((r_7 = 0 ∨ r_7 = 1) ∧ Q r_7 u_8)))))) ∧ (r_3 = 0 → Q 0 u_4)))))
set_option maxHeartbeats 4000000 in
set_option maxRecDepth 100000 in
theorem kX3_passConditions_B2 {p : Program} {l : Launch} {e : Env} {s : State} {m : MethodId} {args : Array Value} {below : List Frame} {meth : Method} {c : Code} {D : va_G} {cy : CY} {A : Nat → Prop} {ad : Nat → Nat} {K2 : Nat → Int32 → ST → Prop} {Q : Int32 → ST → Prop} (C : kC p m c cX3_passConditions 3 s args RX3 D cy A) (hr : meth.sig.returnType = some .boolean) (hlk : meth.locks = false) (g2 : ∀ (t1 : Nat) (x2 : Int32) (u : ST) (H : Heap) (locs : List Loc) (ls : Array Slot), K2 t1 x2 u → t1 < 2 → kH D (cW cy ad) A s u H locs → lv_has ls 3 [(0, .ref (ad 1)), (1, .ref (aT ad t1)), (2, .int x2)] → W p l e (kRm 4) s m args below meth c H locs 0 0 (MQ below (kQi D (cW cy ad) cy A Q) args s 0 0 A) (F0 m 2 ls [])) : ∀ (t1 : Nat) (x2 : Int32) (u : ST) (H : Heap) (locs : List Loc) (ls : Array Slot), wX3_passConditions_B2 K2 Q t1 x2 u → t1 < 2 → kH D (cW cy ad) A s u H locs → lv_has ls 3 [(0, .ref (ad 1)), (1, .ref (aT ad t1)), (2, .int x2)] → W p l e (kRm 4) s m args below meth c H locs 0 0 (MQ below (kQi D (cW cy ad) cy A Q) args s 0 0 A) (F0 m 2 ls []) := by
  intro t1 x2 u H locs ls hw f_t1 h hl
  obtain ⟨⟨hx, hb, hml, hown, hts⟩, hK, hA⟩ := id C
  unfold wX3_passConditions_B2 at hw
  refine lv_iload_n hx hb dX3_passConditions_2 rfl (lv_at hl 2 rfl) ?_
  refine lv_bipush (v := 16) hx hb dX3_passConditions_3 (by decide) ?_
  refine lv_icmp_gt (tgt := 53) hx hb dX3_passConditions_5 (by decide) (fun c_5 => ?_) (fun c_5 => ?_)
  · have hw := hw.1 c_5
    refine lv_aload_n hx hb dX3_passConditions_53 rfl (lv_at hl 0 rfl) ?_
    refine lv_iconst (v := 3) hx hb dX3_passConditions_54 (by decide) ?_
    refine lv_aload_n hx hb dX3_passConditions_55 rfl (lv_at hl 0 rfl) ?_
    refine kget C h 1 rfl rfl inBX3 3 (Nat.le_of_ble_eq_true rfl) wi_fl_X3_66 rfl dX3_passConditions_56 ?_
    refine kVi (As := [.int 3, .int (gI u 7)]) (rest := []) C h (cwV 2 hts (gd_V wi_ml_X3_62 wi_im_X3_fail wi_se_X3_fail wi_in_X3 wi_co_X3_fail) rfl rfl rfl hd_X3_fail ⟨Nat.le_of_ble_eq_true rfl, Nat.le_of_ble_eq_true rfl⟩) 1 rfl rfl rfl (mX3_fail l D cy ad 3 (gI u 7) _ _ hw) rfl hl.1 rfl (Nat.le_of_ble_eq_true rfl) ⟨Nat.zero_le _, Nat.zero_le _⟩ dX3_passConditions_59 (fun r_1 u_2 H locs hw h => ?_)
    exact kretZ C hr hlk h hw.1 hw.2 dX3_passConditions_62
  · have hw := hw.2 c_5
    refine lv_aload_n hx hb dX3_passConditions_8 rfl (lv_at hl 0 rfl) ?_
    refine lv_aload_n hx hb dX3_passConditions_9 rfl (lv_at hl 1 rfl) ?_
    refine kget C h (2 + t1) (cW_T cy ad u t1 (by omega)) rfl inBX2 0 (Nat.le_of_ble_eq_true rfl) wi_fl_X3_78 rfl dX3_passConditions_10 ?_
    refine kVi (As := [.ref (aN ad (2 * t1))]) (rest := []) C h (cwV 1 hts (gd_V wi_ml_X3_82 wi_im_X3_passCondition wi_se_X3_passCondition wi_in_X3 wi_co_X3_passCondition) rfl rfl rfl hd_X3_passCondition ⟨Nat.le_of_ble_eq_true rfl, Nat.le_of_ble_eq_true rfl⟩) 1 rfl rfl rfl (mX3_passCondition l D cy ad (2 * t1) _ _ (by omega) hw) rfl hl.1 rfl (Nat.le_of_ble_eq_true rfl) ⟨Nat.zero_le _, Nat.zero_le _⟩ dX3_passConditions_13 (fun r_3 u_4 H locs hw h => ?_)
    refine lv_if_ne (tgt := 21) hx hb dX3_passConditions_16 (by decide) (fun c_16 => ?_) (fun c_16 => ?_)
    · have hw := hw.1 c_16
      refine lv_aload_n hx hb dX3_passConditions_21 rfl (lv_at hl 0 rfl) ?_
      refine kVi (As := []) (rest := []) C h (cwV 0 hts (gd_V wi_ml_X3_58 wi_im_X3_look wi_se_X3_look wi_in_X3 wi_co_X3_look) rfl rfl rfl hd_X3_look ⟨Nat.le_of_ble_eq_true rfl, Nat.le_of_ble_eq_true rfl⟩) 1 rfl rfl rfl (mX3_look l D cy ad  _ _ hw) rfl hl.1 rfl (Nat.le_of_ble_eq_true rfl) ⟨Nat.zero_le _, Nat.zero_le _⟩ dX3_passConditions_22 (fun r_5 u_6 H locs hw h => ?_)
      refine lv_bipush (v := 44) hx hb dX3_passConditions_25 (by decide) ?_
      refine lv_icmp_eq (tgt := 37) hx hb dX3_passConditions_27 (by decide) (fun c_27 => ?_) (fun c_27 => ?_)
      · have hw := hw.1 c_27
        refine lv_aload_n hx hb dX3_passConditions_37 rfl (lv_at hl 0 rfl) ?_
        refine lv_dup hx hb dX3_passConditions_38 rfl ?_
        refine kget C h 1 rfl rfl inBX3 2 (Nat.le_of_ble_eq_true rfl) wi_fl_X3_23 rfl dX3_passConditions_39 ?_
        refine lv_iconst (v := 1) hx hb dX3_passConditions_42 (by decide) ?_
        refine lv_iadd hx hb dX3_passConditions_43 ?_
        refine kput C h 1 rfl rfl inBX3 tyX3_ok nmX3 2 (Nat.le_of_ble_eq_true rfl) wi_fl_X3_23 rfl rfl rfl (Nat.le_of_ble_eq_true rfl) (cS_TP_2 cy ad u_6 ((gI u_6 6) + 1)) dX3_passConditions_44 (fun H locs h => ?_)
        refine lv_iinc (v := x2 + 1) (lv' := [(2, .int (x2 + 1)), (0, .ref (ad 1)), (1, .ref (aT ad t1))]) hx hb dX3_passConditions_47 hl (k := 2) rfl rfl (by decide) rfl (fun ls hl => ?_)
        refine lv_goto (tgt := 2) hx hb dX3_passConditions_50 (by decide) ?_
        exact g2 t1 (x2 + 1) _ _ _ _ hw (by omega) h (lv_sub hl [1, 2, 0] rfl)
      · have hw := hw.2 c_27
        refine lv_aload_n hx hb dX3_passConditions_30 rfl (lv_at hl 0 rfl) ?_
        refine lv_bipush (v := 59) hx hb dX3_passConditions_31 (by decide) ?_
        refine kVi (As := [.int 59]) (rest := []) C h (cwV 1 hts (gd_V wi_ml_X3_86 wi_im_X3_passByte wi_se_X3_passByte wi_in_X3 wi_co_X3_passByte) rfl rfl rfl hd_X3_passByte ⟨Nat.le_of_ble_eq_true rfl, Nat.le_of_ble_eq_true rfl⟩) 1 rfl rfl rfl (mX3_passByte l D cy ad 59 _ _ hw) rfl hl.1 rfl (Nat.le_of_ble_eq_true rfl) ⟨Nat.zero_le _, Nat.zero_le _⟩ dX3_passConditions_33 (fun r_7 u_8 H locs hw h => ?_)
        exact kretZ C hr hlk h hw.1 hw.2 dX3_passConditions_36
    · have hw := hw.2 c_16
      refine lv_iconst (v := 0) hx hb dX3_passConditions_19 (by decide) ?_
      exact kretZ C hr hlk h (Or.inl rfl) hw dX3_passConditions_20
def wX3_passConditions_L2 (Q : Int32 → ST → Prop) : Nat → Nat → Int32 → ST → Prop
  | 0, _, _, _ => False
  | n + 1, t1, x2, u => wX3_passConditions_B2 (wX3_passConditions_L2 Q n) Q t1 x2 u
set_option maxHeartbeats 4000000 in
theorem kX3_passConditions_L2 {p : Program} {l : Launch} {e : Env} {s : State} {m : MethodId} {args : Array Value} {below : List Frame} {meth : Method} {c : Code} {D : va_G} {cy : CY} {A : Nat → Prop} {ad : Nat → Nat} {Q : Int32 → ST → Prop} (C : kC p m c cX3_passConditions 3 s args RX3 D cy A) (hr : meth.sig.returnType = some .boolean) (hlk : meth.locks = false) : ∀ n : Nat, ∀ (t1 : Nat) (x2 : Int32) (u : ST) (H : Heap) (locs : List Loc) (ls : Array Slot), wX3_passConditions_L2 Q n t1 x2 u → t1 < 2 → kH D (cW cy ad) A s u H locs → lv_has ls 3 [(0, .ref (ad 1)), (1, .ref (aT ad t1)), (2, .int x2)] → W p l e (kRm 4) s m args below meth c H locs 0 0 (MQ below (kQi D (cW cy ad) cy A Q) args s 0 0 A) (F0 m 2 ls []) := by
  intro n
  induction n with
  | zero => intro t1 x2 u H locs ls hw; exact False.elim hw
  | succ n ih => exact kX3_passConditions_B2 C hr hlk ih
def wX3_passConditions (t1 : Nat) (u : ST) (Q : Int32 → ST → Prop) : Prop :=
  (∃ n : Nat, wX3_passConditions_L2 Q n t1 0 u)
set_option maxHeartbeats 4000000 in
set_option maxRecDepth 100000 in
theorem mX3_passConditions (l : Launch) (D : va_G) (cy : CY) (ad : Nat → Nat) (t1 : Nat) (u : ST) (sz : Nat) {Q : Int32 → ST → Prop} (f_t1 : t1 < 2) (hw : wX3_passConditions t1 u Q) : Met l yX3_passConditions (wM yX3_passConditions cX3_passConditions 3 (some .boolean)) (kRm 4) (kPc D (cW cy ad) cy u sz [.ref (ad 1), .ref (aT ad t1)]) (kQi D (cW cy ad) cy (va_A (cW cy ad u) sz) Q) 0 0 (va_A (cW cy ad u) sz) := by
  refine kMet pn_X3_passConditions (Nat.le_of_ble_eq_true rfl) (fun p e s m below meth c ls hsz C hr hlk hex h hl => ?_)
  have hl : lv_has ls 3 [(0, .ref (ad 1)), (1, .ref (aT ad t1))] := hl
  obtain ⟨⟨hx, hb, hml, hown, hts⟩, hK, hA⟩ := id C
  unfold wX3_passConditions at hw
  have h : kH D (cW cy ad) (va_A (cW cy ad u) sz) s u s.heap [] := h
  refine lv_iconst (v := 0) hx hb dX3_passConditions_0 (by decide) ?_
  refine lv_istore_n (lv' := [(2, .int 0), (0, .ref (ad 1)), (1, .ref (aT ad t1))]) hx hb dX3_passConditions_1 rfl hl (by decide) rfl (fun ls hl => ?_)
  obtain ⟨n, hw⟩ := hw
  exact kX3_passConditions_L2 C hr hlk n t1 0 _ _ _ _ hw (by omega) h (lv_sub hl [1, 2, 0] rfl)

def wX3_passAction (t1 : Nat) (u : ST) (Q : Int32 → ST → Prop) : Prop :=
  wX3_passName  u (fun r_1 u_2 => ((¬ r_1 = 0 → wX1_find t1 (gJ u_2 0) u_2 (fun r_3 u_4 => ((¬ r_3 = (-1) → Q 1 u_4) ∧ (r_3 = (-1) → wX1_add t1 (gJ u_4 0) u_4 (fun r_5 u_6 => ((¬ r_5 = 0 → Q 1 u_6) ∧ (r_5 = 0 → wX3_fail 3 (gI u_6 7) u_6 (fun r_7 u_8 => ((r_7 = 0 → Q 0 u_8) ∧ (¬ r_7 = 0 → Q 1 u_8)))))))))) ∧ (r_1 = 0 → Q 0 u_2)))
set_option maxHeartbeats 4000000 in
set_option maxRecDepth 100000 in
theorem mX3_passAction (l : Launch) (D : va_G) (cy : CY) (ad : Nat → Nat) (t1 : Nat) (u : ST) (sz : Nat) {Q : Int32 → ST → Prop} (f_t1 : t1 < 4) (hw : wX3_passAction t1 u Q) : Met l yX3_passAction (wM yX3_passAction cX3_passAction 2 (some .boolean)) (kRm 3) (kPc D (cW cy ad) cy u sz [.ref (ad 1), .ref (aN ad t1)]) (kQi D (cW cy ad) cy (va_A (cW cy ad u) sz) Q) 0 0 (va_A (cW cy ad u) sz) := by
  refine kMet pn_X3_passAction (Nat.le_of_ble_eq_true rfl) (fun p e s m below meth c ls hsz C hr hlk hex h hl => ?_)
  have hl : lv_has ls 2 [(0, .ref (ad 1)), (1, .ref (aN ad t1))] := hl
  obtain ⟨⟨hx, hb, hml, hown, hts⟩, hK, hA⟩ := id C
  unfold wX3_passAction at hw
  have h : kH D (cW cy ad) (va_A (cW cy ad u) sz) s u s.heap [] := h
  refine lv_aload_n hx hb dX3_passAction_0 rfl (lv_at hl 0 rfl) ?_
  refine kVi (As := []) (rest := []) C h (cwV 0 hts (gd_V wi_ml_X3_34 wi_im_X3_passName wi_se_X3_passName wi_in_X3 wi_co_X3_passName) rfl rfl rfl hd_X3_passName ⟨Nat.le_of_ble_eq_true rfl, Nat.le_of_ble_eq_true rfl⟩) 1 rfl rfl rfl (mX3_passName l D cy ad  _ _ hw) rfl hl.1 rfl (Nat.le_of_ble_eq_true rfl) ⟨Nat.zero_le _, Nat.zero_le _⟩ dX3_passAction_1 (fun r_1 u_2 H locs hw h => ?_)
  refine lv_if_ne (tgt := 9) hx hb dX3_passAction_4 (by decide) (fun c_4 => ?_) (fun c_4 => ?_)
  · have hw := hw.1 c_4
    refine lv_aload_n hx hb dX3_passAction_9 rfl (lv_at hl 1 rfl) ?_
    refine lv_aload_n hx hb dX3_passAction_10 rfl (lv_at hl 0 rfl) ?_
    refine kget C h 1 rfl rfl inBX3 4 (Nat.le_of_ble_eq_true rfl) wi_fl_X3_69 rfl dX3_passAction_11 ?_
    refine kVi (As := [.long (gJ u_2 0)]) (rest := []) C h (cwV 1 hts (gd_V wi_ml_X3_90 wi_im_X1_find wi_se_X1_find wi_in_X1 wi_co_X1_find) rfl rfl rfl hd_X1_find ⟨Nat.le_of_ble_eq_true rfl, Nat.le_of_ble_eq_true rfl⟩) (4 + t1) (cW_N cy ad u_2 t1 (by omega)) rfl rfl (mX1_find l D cy ad t1 (gJ u_2 0) _ _ (by omega) hw) rfl hl.1 rfl (Nat.le_of_ble_eq_true rfl) ⟨Nat.zero_le _, Nat.zero_le _⟩ dX3_passAction_14 (fun r_3 u_4 H locs hw h => ?_)
    refine lv_iconst (v := (-1)) hx hb dX3_passAction_17 (by decide) ?_
    refine lv_icmp_ne (tgt := 44) hx hb dX3_passAction_18 (by decide) (fun c_18 => ?_) (fun c_18 => ?_)
    · have hw := hw.1 c_18
      refine lv_iconst (v := 1) hx hb dX3_passAction_44 (by decide) ?_
      refine lv_goto (tgt := 49) hx hb dX3_passAction_45 (by decide) ?_
      exact kretZ C hr hlk h (Or.inr rfl) hw dX3_passAction_49
    · have hw := hw.2 c_18
      refine lv_aload_n hx hb dX3_passAction_21 rfl (lv_at hl 1 rfl) ?_
      refine lv_aload_n hx hb dX3_passAction_22 rfl (lv_at hl 0 rfl) ?_
      refine kget C h 1 rfl rfl inBX3 4 (Nat.le_of_ble_eq_true rfl) wi_fl_X3_69 rfl dX3_passAction_23 ?_
      refine kVi (As := [.long (gJ u_4 0)]) (rest := []) C h (cwV 1 hts (gd_V wi_ml_X3_94 wi_im_X1_add wi_se_X1_add wi_in_X1 wi_co_X1_add) rfl rfl rfl hd_X1_add ⟨Nat.le_of_ble_eq_true rfl, Nat.le_of_ble_eq_true rfl⟩) (4 + t1) (cW_N cy ad u_4 t1 (by omega)) rfl rfl (mX1_add l D cy ad t1 (gJ u_4 0) _ _ (by omega) hw) rfl hl.1 rfl (Nat.le_of_ble_eq_true rfl) ⟨Nat.zero_le _, Nat.zero_le _⟩ dX3_passAction_26 (fun r_5 u_6 H locs hw h => ?_)
      refine lv_if_ne (tgt := 44) hx hb dX3_passAction_29 (by decide) (fun c_29 => ?_) (fun c_29 => ?_)
      · have hw := hw.1 c_29
        refine lv_iconst (v := 1) hx hb dX3_passAction_44 (by decide) ?_
        refine lv_goto (tgt := 49) hx hb dX3_passAction_45 (by decide) ?_
        exact kretZ C hr hlk h (Or.inr rfl) hw dX3_passAction_49
      · have hw := hw.2 c_29
        refine lv_aload_n hx hb dX3_passAction_32 rfl (lv_at hl 0 rfl) ?_
        refine lv_iconst (v := 3) hx hb dX3_passAction_33 (by decide) ?_
        refine lv_aload_n hx hb dX3_passAction_34 rfl (lv_at hl 0 rfl) ?_
        refine kget C h 1 rfl rfl inBX3 3 (Nat.le_of_ble_eq_true rfl) wi_fl_X3_66 rfl dX3_passAction_35 ?_
        refine kVi (As := [.int 3, .int (gI u_6 7)]) (rest := []) C h (cwV 2 hts (gd_V wi_ml_X3_62 wi_im_X3_fail wi_se_X3_fail wi_in_X3 wi_co_X3_fail) rfl rfl rfl hd_X3_fail ⟨Nat.le_of_ble_eq_true rfl, Nat.le_of_ble_eq_true rfl⟩) 1 rfl rfl rfl (mX3_fail l D cy ad 3 (gI u_6 7) _ _ hw) rfl hl.1 rfl (Nat.le_of_ble_eq_true rfl) ⟨Nat.zero_le _, Nat.zero_le _⟩ dX3_passAction_38 (fun r_7 u_8 H locs hw h => ?_)
        refine lv_if_eq (tgt := 48) hx hb dX3_passAction_41 (by decide) (fun c_41 => ?_) (fun c_41 => ?_)
        · have hw := hw.1 c_41
          refine lv_iconst (v := 0) hx hb dX3_passAction_48 (by decide) ?_
          exact kretZ C hr hlk h (Or.inl rfl) hw dX3_passAction_49
        · have hw := hw.2 c_41
          refine lv_iconst (v := 1) hx hb dX3_passAction_44 (by decide) ?_
          refine lv_goto (tgt := 49) hx hb dX3_passAction_45 (by decide) ?_
          exact kretZ C hr hlk h (Or.inr rfl) hw dX3_passAction_49
  · have hw := hw.2 c_4
    refine lv_iconst (v := 0) hx hb dX3_passAction_7 (by decide) ?_
    exact kretZ C hr hlk h (Or.inl rfl) hw dX3_passAction_8

def wX3_passRule_b110 (K7 : Nat → Int32 → Int32 → Int32 → ST → Prop) (Q : Int32 → ST → Prop) (t1 : Nat) (x2 : Int32) (x4 : Int32) (xs0 : Int32) (xs1 : Int32) (u : ST) : Prop :=
  K7 t1 x2 (xs0 ||| xs1) (x4 + 1) (sI u 6 ((gI u 6) + 1))
set_option maxHeartbeats 4000000 in
set_option maxRecDepth 100000 in
theorem kX3_passRule_b110 {p : Program} {l : Launch} {e : Env} {s : State} {m : MethodId} {args : Array Value} {below : List Frame} {meth : Method} {c : Code} {D : va_G} {cy : CY} {A : Nat → Prop} {ad : Nat → Nat} {K7 : Nat → Int32 → Int32 → Int32 → ST → Prop} {Q : Int32 → ST → Prop} (C : kC p m c cX3_passRule 6 s args RX3 D cy A) (hr : meth.sig.returnType = some .boolean) (hlk : meth.locks = false) (g7 : ∀ (t1 : Nat) (x2 : Int32) (x3 : Int32) (x4 : Int32) (u : ST) (H : Heap) (locs : List Loc) (ls : Array Slot), K7 t1 x2 x3 x4 u → t1 < 2 → kH D (cW cy ad) A s u H locs → lv_has ls 6 [(0, .ref (ad 1)), (1, .ref (aT ad t1)), (2, .int x2), (3, .int x3), (4, .int x4)] → W p l e (kRm 4) s m args below meth c H locs 0 0 (MQ below (kQi D (cW cy ad) cy A Q) args s 0 0 A) (F0 m 7 ls [])) : ∀ (t1 : Nat) (x2 : Int32) (x4 : Int32) (xs0 : Int32) (xs1 : Int32) (u : ST) (H : Heap) (locs : List Loc) (ls : Array Slot), wX3_passRule_b110 K7 Q t1 x2 x4 xs0 xs1 u → t1 < 2 → kH D (cW cy ad) A s u H locs → lv_has ls 6 [(0, .ref (ad 1)), (1, .ref (aT ad t1)), (2, .int x2), (4, .int x4)] → W p l e (kRm 4) s m args below meth c H locs 0 0 (MQ below (kQi D (cW cy ad) cy A Q) args s 0 0 A) (F0 m 110 ls [.int xs1, .int xs0]) := by
  intro t1 x2 x4 xs0 xs1 u H locs ls hw f_t1 h hl
  obtain ⟨⟨hx, hb, hml, hown, hts⟩, hK, hA⟩ := id C
  unfold wX3_passRule_b110 at hw
  refine lv_ior hx hb dX3_passRule_110 ?_
  refine lv_istore_n (lv' := [(3, .int (xs0 ||| xs1)), (0, .ref (ad 1)), (1, .ref (aT ad t1)), (2, .int x2), (4, .int x4)]) hx hb dX3_passRule_111 rfl hl (by decide) rfl (fun ls hl => ?_)
  refine lv_aload_n hx hb dX3_passRule_112 rfl (lv_at hl 1 rfl) ?_
  refine lv_dup hx hb dX3_passRule_113 rfl ?_
  refine kget C h 1 rfl rfl inBX3 2 (Nat.le_of_ble_eq_true rfl) wi_fl_X3_23 rfl dX3_passRule_114 ?_
  refine lv_iconst (v := 1) hx hb dX3_passRule_117 (by decide) ?_
  refine lv_iadd hx hb dX3_passRule_118 ?_
  refine kput C h 1 rfl rfl inBX3 tyX3_ok nmX3 2 (Nat.le_of_ble_eq_true rfl) wi_fl_X3_23 rfl rfl rfl (Nat.le_of_ble_eq_true rfl) (cS_TP_2 cy ad u ((gI u 6) + 1)) dX3_passRule_119 (fun H locs h => ?_)
  refine lv_iinc (v := x4 + 1) (lv' := [(4, .int (x4 + 1)), (3, .int (xs0 ||| xs1)), (0, .ref (ad 1)), (1, .ref (aT ad t1)), (2, .int x2)]) hx hb dX3_passRule_122 hl (k := 4) rfl rfl (by decide) rfl (fun ls hl => ?_)
  refine lv_goto (tgt := 7) hx hb dX3_passRule_125 (by decide) ?_
  exact g7 t1 x2 (xs0 ||| xs1) (x4 + 1) _ _ _ _ hw (by omega) h (lv_sub hl [2, 3, 4, 1, 0] rfl)
def wX3_passRule_b92 (K7 : Nat → Int32 → Int32 → Int32 → ST → Prop) (Q : Int32 → ST → Prop) (t1 : Nat) (x3 : Int32) (x4 : Int32) (x5 : Int32) (xs0 : Int32) (xs1 : Int32) (u : ST) : Prop :=
  ((¬ x5 = 78 → wX3_passRule_b110 K7 Q t1 (xs0 ||| xs1) x4 x3 0 u) ∧ (x5 = 78 → wX3_passRule_b110 K7 Q t1 (xs0 ||| xs1) x4 x3 (1 <<< (x4 &&& 31)) u))
set_option maxHeartbeats 4000000 in
set_option maxRecDepth 100000 in
theorem kX3_passRule_b92 {p : Program} {l : Launch} {e : Env} {s : State} {m : MethodId} {args : Array Value} {below : List Frame} {meth : Method} {c : Code} {D : va_G} {cy : CY} {A : Nat → Prop} {ad : Nat → Nat} {K7 : Nat → Int32 → Int32 → Int32 → ST → Prop} {Q : Int32 → ST → Prop} (C : kC p m c cX3_passRule 6 s args RX3 D cy A) (hr : meth.sig.returnType = some .boolean) (hlk : meth.locks = false) (g7 : ∀ (t1 : Nat) (x2 : Int32) (x3 : Int32) (x4 : Int32) (u : ST) (H : Heap) (locs : List Loc) (ls : Array Slot), K7 t1 x2 x3 x4 u → t1 < 2 → kH D (cW cy ad) A s u H locs → lv_has ls 6 [(0, .ref (ad 1)), (1, .ref (aT ad t1)), (2, .int x2), (3, .int x3), (4, .int x4)] → W p l e (kRm 4) s m args below meth c H locs 0 0 (MQ below (kQi D (cW cy ad) cy A Q) args s 0 0 A) (F0 m 7 ls [])) : ∀ (t1 : Nat) (x3 : Int32) (x4 : Int32) (x5 : Int32) (xs0 : Int32) (xs1 : Int32) (u : ST) (H : Heap) (locs : List Loc) (ls : Array Slot), wX3_passRule_b92 K7 Q t1 x3 x4 x5 xs0 xs1 u → t1 < 2 → kH D (cW cy ad) A s u H locs → lv_has ls 6 [(0, .ref (ad 1)), (1, .ref (aT ad t1)), (3, .int x3), (4, .int x4), (5, .int x5)] → W p l e (kRm 4) s m args below meth c H locs 0 0 (MQ below (kQi D (cW cy ad) cy A Q) args s 0 0 A) (F0 m 92 ls [.int xs1, .int xs0]) := by
  intro t1 x3 x4 x5 xs0 xs1 u H locs ls hw f_t1 h hl
  obtain ⟨⟨hx, hb, hml, hown, hts⟩, hK, hA⟩ := id C
  unfold wX3_passRule_b92 at hw
  refine lv_ior hx hb dX3_passRule_92 ?_
  refine lv_istore_n (lv' := [(2, .int (xs0 ||| xs1)), (0, .ref (ad 1)), (1, .ref (aT ad t1)), (3, .int x3), (4, .int x4), (5, .int x5)]) hx hb dX3_passRule_93 rfl hl (by decide) rfl (fun ls hl => ?_)
  refine lv_iload_n hx hb dX3_passRule_94 rfl (lv_at hl 3 rfl) ?_
  refine lv_iload hx hb dX3_passRule_95 (lv_at hl 5 rfl) ?_
  refine lv_bipush (v := 78) hx hb dX3_passRule_97 (by decide) ?_
  refine lv_icmp_ne (tgt := 109) hx hb dX3_passRule_99 (by decide) (fun c_99 => ?_) (fun c_99 => ?_)
  · have hw := hw.1 c_99
    refine lv_iconst (v := 0) hx hb dX3_passRule_109 (by decide) ?_
    exact kX3_passRule_b110 C hr hlk g7 t1 (xs0 ||| xs1) x4 x3 0 _ _ _ _ hw (by omega) h (lv_sub hl [1, 2, 0, 4] rfl)
  · have hw := hw.2 c_99
    refine lv_iconst (v := 1) hx hb dX3_passRule_102 (by decide) ?_
    refine lv_iload hx hb dX3_passRule_103 (lv_at hl 4 rfl) ?_
    refine lv_ishl hx hb dX3_passRule_105 ?_
    refine lv_goto (tgt := 110) hx hb dX3_passRule_106 (by decide) ?_
    exact kX3_passRule_b110 C hr hlk g7 t1 (xs0 ||| xs1) x4 x3 (1 <<< (x4 &&& 31)) _ _ _ _ hw (by omega) h (lv_sub hl [1, 2, 0, 4] rfl)
def wX3_passRule_b56 (K7 : Nat → Int32 → Int32 → Int32 → ST → Prop) (Q : Int32 → ST → Prop) (t1 : Nat) (x2 : Int32) (x3 : Int32) (x4 : Int32) (x5 : Int32) (u : ST) : Prop :=
  (((gI u (10 + t1)) < 256 → ((¬ x5 = 89 → wX3_passRule_b92 K7 Q t1 x3 x4 x5 x2 0 u) ∧ (x5 = 89 → wX3_passRule_b92 K7 Q t1 x3 x4 x5 x2 (1 <<< (x4 &&& 31)) u))) ∧ (¬ (gI u (10 + t1)) < 256 → wX3_fail 3 (gI u 6) u (fun r_1 u_2 => ((r_1 = 0 ∨ r_1 = 1) ∧ Q r_1 u_2))))
set_option maxHeartbeats 4000000 in
set_option maxRecDepth 100000 in
theorem kX3_passRule_b56 {p : Program} {l : Launch} {e : Env} {s : State} {m : MethodId} {args : Array Value} {below : List Frame} {meth : Method} {c : Code} {D : va_G} {cy : CY} {A : Nat → Prop} {ad : Nat → Nat} {K7 : Nat → Int32 → Int32 → Int32 → ST → Prop} {Q : Int32 → ST → Prop} (C : kC p m c cX3_passRule 6 s args RX3 D cy A) (hr : meth.sig.returnType = some .boolean) (hlk : meth.locks = false) (g7 : ∀ (t1 : Nat) (x2 : Int32) (x3 : Int32) (x4 : Int32) (u : ST) (H : Heap) (locs : List Loc) (ls : Array Slot), K7 t1 x2 x3 x4 u → t1 < 2 → kH D (cW cy ad) A s u H locs → lv_has ls 6 [(0, .ref (ad 1)), (1, .ref (aT ad t1)), (2, .int x2), (3, .int x3), (4, .int x4)] → W p l e (kRm 4) s m args below meth c H locs 0 0 (MQ below (kQi D (cW cy ad) cy A Q) args s 0 0 A) (F0 m 7 ls [])) : ∀ (t1 : Nat) (x2 : Int32) (x3 : Int32) (x4 : Int32) (x5 : Int32) (u : ST) (H : Heap) (locs : List Loc) (ls : Array Slot), wX3_passRule_b56 K7 Q t1 x2 x3 x4 x5 u → t1 < 2 → kH D (cW cy ad) A s u H locs → lv_has ls 6 [(0, .ref (ad 1)), (1, .ref (aT ad t1)), (2, .int x2), (3, .int x3), (4, .int x4), (5, .int x5)] → W p l e (kRm 4) s m args below meth c H locs 0 0 (MQ below (kQi D (cW cy ad) cy A Q) args s 0 0 A) (F0 m 56 ls []) := by
  intro t1 x2 x3 x4 x5 u H locs ls hw f_t1 h hl
  obtain ⟨⟨hx, hb, hml, hown, hts⟩, hK, hA⟩ := id C
  unfold wX3_passRule_b56 at hw
  refine lv_aload_n hx hb dX3_passRule_56 rfl (lv_at hl 1 rfl) ?_
  refine kget C h (2 + t1) (cW_T cy ad u t1 (by omega)) rfl inBX2 5 (Nat.le_of_ble_eq_true rfl) wi_fl_X3_103 rfl dX3_passRule_57 ?_
  refine lv_sipush (v := 256) hx hb dX3_passRule_60 (by decide) ?_
  refine lv_icmp_lt (tgt := 76) hx hb dX3_passRule_63 (by decide) (fun c_63 => ?_) (fun c_63 => ?_)
  · have hw := hw.1 c_63
    refine lv_iload_n hx hb dX3_passRule_76 rfl (lv_at hl 2 rfl) ?_
    refine lv_iload hx hb dX3_passRule_77 (lv_at hl 5 rfl) ?_
    refine lv_bipush (v := 89) hx hb dX3_passRule_79 (by decide) ?_
    refine lv_icmp_ne (tgt := 91) hx hb dX3_passRule_81 (by decide) (fun c_81 => ?_) (fun c_81 => ?_)
    · have hw := hw.1 c_81
      refine lv_iconst (v := 0) hx hb dX3_passRule_91 (by decide) ?_
      exact kX3_passRule_b92 C hr hlk g7 t1 x3 x4 x5 x2 0 _ _ _ _ hw (by omega) h (lv_sub hl [0, 1, 3, 4, 5] rfl)
    · have hw := hw.2 c_81
      refine lv_iconst (v := 1) hx hb dX3_passRule_84 (by decide) ?_
      refine lv_iload hx hb dX3_passRule_85 (lv_at hl 4 rfl) ?_
      refine lv_ishl hx hb dX3_passRule_87 ?_
      refine lv_goto (tgt := 92) hx hb dX3_passRule_88 (by decide) ?_
      exact kX3_passRule_b92 C hr hlk g7 t1 x3 x4 x5 x2 (1 <<< (x4 &&& 31)) _ _ _ _ hw (by omega) h (lv_sub hl [0, 1, 3, 4, 5] rfl)
  · have hw := hw.2 c_63
    refine lv_aload_n hx hb dX3_passRule_66 rfl (lv_at hl 0 rfl) ?_
    refine lv_iconst (v := 3) hx hb dX3_passRule_67 (by decide) ?_
    refine lv_aload_n hx hb dX3_passRule_68 rfl (lv_at hl 0 rfl) ?_
    refine kget C h 1 rfl rfl inBX3 2 (Nat.le_of_ble_eq_true rfl) wi_fl_X3_23 rfl dX3_passRule_69 ?_
    refine kVi (As := [.int 3, .int (gI u 6)]) (rest := []) C h (cwV 2 hts (gd_V wi_ml_X3_62 wi_im_X3_fail wi_se_X3_fail wi_in_X3 wi_co_X3_fail) rfl rfl rfl hd_X3_fail ⟨Nat.le_of_ble_eq_true rfl, Nat.le_of_ble_eq_true rfl⟩) 1 rfl rfl rfl (mX3_fail l D cy ad 3 (gI u 6) _ _ hw) rfl hl.1 rfl (Nat.le_of_ble_eq_true rfl) ⟨Nat.zero_le _, Nat.zero_le _⟩ dX3_passRule_72 (fun r_1 u_2 H locs hw h => ?_)
    exact kretZ C hr hlk h hw.1 hw.2 dX3_passRule_75
def wX3_passRule_B7 (K7 : Nat → Int32 → Int32 → Int32 → ST → Prop) (Q : Int32 → ST → Prop) (t1 : Nat) (x2 : Int32) (x3 : Int32) (x4 : Int32) (u : ST) : Prop :=
  (((gI u (12 + (2 * t1))) ≤ x4 → wX3_passName  u (fun r_1 u_2 => ((r_1 = 0 → Q 0 u_2) ∧ (¬ r_1 = 0 → wX3_isWord 964 u_2 (fun r_3 u_4 => ((r_3 = 0 → Q 0 u_4) ∧ (¬ r_3 = 0 → wX3_passAction (2 * t1 + 1) u_4 (fun r_5 u_6 => ((¬ r_5 = 0 → wX1_find (2 * t1 + 1) (gJ u_6 0) u_6 (fun r_7 u_8 => wX2_add t1 x2 x3 r_7 u_8 (fun u_10 => wX3_passByte 59 u_10 (fun r_11 u_12 => ((r_11 = 0 ∨ r_11 = 1) ∧ Q r_11 u_12))))) ∧ (r_5 = 0 → Q 0 u_6)))))))))) ∧ (¬ (gI u (12 + (2 * t1))) ≤ x4 → wX3_look  u (fun r_13 u_14 => ((r_13 = 89 → wX3_passRule_b56 K7 Q t1 x2 x3 x4 r_13 u_14) ∧ (¬ r_13 = 89 → ((r_13 = 78 → wX3_passRule_b56 K7 Q t1 x2 x3 x4 r_13 u_14) ∧ (¬ r_13 = 78 → ((r_13 = 45 → wX3_passRule_b56 K7 Q t1 x2 x3 x4 r_13 u_14) ∧ (¬ r_13 = 45 → wX3_fail 1 (gI u_14 6) u_14 (fun r_15 u_16 => ((r_15 = 0 ∨ r_15 = 1) ∧ Q r_15 u_16)))))))))))
set_option maxHeartbeats 4000000 in
set_option maxRecDepth 100000 in
theorem kX3_passRule_B7 {p : Program} {l : Launch} {e : Env} {s : State} {m : MethodId} {args : Array Value} {below : List Frame} {meth : Method} {c : Code} {D : va_G} {cy : CY} {A : Nat → Prop} {ad : Nat → Nat} {K7 : Nat → Int32 → Int32 → Int32 → ST → Prop} {Q : Int32 → ST → Prop} (C : kC p m c cX3_passRule 6 s args RX3 D cy A) (hr : meth.sig.returnType = some .boolean) (hlk : meth.locks = false) (g7 : ∀ (t1 : Nat) (x2 : Int32) (x3 : Int32) (x4 : Int32) (u : ST) (H : Heap) (locs : List Loc) (ls : Array Slot), K7 t1 x2 x3 x4 u → t1 < 2 → kH D (cW cy ad) A s u H locs → lv_has ls 6 [(0, .ref (ad 1)), (1, .ref (aT ad t1)), (2, .int x2), (3, .int x3), (4, .int x4)] → W p l e (kRm 4) s m args below meth c H locs 0 0 (MQ below (kQi D (cW cy ad) cy A Q) args s 0 0 A) (F0 m 7 ls [])) : ∀ (t1 : Nat) (x2 : Int32) (x3 : Int32) (x4 : Int32) (u : ST) (H : Heap) (locs : List Loc) (ls : Array Slot), wX3_passRule_B7 K7 Q t1 x2 x3 x4 u → t1 < 2 → kH D (cW cy ad) A s u H locs → lv_has ls 6 [(0, .ref (ad 1)), (1, .ref (aT ad t1)), (2, .int x2), (3, .int x3), (4, .int x4)] → W p l e (kRm 4) s m args below meth c H locs 0 0 (MQ below (kQi D (cW cy ad) cy A Q) args s 0 0 A) (F0 m 7 ls []) := by
  intro t1 x2 x3 x4 u H locs ls hw f_t1 h hl
  obtain ⟨⟨hx, hb, hml, hown, hts⟩, hK, hA⟩ := id C
  unfold wX3_passRule_B7 at hw
  refine lv_iload hx hb dX3_passRule_7 (lv_at hl 4 rfl) ?_
  refine lv_aload_n hx hb dX3_passRule_9 rfl (lv_at hl 1 rfl) ?_
  refine kget C h (2 + t1) (cW_T cy ad u t1 (by omega)) rfl inBX2 0 (Nat.le_of_ble_eq_true rfl) wi_fl_X3_78 rfl dX3_passRule_10 ?_
  refine kget C h (4 + (2 * t1)) (cW_N cy ad u (2 * t1) (by omega)) rfl inBX1 1 (Nat.le_of_ble_eq_true rfl) wi_fl_X3_100 rfl dX3_passRule_13 ?_
  refine lv_icmp_ge (tgt := 128) hx hb dX3_passRule_16 (by decide) (fun c_16 => ?_) (fun c_16 => ?_)
  · have hw := hw.1 c_16
    refine lv_aload_n hx hb dX3_passRule_128 rfl (lv_at hl 0 rfl) ?_
    refine kVi (As := []) (rest := []) C h (cwV 0 hts (gd_V wi_ml_X3_34 wi_im_X3_passName wi_se_X3_passName wi_in_X3 wi_co_X3_passName) rfl rfl rfl hd_X3_passName ⟨Nat.le_of_ble_eq_true rfl, Nat.le_of_ble_eq_true rfl⟩) 1 rfl rfl rfl (mX3_passName l D cy ad  _ _ hw) rfl hl.1 rfl (Nat.le_of_ble_eq_true rfl) ⟨Nat.zero_le _, Nat.zero_le _⟩ dX3_passRule_129 (fun r_1 u_2 H locs hw h => ?_)
    refine lv_if_eq (tgt := 156) hx hb dX3_passRule_132 (by decide) (fun c_132 => ?_) (fun c_132 => ?_)
    · have hw := hw.1 c_132
      refine lv_iconst (v := 0) hx hb dX3_passRule_156 (by decide) ?_
      exact kretZ C hr hlk h (Or.inl rfl) hw dX3_passRule_157
    · have hw := hw.2 c_132
      refine lv_aload_n hx hb dX3_passRule_135 rfl (lv_at hl 0 rfl) ?_
      refine lv_ldc2 hx hb hown (hts _ wi_ld_X3_106) dX3_passRule_136 ?_
      refine kVi (As := [.long 964]) (rest := []) C h (cwV 1 hts (gd_V wi_ml_X3_40 wi_im_X3_isWord wi_se_X3_isWord wi_in_X3 wi_co_X3_isWord) rfl rfl rfl hd_X3_isWord ⟨Nat.le_of_ble_eq_true rfl, Nat.le_of_ble_eq_true rfl⟩) 1 rfl rfl rfl (mX3_isWord l D cy ad 964 _ _ hw) rfl hl.1 rfl (Nat.le_of_ble_eq_true rfl) ⟨Nat.zero_le _, Nat.zero_le _⟩ dX3_passRule_139 (fun r_3 u_4 H locs hw h => ?_)
      refine lv_if_eq (tgt := 156) hx hb dX3_passRule_142 (by decide) (fun c_142 => ?_) (fun c_142 => ?_)
      · have hw := hw.1 c_142
        refine lv_iconst (v := 0) hx hb dX3_passRule_156 (by decide) ?_
        exact kretZ C hr hlk h (Or.inl rfl) hw dX3_passRule_157
      · have hw := hw.2 c_142
        refine lv_aload_n hx hb dX3_passRule_145 rfl (lv_at hl 0 rfl) ?_
        refine lv_aload_n hx hb dX3_passRule_146 rfl (lv_at hl 1 rfl) ?_
        refine kget C h (2 + t1) (cW_T cy ad u_4 t1 (by omega)) rfl inBX2 1 (Nat.le_of_ble_eq_true rfl) wi_fl_X3_108 rfl dX3_passRule_147 ?_
        refine kVi (As := [.ref (aN ad (2 * t1 + 1))]) (rest := []) C h (cwV 1 hts (gd_V wi_ml_X3_111 wi_im_X3_passAction wi_se_X3_passAction wi_in_X3 wi_co_X3_passAction) rfl rfl rfl hd_X3_passAction ⟨Nat.le_of_ble_eq_true rfl, Nat.le_of_ble_eq_true rfl⟩) 1 rfl rfl rfl (mX3_passAction l D cy ad (2 * t1 + 1) _ _ (by omega) hw) rfl hl.1 rfl (Nat.le_of_ble_eq_true rfl) ⟨Nat.zero_le _, Nat.zero_le _⟩ dX3_passRule_150 (fun r_5 u_6 H locs hw h => ?_)
        refine lv_if_ne (tgt := 158) hx hb dX3_passRule_153 (by decide) (fun c_153 => ?_) (fun c_153 => ?_)
        · have hw := hw.1 c_153
          refine lv_aload_n hx hb dX3_passRule_158 rfl (lv_at hl 1 rfl) ?_
          refine lv_iload_n hx hb dX3_passRule_159 rfl (lv_at hl 2 rfl) ?_
          refine lv_iload_n hx hb dX3_passRule_160 rfl (lv_at hl 3 rfl) ?_
          refine lv_aload_n hx hb dX3_passRule_161 rfl (lv_at hl 1 rfl) ?_
          refine kget C h (2 + t1) (cW_T cy ad u_6 t1 (by omega)) rfl inBX2 1 (Nat.le_of_ble_eq_true rfl) wi_fl_X3_108 rfl dX3_passRule_162 ?_
          refine lv_aload_n hx hb dX3_passRule_165 rfl (lv_at hl 0 rfl) ?_
          refine kget C h 1 rfl rfl inBX3 4 (Nat.le_of_ble_eq_true rfl) wi_fl_X3_69 rfl dX3_passRule_166 ?_
          refine kVi (As := [.long (gJ u_6 0)]) (rest := [.int x3, .int x2, .ref (aT ad t1)]) C h (cwV 1 hts (gd_V wi_ml_X3_90 wi_im_X1_find wi_se_X1_find wi_in_X1 wi_co_X1_find) rfl rfl rfl hd_X1_find ⟨Nat.le_of_ble_eq_true rfl, Nat.le_of_ble_eq_true rfl⟩) (4 + (2 * t1 + 1)) (cW_N cy ad u_6 (2 * t1 + 1) (by omega)) rfl rfl (mX1_find l D cy ad (2 * t1 + 1) (gJ u_6 0) _ _ (by omega) hw) rfl hl.1 rfl (Nat.le_of_ble_eq_true rfl) ⟨Nat.zero_le _, Nat.zero_le _⟩ dX3_passRule_169 (fun r_7 u_8 H locs hw h => ?_)
          refine kVv (As := [.int x2, .int x3, .int r_7]) (rest := []) C h (cwV 3 hts (gd_V wi_ml_X3_114 wi_im_X2_add wi_se_X2_add wi_in_X2 wi_co_X2_add) rfl rfl rfl hd_X2_add ⟨Nat.le_of_ble_eq_true rfl, Nat.le_of_ble_eq_true rfl⟩) (2 + t1) (cW_T cy ad u_8 t1 (by omega)) rfl rfl (mX2_add l D cy ad t1 x2 x3 r_7 _ _ (by omega) hw) rfl hl.1 rfl (Nat.le_of_ble_eq_true rfl) ⟨Nat.zero_le _, Nat.zero_le _⟩ dX3_passRule_172 (fun u_10 H locs hw h => ?_)
          refine lv_aload_n hx hb dX3_passRule_175 rfl (lv_at hl 0 rfl) ?_
          refine lv_bipush (v := 59) hx hb dX3_passRule_176 (by decide) ?_
          refine kVi (As := [.int 59]) (rest := []) C h (cwV 1 hts (gd_V wi_ml_X3_86 wi_im_X3_passByte wi_se_X3_passByte wi_in_X3 wi_co_X3_passByte) rfl rfl rfl hd_X3_passByte ⟨Nat.le_of_ble_eq_true rfl, Nat.le_of_ble_eq_true rfl⟩) 1 rfl rfl rfl (mX3_passByte l D cy ad 59 _ _ hw) rfl hl.1 rfl (Nat.le_of_ble_eq_true rfl) ⟨Nat.zero_le _, Nat.zero_le _⟩ dX3_passRule_178 (fun r_11 u_12 H locs hw h => ?_)
          exact kretZ C hr hlk h hw.1 hw.2 dX3_passRule_181
        · have hw := hw.2 c_153
          refine lv_iconst (v := 0) hx hb dX3_passRule_156 (by decide) ?_
          exact kretZ C hr hlk h (Or.inl rfl) hw dX3_passRule_157
  · have hw := hw.2 c_16
    refine lv_aload_n hx hb dX3_passRule_19 rfl (lv_at hl 0 rfl) ?_
    refine kVi (As := []) (rest := []) C h (cwV 0 hts (gd_V wi_ml_X3_58 wi_im_X3_look wi_se_X3_look wi_in_X3 wi_co_X3_look) rfl rfl rfl hd_X3_look ⟨Nat.le_of_ble_eq_true rfl, Nat.le_of_ble_eq_true rfl⟩) 1 rfl rfl rfl (mX3_look l D cy ad  _ _ hw) rfl hl.1 rfl (Nat.le_of_ble_eq_true rfl) ⟨Nat.zero_le _, Nat.zero_le _⟩ dX3_passRule_20 (fun r_13 u_14 H locs hw h => ?_)
    refine lv_istore (lv' := [(5, .int r_13), (0, .ref (ad 1)), (1, .ref (aT ad t1)), (2, .int x2), (3, .int x3), (4, .int x4)]) hx hb dX3_passRule_23 hl (by decide) rfl (fun ls hl => ?_)
    refine lv_iload hx hb dX3_passRule_25 (lv_at hl 0 rfl) ?_
    refine lv_bipush (v := 89) hx hb dX3_passRule_27 (by decide) ?_
    refine lv_icmp_eq (tgt := 56) hx hb dX3_passRule_29 (by decide) (fun c_29 => ?_) (fun c_29 => ?_)
    · have hw := hw.1 c_29
      exact kX3_passRule_b56 C hr hlk g7 t1 x2 x3 x4 r_13 _ _ _ _ hw (by omega) h (lv_sub hl [1, 2, 3, 4, 5, 0] rfl)
    · have hw := hw.2 c_29
      refine lv_iload hx hb dX3_passRule_32 (lv_at hl 0 rfl) ?_
      refine lv_bipush (v := 78) hx hb dX3_passRule_34 (by decide) ?_
      refine lv_icmp_eq (tgt := 56) hx hb dX3_passRule_36 (by decide) (fun c_36 => ?_) (fun c_36 => ?_)
      · have hw := hw.1 c_36
        exact kX3_passRule_b56 C hr hlk g7 t1 x2 x3 x4 r_13 _ _ _ _ hw (by omega) h (lv_sub hl [1, 2, 3, 4, 5, 0] rfl)
      · have hw := hw.2 c_36
        refine lv_iload hx hb dX3_passRule_39 (lv_at hl 0 rfl) ?_
        refine lv_bipush (v := 45) hx hb dX3_passRule_41 (by decide) ?_
        refine lv_icmp_eq (tgt := 56) hx hb dX3_passRule_43 (by decide) (fun c_43 => ?_) (fun c_43 => ?_)
        · have hw := hw.1 c_43
          exact kX3_passRule_b56 C hr hlk g7 t1 x2 x3 x4 r_13 _ _ _ _ hw (by omega) h (lv_sub hl [1, 2, 3, 4, 5, 0] rfl)
        · have hw := hw.2 c_43
          refine lv_aload_n hx hb dX3_passRule_46 rfl (lv_at hl 1 rfl) ?_
          refine lv_iconst (v := 1) hx hb dX3_passRule_47 (by decide) ?_
          refine lv_aload_n hx hb dX3_passRule_48 rfl (lv_at hl 1 rfl) ?_
          refine kget C h 1 rfl rfl inBX3 2 (Nat.le_of_ble_eq_true rfl) wi_fl_X3_23 rfl dX3_passRule_49 ?_
          refine kVi (As := [.int 1, .int (gI u_14 6)]) (rest := []) C h (cwV 2 hts (gd_V wi_ml_X3_62 wi_im_X3_fail wi_se_X3_fail wi_in_X3 wi_co_X3_fail) rfl rfl rfl hd_X3_fail ⟨Nat.le_of_ble_eq_true rfl, Nat.le_of_ble_eq_true rfl⟩) 1 rfl rfl rfl (mX3_fail l D cy ad 1 (gI u_14 6) _ _ hw) rfl hl.1 rfl (Nat.le_of_ble_eq_true rfl) ⟨Nat.zero_le _, Nat.zero_le _⟩ dX3_passRule_52 (fun r_15 u_16 H locs hw h => ?_)
          exact kretZ C hr hlk h hw.1 hw.2 dX3_passRule_55
def wX3_passRule_L7 (Q : Int32 → ST → Prop) : Nat → Nat → Int32 → Int32 → Int32 → ST → Prop
  | 0, _, _, _, _, _ => False
  | n + 1, t1, x2, x3, x4, u => wX3_passRule_B7 (wX3_passRule_L7 Q n) Q t1 x2 x3 x4 u
set_option maxHeartbeats 4000000 in
theorem kX3_passRule_L7 {p : Program} {l : Launch} {e : Env} {s : State} {m : MethodId} {args : Array Value} {below : List Frame} {meth : Method} {c : Code} {D : va_G} {cy : CY} {A : Nat → Prop} {ad : Nat → Nat} {Q : Int32 → ST → Prop} (C : kC p m c cX3_passRule 6 s args RX3 D cy A) (hr : meth.sig.returnType = some .boolean) (hlk : meth.locks = false) : ∀ n : Nat, ∀ (t1 : Nat) (x2 : Int32) (x3 : Int32) (x4 : Int32) (u : ST) (H : Heap) (locs : List Loc) (ls : Array Slot), wX3_passRule_L7 Q n t1 x2 x3 x4 u → t1 < 2 → kH D (cW cy ad) A s u H locs → lv_has ls 6 [(0, .ref (ad 1)), (1, .ref (aT ad t1)), (2, .int x2), (3, .int x3), (4, .int x4)] → W p l e (kRm 4) s m args below meth c H locs 0 0 (MQ below (kQi D (cW cy ad) cy A Q) args s 0 0 A) (F0 m 7 ls []) := by
  intro n
  induction n with
  | zero => intro t1 x2 x3 x4 u H locs ls hw; exact False.elim hw
  | succ n ih => exact kX3_passRule_B7 C hr hlk ih
def wX3_passRule (t1 : Nat) (u : ST) (Q : Int32 → ST → Prop) : Prop :=
  (∃ n : Nat, wX3_passRule_L7 Q n t1 0 0 0 u)
set_option maxHeartbeats 4000000 in
set_option maxRecDepth 100000 in
theorem mX3_passRule (l : Launch) (D : va_G) (cy : CY) (ad : Nat → Nat) (t1 : Nat) (u : ST) (sz : Nat) {Q : Int32 → ST → Prop} (f_t1 : t1 < 2) (hw : wX3_passRule t1 u Q) : Met l yX3_passRule (wM yX3_passRule cX3_passRule 6 (some .boolean)) (kRm 4) (kPc D (cW cy ad) cy u sz [.ref (ad 1), .ref (aT ad t1)]) (kQi D (cW cy ad) cy (va_A (cW cy ad u) sz) Q) 0 0 (va_A (cW cy ad u) sz) := by
  refine kMet pn_X3_passRule (Nat.le_of_ble_eq_true rfl) (fun p e s m below meth c ls hsz C hr hlk hex h hl => ?_)
  have hl : lv_has ls 6 [(0, .ref (ad 1)), (1, .ref (aT ad t1))] := hl
  obtain ⟨⟨hx, hb, hml, hown, hts⟩, hK, hA⟩ := id C
  unfold wX3_passRule at hw
  have h : kH D (cW cy ad) (va_A (cW cy ad u) sz) s u s.heap [] := h
  refine lv_iconst (v := 0) hx hb dX3_passRule_0 (by decide) ?_
  refine lv_istore_n (lv' := [(2, .int 0), (0, .ref (ad 1)), (1, .ref (aT ad t1))]) hx hb dX3_passRule_1 rfl hl (by decide) rfl (fun ls hl => ?_)
  refine lv_iconst (v := 0) hx hb dX3_passRule_2 (by decide) ?_
  refine lv_istore_n (lv' := [(3, .int 0), (2, .int 0), (0, .ref (ad 1)), (1, .ref (aT ad t1))]) hx hb dX3_passRule_3 rfl hl (by decide) rfl (fun ls hl => ?_)
  refine lv_iconst (v := 0) hx hb dX3_passRule_4 (by decide) ?_
  refine lv_istore (lv' := [(4, .int 0), (3, .int 0), (2, .int 0), (0, .ref (ad 1)), (1, .ref (aT ad t1))]) hx hb dX3_passRule_5 hl (by decide) rfl (fun ls hl => ?_)
  obtain ⟨n, hw⟩ := hw
  exact kX3_passRule_L7 C hr hlk n t1 0 0 0 _ _ _ _ hw (by omega) h (lv_sub hl [3, 4, 2, 1, 0] rfl)

def wX3_passRules_b23 (K2 : Nat → Int32 → ST → Prop) (Q : Int32 → ST → Prop) (t1 : Nat) (x2 : Int32) (u : ST) : Prop :=
  wX3_passRule t1 u (fun r_1 u_2 => ((¬ r_1 = 0 → K2 t1 (x2 + 1) u_2) ∧ (r_1 = 0 → Q 0 u_2)))
set_option maxHeartbeats 4000000 in
set_option maxRecDepth 100000 in
theorem kX3_passRules_b23 {p : Program} {l : Launch} {e : Env} {s : State} {m : MethodId} {args : Array Value} {below : List Frame} {meth : Method} {c : Code} {D : va_G} {cy : CY} {A : Nat → Prop} {ad : Nat → Nat} {K2 : Nat → Int32 → ST → Prop} {Q : Int32 → ST → Prop} (C : kC p m c cX3_passRules 3 s args RX3 D cy A) (hr : meth.sig.returnType = some .boolean) (hlk : meth.locks = false) (g2 : ∀ (t1 : Nat) (x2 : Int32) (u : ST) (H : Heap) (locs : List Loc) (ls : Array Slot), K2 t1 x2 u → t1 < 2 → kH D (cW cy ad) A s u H locs → lv_has ls 3 [(0, .ref (ad 1)), (1, .ref (aT ad t1)), (2, .int x2)] → W p l e (kRm 5) s m args below meth c H locs 0 0 (MQ below (kQi D (cW cy ad) cy A Q) args s 0 0 A) (F0 m 2 ls [])) : ∀ (t1 : Nat) (x2 : Int32) (u : ST) (H : Heap) (locs : List Loc) (ls : Array Slot), wX3_passRules_b23 K2 Q t1 x2 u → t1 < 2 → kH D (cW cy ad) A s u H locs → lv_has ls 3 [(0, .ref (ad 1)), (1, .ref (aT ad t1)), (2, .int x2)] → W p l e (kRm 5) s m args below meth c H locs 0 0 (MQ below (kQi D (cW cy ad) cy A Q) args s 0 0 A) (F0 m 23 ls []) := by
  intro t1 x2 u H locs ls hw f_t1 h hl
  obtain ⟨⟨hx, hb, hml, hown, hts⟩, hK, hA⟩ := id C
  unfold wX3_passRules_b23 at hw
  refine lv_aload_n hx hb dX3_passRules_23 rfl (lv_at hl 0 rfl) ?_
  refine lv_aload_n hx hb dX3_passRules_24 rfl (lv_at hl 1 rfl) ?_
  refine kVi (As := [.ref (aT ad t1)]) (rest := []) C h (cwV 1 hts (gd_V wi_ml_X3_97 wi_im_X3_passRule wi_se_X3_passRule wi_in_X3 wi_co_X3_passRule) rfl rfl rfl hd_X3_passRule ⟨Nat.le_of_ble_eq_true rfl, Nat.le_of_ble_eq_true rfl⟩) 1 rfl rfl rfl (mX3_passRule l D cy ad t1 _ _ (by omega) hw) rfl hl.1 rfl (Nat.le_of_ble_eq_true rfl) ⟨Nat.zero_le _, Nat.zero_le _⟩ dX3_passRules_25 (fun r_1 u_2 H locs hw h => ?_)
  refine lv_if_ne (tgt := 33) hx hb dX3_passRules_28 (by decide) (fun c_28 => ?_) (fun c_28 => ?_)
  · have hw := hw.1 c_28
    refine lv_iinc (v := x2 + 1) (lv' := [(2, .int (x2 + 1)), (0, .ref (ad 1)), (1, .ref (aT ad t1))]) hx hb dX3_passRules_33 hl (k := 2) rfl rfl (by decide) rfl (fun ls hl => ?_)
    refine lv_goto (tgt := 2) hx hb dX3_passRules_36 (by decide) ?_
    exact g2 t1 (x2 + 1) _ _ _ _ hw (by omega) h (lv_sub hl [1, 2, 0] rfl)
  · have hw := hw.2 c_28
    refine lv_iconst (v := 0) hx hb dX3_passRules_31 (by decide) ?_
    exact kretZ C hr hlk h (Or.inl rfl) hw dX3_passRules_32
def wX3_passRules_B2 (K2 : Nat → Int32 → ST → Prop) (Q : Int32 → ST → Prop) (t1 : Nat) (x2 : Int32) (u : ST) : Prop :=
  ((256 < x2 → wX3_fail 3 (gI u 6) u (fun r_1 u_2 => ((r_1 = 0 ∨ r_1 = 1) ∧ Q r_1 u_2))) ∧ (¬ 256 < x2 → ((x2 ≤ 0 → wX3_passRules_b23 K2 Q t1 x2 u) ∧ (¬ x2 ≤ 0 → wX3_look  u (fun r_3 u_4 => ((¬ r_3 = (-1) → wX3_passRules_b23 K2 Q t1 x2 u_4) ∧ (r_3 = (-1) → Q 1 u_4)))))))
set_option maxHeartbeats 4000000 in
set_option maxRecDepth 100000 in
theorem kX3_passRules_B2 {p : Program} {l : Launch} {e : Env} {s : State} {m : MethodId} {args : Array Value} {below : List Frame} {meth : Method} {c : Code} {D : va_G} {cy : CY} {A : Nat → Prop} {ad : Nat → Nat} {K2 : Nat → Int32 → ST → Prop} {Q : Int32 → ST → Prop} (C : kC p m c cX3_passRules 3 s args RX3 D cy A) (hr : meth.sig.returnType = some .boolean) (hlk : meth.locks = false) (g2 : ∀ (t1 : Nat) (x2 : Int32) (u : ST) (H : Heap) (locs : List Loc) (ls : Array Slot), K2 t1 x2 u → t1 < 2 → kH D (cW cy ad) A s u H locs → lv_has ls 3 [(0, .ref (ad 1)), (1, .ref (aT ad t1)), (2, .int x2)] → W p l e (kRm 5) s m args below meth c H locs 0 0 (MQ below (kQi D (cW cy ad) cy A Q) args s 0 0 A) (F0 m 2 ls [])) : ∀ (t1 : Nat) (x2 : Int32) (u : ST) (H : Heap) (locs : List Loc) (ls : Array Slot), wX3_passRules_B2 K2 Q t1 x2 u → t1 < 2 → kH D (cW cy ad) A s u H locs → lv_has ls 3 [(0, .ref (ad 1)), (1, .ref (aT ad t1)), (2, .int x2)] → W p l e (kRm 5) s m args below meth c H locs 0 0 (MQ below (kQi D (cW cy ad) cy A Q) args s 0 0 A) (F0 m 2 ls []) := by
  intro t1 x2 u H locs ls hw f_t1 h hl
  obtain ⟨⟨hx, hb, hml, hown, hts⟩, hK, hA⟩ := id C
  unfold wX3_passRules_B2 at hw
  refine lv_iload_n hx hb dX3_passRules_2 rfl (lv_at hl 2 rfl) ?_
  refine lv_sipush (v := 256) hx hb dX3_passRules_3 (by decide) ?_
  refine lv_icmp_gt (tgt := 39) hx hb dX3_passRules_6 (by decide) (fun c_6 => ?_) (fun c_6 => ?_)
  · have hw := hw.1 c_6
    refine lv_aload_n hx hb dX3_passRules_39 rfl (lv_at hl 0 rfl) ?_
    refine lv_iconst (v := 3) hx hb dX3_passRules_40 (by decide) ?_
    refine lv_aload_n hx hb dX3_passRules_41 rfl (lv_at hl 0 rfl) ?_
    refine kget C h 1 rfl rfl inBX3 2 (Nat.le_of_ble_eq_true rfl) wi_fl_X3_23 rfl dX3_passRules_42 ?_
    refine kVi (As := [.int 3, .int (gI u 6)]) (rest := []) C h (cwV 2 hts (gd_V wi_ml_X3_62 wi_im_X3_fail wi_se_X3_fail wi_in_X3 wi_co_X3_fail) rfl rfl rfl hd_X3_fail ⟨Nat.le_of_ble_eq_true rfl, Nat.le_of_ble_eq_true rfl⟩) 1 rfl rfl rfl (mX3_fail l D cy ad 3 (gI u 6) _ _ hw) rfl hl.1 rfl (Nat.le_of_ble_eq_true rfl) ⟨Nat.zero_le _, Nat.zero_le _⟩ dX3_passRules_45 (fun r_1 u_2 H locs hw h => ?_)
    exact kretZ C hr hlk h hw.1 hw.2 dX3_passRules_48
  · have hw := hw.2 c_6
    refine lv_iload_n hx hb dX3_passRules_9 rfl (lv_at hl 2 rfl) ?_
    refine lv_if_le (tgt := 23) hx hb dX3_passRules_10 (by decide) (fun c_10 => ?_) (fun c_10 => ?_)
    · have hw := hw.1 c_10
      exact kX3_passRules_b23 C hr hlk g2 t1 x2 _ _ _ _ hw (by omega) h (lv_sub hl [0, 1, 2] rfl)
    · have hw := hw.2 c_10
      refine lv_aload_n hx hb dX3_passRules_13 rfl (lv_at hl 0 rfl) ?_
      refine kVi (As := []) (rest := []) C h (cwV 0 hts (gd_V wi_ml_X3_58 wi_im_X3_look wi_se_X3_look wi_in_X3 wi_co_X3_look) rfl rfl rfl hd_X3_look ⟨Nat.le_of_ble_eq_true rfl, Nat.le_of_ble_eq_true rfl⟩) 1 rfl rfl rfl (mX3_look l D cy ad  _ _ hw) rfl hl.1 rfl (Nat.le_of_ble_eq_true rfl) ⟨Nat.zero_le _, Nat.zero_le _⟩ dX3_passRules_14 (fun r_3 u_4 H locs hw h => ?_)
      refine lv_iconst (v := (-1)) hx hb dX3_passRules_17 (by decide) ?_
      refine lv_icmp_ne (tgt := 23) hx hb dX3_passRules_18 (by decide) (fun c_18 => ?_) (fun c_18 => ?_)
      · have hw := hw.1 c_18
        exact kX3_passRules_b23 C hr hlk g2 t1 x2 _ _ _ _ hw (by omega) h (lv_sub hl [0, 1, 2] rfl)
      · have hw := hw.2 c_18
        refine lv_iconst (v := 1) hx hb dX3_passRules_21 (by decide) ?_
        exact kretZ C hr hlk h (Or.inr rfl) hw dX3_passRules_22
def wX3_passRules_L2 (Q : Int32 → ST → Prop) : Nat → Nat → Int32 → ST → Prop
  | 0, _, _, _ => False
  | n + 1, t1, x2, u => wX3_passRules_B2 (wX3_passRules_L2 Q n) Q t1 x2 u
set_option maxHeartbeats 4000000 in
theorem kX3_passRules_L2 {p : Program} {l : Launch} {e : Env} {s : State} {m : MethodId} {args : Array Value} {below : List Frame} {meth : Method} {c : Code} {D : va_G} {cy : CY} {A : Nat → Prop} {ad : Nat → Nat} {Q : Int32 → ST → Prop} (C : kC p m c cX3_passRules 3 s args RX3 D cy A) (hr : meth.sig.returnType = some .boolean) (hlk : meth.locks = false) : ∀ n : Nat, ∀ (t1 : Nat) (x2 : Int32) (u : ST) (H : Heap) (locs : List Loc) (ls : Array Slot), wX3_passRules_L2 Q n t1 x2 u → t1 < 2 → kH D (cW cy ad) A s u H locs → lv_has ls 3 [(0, .ref (ad 1)), (1, .ref (aT ad t1)), (2, .int x2)] → W p l e (kRm 5) s m args below meth c H locs 0 0 (MQ below (kQi D (cW cy ad) cy A Q) args s 0 0 A) (F0 m 2 ls []) := by
  intro n
  induction n with
  | zero => intro t1 x2 u H locs ls hw; exact False.elim hw
  | succ n ih => exact kX3_passRules_B2 C hr hlk ih
def wX3_passRules (t1 : Nat) (u : ST) (Q : Int32 → ST → Prop) : Prop :=
  (∃ n : Nat, wX3_passRules_L2 Q n t1 0 u)
set_option maxHeartbeats 4000000 in
set_option maxRecDepth 100000 in
theorem mX3_passRules (l : Launch) (D : va_G) (cy : CY) (ad : Nat → Nat) (t1 : Nat) (u : ST) (sz : Nat) {Q : Int32 → ST → Prop} (f_t1 : t1 < 2) (hw : wX3_passRules t1 u Q) : Met l yX3_passRules (wM yX3_passRules cX3_passRules 3 (some .boolean)) (kRm 5) (kPc D (cW cy ad) cy u sz [.ref (ad 1), .ref (aT ad t1)]) (kQi D (cW cy ad) cy (va_A (cW cy ad u) sz) Q) 0 0 (va_A (cW cy ad u) sz) := by
  refine kMet pn_X3_passRules (Nat.le_of_ble_eq_true rfl) (fun p e s m below meth c ls hsz C hr hlk hex h hl => ?_)
  have hl : lv_has ls 3 [(0, .ref (ad 1)), (1, .ref (aT ad t1))] := hl
  obtain ⟨⟨hx, hb, hml, hown, hts⟩, hK, hA⟩ := id C
  unfold wX3_passRules at hw
  have h : kH D (cW cy ad) (va_A (cW cy ad u) sz) s u s.heap [] := h
  refine lv_iconst (v := 0) hx hb dX3_passRules_0 (by decide) ?_
  refine lv_istore_n (lv' := [(2, .int 0), (0, .ref (ad 1)), (1, .ref (aT ad t1))]) hx hb dX3_passRules_1 rfl hl (by decide) rfl (fun ls hl => ?_)
  obtain ⟨n, hw⟩ := hw
  exact kX3_passRules_L2 C hr hlk n t1 0 _ _ _ _ hw (by omega) h (lv_sub hl [1, 2, 0] rfl)

def wX3_parse (t1 : Nat) (u : ST) (Q : Int32 → ST → Prop) : Prop :=
  wX2_clear t1 (sI (sI u 6 0) 8 0) (fun u_2 => wX3_passName  u_2 (fun r_3 u_4 => ((r_3 = 0 → Q 0 u_4) ∧ (¬ r_3 = 0 → wX3_isWord 393 u_4 (fun r_5 u_6 => ((r_5 = 0 → Q 0 u_6) ∧ (¬ r_5 = 0 → wX3_passConditions t1 u_6 (fun r_7 u_8 => ((r_7 = 0 → Q 0 u_8) ∧ (¬ r_7 = 0 → wX3_passRules t1 u_8 (fun r_9 u_10 => ((r_9 = 0 → Q 0 u_10) ∧ (¬ r_9 = 0 → Q 1 u_10)))))))))))))
set_option maxHeartbeats 4000000 in
set_option maxRecDepth 100000 in
theorem mX3_parse (l : Launch) (D : va_G) (cy : CY) (ad : Nat → Nat) (t1 : Nat) (u : ST) (sz : Nat) {Q : Int32 → ST → Prop} (f_t1 : t1 < 2) (hw : wX3_parse t1 u Q) : Met l yX3_parse (wM yX3_parse cX3_parse 2 (some .boolean)) (kRm 6) (kPc D (cW cy ad) cy u sz [.ref (ad 1), .ref (aT ad t1)]) (kQi D (cW cy ad) cy (va_A (cW cy ad u) sz) Q) 0 0 (va_A (cW cy ad u) sz) := by
  refine kMet pn_X3_parse (Nat.le_of_ble_eq_true rfl) (fun p e s m below meth c ls hsz C hr hlk hex h hl => ?_)
  have hl : lv_has ls 2 [(0, .ref (ad 1)), (1, .ref (aT ad t1))] := hl
  obtain ⟨⟨hx, hb, hml, hown, hts⟩, hK, hA⟩ := id C
  unfold wX3_parse at hw
  have h : kH D (cW cy ad) (va_A (cW cy ad u) sz) s u s.heap [] := h
  refine lv_aload_n hx hb dX3_parse_0 rfl (lv_at hl 0 rfl) ?_
  refine lv_iconst (v := 0) hx hb dX3_parse_1 (by decide) ?_
  refine kput C h 1 rfl rfl inBX3 tyX3_ok nmX3 2 (Nat.le_of_ble_eq_true rfl) wi_fl_X3_23 rfl rfl rfl (Nat.le_of_ble_eq_true rfl) (cS_TP_2 cy ad u 0) dX3_parse_2 (fun H locs h => ?_)
  refine lv_aload_n hx hb dX3_parse_5 rfl (lv_at hl 0 rfl) ?_
  refine lv_iconst (v := 0) hx hb dX3_parse_6 (by decide) ?_
  refine kput C h 1 rfl rfl inBX3 tyX3_ok nmX3 5 (Nat.le_of_ble_eq_true rfl) wi_fl_X3_26 rfl rfl rfl (Nat.le_of_ble_eq_true rfl) (cS_TP_5 cy ad (sI u 6 0) 0) dX3_parse_7 (fun H locs h => ?_)
  refine lv_aload_n hx hb dX3_parse_10 rfl (lv_at hl 1 rfl) ?_
  refine kVv (As := []) (rest := []) C h (cwV 0 hts (gd_V wi_ml_X3_29 wi_im_X2_clear wi_se_X2_clear wi_in_X2 wi_co_X2_clear) rfl rfl rfl hd_X2_clear ⟨Nat.le_of_ble_eq_true rfl, Nat.le_of_ble_eq_true rfl⟩) (2 + t1) (cW_T cy ad (sI (sI u 6 0) 8 0) t1 (by omega)) rfl rfl (mX2_clear l D cy ad t1 _ _ (by omega) hw) rfl hl.1 rfl (Nat.le_of_ble_eq_true rfl) ⟨Nat.zero_le _, Nat.zero_le _⟩ dX3_parse_11 (fun u_2 H locs hw h => ?_)
  refine lv_aload_n hx hb dX3_parse_14 rfl (lv_at hl 0 rfl) ?_
  refine kVi (As := []) (rest := []) C h (cwV 0 hts (gd_V wi_ml_X3_34 wi_im_X3_passName wi_se_X3_passName wi_in_X3 wi_co_X3_passName) rfl rfl rfl hd_X3_passName ⟨Nat.le_of_ble_eq_true rfl, Nat.le_of_ble_eq_true rfl⟩) 1 rfl rfl rfl (mX3_passName l D cy ad  _ _ hw) rfl hl.1 rfl (Nat.le_of_ble_eq_true rfl) ⟨Nat.zero_le _, Nat.zero_le _⟩ dX3_parse_15 (fun r_3 u_4 H locs hw h => ?_)
  refine lv_if_eq (tgt := 51) hx hb dX3_parse_18 (by decide) (fun c_18 => ?_) (fun c_18 => ?_)
  · have hw := hw.1 c_18
    refine lv_iconst (v := 0) hx hb dX3_parse_51 (by decide) ?_
    exact kretZ C hr hlk h (Or.inl rfl) hw dX3_parse_52
  · have hw := hw.2 c_18
    refine lv_aload_n hx hb dX3_parse_21 rfl (lv_at hl 0 rfl) ?_
    refine lv_ldc2 hx hb hown (hts _ wi_ld_X3_38) dX3_parse_22 ?_
    refine kVi (As := [.long 393]) (rest := []) C h (cwV 1 hts (gd_V wi_ml_X3_40 wi_im_X3_isWord wi_se_X3_isWord wi_in_X3 wi_co_X3_isWord) rfl rfl rfl hd_X3_isWord ⟨Nat.le_of_ble_eq_true rfl, Nat.le_of_ble_eq_true rfl⟩) 1 rfl rfl rfl (mX3_isWord l D cy ad 393 _ _ hw) rfl hl.1 rfl (Nat.le_of_ble_eq_true rfl) ⟨Nat.zero_le _, Nat.zero_le _⟩ dX3_parse_25 (fun r_5 u_6 H locs hw h => ?_)
    refine lv_if_eq (tgt := 51) hx hb dX3_parse_28 (by decide) (fun c_28 => ?_) (fun c_28 => ?_)
    · have hw := hw.1 c_28
      refine lv_iconst (v := 0) hx hb dX3_parse_51 (by decide) ?_
      exact kretZ C hr hlk h (Or.inl rfl) hw dX3_parse_52
    · have hw := hw.2 c_28
      refine lv_aload_n hx hb dX3_parse_31 rfl (lv_at hl 0 rfl) ?_
      refine lv_aload_n hx hb dX3_parse_32 rfl (lv_at hl 1 rfl) ?_
      refine kVi (As := [.ref (aT ad t1)]) (rest := []) C h (cwV 1 hts (gd_V wi_ml_X3_44 wi_im_X3_passConditions wi_se_X3_passConditions wi_in_X3 wi_co_X3_passConditions) rfl rfl rfl hd_X3_passConditions ⟨Nat.le_of_ble_eq_true rfl, Nat.le_of_ble_eq_true rfl⟩) 1 rfl rfl rfl (mX3_passConditions l D cy ad t1 _ _ (by omega) hw) rfl hl.1 rfl (Nat.le_of_ble_eq_true rfl) ⟨Nat.zero_le _, Nat.zero_le _⟩ dX3_parse_33 (fun r_7 u_8 H locs hw h => ?_)
      refine lv_if_eq (tgt := 51) hx hb dX3_parse_36 (by decide) (fun c_36 => ?_) (fun c_36 => ?_)
      · have hw := hw.1 c_36
        refine lv_iconst (v := 0) hx hb dX3_parse_51 (by decide) ?_
        exact kretZ C hr hlk h (Or.inl rfl) hw dX3_parse_52
      · have hw := hw.2 c_36
        refine lv_aload_n hx hb dX3_parse_39 rfl (lv_at hl 0 rfl) ?_
        refine lv_aload_n hx hb dX3_parse_40 rfl (lv_at hl 1 rfl) ?_
        refine kVi (As := [.ref (aT ad t1)]) (rest := []) C h (cwV 1 hts (gd_V wi_ml_X3_48 wi_im_X3_passRules wi_se_X3_passRules wi_in_X3 wi_co_X3_passRules) rfl rfl rfl hd_X3_passRules ⟨Nat.le_of_ble_eq_true rfl, Nat.le_of_ble_eq_true rfl⟩) 1 rfl rfl rfl (mX3_passRules l D cy ad t1 _ _ (by omega) hw) rfl hl.1 rfl (Nat.le_of_ble_eq_true rfl) ⟨Nat.zero_le _, Nat.zero_le _⟩ dX3_parse_41 (fun r_9 u_10 H locs hw h => ?_)
        refine lv_if_eq (tgt := 51) hx hb dX3_parse_44 (by decide) (fun c_44 => ?_) (fun c_44 => ?_)
        · have hw := hw.1 c_44
          refine lv_iconst (v := 0) hx hb dX3_parse_51 (by decide) ?_
          exact kretZ C hr hlk h (Or.inl rfl) hw dX3_parse_52
        · have hw := hw.2 c_44
          refine lv_iconst (v := 1) hx hb dX3_parse_47 (by decide) ?_
          refine lv_goto (tgt := 52) hx hb dX3_parse_48 (by decide) ?_
          exact kretZ C hr hlk h (Or.inr rfl) hw dX3_parse_52
end
section
def wJ6_bitCount_0f7a4 (x0 : Int32) (u : ST) (Q : Int32 → ST → Prop) : Prop :=
  (∀ x0_1 : Int32, x0_1 = x0 - ((((x0 : Int32).toUInt32 >>> ((1 : Int32).toUInt32 &&& Int32.toUInt32 31)).toInt32) &&& 1431655765) → (∀ x0_2 : Int32, x0_2 = (x0_1 &&& 858993459) + ((((x0_1 : Int32).toUInt32 >>> ((2 : Int32).toUInt32 &&& Int32.toUInt32 31)).toInt32) &&& 858993459) → (∀ x0_3 : Int32, x0_3 = (x0_2 + (((x0_2 : Int32).toUInt32 >>> ((4 : Int32).toUInt32 &&& Int32.toUInt32 31)).toInt32)) &&& 252645135 → (∀ x0_4 : Int32, x0_4 = x0_3 + (((x0_3 : Int32).toUInt32 >>> ((8 : Int32).toUInt32 &&& Int32.toUInt32 31)).toInt32) → (∀ x0_5 : Int32, x0_5 = x0_4 + (((x0_4 : Int32).toUInt32 >>> ((16 : Int32).toUInt32 &&& Int32.toUInt32 31)).toInt32) → Q (x0_5 &&& 63) u)))))
set_option maxHeartbeats 4000000 in
set_option maxRecDepth 100000 in
theorem mJ6_bitCount_0f7a4 (l : Launch) (D : va_G) (cy : CY) (ad : Nat → Nat) (x0 : Int32) (u : ST) (sz : Nat) {Q : Int32 → ST → Prop} (hw : wJ6_bitCount_0f7a4 x0 u Q) : Met l yJ6_bitCount_0f7a4 (wM yJ6_bitCount_0f7a4 cJ6_bitCount_0f7a4 1 (some .int)) (kRm 0) (kPc D (cW cy ad) cy u sz [.int x0]) (kQi D (cW cy ad) cy (va_A (cW cy ad u) sz) Q) 0 0 (va_A (cW cy ad u) sz) := by
  refine kMet pn_J6_bitCount_0f7a4 (Nat.le_of_ble_eq_true rfl) (fun p e s m below meth c ls hsz C hr hlk hex h hl => ?_)
  have hl : lv_has ls 1 [(0, .int x0)] := hl
  obtain ⟨⟨hx, hb, hml, hown, hts⟩, hK, hA⟩ := id C
  unfold wJ6_bitCount_0f7a4 at hw
  have h : kH D (cW cy ad) (va_A (cW cy ad u) sz) s u s.heap [] := h
  refine lv_iload_n hx hb dJ6_bitCount_0f7a4_0 rfl (lv_at hl 0 rfl) ?_
  refine lv_iload_n hx hb dJ6_bitCount_0f7a4_1 rfl (lv_at hl 0 rfl) ?_
  refine lv_iconst (v := 1) hx hb dJ6_bitCount_0f7a4_2 (by decide) ?_
  refine lv_iushr hx hb dJ6_bitCount_0f7a4_3 rfl ?_
  refine lv_ldcw hx hb hown (hts _ wi_ld_J6_265) dJ6_bitCount_0f7a4_4 ?_
  refine lv_iand hx hb dJ6_bitCount_0f7a4_7 ?_
  refine lv_isub hx hb dJ6_bitCount_0f7a4_8 ?_
  refine lv_topi (fun x0_1 ex0_1 => ?_)
  have hw := hw x0_1 ex0_1
  refine lv_istore_n (lv' := [(0, .int x0_1)]) hx hb dJ6_bitCount_0f7a4_9 rfl hl (by decide) rfl (fun ls hl => ?_)
  refine lv_iload_n hx hb dJ6_bitCount_0f7a4_10 rfl (lv_at hl 0 rfl) ?_
  refine lv_ldcw hx hb hown (hts _ wi_ld_J6_266) dJ6_bitCount_0f7a4_11 ?_
  refine lv_iand hx hb dJ6_bitCount_0f7a4_14 ?_
  refine lv_iload_n hx hb dJ6_bitCount_0f7a4_15 rfl (lv_at hl 0 rfl) ?_
  refine lv_iconst (v := 2) hx hb dJ6_bitCount_0f7a4_16 (by decide) ?_
  refine lv_iushr hx hb dJ6_bitCount_0f7a4_17 rfl ?_
  refine lv_ldcw hx hb hown (hts _ wi_ld_J6_266) dJ6_bitCount_0f7a4_18 ?_
  refine lv_iand hx hb dJ6_bitCount_0f7a4_21 ?_
  refine lv_iadd hx hb dJ6_bitCount_0f7a4_22 ?_
  refine lv_topi (fun x0_2 ex0_2 => ?_)
  have hw := hw x0_2 ex0_2
  refine lv_istore_n (lv' := [(0, .int x0_2)]) hx hb dJ6_bitCount_0f7a4_23 rfl hl (by decide) rfl (fun ls hl => ?_)
  refine lv_iload_n hx hb dJ6_bitCount_0f7a4_24 rfl (lv_at hl 0 rfl) ?_
  refine lv_iload_n hx hb dJ6_bitCount_0f7a4_25 rfl (lv_at hl 0 rfl) ?_
  refine lv_iconst (v := 4) hx hb dJ6_bitCount_0f7a4_26 (by decide) ?_
  refine lv_iushr hx hb dJ6_bitCount_0f7a4_27 rfl ?_
  refine lv_iadd hx hb dJ6_bitCount_0f7a4_28 ?_
  refine lv_ldcw hx hb hown (hts _ wi_ld_J6_267) dJ6_bitCount_0f7a4_29 ?_
  refine lv_iand hx hb dJ6_bitCount_0f7a4_32 ?_
  refine lv_topi (fun x0_3 ex0_3 => ?_)
  have hw := hw x0_3 ex0_3
  refine lv_istore_n (lv' := [(0, .int x0_3)]) hx hb dJ6_bitCount_0f7a4_33 rfl hl (by decide) rfl (fun ls hl => ?_)
  refine lv_iload_n hx hb dJ6_bitCount_0f7a4_34 rfl (lv_at hl 0 rfl) ?_
  refine lv_iload_n hx hb dJ6_bitCount_0f7a4_35 rfl (lv_at hl 0 rfl) ?_
  refine lv_bipush (v := 8) hx hb dJ6_bitCount_0f7a4_36 (by decide) ?_
  refine lv_iushr hx hb dJ6_bitCount_0f7a4_38 rfl ?_
  refine lv_iadd hx hb dJ6_bitCount_0f7a4_39 ?_
  refine lv_topi (fun x0_4 ex0_4 => ?_)
  have hw := hw x0_4 ex0_4
  refine lv_istore_n (lv' := [(0, .int x0_4)]) hx hb dJ6_bitCount_0f7a4_40 rfl hl (by decide) rfl (fun ls hl => ?_)
  refine lv_iload_n hx hb dJ6_bitCount_0f7a4_41 rfl (lv_at hl 0 rfl) ?_
  refine lv_iload_n hx hb dJ6_bitCount_0f7a4_42 rfl (lv_at hl 0 rfl) ?_
  refine lv_bipush (v := 16) hx hb dJ6_bitCount_0f7a4_43 (by decide) ?_
  refine lv_iushr hx hb dJ6_bitCount_0f7a4_45 rfl ?_
  refine lv_iadd hx hb dJ6_bitCount_0f7a4_46 ?_
  refine lv_topi (fun x0_5 ex0_5 => ?_)
  have hw := hw x0_5 ex0_5
  refine lv_istore_n (lv' := [(0, .int x0_5)]) hx hb dJ6_bitCount_0f7a4_47 rfl hl (by decide) rfl (fun ls hl => ?_)
  refine lv_iload_n hx hb dJ6_bitCount_0f7a4_48 rfl (lv_at hl 0 rfl) ?_
  refine lv_bipush (v := 63) hx hb dJ6_bitCount_0f7a4_49 (by decide) ?_
  refine lv_iand hx hb dJ6_bitCount_0f7a4_51 ?_
  exact kretI C hr hlk h hw dJ6_bitCount_0f7a4_52

def wX5_start_b91 (K15 : Nat → Int32 → Int32 → Int32 → ST → Prop) (Q : ST → Prop) (t1 : Nat) (x2 : Int32) (x3 : Int32) (x4 : Int32) (u : ST) : Prop :=
  K15 t1 x2 x3 (x4 + 1) u
set_option maxHeartbeats 4000000 in
set_option maxRecDepth 100000 in
theorem kX5_start_b91 {p : Program} {l : Launch} {e : Env} {s : State} {m : MethodId} {args : Array Value} {below : List Frame} {meth : Method} {c : Code} {D : va_G} {cy : CY} {A : Nat → Prop} {ad : Nat → Nat} {K15 : Nat → Int32 → Int32 → Int32 → ST → Prop} {Q : ST → Prop} (C : kC p m c cX5_start 5 s args RX5 D cy A) (hr : meth.sig.returnType = none) (hlk : meth.locks = false) (g15 : ∀ (t1 : Nat) (x2 : Int32) (x3 : Int32) (x4 : Int32) (u : ST) (H : Heap) (locs : List Loc) (ls : Array Slot), K15 t1 x2 x3 x4 u → t1 < 2 → kH D (cW cy ad) A s u H locs → lv_has ls 5 [(0, .ref (ad 8)), (1, .ref (aT ad t1)), (2, .int x2), (3, .int x3), (4, .int x4)] → W p l e (kRm 1) s m args below meth c H locs 0 0 (MQ below (kQv D (cW cy ad) cy A Q) args s 0 0 A) (F0 m 15 ls [])) : ∀ (t1 : Nat) (x2 : Int32) (x3 : Int32) (x4 : Int32) (u : ST) (H : Heap) (locs : List Loc) (ls : Array Slot), wX5_start_b91 K15 Q t1 x2 x3 x4 u → t1 < 2 → kH D (cW cy ad) A s u H locs → lv_has ls 5 [(0, .ref (ad 8)), (1, .ref (aT ad t1)), (2, .int x2), (3, .int x3), (4, .int x4)] → W p l e (kRm 1) s m args below meth c H locs 0 0 (MQ below (kQv D (cW cy ad) cy A Q) args s 0 0 A) (F0 m 91 ls []) := by
  intro t1 x2 x3 x4 u H locs ls hw f_t1 h hl
  obtain ⟨⟨hx, hb, hml, hown, hts⟩, hK, hA⟩ := id C
  unfold wX5_start_b91 at hw
  refine lv_iinc (v := x4 + 1) (lv' := [(4, .int (x4 + 1)), (0, .ref (ad 8)), (1, .ref (aT ad t1)), (2, .int x2), (3, .int x3)]) hx hb dX5_start_91 hl (k := 4) rfl rfl (by decide) rfl (fun ls hl => ?_)
  refine lv_goto (tgt := 15) hx hb dX5_start_94 (by decide) ?_
  exact g15 t1 x2 x3 (x4 + 1) _ _ _ _ hw (by omega) h (lv_sub hl [1, 2, 3, 4, 0] rfl)
def wX5_start_b40 (K15 : Nat → Int32 → Int32 → Int32 → ST → Prop) (Q : ST → Prop) (t1 : Nat) (x2 : Int32) (x3 : Int32) (x4 : Int32) (u : ST) : Prop :=
  (vp_in x4 256 ∧ (vp_in x3 256 ∧ (vp_in x4 256 ∧ (vp_in x3 256 ∧ (vp_in x4 256 ∧ (vp_in x3 256 ∧ (vp_in (0 : Int32) 17 ∧ (vp_in x3 256 ∧ wX5_start_b91 K15 Q t1 x2 (x3 + 1) x4 (sR (sR (sR (sR u 6 x3.toNatClampNeg (gR u (3 * t1) x4.toNatClampNeg)) 7 x3.toNatClampNeg (gR (sR u 6 x3.toNatClampNeg (gR u (3 * t1) x4.toNatClampNeg)) (3 * t1 + 1) x4.toNatClampNeg)) 8 x3.toNatClampNeg (gR (sR (sR u 6 x3.toNatClampNeg (gR u (3 * t1) x4.toNatClampNeg)) 7 x3.toNatClampNeg (gR (sR u 6 x3.toNatClampNeg (gR u (3 * t1) x4.toNatClampNeg)) (3 * t1 + 1) x4.toNatClampNeg)) (3 * t1 + 2) x4.toNatClampNeg)) (16 + (0 : Int32).toNatClampNeg) x3.toNatClampNeg x3)))))))))
set_option maxHeartbeats 4000000 in
set_option maxRecDepth 100000 in
theorem kX5_start_b40 {p : Program} {l : Launch} {e : Env} {s : State} {m : MethodId} {args : Array Value} {below : List Frame} {meth : Method} {c : Code} {D : va_G} {cy : CY} {A : Nat → Prop} {ad : Nat → Nat} {K15 : Nat → Int32 → Int32 → Int32 → ST → Prop} {Q : ST → Prop} (C : kC p m c cX5_start 5 s args RX5 D cy A) (hr : meth.sig.returnType = none) (hlk : meth.locks = false) (g15 : ∀ (t1 : Nat) (x2 : Int32) (x3 : Int32) (x4 : Int32) (u : ST) (H : Heap) (locs : List Loc) (ls : Array Slot), K15 t1 x2 x3 x4 u → t1 < 2 → kH D (cW cy ad) A s u H locs → lv_has ls 5 [(0, .ref (ad 8)), (1, .ref (aT ad t1)), (2, .int x2), (3, .int x3), (4, .int x4)] → W p l e (kRm 1) s m args below meth c H locs 0 0 (MQ below (kQv D (cW cy ad) cy A Q) args s 0 0 A) (F0 m 15 ls [])) : ∀ (t1 : Nat) (x2 : Int32) (x3 : Int32) (x4 : Int32) (u : ST) (H : Heap) (locs : List Loc) (ls : Array Slot), wX5_start_b40 K15 Q t1 x2 x3 x4 u → t1 < 2 → kH D (cW cy ad) A s u H locs → lv_has ls 5 [(0, .ref (ad 8)), (1, .ref (aT ad t1)), (2, .int x2), (3, .int x3), (4, .int x4)] → W p l e (kRm 1) s m args below meth c H locs 0 0 (MQ below (kQv D (cW cy ad) cy A Q) args s 0 0 A) (F0 m 40 ls []) := by
  intro t1 x2 x3 x4 u H locs ls hw f_t1 h hl
  obtain ⟨⟨hx, hb, hml, hown, hts⟩, hK, hA⟩ := id C
  unfold wX5_start_b40 at hw
  refine lv_aload_n hx hb dX5_start_40 rfl (lv_at hl 0 rfl) ?_
  refine kget C h 8 rfl rfl inBX5 0 (Nat.le_of_ble_eq_true rfl) wi_fl_X5_9 rfl dX5_start_41 ?_
  refine lv_iload_n hx hb dX5_start_44 rfl (lv_at hl 3 rfl) ?_
  refine lv_aload_n hx hb dX5_start_45 rfl (lv_at hl 1 rfl) ?_
  refine kget C h (2 + t1) (cW_T cy ad u t1 (by omega)) rfl inBX2 2 (Nat.le_of_ble_eq_true rfl) wi_fl_X5_49 rfl dX5_start_46 ?_
  refine lv_iload hx hb dX5_start_49 (lv_at hl 4 rfl) ?_
  obtain ⟨i_51, hw⟩ := hw
  refine kiald C h (17 + (3 * t1)) (cW_R cy ad u (3 * t1) (by omega)) (by rw [lenR_256 (by omega)]; exact i_51) dX5_start_51 ?_
  obtain ⟨i_52, hw⟩ := hw
  refine kiast C h 23 rfl i_52 (cS_R cy ad u x3.toNatClampNeg (gR u (3 * t1) x4.toNatClampNeg) 6 (Nat.le_of_ble_eq_true rfl)) dX5_start_52 (fun H locs h => ?_)
  refine lv_aload_n hx hb dX5_start_53 rfl (lv_at hl 0 rfl) ?_
  refine kget C h 8 rfl rfl inBX5 1 (Nat.le_of_ble_eq_true rfl) wi_fl_X5_15 rfl dX5_start_54 ?_
  refine lv_iload_n hx hb dX5_start_57 rfl (lv_at hl 3 rfl) ?_
  refine lv_aload_n hx hb dX5_start_58 rfl (lv_at hl 1 rfl) ?_
  refine kget C h (2 + t1) (cW_T cy ad (sR u 6 x3.toNatClampNeg (gR u (3 * t1) x4.toNatClampNeg)) t1 (by omega)) rfl inBX2 3 (Nat.le_of_ble_eq_true rfl) wi_fl_X5_50 rfl dX5_start_59 ?_
  refine lv_iload hx hb dX5_start_62 (lv_at hl 4 rfl) ?_
  obtain ⟨i_64, hw⟩ := hw
  refine kiald C h (17 + (3 * t1 + 1)) (cW_R cy ad (sR u 6 x3.toNatClampNeg (gR u (3 * t1) x4.toNatClampNeg)) (3 * t1 + 1) (by omega)) (by rw [lenR_256 (by omega)]; exact i_64) dX5_start_64 ?_
  obtain ⟨i_65, hw⟩ := hw
  refine kiast C h 24 rfl i_65 (cS_R cy ad (sR u 6 x3.toNatClampNeg (gR u (3 * t1) x4.toNatClampNeg)) x3.toNatClampNeg (gR (sR u 6 x3.toNatClampNeg (gR u (3 * t1) x4.toNatClampNeg)) (3 * t1 + 1) x4.toNatClampNeg) 7 (Nat.le_of_ble_eq_true rfl)) dX5_start_65 (fun H locs h => ?_)
  refine lv_aload_n hx hb dX5_start_66 rfl (lv_at hl 0 rfl) ?_
  refine kget C h 8 rfl rfl inBX5 2 (Nat.le_of_ble_eq_true rfl) wi_fl_X5_18 rfl dX5_start_67 ?_
  refine lv_iload_n hx hb dX5_start_70 rfl (lv_at hl 3 rfl) ?_
  refine lv_aload_n hx hb dX5_start_71 rfl (lv_at hl 1 rfl) ?_
  refine kget C h (2 + t1) (cW_T cy ad (sR (sR u 6 x3.toNatClampNeg (gR u (3 * t1) x4.toNatClampNeg)) 7 x3.toNatClampNeg (gR (sR u 6 x3.toNatClampNeg (gR u (3 * t1) x4.toNatClampNeg)) (3 * t1 + 1) x4.toNatClampNeg)) t1 (by omega)) rfl inBX2 4 (Nat.le_of_ble_eq_true rfl) wi_fl_X5_48 rfl dX5_start_72 ?_
  refine lv_iload hx hb dX5_start_75 (lv_at hl 4 rfl) ?_
  obtain ⟨i_77, hw⟩ := hw
  refine kiald C h (17 + (3 * t1 + 2)) (cW_R cy ad (sR (sR u 6 x3.toNatClampNeg (gR u (3 * t1) x4.toNatClampNeg)) 7 x3.toNatClampNeg (gR (sR u 6 x3.toNatClampNeg (gR u (3 * t1) x4.toNatClampNeg)) (3 * t1 + 1) x4.toNatClampNeg)) (3 * t1 + 2) (by omega)) (by rw [lenR_256 (by omega)]; exact i_77) dX5_start_77 ?_
  obtain ⟨i_78, hw⟩ := hw
  refine kiast C h 25 rfl i_78 (cS_R cy ad (sR (sR u 6 x3.toNatClampNeg (gR u (3 * t1) x4.toNatClampNeg)) 7 x3.toNatClampNeg (gR (sR u 6 x3.toNatClampNeg (gR u (3 * t1) x4.toNatClampNeg)) (3 * t1 + 1) x4.toNatClampNeg)) x3.toNatClampNeg (gR (sR (sR u 6 x3.toNatClampNeg (gR u (3 * t1) x4.toNatClampNeg)) 7 x3.toNatClampNeg (gR (sR u 6 x3.toNatClampNeg (gR u (3 * t1) x4.toNatClampNeg)) (3 * t1 + 1) x4.toNatClampNeg)) (3 * t1 + 2) x4.toNatClampNeg) 8 (Nat.le_of_ble_eq_true rfl)) dX5_start_78 (fun H locs h => ?_)
  refine lv_aload_n hx hb dX5_start_79 rfl (lv_at hl 0 rfl) ?_
  refine kget C h 8 rfl rfl inBX5 4 (Nat.le_of_ble_eq_true rfl) wi_fl_X5_23 rfl dX5_start_80 ?_
  refine lv_iconst (v := 0) hx hb dX5_start_83 (by decide) ?_
  obtain ⟨i_84, hw⟩ := hw
  refine kaald C h 16 (f := fun d => aR ad (16 + d)) rfl i_84 dX5_start_84 ?_
  have b_84 := vp_lt i_84
  refine lv_iload_n hx hb dX5_start_85 rfl (lv_at hl 3 rfl) ?_
  refine lv_iload_n hx hb dX5_start_86 rfl (lv_at hl 3 rfl) ?_
  obtain ⟨i_87, hw⟩ := hw
  have b_87 := vp_lt i_84
  refine kiast C h (17 + (16 + (0 : Int32).toNatClampNeg)) (cW_R cy ad (sR (sR (sR u 6 x3.toNatClampNeg (gR u (3 * t1) x4.toNatClampNeg)) 7 x3.toNatClampNeg (gR (sR u 6 x3.toNatClampNeg (gR u (3 * t1) x4.toNatClampNeg)) (3 * t1 + 1) x4.toNatClampNeg)) 8 x3.toNatClampNeg (gR (sR (sR u 6 x3.toNatClampNeg (gR u (3 * t1) x4.toNatClampNeg)) 7 x3.toNatClampNeg (gR (sR u 6 x3.toNatClampNeg (gR u (3 * t1) x4.toNatClampNeg)) (3 * t1 + 1) x4.toNatClampNeg)) (3 * t1 + 2) x4.toNatClampNeg)) (16 + (0 : Int32).toNatClampNeg) (by omega)) (by rw [lenR_256 (by omega)]; exact i_87) (cS_R cy ad (sR (sR (sR u 6 x3.toNatClampNeg (gR u (3 * t1) x4.toNatClampNeg)) 7 x3.toNatClampNeg (gR (sR u 6 x3.toNatClampNeg (gR u (3 * t1) x4.toNatClampNeg)) (3 * t1 + 1) x4.toNatClampNeg)) 8 x3.toNatClampNeg (gR (sR (sR u 6 x3.toNatClampNeg (gR u (3 * t1) x4.toNatClampNeg)) 7 x3.toNatClampNeg (gR (sR u 6 x3.toNatClampNeg (gR u (3 * t1) x4.toNatClampNeg)) (3 * t1 + 1) x4.toNatClampNeg)) (3 * t1 + 2) x4.toNatClampNeg)) x3.toNatClampNeg x3 (16 + (0 : Int32).toNatClampNeg) (by omega)) dX5_start_87 (fun H locs h => ?_)
  refine lv_iinc (v := x3 + 1) (lv' := [(3, .int (x3 + 1)), (0, .ref (ad 8)), (1, .ref (aT ad t1)), (2, .int x2), (4, .int x4)]) hx hb dX5_start_88 hl (k := 3) rfl rfl (by decide) rfl (fun ls hl => ?_)
  exact kX5_start_b91 C hr hlk g15 t1 x2 (x3 + 1) x4 _ _ _ _ hw (by omega) h (lv_sub hl [1, 2, 3, 0, 4] rfl)
def wX5_start_B15 (K15 : Nat → Int32 → Int32 → Int32 → ST → Prop) (Q : ST → Prop) (t1 : Nat) (x2 : Int32) (x3 : Int32) (x4 : Int32) (u : ST) : Prop :=
  (((gI u (10 + t1)) ≤ x4 → (vp_in (0 : Int32) 17 ∧ Q (sR u 9 (0 : Int32).toNatClampNeg x3))) ∧ (¬ (gI u (10 + t1)) ≤ x4 → ((x2 = (-1) → wX5_start_b40 K15 Q t1 x2 x3 x4 u) ∧ (¬ x2 = (-1) → (vp_in x4 256 ∧ ((¬ (gR u (3 * t1 + 2) x4.toNatClampNeg) = x2 → wX5_start_b91 K15 Q t1 x2 x3 x4 u) ∧ ((gR u (3 * t1 + 2) x4.toNatClampNeg) = x2 → wX5_start_b40 K15 Q t1 x2 x3 x4 u)))))))
set_option maxHeartbeats 4000000 in
set_option maxRecDepth 100000 in
theorem kX5_start_B15 {p : Program} {l : Launch} {e : Env} {s : State} {m : MethodId} {args : Array Value} {below : List Frame} {meth : Method} {c : Code} {D : va_G} {cy : CY} {A : Nat → Prop} {ad : Nat → Nat} {K15 : Nat → Int32 → Int32 → Int32 → ST → Prop} {Q : ST → Prop} (C : kC p m c cX5_start 5 s args RX5 D cy A) (hr : meth.sig.returnType = none) (hlk : meth.locks = false) (g15 : ∀ (t1 : Nat) (x2 : Int32) (x3 : Int32) (x4 : Int32) (u : ST) (H : Heap) (locs : List Loc) (ls : Array Slot), K15 t1 x2 x3 x4 u → t1 < 2 → kH D (cW cy ad) A s u H locs → lv_has ls 5 [(0, .ref (ad 8)), (1, .ref (aT ad t1)), (2, .int x2), (3, .int x3), (4, .int x4)] → W p l e (kRm 1) s m args below meth c H locs 0 0 (MQ below (kQv D (cW cy ad) cy A Q) args s 0 0 A) (F0 m 15 ls [])) : ∀ (t1 : Nat) (x2 : Int32) (x3 : Int32) (x4 : Int32) (u : ST) (H : Heap) (locs : List Loc) (ls : Array Slot), wX5_start_B15 K15 Q t1 x2 x3 x4 u → t1 < 2 → kH D (cW cy ad) A s u H locs → lv_has ls 5 [(0, .ref (ad 8)), (1, .ref (aT ad t1)), (2, .int x2), (3, .int x3), (4, .int x4)] → W p l e (kRm 1) s m args below meth c H locs 0 0 (MQ below (kQv D (cW cy ad) cy A Q) args s 0 0 A) (F0 m 15 ls []) := by
  intro t1 x2 x3 x4 u H locs ls hw f_t1 h hl
  obtain ⟨⟨hx, hb, hml, hown, hts⟩, hK, hA⟩ := id C
  unfold wX5_start_B15 at hw
  refine lv_iload hx hb dX5_start_15 (lv_at hl 4 rfl) ?_
  refine lv_aload_n hx hb dX5_start_17 rfl (lv_at hl 1 rfl) ?_
  refine kget C h (2 + t1) (cW_T cy ad u t1 (by omega)) rfl inBX2 5 (Nat.le_of_ble_eq_true rfl) wi_fl_X5_45 rfl dX5_start_18 ?_
  refine lv_icmp_ge (tgt := 97) hx hb dX5_start_21 (by decide) (fun c_21 => ?_) (fun c_21 => ?_)
  · have hw := hw.1 c_21
    refine lv_aload_n hx hb dX5_start_97 rfl (lv_at hl 0 rfl) ?_
    refine kget C h 8 rfl rfl inBX5 5 (Nat.le_of_ble_eq_true rfl) wi_fl_X5_26 rfl dX5_start_98 ?_
    refine lv_iconst (v := 0) hx hb dX5_start_101 (by decide) ?_
    refine lv_iload_n hx hb dX5_start_102 rfl (lv_at hl 3 rfl) ?_
    obtain ⟨i_103, hw⟩ := hw
    refine kiast C h 26 rfl i_103 (cS_R cy ad u (0 : Int32).toNatClampNeg x3 9 (Nat.le_of_ble_eq_true rfl)) dX5_start_103 (fun H locs h => ?_)
    exact kretV C hr hlk h hw dX5_start_104
  · have hw := hw.2 c_21
    refine lv_iload_n hx hb dX5_start_24 rfl (lv_at hl 2 rfl) ?_
    refine lv_iconst (v := (-1)) hx hb dX5_start_25 (by decide) ?_
    refine lv_icmp_eq (tgt := 40) hx hb dX5_start_26 (by decide) (fun c_26 => ?_) (fun c_26 => ?_)
    · have hw := hw.1 c_26
      exact kX5_start_b40 C hr hlk g15 t1 x2 x3 x4 _ _ _ _ hw (by omega) h (lv_sub hl [0, 1, 2, 3, 4] rfl)
    · have hw := hw.2 c_26
      refine lv_aload_n hx hb dX5_start_29 rfl (lv_at hl 1 rfl) ?_
      refine kget C h (2 + t1) (cW_T cy ad u t1 (by omega)) rfl inBX2 4 (Nat.le_of_ble_eq_true rfl) wi_fl_X5_48 rfl dX5_start_30 ?_
      refine lv_iload hx hb dX5_start_33 (lv_at hl 4 rfl) ?_
      obtain ⟨i_35, hw⟩ := hw
      refine kiald C h (17 + (3 * t1 + 2)) (cW_R cy ad u (3 * t1 + 2) (by omega)) (by rw [lenR_256 (by omega)]; exact i_35) dX5_start_35 ?_
      refine lv_iload_n hx hb dX5_start_36 rfl (lv_at hl 2 rfl) ?_
      refine lv_icmp_ne (tgt := 91) hx hb dX5_start_37 (by decide) (fun c_37 => ?_) (fun c_37 => ?_)
      · have hw := hw.1 c_37
        exact kX5_start_b91 C hr hlk g15 t1 x2 x3 x4 _ _ _ _ hw (by omega) h (lv_sub hl [0, 1, 2, 3, 4] rfl)
      · have hw := hw.2 c_37
        exact kX5_start_b40 C hr hlk g15 t1 x2 x3 x4 _ _ _ _ hw (by omega) h (lv_sub hl [0, 1, 2, 3, 4] rfl)
def wX5_start_L15 (Q : ST → Prop) : Nat → Nat → Int32 → Int32 → Int32 → ST → Prop
  | 0, _, _, _, _, _ => False
  | n + 1, t1, x2, x3, x4, u => wX5_start_B15 (wX5_start_L15 Q n) Q t1 x2 x3 x4 u
set_option maxHeartbeats 4000000 in
theorem kX5_start_L15 {p : Program} {l : Launch} {e : Env} {s : State} {m : MethodId} {args : Array Value} {below : List Frame} {meth : Method} {c : Code} {D : va_G} {cy : CY} {A : Nat → Prop} {ad : Nat → Nat} {Q : ST → Prop} (C : kC p m c cX5_start 5 s args RX5 D cy A) (hr : meth.sig.returnType = none) (hlk : meth.locks = false) : ∀ n : Nat, ∀ (t1 : Nat) (x2 : Int32) (x3 : Int32) (x4 : Int32) (u : ST) (H : Heap) (locs : List Loc) (ls : Array Slot), wX5_start_L15 Q n t1 x2 x3 x4 u → t1 < 2 → kH D (cW cy ad) A s u H locs → lv_has ls 5 [(0, .ref (ad 8)), (1, .ref (aT ad t1)), (2, .int x2), (3, .int x3), (4, .int x4)] → W p l e (kRm 1) s m args below meth c H locs 0 0 (MQ below (kQv D (cW cy ad) cy A Q) args s 0 0 A) (F0 m 15 ls []) := by
  intro n
  induction n with
  | zero => intro t1 x2 x3 x4 u H locs ls hw; exact False.elim hw
  | succ n ih => exact kX5_start_B15 C hr hlk ih
def wX5_start (t1 : Nat) (x2 : Int32) (u : ST) (Q : ST → Prop) : Prop :=
  wX2_caseCount t1 u (fun r_1 u_2 => (∃ n : Nat, wX5_start_L15 Q n t1 x2 0 0 (sI u_2 16 (r_1 - 1))))
set_option maxHeartbeats 4000000 in
set_option maxRecDepth 100000 in
theorem mX5_start (l : Launch) (D : va_G) (cy : CY) (ad : Nat → Nat) (t1 : Nat) (x2 : Int32) (u : ST) (sz : Nat) {Q : ST → Prop} (f_t1 : t1 < 2) (hw : wX5_start t1 x2 u Q) : Met l yX5_start (wM yX5_start cX5_start 5 none) (kRm 1) (kPc D (cW cy ad) cy u sz [.ref (ad 8), .ref (aT ad t1), .int x2]) (kQv D (cW cy ad) cy (va_A (cW cy ad u) sz) Q) 0 0 (va_A (cW cy ad u) sz) := by
  refine kMet pn_X5_start (Nat.le_of_ble_eq_true rfl) (fun p e s m below meth c ls hsz C hr hlk hex h hl => ?_)
  have hl : lv_has ls 5 [(0, .ref (ad 8)), (1, .ref (aT ad t1)), (2, .int x2)] := hl
  obtain ⟨⟨hx, hb, hml, hown, hts⟩, hK, hA⟩ := id C
  unfold wX5_start at hw
  have h : kH D (cW cy ad) (va_A (cW cy ad u) sz) s u s.heap [] := h
  refine lv_aload_n hx hb dX5_start_0 rfl (lv_at hl 0 rfl) ?_
  refine lv_aload_n hx hb dX5_start_1 rfl (lv_at hl 1 rfl) ?_
  refine kVi (As := []) (rest := [.ref (ad 8)]) C h (cwV 0 hts (gd_V wi_ml_X5_35 wi_im_X2_caseCount wi_se_X2_caseCount wi_in_X2 wi_co_X2_caseCount) rfl rfl rfl hd_X2_caseCount ⟨Nat.le_of_ble_eq_true rfl, Nat.le_of_ble_eq_true rfl⟩) (2 + t1) (cW_T cy ad u t1 (by omega)) rfl rfl (mX2_caseCount l D cy ad t1 _ _ (by omega) hw) rfl hl.1 rfl (Nat.le_of_ble_eq_true rfl) ⟨Nat.zero_le _, Nat.zero_le _⟩ dX5_start_2 (fun r_1 u_2 H locs hw h => ?_)
  refine lv_iconst (v := 1) hx hb dX5_start_5 (by decide) ?_
  refine lv_isub hx hb dX5_start_6 ?_
  refine kput C h 8 rfl rfl inBX5 tyX5_ok nmX5 3 (Nat.le_of_ble_eq_true rfl) wi_fl_X5_41 rfl rfl rfl (Nat.le_of_ble_eq_true rfl) (cS_WY_3 cy ad u_2 (r_1 - 1)) dX5_start_7 (fun H locs h => ?_)
  refine lv_iconst (v := 0) hx hb dX5_start_10 (by decide) ?_
  refine lv_istore_n (lv' := [(3, .int 0), (0, .ref (ad 8)), (1, .ref (aT ad t1)), (2, .int x2)]) hx hb dX5_start_11 rfl hl (by decide) rfl (fun ls hl => ?_)
  refine lv_iconst (v := 0) hx hb dX5_start_12 (by decide) ?_
  refine lv_istore (lv' := [(4, .int 0), (3, .int 0), (0, .ref (ad 8)), (1, .ref (aT ad t1)), (2, .int x2)]) hx hb dX5_start_13 hl (by decide) rfl (fun ls hl => ?_)
  obtain ⟨n, hw⟩ := hw
  exact kX5_start_L15 C hr hlk n t1 x2 0 0 _ _ _ _ hw (by omega) h (lv_sub hl [2, 3, 4, 1, 0] rfl)

def wX5_step_b78 (K41 : Int32 → Int32 → Nat → Nat → Nat → Int32 → Int32 → ST → Prop) (Q : ST → Prop) (x1 : Int32) (x2 : Int32) (k4 : Nat) (k5 : Nat) (k6 : Nat) (x7 : Int32) (x8 : Int32) (u : ST) : Prop :=
  K41 x1 x2 k4 k5 k6 x7 (x8 + 1) u
set_option maxHeartbeats 4000000 in
set_option maxRecDepth 100000 in
theorem kX5_step_b78 {p : Program} {l : Launch} {e : Env} {s : State} {m : MethodId} {args : Array Value} {below : List Frame} {meth : Method} {c : Code} {D : va_G} {cy : CY} {A : Nat → Prop} {ad : Nat → Nat} {K41 : Int32 → Int32 → Nat → Nat → Nat → Int32 → Int32 → ST → Prop} {Q : ST → Prop} (C : kC p m c cX5_step 9 s args RX5 D cy A) (hr : meth.sig.returnType = none) (hlk : meth.locks = false) (g41 : ∀ (x1 : Int32) (x2 : Int32) (k4 : Nat) (k5 : Nat) (k6 : Nat) (x7 : Int32) (x8 : Int32) (u : ST) (H : Heap) (locs : List Loc) (ls : Array Slot), K41 x1 x2 k4 k5 k6 x7 x8 u → ((k4 < 9 ∨ 16 ≤ k4) ∧ k4 < 33) → ((k5 < 9 ∨ 16 ≤ k5) ∧ k5 < 33) → ((k6 < 9 ∨ 16 ≤ k6) ∧ k6 < 33) → kH D (cW cy ad) A s u H locs → lv_has ls 9 [(0, .ref (ad 8)), (1, .int x1), (2, .int x2), (4, .ref (aR ad k4)), (5, .ref (aR ad k5)), (6, .ref (aR ad k6)), (7, .int x7), (8, .int x8)] → W p l e (kRm 0) s m args below meth c H locs 0 0 (MQ below (kQv D (cW cy ad) cy A Q) args s 0 0 A) (F0 m 41 ls [])) : ∀ (x1 : Int32) (x2 : Int32) (k4 : Nat) (k5 : Nat) (k6 : Nat) (x7 : Int32) (x8 : Int32) (u : ST) (H : Heap) (locs : List Loc) (ls : Array Slot), wX5_step_b78 K41 Q x1 x2 k4 k5 k6 x7 x8 u → ((k4 < 9 ∨ 16 ≤ k4) ∧ k4 < 33) → ((k5 < 9 ∨ 16 ≤ k5) ∧ k5 < 33) → ((k6 < 9 ∨ 16 ≤ k6) ∧ k6 < 33) → kH D (cW cy ad) A s u H locs → lv_has ls 9 [(0, .ref (ad 8)), (1, .int x1), (2, .int x2), (4, .ref (aR ad k4)), (5, .ref (aR ad k5)), (6, .ref (aR ad k6)), (7, .int x7), (8, .int x8)] → W p l e (kRm 0) s m args below meth c H locs 0 0 (MQ below (kQv D (cW cy ad) cy A Q) args s 0 0 A) (F0 m 78 ls []) := by
  intro x1 x2 k4 k5 k6 x7 x8 u H locs ls hw f_k4 f_k5 f_k6 h hl
  obtain ⟨⟨hx, hb, hml, hown, hts⟩, hK, hA⟩ := id C
  unfold wX5_step_b78 at hw
  refine lv_iinc (v := x8 + 1) (lv' := [(8, .int (x8 + 1)), (0, .ref (ad 8)), (1, .int x1), (2, .int x2), (4, .ref (aR ad k4)), (5, .ref (aR ad k5)), (6, .ref (aR ad k6)), (7, .int x7)]) hx hb dX5_step_78 hl (k := 7) rfl rfl (by decide) rfl (fun ls hl => ?_)
  refine lv_goto (tgt := 41) hx hb dX5_step_81 (by decide) ?_
  exact g41 x1 x2 k4 k5 k6 x7 (x8 + 1) _ _ _ _ hw (by omega) (by omega) (by omega) h (lv_sub hl [1, 2, 3, 4, 5, 6, 7, 0] rfl)
def wX5_step_B41 (K41 : Int32 → Int32 → Nat → Nat → Nat → Int32 → Int32 → ST → Prop) (Q : ST → Prop) (x1 : Int32) (x2 : Int32) (k4 : Nat) (k5 : Nat) (k6 : Nat) (x7 : Int32) (x8 : Int32) (u : ST) : Prop :=
  (vp_in x1 17 ∧ (((gR u 9 x1.toNatClampNeg) ≤ x8 → (vp_in (x1 + 1) 17 ∧ Q (sR u 9 (x1 + 1).toNatClampNeg x7))) ∧ (¬ (gR u 9 x1.toNatClampNeg) ≤ x8 → (vp_in x8 256 ∧ (vp_in (gR u k4 x8.toNatClampNeg) 256 ∧ ((¬ ((gR u k6 (gR u k4 x8.toNatClampNeg).toNatClampNeg) &&& x2) = 0 → wX5_step_b78 K41 Q x1 x2 k4 k5 k6 x7 x8 u) ∧ (((gR u k6 (gR u k4 x8.toNatClampNeg).toNatClampNeg) &&& x2) = 0 → (vp_in x8 256 ∧ (vp_in x7 256 ∧ wX5_step_b78 K41 Q x1 x2 k4 k5 k6 (x7 + 1) x8 (sR u k5 x7.toNatClampNeg (gR u k4 x8.toNatClampNeg)))))))))))
set_option maxHeartbeats 4000000 in
set_option maxRecDepth 100000 in
theorem kX5_step_B41 {p : Program} {l : Launch} {e : Env} {s : State} {m : MethodId} {args : Array Value} {below : List Frame} {meth : Method} {c : Code} {D : va_G} {cy : CY} {A : Nat → Prop} {ad : Nat → Nat} {K41 : Int32 → Int32 → Nat → Nat → Nat → Int32 → Int32 → ST → Prop} {Q : ST → Prop} (C : kC p m c cX5_step 9 s args RX5 D cy A) (hr : meth.sig.returnType = none) (hlk : meth.locks = false) (g41 : ∀ (x1 : Int32) (x2 : Int32) (k4 : Nat) (k5 : Nat) (k6 : Nat) (x7 : Int32) (x8 : Int32) (u : ST) (H : Heap) (locs : List Loc) (ls : Array Slot), K41 x1 x2 k4 k5 k6 x7 x8 u → ((k4 < 9 ∨ 16 ≤ k4) ∧ k4 < 33) → ((k5 < 9 ∨ 16 ≤ k5) ∧ k5 < 33) → ((k6 < 9 ∨ 16 ≤ k6) ∧ k6 < 33) → kH D (cW cy ad) A s u H locs → lv_has ls 9 [(0, .ref (ad 8)), (1, .int x1), (2, .int x2), (4, .ref (aR ad k4)), (5, .ref (aR ad k5)), (6, .ref (aR ad k6)), (7, .int x7), (8, .int x8)] → W p l e (kRm 0) s m args below meth c H locs 0 0 (MQ below (kQv D (cW cy ad) cy A Q) args s 0 0 A) (F0 m 41 ls [])) : ∀ (x1 : Int32) (x2 : Int32) (k4 : Nat) (k5 : Nat) (k6 : Nat) (x7 : Int32) (x8 : Int32) (u : ST) (H : Heap) (locs : List Loc) (ls : Array Slot), wX5_step_B41 K41 Q x1 x2 k4 k5 k6 x7 x8 u → ((k4 < 9 ∨ 16 ≤ k4) ∧ k4 < 33) → ((k5 < 9 ∨ 16 ≤ k5) ∧ k5 < 33) → ((k6 < 9 ∨ 16 ≤ k6) ∧ k6 < 33) → kH D (cW cy ad) A s u H locs → lv_has ls 9 [(0, .ref (ad 8)), (1, .int x1), (2, .int x2), (4, .ref (aR ad k4)), (5, .ref (aR ad k5)), (6, .ref (aR ad k6)), (7, .int x7), (8, .int x8)] → W p l e (kRm 0) s m args below meth c H locs 0 0 (MQ below (kQv D (cW cy ad) cy A Q) args s 0 0 A) (F0 m 41 ls []) := by
  intro x1 x2 k4 k5 k6 x7 x8 u H locs ls hw f_k4 f_k5 f_k6 h hl
  obtain ⟨⟨hx, hb, hml, hown, hts⟩, hK, hA⟩ := id C
  unfold wX5_step_B41 at hw
  refine lv_iload hx hb dX5_step_41 (lv_at hl 7 rfl) ?_
  refine lv_aload_n hx hb dX5_step_43 rfl (lv_at hl 0 rfl) ?_
  refine kget C h 8 rfl rfl inBX5 5 (Nat.le_of_ble_eq_true rfl) wi_fl_X5_26 rfl dX5_step_44 ?_
  refine lv_iload_n hx hb dX5_step_47 rfl (lv_at hl 1 rfl) ?_
  obtain ⟨i_48, hw⟩ := hw
  refine kiald C h 26 rfl i_48 dX5_step_48 ?_
  refine lv_icmp_ge (tgt := 84) hx hb dX5_step_49 (by decide) (fun c_49 => ?_) (fun c_49 => ?_)
  · have hw := hw.1 c_49
    refine lv_aload_n hx hb dX5_step_84 rfl (lv_at hl 0 rfl) ?_
    refine kget C h 8 rfl rfl inBX5 5 (Nat.le_of_ble_eq_true rfl) wi_fl_X5_26 rfl dX5_step_85 ?_
    refine lv_iload_n hx hb dX5_step_88 rfl (lv_at hl 1 rfl) ?_
    refine lv_iconst (v := 1) hx hb dX5_step_89 (by decide) ?_
    refine lv_iadd hx hb dX5_step_90 ?_
    refine lv_iload hx hb dX5_step_91 (lv_at hl 6 rfl) ?_
    obtain ⟨i_93, hw⟩ := hw
    refine kiast C h 26 rfl i_93 (cS_R cy ad u (x1 + 1).toNatClampNeg x7 9 (Nat.le_of_ble_eq_true rfl)) dX5_step_93 (fun H locs h => ?_)
    exact kretV C hr hlk h hw dX5_step_94
  · have hw := hw.2 c_49
    refine lv_aload hx hb dX5_step_52 (lv_at hl 5 rfl) ?_
    refine lv_aload hx hb dX5_step_54 (lv_at hl 3 rfl) ?_
    refine lv_iload hx hb dX5_step_56 (lv_at hl 7 rfl) ?_
    obtain ⟨i_58, hw⟩ := hw
    refine kiald C h (17 + k4) (cW_R cy ad u k4 (by omega)) (by rw [lenR_256 (by omega)]; exact i_58) dX5_step_58 ?_
    obtain ⟨i_59, hw⟩ := hw
    refine kiald C h (17 + k6) (cW_R cy ad u k6 (by omega)) (by rw [lenR_256 (by omega)]; exact i_59) dX5_step_59 ?_
    refine lv_iload_n hx hb dX5_step_60 rfl (lv_at hl 2 rfl) ?_
    refine lv_iand hx hb dX5_step_61 ?_
    refine lv_if_ne (tgt := 78) hx hb dX5_step_62 (by decide) (fun c_62 => ?_) (fun c_62 => ?_)
    · have hw := hw.1 c_62
      exact kX5_step_b78 C hr hlk g41 x1 x2 k4 k5 k6 x7 x8 _ _ _ _ hw (by omega) (by omega) (by omega) h (lv_sub hl [0, 1, 2, 3, 4, 5, 6, 7] rfl)
    · have hw := hw.2 c_62
      refine lv_aload hx hb dX5_step_65 (lv_at hl 4 rfl) ?_
      refine lv_iload hx hb dX5_step_67 (lv_at hl 6 rfl) ?_
      refine lv_aload hx hb dX5_step_69 (lv_at hl 3 rfl) ?_
      refine lv_iload hx hb dX5_step_71 (lv_at hl 7 rfl) ?_
      obtain ⟨i_73, hw⟩ := hw
      refine kiald C h (17 + k4) (cW_R cy ad u k4 (by omega)) (by rw [lenR_256 (by omega)]; exact i_73) dX5_step_73 ?_
      obtain ⟨i_74, hw⟩ := hw
      refine kiast C h (17 + k5) (cW_R cy ad u k5 (by omega)) (by rw [lenR_256 (by omega)]; exact i_74) (cS_R cy ad u x7.toNatClampNeg (gR u k4 x8.toNatClampNeg) k5 (by omega)) dX5_step_74 (fun H locs h => ?_)
      refine lv_iinc (v := x7 + 1) (lv' := [(7, .int (x7 + 1)), (0, .ref (ad 8)), (1, .int x1), (2, .int x2), (4, .ref (aR ad k4)), (5, .ref (aR ad k5)), (6, .ref (aR ad k6)), (8, .int x8)]) hx hb dX5_step_75 hl (k := 6) rfl rfl (by decide) rfl (fun ls hl => ?_)
      exact kX5_step_b78 C hr hlk g41 x1 x2 k4 k5 k6 (x7 + 1) x8 _ _ _ _ hw (by omega) (by omega) (by omega) h (lv_sub hl [1, 2, 3, 4, 5, 6, 0, 7] rfl)
def wX5_step_L41 (Q : ST → Prop) : Nat → Int32 → Int32 → Nat → Nat → Nat → Int32 → Int32 → ST → Prop
  | 0, _, _, _, _, _, _, _, _ => False
  | n + 1, x1, x2, k4, k5, k6, x7, x8, u => wX5_step_B41 (wX5_step_L41 Q n) Q x1 x2 k4 k5 k6 x7 x8 u
set_option maxHeartbeats 4000000 in
theorem kX5_step_L41 {p : Program} {l : Launch} {e : Env} {s : State} {m : MethodId} {args : Array Value} {below : List Frame} {meth : Method} {c : Code} {D : va_G} {cy : CY} {A : Nat → Prop} {ad : Nat → Nat} {Q : ST → Prop} (C : kC p m c cX5_step 9 s args RX5 D cy A) (hr : meth.sig.returnType = none) (hlk : meth.locks = false) : ∀ n : Nat, ∀ (x1 : Int32) (x2 : Int32) (k4 : Nat) (k5 : Nat) (k6 : Nat) (x7 : Int32) (x8 : Int32) (u : ST) (H : Heap) (locs : List Loc) (ls : Array Slot), wX5_step_L41 Q n x1 x2 k4 k5 k6 x7 x8 u → ((k4 < 9 ∨ 16 ≤ k4) ∧ k4 < 33) → ((k5 < 9 ∨ 16 ≤ k5) ∧ k5 < 33) → ((k6 < 9 ∨ 16 ≤ k6) ∧ k6 < 33) → kH D (cW cy ad) A s u H locs → lv_has ls 9 [(0, .ref (ad 8)), (1, .int x1), (2, .int x2), (4, .ref (aR ad k4)), (5, .ref (aR ad k5)), (6, .ref (aR ad k6)), (7, .int x7), (8, .int x8)] → W p l e (kRm 0) s m args below meth c H locs 0 0 (MQ below (kQv D (cW cy ad) cy A Q) args s 0 0 A) (F0 m 41 ls []) := by
  intro n
  induction n with
  | zero => intro x1 x2 k4 k5 k6 x7 x8 u H locs ls hw; exact False.elim hw
  | succ n ih => exact kX5_step_B41 C hr hlk ih
def wX5_step_b33 (Q : ST → Prop) (x1 : Int32) (x2 : Int32) (k4 : Nat) (k5 : Nat) (ks0 : Nat) (u : ST) : Prop :=
  (∃ n : Nat, wX5_step_L41 Q n x1 x2 k4 k5 ks0 0 0 u)
set_option maxHeartbeats 4000000 in
set_option maxRecDepth 100000 in
theorem kX5_step_b33 {p : Program} {l : Launch} {e : Env} {s : State} {m : MethodId} {args : Array Value} {below : List Frame} {meth : Method} {c : Code} {D : va_G} {cy : CY} {A : Nat → Prop} {ad : Nat → Nat} {Q : ST → Prop} (C : kC p m c cX5_step 9 s args RX5 D cy A) (hr : meth.sig.returnType = none) (hlk : meth.locks = false) : ∀ (x1 : Int32) (x2 : Int32) (k4 : Nat) (k5 : Nat) (ks0 : Nat) (u : ST) (H : Heap) (locs : List Loc) (ls : Array Slot), wX5_step_b33 Q x1 x2 k4 k5 ks0 u → ((k4 < 9 ∨ 16 ≤ k4) ∧ k4 < 33) → ((k5 < 9 ∨ 16 ≤ k5) ∧ k5 < 33) → ((ks0 < 9 ∨ 16 ≤ ks0) ∧ ks0 < 33) → kH D (cW cy ad) A s u H locs → lv_has ls 9 [(0, .ref (ad 8)), (1, .int x1), (2, .int x2), (4, .ref (aR ad k4)), (5, .ref (aR ad k5))] → W p l e (kRm 0) s m args below meth c H locs 0 0 (MQ below (kQv D (cW cy ad) cy A Q) args s 0 0 A) (F0 m 33 ls [.ref (aR ad ks0)]) := by
  intro x1 x2 k4 k5 ks0 u H locs ls hw f_k4 f_k5 f_ks0 h hl
  obtain ⟨⟨hx, hb, hml, hown, hts⟩, hK, hA⟩ := id C
  unfold wX5_step_b33 at hw
  refine lv_astore (lv' := [(6, .ref (aR ad ks0)), (0, .ref (ad 8)), (1, .int x1), (2, .int x2), (4, .ref (aR ad k4)), (5, .ref (aR ad k5))]) hx hb dX5_step_33 hl (by decide) rfl (fun ls hl => ?_)
  refine lv_iconst (v := 0) hx hb dX5_step_35 (by decide) ?_
  refine lv_istore (lv' := [(7, .int 0), (6, .ref (aR ad ks0)), (0, .ref (ad 8)), (1, .int x1), (2, .int x2), (4, .ref (aR ad k4)), (5, .ref (aR ad k5))]) hx hb dX5_step_36 hl (by decide) rfl (fun ls hl => ?_)
  refine lv_iconst (v := 0) hx hb dX5_step_38 (by decide) ?_
  refine lv_istore (lv' := [(8, .int 0), (7, .int 0), (6, .ref (aR ad ks0)), (0, .ref (ad 8)), (1, .int x1), (2, .int x2), (4, .ref (aR ad k4)), (5, .ref (aR ad k5))]) hx hb dX5_step_39 hl (by decide) rfl (fun ls hl => ?_)
  obtain ⟨n, hw⟩ := hw
  exact kX5_step_L41 C hr hlk n x1 x2 k4 k5 ks0 0 0 _ _ _ _ hw (by omega) (by omega) (by omega) h (lv_sub hl [3, 4, 5, 6, 7, 2, 1, 0] rfl)
def wX5_step (x1 : Int32) (x2 : Int32) (x3 : Int32) (u : ST) (Q : ST → Prop) : Prop :=
  (vp_in x1 17 ∧ (vp_in (x1 + 1) 17 ∧ ((x3 = 0 → wX5_step_b33 Q x1 x2 (16 + x1.toNatClampNeg) (16 + (x1 + 1).toNatClampNeg) 6 u) ∧ (¬ x3 = 0 → wX5_step_b33 Q x1 x2 (16 + x1.toNatClampNeg) (16 + (x1 + 1).toNatClampNeg) 7 u))))
set_option maxHeartbeats 4000000 in
set_option maxRecDepth 100000 in
theorem mX5_step (l : Launch) (D : va_G) (cy : CY) (ad : Nat → Nat) (x1 : Int32) (x2 : Int32) (x3 : Int32) (u : ST) (sz : Nat) {Q : ST → Prop} (hw : wX5_step x1 x2 x3 u Q) : Met l yX5_step (wM yX5_step cX5_step 9 none) (kRm 0) (kPc D (cW cy ad) cy u sz [.ref (ad 8), .int x1, .int x2, .int x3]) (kQv D (cW cy ad) cy (va_A (cW cy ad u) sz) Q) 0 0 (va_A (cW cy ad u) sz) := by
  refine kMet pn_X5_step (Nat.le_of_ble_eq_true rfl) (fun p e s m below meth c ls hsz C hr hlk hex h hl => ?_)
  have hl : lv_has ls 9 [(0, .ref (ad 8)), (1, .int x1), (2, .int x2), (3, .int x3)] := hl
  obtain ⟨⟨hx, hb, hml, hown, hts⟩, hK, hA⟩ := id C
  unfold wX5_step at hw
  have h : kH D (cW cy ad) (va_A (cW cy ad u) sz) s u s.heap [] := h
  refine lv_aload_n hx hb dX5_step_0 rfl (lv_at hl 0 rfl) ?_
  refine kget C h 8 rfl rfl inBX5 4 (Nat.le_of_ble_eq_true rfl) wi_fl_X5_23 rfl dX5_step_1 ?_
  refine lv_iload_n hx hb dX5_step_4 rfl (lv_at hl 1 rfl) ?_
  obtain ⟨i_5, hw⟩ := hw
  refine kaald C h 16 (f := fun d => aR ad (16 + d)) rfl i_5 dX5_step_5 ?_
  have b_5 := vp_lt i_5
  refine lv_astore (lv' := [(4, .ref (aR ad (16 + x1.toNatClampNeg))), (0, .ref (ad 8)), (1, .int x1), (2, .int x2), (3, .int x3)]) hx hb dX5_step_6 hl (by decide) rfl (fun ls hl => ?_)
  refine lv_aload_n hx hb dX5_step_8 rfl (lv_at hl 1 rfl) ?_
  refine kget C h 8 rfl rfl inBX5 4 (Nat.le_of_ble_eq_true rfl) wi_fl_X5_23 rfl dX5_step_9 ?_
  refine lv_iload_n hx hb dX5_step_12 rfl (lv_at hl 2 rfl) ?_
  refine lv_iconst (v := 1) hx hb dX5_step_13 (by decide) ?_
  refine lv_iadd hx hb dX5_step_14 ?_
  obtain ⟨i_15, hw⟩ := hw
  refine kaald C h 16 (f := fun d => aR ad (16 + d)) rfl i_15 dX5_step_15 ?_
  have b_15 := vp_lt i_15
  refine lv_astore (lv' := [(5, .ref (aR ad (16 + (x1 + 1).toNatClampNeg))), (4, .ref (aR ad (16 + x1.toNatClampNeg))), (0, .ref (ad 8)), (1, .int x1), (2, .int x2), (3, .int x3)]) hx hb dX5_step_16 hl (by decide) rfl (fun ls hl => ?_)
  refine lv_iload_n hx hb dX5_step_18 rfl (lv_at hl 5 rfl) ?_
  refine lv_if_eq (tgt := 29) hx hb dX5_step_19 (by decide) (fun c_19 => ?_) (fun c_19 => ?_)
  · have hw := hw.1 c_19
    refine lv_aload_n hx hb dX5_step_29 rfl (lv_at hl 2 rfl) ?_
    refine kget C h 8 rfl rfl inBX5 0 (Nat.le_of_ble_eq_true rfl) wi_fl_X5_9 rfl dX5_step_30 ?_
    exact kX5_step_b33 C hr hlk x1 x2 (16 + x1.toNatClampNeg) (16 + (x1 + 1).toNatClampNeg) 6 _ _ _ _ hw (by omega) (by omega) (by omega) h (lv_sub hl [2, 3, 4, 1, 0] rfl)
  · have hw := hw.2 c_19
    refine lv_aload_n hx hb dX5_step_22 rfl (lv_at hl 2 rfl) ?_
    refine kget C h 8 rfl rfl inBX5 1 (Nat.le_of_ble_eq_true rfl) wi_fl_X5_15 rfl dX5_step_23 ?_
    refine lv_goto (tgt := 33) hx hb dX5_step_26 (by decide) ?_
    exact kX5_step_b33 C hr hlk x1 x2 (16 + x1.toNatClampNeg) (16 + (x1 + 1).toNatClampNeg) 7 _ _ _ _ hw (by omega) (by omega) (by omega) h (lv_sub hl [2, 3, 4, 1, 0] rfl)

def wX5_splittingBit_B68 (K68 : Int32 → Int32 → ST → Prop) (Q : Int32 → ST → Prop) (x3 : Int32) (x4 : Int32) (u : ST) : Prop :=
  ((x4 ≤ 0 → Q x4 u) ∧ (¬ x4 ≤ 0 → ((¬ (x3 &&& x4) = 0 → Q x4 u) ∧ ((x3 &&& x4) = 0 → K68 x3 (x4 >>> (1 &&& 31)) u))))
set_option maxHeartbeats 4000000 in
set_option maxRecDepth 100000 in
theorem kX5_splittingBit_B68 {p : Program} {l : Launch} {e : Env} {s : State} {m : MethodId} {args : Array Value} {below : List Frame} {meth : Method} {c : Code} {D : va_G} {cy : CY} {A : Nat → Prop} {ad : Nat → Nat} {K68 : Int32 → Int32 → ST → Prop} {Q : Int32 → ST → Prop} (C : kC p m c cX5_splittingBit 7 s args RX5 D cy A) (hr : meth.sig.returnType = some .int) (hlk : meth.locks = false) (g68 : ∀ (x3 : Int32) (x4 : Int32) (u : ST) (H : Heap) (locs : List Loc) (ls : Array Slot), K68 x3 x4 u → kH D (cW cy ad) A s u H locs → lv_has ls 7 [(3, .int x3), (4, .int x4)] → W p l e (kRm 0) s m args below meth c H locs 0 0 (MQ below (kQi D (cW cy ad) cy A Q) args s 0 0 A) (F0 m 68 ls [])) : ∀ (x3 : Int32) (x4 : Int32) (u : ST) (H : Heap) (locs : List Loc) (ls : Array Slot), wX5_splittingBit_B68 K68 Q x3 x4 u → kH D (cW cy ad) A s u H locs → lv_has ls 7 [(3, .int x3), (4, .int x4)] → W p l e (kRm 0) s m args below meth c H locs 0 0 (MQ below (kQi D (cW cy ad) cy A Q) args s 0 0 A) (F0 m 68 ls []) := by
  intro x3 x4 u H locs ls hw h hl
  obtain ⟨⟨hx, hb, hml, hown, hts⟩, hK, hA⟩ := id C
  unfold wX5_splittingBit_B68 at hw
  refine lv_iload hx hb dX5_splittingBit_68 (lv_at hl 1 rfl) ?_
  refine lv_if_le (tgt := 89) hx hb dX5_splittingBit_70 (by decide) (fun c_70 => ?_) (fun c_70 => ?_)
  · have hw := hw.1 c_70
    refine lv_iload hx hb dX5_splittingBit_89 (lv_at hl 1 rfl) ?_
    exact kretI C hr hlk h hw dX5_splittingBit_91
  · have hw := hw.2 c_70
    refine lv_iload_n hx hb dX5_splittingBit_73 rfl (lv_at hl 0 rfl) ?_
    refine lv_iload hx hb dX5_splittingBit_74 (lv_at hl 1 rfl) ?_
    refine lv_iand hx hb dX5_splittingBit_76 ?_
    refine lv_if_ne (tgt := 89) hx hb dX5_splittingBit_77 (by decide) (fun c_77 => ?_) (fun c_77 => ?_)
    · have hw := hw.1 c_77
      refine lv_iload hx hb dX5_splittingBit_89 (lv_at hl 1 rfl) ?_
      exact kretI C hr hlk h hw dX5_splittingBit_91
    · have hw := hw.2 c_77
      refine lv_iload hx hb dX5_splittingBit_80 (lv_at hl 1 rfl) ?_
      refine lv_iconst (v := 1) hx hb dX5_splittingBit_82 (by decide) ?_
      refine lv_ishr hx hb dX5_splittingBit_83 ?_
      refine lv_istore (lv' := [(4, .int (x4 >>> (1 &&& 31))), (3, .int x3)]) hx hb dX5_splittingBit_84 hl (by decide) rfl (fun ls hl => ?_)
      refine lv_goto (tgt := 68) hx hb dX5_splittingBit_86 (by decide) ?_
      exact g68 x3 (x4 >>> (1 &&& 31)) _ _ _ _ hw h (lv_sub hl [1, 0] rfl)
def wX5_splittingBit_L68 (Q : Int32 → ST → Prop) : Nat → Int32 → Int32 → ST → Prop
  | 0, _, _, _ => False
  | n + 1, x3, x4, u => wX5_splittingBit_B68 (wX5_splittingBit_L68 Q n) Q x3 x4 u
set_option maxHeartbeats 4000000 in
theorem kX5_splittingBit_L68 {p : Program} {l : Launch} {e : Env} {s : State} {m : MethodId} {args : Array Value} {below : List Frame} {meth : Method} {c : Code} {D : va_G} {cy : CY} {A : Nat → Prop} {ad : Nat → Nat} {Q : Int32 → ST → Prop} (C : kC p m c cX5_splittingBit 7 s args RX5 D cy A) (hr : meth.sig.returnType = some .int) (hlk : meth.locks = false) : ∀ n : Nat, ∀ (x3 : Int32) (x4 : Int32) (u : ST) (H : Heap) (locs : List Loc) (ls : Array Slot), wX5_splittingBit_L68 Q n x3 x4 u → kH D (cW cy ad) A s u H locs → lv_has ls 7 [(3, .int x3), (4, .int x4)] → W p l e (kRm 0) s m args below meth c H locs 0 0 (MQ below (kQi D (cW cy ad) cy A Q) args s 0 0 A) (F0 m 68 ls []) := by
  intro n
  induction n with
  | zero => intro x3 x4 u H locs ls hw; exact False.elim hw
  | succ n ih => exact kX5_splittingBit_B68 C hr hlk ih
def wX5_splittingBit_B5 (K5 : Int32 → Int32 → Int32 → Int32 → ST → Prop) (Q : Int32 → ST → Prop) (x1 : Int32) (x2 : Int32) (x3 : Int32) (x4 : Int32) (u : ST) : Prop :=
  (vp_in x1 17 ∧ (((gR u 9 x1.toNatClampNeg) ≤ x4 → (∃ n : Nat, wX5_splittingBit_L68 Q n x3 32768 u)) ∧ (¬ (gR u 9 x1.toNatClampNeg) ≤ x4 → (vp_in x1 17 ∧ (vp_in x4 256 ∧ (vp_in (gR u (16 + x1.toNatClampNeg) x4.toNatClampNeg) 256 ∧ (vp_in (gR u (16 + x1.toNatClampNeg) x4.toNatClampNeg) 256 ∧ (∀ x6_1 : Int32, x6_1 = ((gR u 6 (gR u (16 + x1.toNatClampNeg) x4.toNatClampNeg).toNatClampNeg) ||| (gR u 7 (gR u (16 + x1.toNatClampNeg) x4.toNatClampNeg).toNatClampNeg)) &&& x2 → ((¬ x6_1 = 0 → K5 x1 x2 (x3 ||| x6_1) (x4 + 1) u) ∧ (x6_1 = 0 → Q 0 u))))))))))
set_option maxHeartbeats 4000000 in
set_option maxRecDepth 100000 in
theorem kX5_splittingBit_B5 {p : Program} {l : Launch} {e : Env} {s : State} {m : MethodId} {args : Array Value} {below : List Frame} {meth : Method} {c : Code} {D : va_G} {cy : CY} {A : Nat → Prop} {ad : Nat → Nat} {K5 : Int32 → Int32 → Int32 → Int32 → ST → Prop} {Q : Int32 → ST → Prop} (C : kC p m c cX5_splittingBit 7 s args RX5 D cy A) (hr : meth.sig.returnType = some .int) (hlk : meth.locks = false) (g5 : ∀ (x1 : Int32) (x2 : Int32) (x3 : Int32) (x4 : Int32) (u : ST) (H : Heap) (locs : List Loc) (ls : Array Slot), K5 x1 x2 x3 x4 u → kH D (cW cy ad) A s u H locs → lv_has ls 7 [(0, .ref (ad 8)), (1, .int x1), (2, .int x2), (3, .int x3), (4, .int x4)] → W p l e (kRm 0) s m args below meth c H locs 0 0 (MQ below (kQi D (cW cy ad) cy A Q) args s 0 0 A) (F0 m 5 ls [])) : ∀ (x1 : Int32) (x2 : Int32) (x3 : Int32) (x4 : Int32) (u : ST) (H : Heap) (locs : List Loc) (ls : Array Slot), wX5_splittingBit_B5 K5 Q x1 x2 x3 x4 u → kH D (cW cy ad) A s u H locs → lv_has ls 7 [(0, .ref (ad 8)), (1, .int x1), (2, .int x2), (3, .int x3), (4, .int x4)] → W p l e (kRm 0) s m args below meth c H locs 0 0 (MQ below (kQi D (cW cy ad) cy A Q) args s 0 0 A) (F0 m 5 ls []) := by
  intro x1 x2 x3 x4 u H locs ls hw h hl
  obtain ⟨⟨hx, hb, hml, hown, hts⟩, hK, hA⟩ := id C
  unfold wX5_splittingBit_B5 at hw
  refine lv_iload hx hb dX5_splittingBit_5 (lv_at hl 4 rfl) ?_
  refine lv_aload_n hx hb dX5_splittingBit_7 rfl (lv_at hl 0 rfl) ?_
  refine kget C h 8 rfl rfl inBX5 5 (Nat.le_of_ble_eq_true rfl) wi_fl_X5_26 rfl dX5_splittingBit_8 ?_
  refine lv_iload_n hx hb dX5_splittingBit_11 rfl (lv_at hl 1 rfl) ?_
  obtain ⟨i_12, hw⟩ := hw
  refine kiald C h 26 rfl i_12 dX5_splittingBit_12 ?_
  refine lv_icmp_ge (tgt := 64) hx hb dX5_splittingBit_13 (by decide) (fun c_13 => ?_) (fun c_13 => ?_)
  · have hw := hw.1 c_13
    refine lv_ldc hx hb hown (hts _ wi_ld_X5_51) dX5_splittingBit_64 ?_
    refine lv_istore (lv' := [(4, .int 32768), (0, .ref (ad 8)), (1, .int x1), (2, .int x2), (3, .int x3)]) hx hb dX5_splittingBit_66 hl (by decide) rfl (fun ls hl => ?_)
    obtain ⟨n, hw⟩ := hw
    exact kX5_splittingBit_L68 C hr hlk n x3 32768 _ _ _ _ hw h (lv_sub hl [4, 0] rfl)
  · have hw := hw.2 c_13
    refine lv_aload_n hx hb dX5_splittingBit_16 rfl (lv_at hl 0 rfl) ?_
    refine kget C h 8 rfl rfl inBX5 4 (Nat.le_of_ble_eq_true rfl) wi_fl_X5_23 rfl dX5_splittingBit_17 ?_
    refine lv_iload_n hx hb dX5_splittingBit_20 rfl (lv_at hl 1 rfl) ?_
    obtain ⟨i_21, hw⟩ := hw
    refine kaald C h 16 (f := fun d => aR ad (16 + d)) rfl i_21 dX5_splittingBit_21 ?_
    have b_21 := vp_lt i_21
    refine lv_iload hx hb dX5_splittingBit_22 (lv_at hl 4 rfl) ?_
    obtain ⟨i_24, hw⟩ := hw
    have b_24 := vp_lt i_21
    refine kiald C h (17 + (16 + x1.toNatClampNeg)) (cW_R cy ad u (16 + x1.toNatClampNeg) (by omega)) (by rw [lenR_256 (by omega)]; exact i_24) dX5_splittingBit_24 ?_
    refine lv_istore (lv' := [(5, .int (gR u (16 + x1.toNatClampNeg) x4.toNatClampNeg)), (0, .ref (ad 8)), (1, .int x1), (2, .int x2), (3, .int x3), (4, .int x4)]) hx hb dX5_splittingBit_25 hl (by decide) rfl (fun ls hl => ?_)
    refine lv_aload_n hx hb dX5_splittingBit_27 rfl (lv_at hl 1 rfl) ?_
    refine kget C h 8 rfl rfl inBX5 0 (Nat.le_of_ble_eq_true rfl) wi_fl_X5_9 rfl dX5_splittingBit_28 ?_
    refine lv_iload hx hb dX5_splittingBit_31 (lv_at hl 0 rfl) ?_
    obtain ⟨i_33, hw⟩ := hw
    refine kiald C h 23 rfl i_33 dX5_splittingBit_33 ?_
    refine lv_aload_n hx hb dX5_splittingBit_34 rfl (lv_at hl 1 rfl) ?_
    refine kget C h 8 rfl rfl inBX5 1 (Nat.le_of_ble_eq_true rfl) wi_fl_X5_15 rfl dX5_splittingBit_35 ?_
    refine lv_iload hx hb dX5_splittingBit_38 (lv_at hl 0 rfl) ?_
    obtain ⟨i_40, hw⟩ := hw
    refine kiald C h 24 rfl i_40 dX5_splittingBit_40 ?_
    refine lv_ior hx hb dX5_splittingBit_41 ?_
    refine lv_iload_n hx hb dX5_splittingBit_42 rfl (lv_at hl 3 rfl) ?_
    refine lv_iand hx hb dX5_splittingBit_43 ?_
    refine lv_topi (fun x6_1 ex6_1 => ?_)
    have hw := hw x6_1 ex6_1
    refine lv_istore (lv' := [(6, .int x6_1), (5, .int (gR u (16 + x1.toNatClampNeg) x4.toNatClampNeg)), (0, .ref (ad 8)), (1, .int x1), (2, .int x2), (3, .int x3), (4, .int x4)]) hx hb dX5_splittingBit_44 hl (by decide) rfl (fun ls hl => ?_)
    refine lv_iload hx hb dX5_splittingBit_46 (lv_at hl 0 rfl) ?_
    refine lv_if_ne (tgt := 53) hx hb dX5_splittingBit_48 (by decide) (fun c_48 => ?_) (fun c_48 => ?_)
    · have hw := hw.1 c_48
      refine lv_iload_n hx hb dX5_splittingBit_53 rfl (lv_at hl 5 rfl) ?_
      refine lv_iload hx hb dX5_splittingBit_54 (lv_at hl 0 rfl) ?_
      refine lv_ior hx hb dX5_splittingBit_56 ?_
      refine lv_istore_n (lv' := [(3, .int (x3 ||| x6_1)), (6, .int x6_1), (5, .int (gR u (16 + x1.toNatClampNeg) x4.toNatClampNeg)), (0, .ref (ad 8)), (1, .int x1), (2, .int x2), (4, .int x4)]) hx hb dX5_splittingBit_57 rfl hl (by decide) rfl (fun ls hl => ?_)
      refine lv_iinc (v := x4 + 1) (lv' := [(4, .int (x4 + 1)), (3, .int (x3 ||| x6_1)), (6, .int x6_1), (5, .int (gR u (16 + x1.toNatClampNeg) x4.toNatClampNeg)), (0, .ref (ad 8)), (1, .int x1), (2, .int x2)]) hx hb dX5_splittingBit_58 hl (k := 6) rfl rfl (by decide) rfl (fun ls hl => ?_)
      refine lv_goto (tgt := 5) hx hb dX5_splittingBit_61 (by decide) ?_
      exact g5 x1 x2 (x3 ||| x6_1) (x4 + 1) _ _ _ _ hw h (lv_sub hl [4, 5, 6, 1, 0] rfl)
    · have hw := hw.2 c_48
      refine lv_iconst (v := 0) hx hb dX5_splittingBit_51 (by decide) ?_
      exact kretI C hr hlk h hw dX5_splittingBit_52
def wX5_splittingBit_L5 (Q : Int32 → ST → Prop) : Nat → Int32 → Int32 → Int32 → Int32 → ST → Prop
  | 0, _, _, _, _, _ => False
  | n + 1, x1, x2, x3, x4, u => wX5_splittingBit_B5 (wX5_splittingBit_L5 Q n) Q x1 x2 x3 x4 u
set_option maxHeartbeats 4000000 in
theorem kX5_splittingBit_L5 {p : Program} {l : Launch} {e : Env} {s : State} {m : MethodId} {args : Array Value} {below : List Frame} {meth : Method} {c : Code} {D : va_G} {cy : CY} {A : Nat → Prop} {ad : Nat → Nat} {Q : Int32 → ST → Prop} (C : kC p m c cX5_splittingBit 7 s args RX5 D cy A) (hr : meth.sig.returnType = some .int) (hlk : meth.locks = false) : ∀ n : Nat, ∀ (x1 : Int32) (x2 : Int32) (x3 : Int32) (x4 : Int32) (u : ST) (H : Heap) (locs : List Loc) (ls : Array Slot), wX5_splittingBit_L5 Q n x1 x2 x3 x4 u → kH D (cW cy ad) A s u H locs → lv_has ls 7 [(0, .ref (ad 8)), (1, .int x1), (2, .int x2), (3, .int x3), (4, .int x4)] → W p l e (kRm 0) s m args below meth c H locs 0 0 (MQ below (kQi D (cW cy ad) cy A Q) args s 0 0 A) (F0 m 5 ls []) := by
  intro n
  induction n with
  | zero => intro x1 x2 x3 x4 u H locs ls hw; exact False.elim hw
  | succ n ih => exact kX5_splittingBit_B5 C hr hlk ih
def wX5_splittingBit (x1 : Int32) (x2 : Int32) (u : ST) (Q : Int32 → ST → Prop) : Prop :=
  (∃ n : Nat, wX5_splittingBit_L5 Q n x1 x2 0 0 u)
set_option maxHeartbeats 4000000 in
set_option maxRecDepth 100000 in
theorem mX5_splittingBit (l : Launch) (D : va_G) (cy : CY) (ad : Nat → Nat) (x1 : Int32) (x2 : Int32) (u : ST) (sz : Nat) {Q : Int32 → ST → Prop} (hw : wX5_splittingBit x1 x2 u Q) : Met l yX5_splittingBit (wM yX5_splittingBit cX5_splittingBit 7 (some .int)) (kRm 0) (kPc D (cW cy ad) cy u sz [.ref (ad 8), .int x1, .int x2]) (kQi D (cW cy ad) cy (va_A (cW cy ad u) sz) Q) 0 0 (va_A (cW cy ad u) sz) := by
  refine kMet pn_X5_splittingBit (Nat.le_of_ble_eq_true rfl) (fun p e s m below meth c ls hsz C hr hlk hex h hl => ?_)
  have hl : lv_has ls 7 [(0, .ref (ad 8)), (1, .int x1), (2, .int x2)] := hl
  obtain ⟨⟨hx, hb, hml, hown, hts⟩, hK, hA⟩ := id C
  unfold wX5_splittingBit at hw
  have h : kH D (cW cy ad) (va_A (cW cy ad u) sz) s u s.heap [] := h
  refine lv_iconst (v := 0) hx hb dX5_splittingBit_0 (by decide) ?_
  refine lv_istore_n (lv' := [(3, .int 0), (0, .ref (ad 8)), (1, .int x1), (2, .int x2)]) hx hb dX5_splittingBit_1 rfl hl (by decide) rfl (fun ls hl => ?_)
  refine lv_iconst (v := 0) hx hb dX5_splittingBit_2 (by decide) ?_
  refine lv_istore (lv' := [(4, .int 0), (3, .int 0), (0, .ref (ad 8)), (1, .int x1), (2, .int x2)]) hx hb dX5_splittingBit_3 hl (by decide) rfl (fun ls hl => ?_)
  obtain ⟨n, hw⟩ := hw
  exact kX5_splittingBit_L5 C hr hlk n x1 x2 0 0 _ _ _ _ hw h (lv_sub hl [2, 3, 4, 1, 0] rfl)

def wX5_leastGapFrom_E (F : Int32 → Int32 → Int32 → ST → (Int32 → ST → Prop) → Prop) (x1 : Int32) (x2 : Int32) (x3 : Int32) (u : ST) (Q : Int32 → ST → Prop) : Prop :=
  (vp_in x1 17 ∧ ((¬ (gR u 9 x1.toNatClampNeg) = 0 → wX5_splittingBit x1 x2 u (fun r_1 u_2 => ((r_1 = 0 → Q (-1) u_2) ∧ (¬ r_1 = 0 → ((x1 < 16 → wX5_step x1 r_1 0 u_2 (fun u_4 => F (x1 + 1) (x2 &&& (r_1 ^^^ (-1))) x3 u_4 (fun r_5 u_6 => ((r_5 = (-1) → wX5_step x1 r_1 1 u_6 (fun u_8 => F (x1 + 1) (x2 &&& (r_1 ^^^ (-1))) (x3 ||| r_1) u_8 (fun r_9 u_10 => Q r_9 u_10))) ∧ (¬ r_5 = (-1) → Q r_5 u_6))))) ∧ (¬ x1 < 16 → Q (-1) u_2)))))) ∧ ((gR u 9 x1.toNatClampNeg) = 0 → Q x3 u)))
set_option maxHeartbeats 4000000 in
set_option maxRecDepth 100000 in
theorem mX5_leastGapFrom_E (l : Launch) (D : va_G) (cy : CY) (ad : Nat → Nat) (d : Nat) {F : Int32 → Int32 → Int32 → ST → (Int32 → ST → Prop) → Prop} (hF : ∀ (x1 : Int32) (x2 : Int32) (x3 : Int32) (u : ST) (sz : Nat) (Q : Int32 → ST → Prop), F x1 x2 x3 u Q → Met l yX5_leastGapFrom (wM yX5_leastGapFrom cX5_leastGapFrom 6 (some .int)) (kRm (0 + d)) (kPc D (cW cy ad) cy u sz [.ref (ad 8), .int x1, .int x2, .int x3]) (kQi D (cW cy ad) cy (va_A (cW cy ad u) sz) Q) 0 0 (va_A (cW cy ad u) sz)) (x1 : Int32) (x2 : Int32) (x3 : Int32) (u : ST) (sz : Nat) {Q : Int32 → ST → Prop} (hw : wX5_leastGapFrom_E F x1 x2 x3 u Q) : Met l yX5_leastGapFrom (wM yX5_leastGapFrom cX5_leastGapFrom 6 (some .int)) (kRm (1 + d)) (kPc D (cW cy ad) cy u sz [.ref (ad 8), .int x1, .int x2, .int x3]) (kQi D (cW cy ad) cy (va_A (cW cy ad u) sz) Q) 0 0 (va_A (cW cy ad u) sz) := by
  refine kMet pn_X5_leastGapFrom (Nat.le_of_ble_eq_true rfl) (fun p e s m below meth c ls hsz C hr hlk hex h hl => ?_)
  have hl : lv_has ls 6 [(0, .ref (ad 8)), (1, .int x1), (2, .int x2), (3, .int x3)] := hl
  obtain ⟨⟨hx, hb, hml, hown, hts⟩, hK, hA⟩ := id C
  unfold wX5_leastGapFrom_E at hw
  have h : kH D (cW cy ad) (va_A (cW cy ad u) sz) s u s.heap [] := h
  refine lv_aload_n hx hb dX5_leastGapFrom_0 rfl (lv_at hl 0 rfl) ?_
  refine kget C h 8 rfl rfl inBX5 5 (Nat.le_of_ble_eq_true rfl) wi_fl_X5_26 rfl dX5_leastGapFrom_1 ?_
  refine lv_iload_n hx hb dX5_leastGapFrom_4 rfl (lv_at hl 1 rfl) ?_
  obtain ⟨i_5, hw⟩ := hw
  refine kiald C h 26 rfl i_5 dX5_leastGapFrom_5 ?_
  refine lv_if_ne (tgt := 11) hx hb dX5_leastGapFrom_6 (by decide) (fun c_6 => ?_) (fun c_6 => ?_)
  · have hw := hw.1 c_6
    refine lv_aload_n hx hb dX5_leastGapFrom_11 rfl (lv_at hl 0 rfl) ?_
    refine lv_iload_n hx hb dX5_leastGapFrom_12 rfl (lv_at hl 1 rfl) ?_
    refine lv_iload_n hx hb dX5_leastGapFrom_13 rfl (lv_at hl 2 rfl) ?_
    refine kVi (As := [.int x1, .int x2]) (rest := []) C h (cwV 2 hts (gd_V wi_ml_X5_56 wi_im_X5_splittingBit wi_se_X5_splittingBit wi_in_X5 wi_co_X5_splittingBit) rfl rfl rfl hd_X5_splittingBit ⟨(by show 0 + 1 ≤ 1 + d; omega), (by show 8 + (7 + 11) + 40 * 0 ≤ 40 * (1 + d); omega)⟩) 8 rfl rfl rfl (mX5_splittingBit l D cy ad x1 x2 _ _ hw) rfl hl.1 rfl (Nat.le_of_ble_eq_true rfl) ⟨Nat.zero_le _, Nat.zero_le _⟩ dX5_leastGapFrom_14 (fun r_1 u_2 H locs hw h => ?_)
    refine lv_istore (lv' := [(4, .int r_1), (0, .ref (ad 8)), (1, .int x1), (2, .int x2), (3, .int x3)]) hx hb dX5_leastGapFrom_17 hl (by decide) rfl (fun ls hl => ?_)
    refine lv_iload hx hb dX5_leastGapFrom_19 (lv_at hl 0 rfl) ?_
    refine lv_if_eq (tgt := 30) hx hb dX5_leastGapFrom_21 (by decide) (fun c_21 => ?_) (fun c_21 => ?_)
    · have hw := hw.1 c_21
      refine lv_iconst (v := (-1)) hx hb dX5_leastGapFrom_30 (by decide) ?_
      exact kretI C hr hlk h hw dX5_leastGapFrom_31
    · have hw := hw.2 c_21
      refine lv_iload_n hx hb dX5_leastGapFrom_24 rfl (lv_at hl 2 rfl) ?_
      refine lv_bipush (v := 16) hx hb dX5_leastGapFrom_25 (by decide) ?_
      refine lv_icmp_lt (tgt := 32) hx hb dX5_leastGapFrom_27 (by decide) (fun c_27 => ?_) (fun c_27 => ?_)
      · have hw := hw.1 c_27
        refine lv_aload_n hx hb dX5_leastGapFrom_32 rfl (lv_at hl 1 rfl) ?_
        refine lv_iload_n hx hb dX5_leastGapFrom_33 rfl (lv_at hl 2 rfl) ?_
        refine lv_iload hx hb dX5_leastGapFrom_34 (lv_at hl 0 rfl) ?_
        refine lv_iconst (v := 0) hx hb dX5_leastGapFrom_36 (by decide) ?_
        refine kVv (As := [.int x1, .int r_1, .int 0]) (rest := []) C h (cwV 3 hts (gd_V wi_ml_X5_60 wi_im_X5_step wi_se_X5_step wi_in_X5 wi_co_X5_step) rfl rfl rfl hd_X5_step ⟨(by show 0 + 1 ≤ 1 + d; omega), (by show 8 + (9 + 11) + 40 * 0 ≤ 40 * (1 + d); omega)⟩) 8 rfl rfl rfl (mX5_step l D cy ad x1 r_1 0 _ _ hw) rfl hl.1 rfl (Nat.le_of_ble_eq_true rfl) ⟨Nat.zero_le _, Nat.zero_le _⟩ dX5_leastGapFrom_37 (fun u_4 H locs hw h => ?_)
        refine lv_aload_n hx hb dX5_leastGapFrom_40 rfl (lv_at hl 1 rfl) ?_
        refine lv_iload_n hx hb dX5_leastGapFrom_41 rfl (lv_at hl 2 rfl) ?_
        refine lv_iconst (v := 1) hx hb dX5_leastGapFrom_42 (by decide) ?_
        refine lv_iadd hx hb dX5_leastGapFrom_43 ?_
        refine lv_iload_n hx hb dX5_leastGapFrom_44 rfl (lv_at hl 3 rfl) ?_
        refine lv_iload hx hb dX5_leastGapFrom_45 (lv_at hl 0 rfl) ?_
        refine lv_iconst (v := (-1)) hx hb dX5_leastGapFrom_47 (by decide) ?_
        refine lv_ixor hx hb dX5_leastGapFrom_48 ?_
        refine lv_iand hx hb dX5_leastGapFrom_49 ?_
        refine lv_iload_n hx hb dX5_leastGapFrom_50 rfl (lv_at hl 4 rfl) ?_
        refine kSi (As := [.ref (ad 8), .int (x1 + 1), .int (x2 &&& (r_1 ^^^ (-1))), .int x3]) (rest := []) C h (va_cwS 4 hts (gd_S wi_ml_X5_52 wi_st_X5_leastGapFrom wi_in_X5 wi_co_X5_leastGapFrom) rfl rfl rfl hd_X5_leastGapFrom.2 ⟨(by show 0 + d + 1 ≤ 1 + d; omega), (by show 8 + (6 + 11) + 40 * (0 + d) ≤ 40 * (1 + d); omega)⟩) (hF (x1 + 1) (x2 &&& (r_1 ^^^ (-1))) x3 _ _ _ hw) rfl hl.1 rfl (Nat.le_of_ble_eq_true rfl) ⟨Nat.zero_le _, Nat.zero_le _⟩ dX5_leastGapFrom_51 (fun r_5 u_6 H locs hw h => ?_)
        refine lv_istore (lv' := [(5, .int r_5), (4, .int r_1), (0, .ref (ad 8)), (1, .int x1), (2, .int x2), (3, .int x3)]) hx hb dX5_leastGapFrom_54 hl (by decide) rfl (fun ls hl => ?_)
        refine lv_iload hx hb dX5_leastGapFrom_56 (lv_at hl 0 rfl) ?_
        refine lv_iconst (v := (-1)) hx hb dX5_leastGapFrom_58 (by decide) ?_
        refine lv_icmp_eq (tgt := 65) hx hb dX5_leastGapFrom_59 (by decide) (fun c_59 => ?_) (fun c_59 => ?_)
        · have hw := hw.1 c_59
          refine lv_aload_n hx hb dX5_leastGapFrom_65 rfl (lv_at hl 2 rfl) ?_
          refine lv_iload_n hx hb dX5_leastGapFrom_66 rfl (lv_at hl 3 rfl) ?_
          refine lv_iload hx hb dX5_leastGapFrom_67 (lv_at hl 1 rfl) ?_
          refine lv_iconst (v := 1) hx hb dX5_leastGapFrom_69 (by decide) ?_
          refine kVv (As := [.int x1, .int r_1, .int 1]) (rest := []) C h (cwV 3 hts (gd_V wi_ml_X5_60 wi_im_X5_step wi_se_X5_step wi_in_X5 wi_co_X5_step) rfl rfl rfl hd_X5_step ⟨(by show 0 + 1 ≤ 1 + d; omega), (by show 8 + (9 + 11) + 40 * 0 ≤ 40 * (1 + d); omega)⟩) 8 rfl rfl rfl (mX5_step l D cy ad x1 r_1 1 _ _ hw) rfl hl.1 rfl (Nat.le_of_ble_eq_true rfl) ⟨Nat.zero_le _, Nat.zero_le _⟩ dX5_leastGapFrom_70 (fun u_8 H locs hw h => ?_)
          refine lv_aload_n hx hb dX5_leastGapFrom_73 rfl (lv_at hl 2 rfl) ?_
          refine lv_iload_n hx hb dX5_leastGapFrom_74 rfl (lv_at hl 3 rfl) ?_
          refine lv_iconst (v := 1) hx hb dX5_leastGapFrom_75 (by decide) ?_
          refine lv_iadd hx hb dX5_leastGapFrom_76 ?_
          refine lv_iload_n hx hb dX5_leastGapFrom_77 rfl (lv_at hl 4 rfl) ?_
          refine lv_iload hx hb dX5_leastGapFrom_78 (lv_at hl 1 rfl) ?_
          refine lv_iconst (v := (-1)) hx hb dX5_leastGapFrom_80 (by decide) ?_
          refine lv_ixor hx hb dX5_leastGapFrom_81 ?_
          refine lv_iand hx hb dX5_leastGapFrom_82 ?_
          refine lv_iload_n hx hb dX5_leastGapFrom_83 rfl (lv_at hl 5 rfl) ?_
          refine lv_iload hx hb dX5_leastGapFrom_84 (lv_at hl 1 rfl) ?_
          refine lv_ior hx hb dX5_leastGapFrom_86 ?_
          refine kSi (As := [.ref (ad 8), .int (x1 + 1), .int (x2 &&& (r_1 ^^^ (-1))), .int (x3 ||| r_1)]) (rest := []) C h (va_cwS 4 hts (gd_S wi_ml_X5_52 wi_st_X5_leastGapFrom wi_in_X5 wi_co_X5_leastGapFrom) rfl rfl rfl hd_X5_leastGapFrom.2 ⟨(by show 0 + d + 1 ≤ 1 + d; omega), (by show 8 + (6 + 11) + 40 * (0 + d) ≤ 40 * (1 + d); omega)⟩) (hF (x1 + 1) (x2 &&& (r_1 ^^^ (-1))) (x3 ||| r_1) _ _ _ hw) rfl hl.1 rfl (Nat.le_of_ble_eq_true rfl) ⟨Nat.zero_le _, Nat.zero_le _⟩ dX5_leastGapFrom_87 (fun r_9 u_10 H locs hw h => ?_)
          exact kretI C hr hlk h hw dX5_leastGapFrom_90
        · have hw := hw.2 c_59
          refine lv_iload hx hb dX5_leastGapFrom_62 (lv_at hl 0 rfl) ?_
          exact kretI C hr hlk h hw dX5_leastGapFrom_64
      · have hw := hw.2 c_27
        refine lv_iconst (v := (-1)) hx hb dX5_leastGapFrom_30 (by decide) ?_
        exact kretI C hr hlk h hw dX5_leastGapFrom_31
  · have hw := hw.2 c_6
    refine lv_iload_n hx hb dX5_leastGapFrom_9 rfl (lv_at hl 3 rfl) ?_
    exact kretI C hr hlk h hw dX5_leastGapFrom_10
def wX5_leastGapFrom : Nat → Int32 → Int32 → Int32 → ST → (Int32 → ST → Prop) → Prop
  | 0, _, _, _, _, _ => False
  | d + 1, x1, x2, x3, u, Q => wX5_leastGapFrom_E (wX5_leastGapFrom d) x1 x2 x3 u Q
theorem mX5_leastGapFrom (l : Launch) (D : va_G) (cy : CY) (ad : Nat → Nat) : ∀ (d : Nat) (x1 : Int32) (x2 : Int32) (x3 : Int32) (u : ST) (sz : Nat) (Q : Int32 → ST → Prop), wX5_leastGapFrom d x1 x2 x3 u Q → Met l yX5_leastGapFrom (wM yX5_leastGapFrom cX5_leastGapFrom 6 (some .int)) (kRm (0 + d)) (kPc D (cW cy ad) cy u sz [.ref (ad 8), .int x1, .int x2, .int x3]) (kQi D (cW cy ad) cy (va_A (cW cy ad u) sz) Q) 0 0 (va_A (cW cy ad u) sz) := by
  intro d
  induction d with
  | zero => intro x1 x2 x3 u sz Q hw; exact False.elim hw
  | succ d ih =>
    intro x1 x2 x3 u sz Q hw
    rw [show 0 + (d + 1) = 1 + d by omega]
    exact mX5_leastGapFrom_E l D cy ad d (fun x1 x2 x3 u sz Q hw => ih x1 x2 x3 u sz Q hw) x1 x2 x3 u sz hw

def wX5_leastGap (u : ST) (Q : Int32 → ST → Prop) : Prop :=
  (∃ dd : Nat, dd ≤ 20 ∧ wX5_leastGapFrom dd 0 (gI u 16) 0 u (fun r_1 u_2 => Q r_1 u_2))
set_option maxHeartbeats 4000000 in
set_option maxRecDepth 100000 in
theorem mX5_leastGap (l : Launch) (D : va_G) (cy : CY) (ad : Nat → Nat) (u : ST) (sz : Nat) {Q : Int32 → ST → Prop} (hw : wX5_leastGap  u Q) : Met l yX5_leastGap (wM yX5_leastGap cX5_leastGap 1 (some .int)) (kRm 22) (kPc D (cW cy ad) cy u sz [.ref (ad 8)]) (kQi D (cW cy ad) cy (va_A (cW cy ad u) sz) Q) 0 0 (va_A (cW cy ad u) sz) := by
  refine kMet pn_X5_leastGap (Nat.le_of_ble_eq_true rfl) (fun p e s m below meth c ls hsz C hr hlk hex h hl => ?_)
  have hl : lv_has ls 1 [(0, .ref (ad 8))] := hl
  obtain ⟨⟨hx, hb, hml, hown, hts⟩, hK, hA⟩ := id C
  unfold wX5_leastGap at hw
  have h : kH D (cW cy ad) (va_A (cW cy ad u) sz) s u s.heap [] := h
  refine lv_aload_n hx hb dX5_leastGap_0 rfl (lv_at hl 0 rfl) ?_
  refine lv_iconst (v := 0) hx hb dX5_leastGap_1 (by decide) ?_
  refine lv_aload_n hx hb dX5_leastGap_2 rfl (lv_at hl 0 rfl) ?_
  refine kget C h 8 rfl rfl inBX5 3 (Nat.le_of_ble_eq_true rfl) wi_fl_X5_41 rfl dX5_leastGap_3 ?_
  refine lv_iconst (v := 0) hx hb dX5_leastGap_6 (by decide) ?_
  obtain ⟨dd, hdd, hw⟩ := hw
  refine kSi (As := [.ref (ad 8), .int 0, .int (gI u 16), .int 0]) (rest := []) C h (va_cwS 4 hts (gd_S wi_ml_X5_52 wi_st_X5_leastGapFrom wi_in_X5 wi_co_X5_leastGapFrom) rfl rfl rfl hd_X5_leastGapFrom.2 ⟨(by show 0 + dd + 1 ≤ 22; omega), (by show 8 + (6 + 11) + 40 * (0 + dd) ≤ 40 * 22; omega)⟩) (mX5_leastGapFrom l D cy ad dd 0 (gI u 16) 0 _ _ _ hw) rfl hl.1 rfl (Nat.le_of_ble_eq_true rfl) ⟨Nat.zero_le _, Nat.zero_le _⟩ dX5_leastGap_7 (fun r_1 u_2 H locs hw h => ?_)
  exact kretI C hr hlk h hw dX5_leastGap_10

def wX5_casesMetFrom_b28 (F : Int32 → Int32 → ST → (Int32 → ST → Prop) → Prop) (Q : Int32 → ST → Prop) (x2 : Int32) (u : ST) : Prop :=
  wJ6_bitCount_0f7a4 x2 u (fun r_1 u_2 => Q (1 <<< (r_1 &&& 31)) u_2)
set_option maxHeartbeats 4000000 in
set_option maxRecDepth 100000 in
theorem kX5_casesMetFrom_b28 {p : Program} {l : Launch} {e : Env} {s : State} {m : MethodId} {args : Array Value} {below : List Frame} {meth : Method} {c : Code} {D : va_G} {cy : CY} {A : Nat → Prop} {ad : Nat → Nat} {d : Nat} {F : Int32 → Int32 → ST → (Int32 → ST → Prop) → Prop} {Q : Int32 → ST → Prop} (C : kC p m c cX5_casesMetFrom 5 s args RX5 D cy A) (hr : meth.sig.returnType = some .int) (hlk : meth.locks = false) (hF : ∀ (x1 : Int32) (x2 : Int32) (u : ST) (sz : Nat) (Q : Int32 → ST → Prop), F x1 x2 u Q → Met l yX5_casesMetFrom (wM yX5_casesMetFrom cX5_casesMetFrom 5 (some .int)) (kRm (0 + d)) (kPc D (cW cy ad) cy u sz [.ref (ad 8), .int x1, .int x2]) (kQi D (cW cy ad) cy (va_A (cW cy ad u) sz) Q) 0 0 (va_A (cW cy ad u) sz)) : ∀ (x2 : Int32) (u : ST) (H : Heap) (locs : List Loc) (ls : Array Slot), wX5_casesMetFrom_b28 F Q x2 u → kH D (cW cy ad) A s u H locs → lv_has ls 5 [(2, .int x2)] → W p l e (kRm (1 + d)) s m args below meth c H locs 0 0 (MQ below (kQi D (cW cy ad) cy A Q) args s 0 0 A) (F0 m 28 ls []) := by
  intro x2 u H locs ls hw h hl
  obtain ⟨⟨hx, hb, hml, hown, hts⟩, hK, hA⟩ := id C
  unfold wX5_casesMetFrom_b28 at hw
  refine lv_iconst (v := 1) hx hb dX5_casesMetFrom_28 (by decide) ?_
  refine lv_iload_n hx hb dX5_casesMetFrom_29 rfl (lv_at hl 0 rfl) ?_
  refine kSi (As := [.int x2]) (rest := [.int 1]) C h (va_cwS 1 hts (gd_S wi_ml_X5_68 wi_st_J6_bitCount_0f7a4 wi_in_J6 wi_co_J6_bitCount_0f7a4) rfl rfl rfl hd_J6_bitCount_0f7a4.2 ⟨(by show 0 + 1 ≤ 1 + d; omega), (by show 8 + (1 + 11) + 40 * 0 ≤ 40 * (1 + d); omega)⟩) (mJ6_bitCount_0f7a4 l D cy ad x2 _ _ hw) rfl hl.1 rfl (Nat.le_of_ble_eq_true rfl) ⟨Nat.zero_le _, Nat.zero_le _⟩ dX5_casesMetFrom_30 (fun r_1 u_2 H locs hw h => ?_)
  refine lv_ishl hx hb dX5_casesMetFrom_33 ?_
  exact kretI C hr hlk h hw dX5_casesMetFrom_34
def wX5_casesMetFrom_E (F : Int32 → Int32 → ST → (Int32 → ST → Prop) → Prop) (x1 : Int32) (x2 : Int32) (u : ST) (Q : Int32 → ST → Prop) : Prop :=
  (vp_in x1 17 ∧ ((¬ (gR u 9 x1.toNatClampNeg) = 0 → wX5_splittingBit x1 x2 u (fun r_1 u_2 => ((r_1 = 0 → wX5_casesMetFrom_b28 F Q x2 u_2) ∧ (¬ r_1 = 0 → ((x1 < 16 → wX5_step x1 r_1 1 u_2 (fun u_4 => F (x1 + 1) (x2 &&& (r_1 ^^^ (-1))) u_4 (fun r_5 u_6 => wX5_step x1 r_1 0 u_6 (fun u_8 => F (x1 + 1) (x2 &&& (r_1 ^^^ (-1))) u_8 (fun r_9 u_10 => Q (r_5 + r_9) u_10))))) ∧ (¬ x1 < 16 → wX5_casesMetFrom_b28 F Q x2 u_2)))))) ∧ ((gR u 9 x1.toNatClampNeg) = 0 → Q 0 u)))
set_option maxHeartbeats 4000000 in
set_option maxRecDepth 100000 in
theorem mX5_casesMetFrom_E (l : Launch) (D : va_G) (cy : CY) (ad : Nat → Nat) (d : Nat) {F : Int32 → Int32 → ST → (Int32 → ST → Prop) → Prop} (hF : ∀ (x1 : Int32) (x2 : Int32) (u : ST) (sz : Nat) (Q : Int32 → ST → Prop), F x1 x2 u Q → Met l yX5_casesMetFrom (wM yX5_casesMetFrom cX5_casesMetFrom 5 (some .int)) (kRm (0 + d)) (kPc D (cW cy ad) cy u sz [.ref (ad 8), .int x1, .int x2]) (kQi D (cW cy ad) cy (va_A (cW cy ad u) sz) Q) 0 0 (va_A (cW cy ad u) sz)) (x1 : Int32) (x2 : Int32) (u : ST) (sz : Nat) {Q : Int32 → ST → Prop} (hw : wX5_casesMetFrom_E F x1 x2 u Q) : Met l yX5_casesMetFrom (wM yX5_casesMetFrom cX5_casesMetFrom 5 (some .int)) (kRm (1 + d)) (kPc D (cW cy ad) cy u sz [.ref (ad 8), .int x1, .int x2]) (kQi D (cW cy ad) cy (va_A (cW cy ad u) sz) Q) 0 0 (va_A (cW cy ad u) sz) := by
  refine kMet pn_X5_casesMetFrom (Nat.le_of_ble_eq_true rfl) (fun p e s m below meth c ls hsz C hr hlk hex h hl => ?_)
  have hl : lv_has ls 5 [(0, .ref (ad 8)), (1, .int x1), (2, .int x2)] := hl
  obtain ⟨⟨hx, hb, hml, hown, hts⟩, hK, hA⟩ := id C
  unfold wX5_casesMetFrom_E at hw
  have h : kH D (cW cy ad) (va_A (cW cy ad u) sz) s u s.heap [] := h
  refine lv_aload_n hx hb dX5_casesMetFrom_0 rfl (lv_at hl 0 rfl) ?_
  refine kget C h 8 rfl rfl inBX5 5 (Nat.le_of_ble_eq_true rfl) wi_fl_X5_26 rfl dX5_casesMetFrom_1 ?_
  refine lv_iload_n hx hb dX5_casesMetFrom_4 rfl (lv_at hl 1 rfl) ?_
  obtain ⟨i_5, hw⟩ := hw
  refine kiald C h 26 rfl i_5 dX5_casesMetFrom_5 ?_
  refine lv_if_ne (tgt := 11) hx hb dX5_casesMetFrom_6 (by decide) (fun c_6 => ?_) (fun c_6 => ?_)
  · have hw := hw.1 c_6
    refine lv_aload_n hx hb dX5_casesMetFrom_11 rfl (lv_at hl 0 rfl) ?_
    refine lv_iload_n hx hb dX5_casesMetFrom_12 rfl (lv_at hl 1 rfl) ?_
    refine lv_iload_n hx hb dX5_casesMetFrom_13 rfl (lv_at hl 2 rfl) ?_
    refine kVi (As := [.int x1, .int x2]) (rest := []) C h (cwV 2 hts (gd_V wi_ml_X5_56 wi_im_X5_splittingBit wi_se_X5_splittingBit wi_in_X5 wi_co_X5_splittingBit) rfl rfl rfl hd_X5_splittingBit ⟨(by show 0 + 1 ≤ 1 + d; omega), (by show 8 + (7 + 11) + 40 * 0 ≤ 40 * (1 + d); omega)⟩) 8 rfl rfl rfl (mX5_splittingBit l D cy ad x1 x2 _ _ hw) rfl hl.1 rfl (Nat.le_of_ble_eq_true rfl) ⟨Nat.zero_le _, Nat.zero_le _⟩ dX5_casesMetFrom_14 (fun r_1 u_2 H locs hw h => ?_)
    refine lv_istore_n (lv' := [(3, .int r_1), (0, .ref (ad 8)), (1, .int x1), (2, .int x2)]) hx hb dX5_casesMetFrom_17 rfl hl (by decide) rfl (fun ls hl => ?_)
    refine lv_iload_n hx hb dX5_casesMetFrom_18 rfl (lv_at hl 0 rfl) ?_
    refine lv_if_eq (tgt := 28) hx hb dX5_casesMetFrom_19 (by decide) (fun c_19 => ?_) (fun c_19 => ?_)
    · have hw := hw.1 c_19
      exact kX5_casesMetFrom_b28 C hr hlk hF x2 _ _ _ _ hw h (lv_sub hl [3] rfl)
    · have hw := hw.2 c_19
      refine lv_iload_n hx hb dX5_casesMetFrom_22 rfl (lv_at hl 2 rfl) ?_
      refine lv_bipush (v := 16) hx hb dX5_casesMetFrom_23 (by decide) ?_
      refine lv_icmp_lt (tgt := 35) hx hb dX5_casesMetFrom_25 (by decide) (fun c_25 => ?_) (fun c_25 => ?_)
      · have hw := hw.1 c_25
        refine lv_aload_n hx hb dX5_casesMetFrom_35 rfl (lv_at hl 1 rfl) ?_
        refine lv_iload_n hx hb dX5_casesMetFrom_36 rfl (lv_at hl 2 rfl) ?_
        refine lv_iload_n hx hb dX5_casesMetFrom_37 rfl (lv_at hl 0 rfl) ?_
        refine lv_iconst (v := 1) hx hb dX5_casesMetFrom_38 (by decide) ?_
        refine kVv (As := [.int x1, .int r_1, .int 1]) (rest := []) C h (cwV 3 hts (gd_V wi_ml_X5_60 wi_im_X5_step wi_se_X5_step wi_in_X5 wi_co_X5_step) rfl rfl rfl hd_X5_step ⟨(by show 0 + 1 ≤ 1 + d; omega), (by show 8 + (9 + 11) + 40 * 0 ≤ 40 * (1 + d); omega)⟩) 8 rfl rfl rfl (mX5_step l D cy ad x1 r_1 1 _ _ hw) rfl hl.1 rfl (Nat.le_of_ble_eq_true rfl) ⟨Nat.zero_le _, Nat.zero_le _⟩ dX5_casesMetFrom_39 (fun u_4 H locs hw h => ?_)
        refine lv_aload_n hx hb dX5_casesMetFrom_42 rfl (lv_at hl 1 rfl) ?_
        refine lv_iload_n hx hb dX5_casesMetFrom_43 rfl (lv_at hl 2 rfl) ?_
        refine lv_iconst (v := 1) hx hb dX5_casesMetFrom_44 (by decide) ?_
        refine lv_iadd hx hb dX5_casesMetFrom_45 ?_
        refine lv_iload_n hx hb dX5_casesMetFrom_46 rfl (lv_at hl 3 rfl) ?_
        refine lv_iload_n hx hb dX5_casesMetFrom_47 rfl (lv_at hl 0 rfl) ?_
        refine lv_iconst (v := (-1)) hx hb dX5_casesMetFrom_48 (by decide) ?_
        refine lv_ixor hx hb dX5_casesMetFrom_49 ?_
        refine lv_iand hx hb dX5_casesMetFrom_50 ?_
        refine kSi (As := [.ref (ad 8), .int (x1 + 1), .int (x2 &&& (r_1 ^^^ (-1)))]) (rest := []) C h (va_cwS 3 hts (gd_S wi_ml_X5_64 wi_st_X5_casesMetFrom wi_in_X5 wi_co_X5_casesMetFrom) rfl rfl rfl hd_X5_casesMetFrom.2 ⟨(by show 0 + d + 1 ≤ 1 + d; omega), (by show 8 + (5 + 11) + 40 * (0 + d) ≤ 40 * (1 + d); omega)⟩) (hF (x1 + 1) (x2 &&& (r_1 ^^^ (-1))) _ _ _ hw) rfl hl.1 rfl (Nat.le_of_ble_eq_true rfl) ⟨Nat.zero_le _, Nat.zero_le _⟩ dX5_casesMetFrom_51 (fun r_5 u_6 H locs hw h => ?_)
        refine lv_istore (lv' := [(4, .int r_5), (3, .int r_1), (0, .ref (ad 8)), (1, .int x1), (2, .int x2)]) hx hb dX5_casesMetFrom_54 hl (by decide) rfl (fun ls hl => ?_)
        refine lv_aload_n hx hb dX5_casesMetFrom_56 rfl (lv_at hl 2 rfl) ?_
        refine lv_iload_n hx hb dX5_casesMetFrom_57 rfl (lv_at hl 3 rfl) ?_
        refine lv_iload_n hx hb dX5_casesMetFrom_58 rfl (lv_at hl 1 rfl) ?_
        refine lv_iconst (v := 0) hx hb dX5_casesMetFrom_59 (by decide) ?_
        refine kVv (As := [.int x1, .int r_1, .int 0]) (rest := []) C h (cwV 3 hts (gd_V wi_ml_X5_60 wi_im_X5_step wi_se_X5_step wi_in_X5 wi_co_X5_step) rfl rfl rfl hd_X5_step ⟨(by show 0 + 1 ≤ 1 + d; omega), (by show 8 + (9 + 11) + 40 * 0 ≤ 40 * (1 + d); omega)⟩) 8 rfl rfl rfl (mX5_step l D cy ad x1 r_1 0 _ _ hw) rfl hl.1 rfl (Nat.le_of_ble_eq_true rfl) ⟨Nat.zero_le _, Nat.zero_le _⟩ dX5_casesMetFrom_60 (fun u_8 H locs hw h => ?_)
        refine lv_iload hx hb dX5_casesMetFrom_63 (lv_at hl 0 rfl) ?_
        refine lv_aload_n hx hb dX5_casesMetFrom_65 rfl (lv_at hl 2 rfl) ?_
        refine lv_iload_n hx hb dX5_casesMetFrom_66 rfl (lv_at hl 3 rfl) ?_
        refine lv_iconst (v := 1) hx hb dX5_casesMetFrom_67 (by decide) ?_
        refine lv_iadd hx hb dX5_casesMetFrom_68 ?_
        refine lv_iload_n hx hb dX5_casesMetFrom_69 rfl (lv_at hl 4 rfl) ?_
        refine lv_iload_n hx hb dX5_casesMetFrom_70 rfl (lv_at hl 1 rfl) ?_
        refine lv_iconst (v := (-1)) hx hb dX5_casesMetFrom_71 (by decide) ?_
        refine lv_ixor hx hb dX5_casesMetFrom_72 ?_
        refine lv_iand hx hb dX5_casesMetFrom_73 ?_
        refine kSi (As := [.ref (ad 8), .int (x1 + 1), .int (x2 &&& (r_1 ^^^ (-1)))]) (rest := [.int r_5]) C h (va_cwS 3 hts (gd_S wi_ml_X5_64 wi_st_X5_casesMetFrom wi_in_X5 wi_co_X5_casesMetFrom) rfl rfl rfl hd_X5_casesMetFrom.2 ⟨(by show 0 + d + 1 ≤ 1 + d; omega), (by show 8 + (5 + 11) + 40 * (0 + d) ≤ 40 * (1 + d); omega)⟩) (hF (x1 + 1) (x2 &&& (r_1 ^^^ (-1))) _ _ _ hw) rfl hl.1 rfl (Nat.le_of_ble_eq_true rfl) ⟨Nat.zero_le _, Nat.zero_le _⟩ dX5_casesMetFrom_74 (fun r_9 u_10 H locs hw h => ?_)
        refine lv_iadd hx hb dX5_casesMetFrom_77 ?_
        exact kretI C hr hlk h hw dX5_casesMetFrom_78
      · have hw := hw.2 c_25
        exact kX5_casesMetFrom_b28 C hr hlk hF x2 _ _ _ _ hw h (lv_sub hl [3] rfl)
  · have hw := hw.2 c_6
    refine lv_iconst (v := 0) hx hb dX5_casesMetFrom_9 (by decide) ?_
    exact kretI C hr hlk h hw dX5_casesMetFrom_10
def wX5_casesMetFrom : Nat → Int32 → Int32 → ST → (Int32 → ST → Prop) → Prop
  | 0, _, _, _, _ => False
  | d + 1, x1, x2, u, Q => wX5_casesMetFrom_E (wX5_casesMetFrom d) x1 x2 u Q
theorem mX5_casesMetFrom (l : Launch) (D : va_G) (cy : CY) (ad : Nat → Nat) : ∀ (d : Nat) (x1 : Int32) (x2 : Int32) (u : ST) (sz : Nat) (Q : Int32 → ST → Prop), wX5_casesMetFrom d x1 x2 u Q → Met l yX5_casesMetFrom (wM yX5_casesMetFrom cX5_casesMetFrom 5 (some .int)) (kRm (0 + d)) (kPc D (cW cy ad) cy u sz [.ref (ad 8), .int x1, .int x2]) (kQi D (cW cy ad) cy (va_A (cW cy ad u) sz) Q) 0 0 (va_A (cW cy ad u) sz) := by
  intro d
  induction d with
  | zero => intro x1 x2 u sz Q hw; exact False.elim hw
  | succ d ih =>
    intro x1 x2 u sz Q hw
    rw [show 0 + (d + 1) = 1 + d by omega]
    exact mX5_casesMetFrom_E l D cy ad d (fun x1 x2 u sz Q hw => ih x1 x2 u sz Q hw) x1 x2 u sz hw

def wX5_casesMet (u : ST) (Q : Int32 → ST → Prop) : Prop :=
  (∃ dd : Nat, dd ≤ 20 ∧ wX5_casesMetFrom dd 0 (gI u 16) u (fun r_1 u_2 => Q r_1 u_2))
set_option maxHeartbeats 4000000 in
set_option maxRecDepth 100000 in
theorem mX5_casesMet (l : Launch) (D : va_G) (cy : CY) (ad : Nat → Nat) (u : ST) (sz : Nat) {Q : Int32 → ST → Prop} (hw : wX5_casesMet  u Q) : Met l yX5_casesMet (wM yX5_casesMet cX5_casesMet 1 (some .int)) (kRm 22) (kPc D (cW cy ad) cy u sz [.ref (ad 8)]) (kQi D (cW cy ad) cy (va_A (cW cy ad u) sz) Q) 0 0 (va_A (cW cy ad u) sz) := by
  refine kMet pn_X5_casesMet (Nat.le_of_ble_eq_true rfl) (fun p e s m below meth c ls hsz C hr hlk hex h hl => ?_)
  have hl : lv_has ls 1 [(0, .ref (ad 8))] := hl
  obtain ⟨⟨hx, hb, hml, hown, hts⟩, hK, hA⟩ := id C
  unfold wX5_casesMet at hw
  have h : kH D (cW cy ad) (va_A (cW cy ad u) sz) s u s.heap [] := h
  refine lv_aload_n hx hb dX5_casesMet_0 rfl (lv_at hl 0 rfl) ?_
  refine lv_iconst (v := 0) hx hb dX5_casesMet_1 (by decide) ?_
  refine lv_aload_n hx hb dX5_casesMet_2 rfl (lv_at hl 0 rfl) ?_
  refine kget C h 8 rfl rfl inBX5 3 (Nat.le_of_ble_eq_true rfl) wi_fl_X5_41 rfl dX5_casesMet_3 ?_
  obtain ⟨dd, hdd, hw⟩ := hw
  refine kSi (As := [.ref (ad 8), .int 0, .int (gI u 16)]) (rest := []) C h (va_cwS 3 hts (gd_S wi_ml_X5_64 wi_st_X5_casesMetFrom wi_in_X5 wi_co_X5_casesMetFrom) rfl rfl rfl hd_X5_casesMetFrom.2 ⟨(by show 0 + dd + 1 ≤ 22; omega), (by show 8 + (5 + 11) + 40 * (0 + dd) ≤ 40 * 22; omega)⟩) (mX5_casesMetFrom l D cy ad dd 0 (gI u 16) _ _ _ hw) rfl hl.1 rfl (Nat.le_of_ble_eq_true rfl) ⟨Nat.zero_le _, Nat.zero_le _⟩ dX5_casesMet_6 (fun r_1 u_2 H locs hw h => ?_)
  exact kretI C hr hlk h hw dX5_casesMet_9

def wX5_oneAction_B16 (K16 : Int32 → Int32 → Int32 → ST → Prop) (Q : Int32 → ST → Prop) (x1 : Int32) (x2 : Int32) (x3 : Int32) (u : ST) : Prop :=
  (vp_in x1 17 ∧ (((gR u 9 x1.toNatClampNeg) ≤ x3 → Q x2 u) ∧ (¬ (gR u 9 x1.toNatClampNeg) ≤ x3 → (vp_in x1 17 ∧ (vp_in x3 256 ∧ (vp_in (gR u (16 + x1.toNatClampNeg) x3.toNatClampNeg) 256 ∧ (((gR u 8 (gR u (16 + x1.toNatClampNeg) x3.toNatClampNeg).toNatClampNeg) = x2 → K16 x1 x2 (x3 + 1) u) ∧ (¬ (gR u 8 (gR u (16 + x1.toNatClampNeg) x3.toNatClampNeg).toNatClampNeg) = x2 → Q (-1) u))))))))
set_option maxHeartbeats 4000000 in
set_option maxRecDepth 100000 in
theorem kX5_oneAction_B16 {p : Program} {l : Launch} {e : Env} {s : State} {m : MethodId} {args : Array Value} {below : List Frame} {meth : Method} {c : Code} {D : va_G} {cy : CY} {A : Nat → Prop} {ad : Nat → Nat} {K16 : Int32 → Int32 → Int32 → ST → Prop} {Q : Int32 → ST → Prop} (C : kC p m c cX5_oneAction 4 s args RX5 D cy A) (hr : meth.sig.returnType = some .int) (hlk : meth.locks = false) (g16 : ∀ (x1 : Int32) (x2 : Int32) (x3 : Int32) (u : ST) (H : Heap) (locs : List Loc) (ls : Array Slot), K16 x1 x2 x3 u → kH D (cW cy ad) A s u H locs → lv_has ls 4 [(0, .ref (ad 8)), (1, .int x1), (2, .int x2), (3, .int x3)] → W p l e (kRm 0) s m args below meth c H locs 0 0 (MQ below (kQi D (cW cy ad) cy A Q) args s 0 0 A) (F0 m 16 ls [])) : ∀ (x1 : Int32) (x2 : Int32) (x3 : Int32) (u : ST) (H : Heap) (locs : List Loc) (ls : Array Slot), wX5_oneAction_B16 K16 Q x1 x2 x3 u → kH D (cW cy ad) A s u H locs → lv_has ls 4 [(0, .ref (ad 8)), (1, .int x1), (2, .int x2), (3, .int x3)] → W p l e (kRm 0) s m args below meth c H locs 0 0 (MQ below (kQi D (cW cy ad) cy A Q) args s 0 0 A) (F0 m 16 ls []) := by
  intro x1 x2 x3 u H locs ls hw h hl
  obtain ⟨⟨hx, hb, hml, hown, hts⟩, hK, hA⟩ := id C
  unfold wX5_oneAction_B16 at hw
  refine lv_iload_n hx hb dX5_oneAction_16 rfl (lv_at hl 3 rfl) ?_
  refine lv_aload_n hx hb dX5_oneAction_17 rfl (lv_at hl 0 rfl) ?_
  refine kget C h 8 rfl rfl inBX5 5 (Nat.le_of_ble_eq_true rfl) wi_fl_X5_26 rfl dX5_oneAction_18 ?_
  refine lv_iload_n hx hb dX5_oneAction_21 rfl (lv_at hl 1 rfl) ?_
  obtain ⟨i_22, hw⟩ := hw
  refine kiald C h 26 rfl i_22 dX5_oneAction_22 ?_
  refine lv_icmp_ge (tgt := 51) hx hb dX5_oneAction_23 (by decide) (fun c_23 => ?_) (fun c_23 => ?_)
  · have hw := hw.1 c_23
    refine lv_iload_n hx hb dX5_oneAction_51 rfl (lv_at hl 2 rfl) ?_
    exact kretI C hr hlk h hw dX5_oneAction_52
  · have hw := hw.2 c_23
    refine lv_aload_n hx hb dX5_oneAction_26 rfl (lv_at hl 0 rfl) ?_
    refine kget C h 8 rfl rfl inBX5 2 (Nat.le_of_ble_eq_true rfl) wi_fl_X5_18 rfl dX5_oneAction_27 ?_
    refine lv_aload_n hx hb dX5_oneAction_30 rfl (lv_at hl 0 rfl) ?_
    refine kget C h 8 rfl rfl inBX5 4 (Nat.le_of_ble_eq_true rfl) wi_fl_X5_23 rfl dX5_oneAction_31 ?_
    refine lv_iload_n hx hb dX5_oneAction_34 rfl (lv_at hl 1 rfl) ?_
    obtain ⟨i_35, hw⟩ := hw
    refine kaald C h 16 (f := fun d => aR ad (16 + d)) rfl i_35 dX5_oneAction_35 ?_
    have b_35 := vp_lt i_35
    refine lv_iload_n hx hb dX5_oneAction_36 rfl (lv_at hl 3 rfl) ?_
    obtain ⟨i_37, hw⟩ := hw
    have b_37 := vp_lt i_35
    refine kiald C h (17 + (16 + x1.toNatClampNeg)) (cW_R cy ad u (16 + x1.toNatClampNeg) (by omega)) (by rw [lenR_256 (by omega)]; exact i_37) dX5_oneAction_37 ?_
    obtain ⟨i_38, hw⟩ := hw
    refine kiald C h 25 rfl i_38 dX5_oneAction_38 ?_
    refine lv_iload_n hx hb dX5_oneAction_39 rfl (lv_at hl 2 rfl) ?_
    refine lv_icmp_eq (tgt := 45) hx hb dX5_oneAction_40 (by decide) (fun c_40 => ?_) (fun c_40 => ?_)
    · have hw := hw.1 c_40
      refine lv_iinc (v := x3 + 1) (lv' := [(3, .int (x3 + 1)), (0, .ref (ad 8)), (1, .int x1), (2, .int x2)]) hx hb dX5_oneAction_45 hl (k := 3) rfl rfl (by decide) rfl (fun ls hl => ?_)
      refine lv_goto (tgt := 16) hx hb dX5_oneAction_48 (by decide) ?_
      exact g16 x1 x2 (x3 + 1) _ _ _ _ hw h (lv_sub hl [1, 2, 3, 0] rfl)
    · have hw := hw.2 c_40
      refine lv_iconst (v := (-1)) hx hb dX5_oneAction_43 (by decide) ?_
      exact kretI C hr hlk h hw dX5_oneAction_44
def wX5_oneAction_L16 (Q : Int32 → ST → Prop) : Nat → Int32 → Int32 → Int32 → ST → Prop
  | 0, _, _, _, _ => False
  | n + 1, x1, x2, x3, u => wX5_oneAction_B16 (wX5_oneAction_L16 Q n) Q x1 x2 x3 u
set_option maxHeartbeats 4000000 in
theorem kX5_oneAction_L16 {p : Program} {l : Launch} {e : Env} {s : State} {m : MethodId} {args : Array Value} {below : List Frame} {meth : Method} {c : Code} {D : va_G} {cy : CY} {A : Nat → Prop} {ad : Nat → Nat} {Q : Int32 → ST → Prop} (C : kC p m c cX5_oneAction 4 s args RX5 D cy A) (hr : meth.sig.returnType = some .int) (hlk : meth.locks = false) : ∀ n : Nat, ∀ (x1 : Int32) (x2 : Int32) (x3 : Int32) (u : ST) (H : Heap) (locs : List Loc) (ls : Array Slot), wX5_oneAction_L16 Q n x1 x2 x3 u → kH D (cW cy ad) A s u H locs → lv_has ls 4 [(0, .ref (ad 8)), (1, .int x1), (2, .int x2), (3, .int x3)] → W p l e (kRm 0) s m args below meth c H locs 0 0 (MQ below (kQi D (cW cy ad) cy A Q) args s 0 0 A) (F0 m 16 ls []) := by
  intro n
  induction n with
  | zero => intro x1 x2 x3 u H locs ls hw; exact False.elim hw
  | succ n ih => exact kX5_oneAction_B16 C hr hlk ih
def wX5_oneAction (x1 : Int32) (u : ST) (Q : Int32 → ST → Prop) : Prop :=
  (vp_in x1 17 ∧ (vp_in (0 : Int32) 256 ∧ (vp_in (gR u (16 + x1.toNatClampNeg) (0 : Int32).toNatClampNeg) 256 ∧ (∀ x2_1 : Int32, x2_1 = gR u 8 (gR u (16 + x1.toNatClampNeg) (0 : Int32).toNatClampNeg).toNatClampNeg → (∃ n : Nat, wX5_oneAction_L16 Q n x1 x2_1 1 u)))))
set_option maxHeartbeats 4000000 in
set_option maxRecDepth 100000 in
theorem mX5_oneAction (l : Launch) (D : va_G) (cy : CY) (ad : Nat → Nat) (x1 : Int32) (u : ST) (sz : Nat) {Q : Int32 → ST → Prop} (hw : wX5_oneAction x1 u Q) : Met l yX5_oneAction (wM yX5_oneAction cX5_oneAction 4 (some .int)) (kRm 0) (kPc D (cW cy ad) cy u sz [.ref (ad 8), .int x1]) (kQi D (cW cy ad) cy (va_A (cW cy ad u) sz) Q) 0 0 (va_A (cW cy ad u) sz) := by
  refine kMet pn_X5_oneAction (Nat.le_of_ble_eq_true rfl) (fun p e s m below meth c ls hsz C hr hlk hex h hl => ?_)
  have hl : lv_has ls 4 [(0, .ref (ad 8)), (1, .int x1)] := hl
  obtain ⟨⟨hx, hb, hml, hown, hts⟩, hK, hA⟩ := id C
  unfold wX5_oneAction at hw
  have h : kH D (cW cy ad) (va_A (cW cy ad u) sz) s u s.heap [] := h
  refine lv_aload_n hx hb dX5_oneAction_0 rfl (lv_at hl 0 rfl) ?_
  refine kget C h 8 rfl rfl inBX5 2 (Nat.le_of_ble_eq_true rfl) wi_fl_X5_18 rfl dX5_oneAction_1 ?_
  refine lv_aload_n hx hb dX5_oneAction_4 rfl (lv_at hl 0 rfl) ?_
  refine kget C h 8 rfl rfl inBX5 4 (Nat.le_of_ble_eq_true rfl) wi_fl_X5_23 rfl dX5_oneAction_5 ?_
  refine lv_iload_n hx hb dX5_oneAction_8 rfl (lv_at hl 1 rfl) ?_
  obtain ⟨i_9, hw⟩ := hw
  refine kaald C h 16 (f := fun d => aR ad (16 + d)) rfl i_9 dX5_oneAction_9 ?_
  have b_9 := vp_lt i_9
  refine lv_iconst (v := 0) hx hb dX5_oneAction_10 (by decide) ?_
  obtain ⟨i_11, hw⟩ := hw
  have b_11 := vp_lt i_9
  refine kiald C h (17 + (16 + x1.toNatClampNeg)) (cW_R cy ad u (16 + x1.toNatClampNeg) (by omega)) (by rw [lenR_256 (by omega)]; exact i_11) dX5_oneAction_11 ?_
  obtain ⟨i_12, hw⟩ := hw
  refine kiald C h 25 rfl i_12 dX5_oneAction_12 ?_
  refine lv_topi (fun x2_1 ex2_1 => ?_)
  have hw := hw x2_1 ex2_1
  refine lv_istore_n (lv' := [(2, .int x2_1), (0, .ref (ad 8)), (1, .int x1)]) hx hb dX5_oneAction_13 rfl hl (by decide) rfl (fun ls hl => ?_)
  refine lv_iconst (v := 1) hx hb dX5_oneAction_14 (by decide) ?_
  refine lv_istore_n (lv' := [(3, .int 1), (2, .int x2_1), (0, .ref (ad 8)), (1, .int x1)]) hx hb dX5_oneAction_15 rfl hl (by decide) rfl (fun ls hl => ?_)
  obtain ⟨n, hw⟩ := hw
  exact kX5_oneAction_L16 C hr hlk n x1 x2_1 1 _ _ _ _ hw h (lv_sub hl [2, 3, 1, 0] rfl)

def wX5_isBetter (x1 : Int32) (x2 : Int32) (u : ST) (Q : Int32 → ST → Prop) : Prop :=
  (vp_in x1 16 ∧ (vp_in x2 16 ∧ (((gR u 10 x1.toNatClampNeg) = (gR u 10 x2.toNatClampNeg) → (vp_in x1 16 ∧ (vp_in x2 16 ∧ (((if 0 ≤ (gR u 11 x1.toNatClampNeg) then (gR u 11 x1.toNatClampNeg) else 0 - (gR u 11 x1.toNatClampNeg)) ≤ (if 0 ≤ (gR u 11 x2.toNatClampNeg) then (gR u 11 x2.toNatClampNeg) else 0 - (gR u 11 x2.toNatClampNeg)) → Q 0 u) ∧ (¬ (if 0 ≤ (gR u 11 x1.toNatClampNeg) then (gR u 11 x1.toNatClampNeg) else 0 - (gR u 11 x1.toNatClampNeg)) ≤ (if 0 ≤ (gR u 11 x2.toNatClampNeg) then (gR u 11 x2.toNatClampNeg) else 0 - (gR u 11 x2.toNatClampNeg)) → Q 1 u))))) ∧ (¬ (gR u 10 x1.toNatClampNeg) = (gR u 10 x2.toNatClampNeg) → (vp_in x1 16 ∧ (vp_in x2 16 ∧ (((gR u 10 x2.toNatClampNeg) ≤ (gR u 10 x1.toNatClampNeg) → Q 0 u) ∧ (¬ (gR u 10 x2.toNatClampNeg) ≤ (gR u 10 x1.toNatClampNeg) → Q 1 u))))))))
set_option maxHeartbeats 4000000 in
set_option maxRecDepth 100000 in
theorem mX5_isBetter (l : Launch) (D : va_G) (cy : CY) (ad : Nat → Nat) (x1 : Int32) (x2 : Int32) (u : ST) (sz : Nat) {Q : Int32 → ST → Prop} (hw : wX5_isBetter x1 x2 u Q) : Met l yX5_isBetter (wM yX5_isBetter cX5_isBetter 3 (some .boolean)) (kRm 1) (kPc D (cW cy ad) cy u sz [.ref (ad 8), .int x1, .int x2]) (kQi D (cW cy ad) cy (va_A (cW cy ad u) sz) Q) 0 0 (va_A (cW cy ad u) sz) := by
  refine kMet pn_X5_isBetter (Nat.le_of_ble_eq_true rfl) (fun p e s m below meth c ls hsz C hr hlk hex h hl => ?_)
  have hl : lv_has ls 3 [(0, .ref (ad 8)), (1, .int x1), (2, .int x2)] := hl
  obtain ⟨⟨hx, hb, hml, hown, hts⟩, hK, hA⟩ := id C
  unfold wX5_isBetter at hw
  have h : kH D (cW cy ad) (va_A (cW cy ad u) sz) s u s.heap [] := h
  refine lv_aload_n hx hb dX5_isBetter_0 rfl (lv_at hl 0 rfl) ?_
  refine kget C h 8 rfl rfl inBX5 6 (Nat.le_of_ble_eq_true rfl) wi_fl_X5_29 rfl dX5_isBetter_1 ?_
  refine lv_iload_n hx hb dX5_isBetter_4 rfl (lv_at hl 1 rfl) ?_
  obtain ⟨i_5, hw⟩ := hw
  refine kiald C h 27 rfl i_5 dX5_isBetter_5 ?_
  refine lv_aload_n hx hb dX5_isBetter_6 rfl (lv_at hl 0 rfl) ?_
  refine kget C h 8 rfl rfl inBX5 6 (Nat.le_of_ble_eq_true rfl) wi_fl_X5_29 rfl dX5_isBetter_7 ?_
  refine lv_iload_n hx hb dX5_isBetter_10 rfl (lv_at hl 2 rfl) ?_
  obtain ⟨i_11, hw⟩ := hw
  refine kiald C h 27 rfl i_11 dX5_isBetter_11 ?_
  refine lv_icmp_eq (tgt := 36) hx hb dX5_isBetter_12 (by decide) (fun c_12 => ?_) (fun c_12 => ?_)
  · have hw := hw.1 c_12
    refine lv_aload_n hx hb dX5_isBetter_36 rfl (lv_at hl 0 rfl) ?_
    refine kget C h 8 rfl rfl inBX5 7 (Nat.le_of_ble_eq_true rfl) wi_fl_X5_32 rfl dX5_isBetter_37 ?_
    refine lv_iload_n hx hb dX5_isBetter_40 rfl (lv_at hl 1 rfl) ?_
    obtain ⟨i_41, hw⟩ := hw
    refine kiald C h 28 rfl i_41 dX5_isBetter_41 ?_
    refine va_mabs hx hb (hml.trans hl.1.symm) hown (hts _ wi_ml_X5_82) (hts _ wi_st_J9_abs_0f7a4) (hts _ wi_in_J9) (hts _ wi_co_J9_abs_0f7a4) (Nat.le_of_ble_eq_true rfl) (Nat.le_of_ble_eq_true rfl) (Nat.zero_le _) (Nat.zero_le _) dX5_isBetter_42 ?_
    refine lv_aload_n hx hb dX5_isBetter_45 rfl (lv_at hl 0 rfl) ?_
    refine kget C h 8 rfl rfl inBX5 7 (Nat.le_of_ble_eq_true rfl) wi_fl_X5_32 rfl dX5_isBetter_46 ?_
    refine lv_iload_n hx hb dX5_isBetter_49 rfl (lv_at hl 2 rfl) ?_
    obtain ⟨i_50, hw⟩ := hw
    refine kiald C h 28 rfl i_50 dX5_isBetter_50 ?_
    refine va_mabs hx hb (hml.trans hl.1.symm) hown (hts _ wi_ml_X5_82) (hts _ wi_st_J9_abs_0f7a4) (hts _ wi_in_J9) (hts _ wi_co_J9_abs_0f7a4) (Nat.le_of_ble_eq_true rfl) (Nat.le_of_ble_eq_true rfl) (Nat.zero_le _) (Nat.zero_le _) dX5_isBetter_51 ?_
    refine lv_icmp_le (tgt := 61) hx hb dX5_isBetter_54 (by decide) (fun c_54 => ?_) (fun c_54 => ?_)
    · have hw := hw.1 c_54
      refine lv_iconst (v := 0) hx hb dX5_isBetter_61 (by decide) ?_
      exact kretZ C hr hlk h (Or.inl rfl) hw dX5_isBetter_62
    · have hw := hw.2 c_54
      refine lv_iconst (v := 1) hx hb dX5_isBetter_57 (by decide) ?_
      refine lv_goto (tgt := 62) hx hb dX5_isBetter_58 (by decide) ?_
      exact kretZ C hr hlk h (Or.inr rfl) hw dX5_isBetter_62
  · have hw := hw.2 c_12
    refine lv_aload_n hx hb dX5_isBetter_15 rfl (lv_at hl 0 rfl) ?_
    refine kget C h 8 rfl rfl inBX5 6 (Nat.le_of_ble_eq_true rfl) wi_fl_X5_29 rfl dX5_isBetter_16 ?_
    refine lv_iload_n hx hb dX5_isBetter_19 rfl (lv_at hl 1 rfl) ?_
    obtain ⟨i_20, hw⟩ := hw
    refine kiald C h 27 rfl i_20 dX5_isBetter_20 ?_
    refine lv_aload_n hx hb dX5_isBetter_21 rfl (lv_at hl 0 rfl) ?_
    refine kget C h 8 rfl rfl inBX5 6 (Nat.le_of_ble_eq_true rfl) wi_fl_X5_29 rfl dX5_isBetter_22 ?_
    refine lv_iload_n hx hb dX5_isBetter_25 rfl (lv_at hl 2 rfl) ?_
    obtain ⟨i_26, hw⟩ := hw
    refine kiald C h 27 rfl i_26 dX5_isBetter_26 ?_
    refine lv_icmp_ge (tgt := 34) hx hb dX5_isBetter_27 (by decide) (fun c_27 => ?_) (fun c_27 => ?_)
    · have hw := hw.1 c_27
      refine lv_iconst (v := 0) hx hb dX5_isBetter_34 (by decide) ?_
      exact kretZ C hr hlk h (Or.inl rfl) hw dX5_isBetter_35
    · have hw := hw.2 c_27
      refine lv_iconst (v := 1) hx hb dX5_isBetter_30 (by decide) ?_
      refine lv_goto (tgt := 35) hx hb dX5_isBetter_31 (by decide) ?_
      exact kretZ C hr hlk h (Or.inr rfl) hw dX5_isBetter_35

def wX5_addWeight_b73 (K2 : Int32 → Int32 → Int32 → ST → Prop) (Q : ST → Prop) (x1 : Int32) (x2 : Int32) (x3 : Int32) (u : ST) : Prop :=
  K2 x1 x2 (x3 + 1) u
set_option maxHeartbeats 4000000 in
set_option maxRecDepth 100000 in
theorem kX5_addWeight_b73 {p : Program} {l : Launch} {e : Env} {s : State} {m : MethodId} {args : Array Value} {below : List Frame} {meth : Method} {c : Code} {D : va_G} {cy : CY} {A : Nat → Prop} {ad : Nat → Nat} {K2 : Int32 → Int32 → Int32 → ST → Prop} {Q : ST → Prop} (C : kC p m c cX5_addWeight 5 s args RX5 D cy A) (hr : meth.sig.returnType = none) (hlk : meth.locks = false) (g2 : ∀ (x1 : Int32) (x2 : Int32) (x3 : Int32) (u : ST) (H : Heap) (locs : List Loc) (ls : Array Slot), K2 x1 x2 x3 u → kH D (cW cy ad) A s u H locs → lv_has ls 5 [(0, .ref (ad 8)), (1, .int x1), (2, .int x2), (3, .int x3)] → W p l e (kRm 0) s m args below meth c H locs 0 0 (MQ below (kQv D (cW cy ad) cy A Q) args s 0 0 A) (F0 m 2 ls [])) : ∀ (x1 : Int32) (x2 : Int32) (x3 : Int32) (u : ST) (H : Heap) (locs : List Loc) (ls : Array Slot), wX5_addWeight_b73 K2 Q x1 x2 x3 u → kH D (cW cy ad) A s u H locs → lv_has ls 5 [(0, .ref (ad 8)), (1, .int x1), (2, .int x2), (3, .int x3)] → W p l e (kRm 0) s m args below meth c H locs 0 0 (MQ below (kQv D (cW cy ad) cy A Q) args s 0 0 A) (F0 m 73 ls []) := by
  intro x1 x2 x3 u H locs ls hw h hl
  obtain ⟨⟨hx, hb, hml, hown, hts⟩, hK, hA⟩ := id C
  unfold wX5_addWeight_b73 at hw
  refine lv_iinc (v := x3 + 1) (lv' := [(3, .int (x3 + 1)), (0, .ref (ad 8)), (1, .int x1), (2, .int x2)]) hx hb dX5_addWeight_73 hl (k := 3) rfl rfl (by decide) rfl (fun ls hl => ?_)
  refine lv_goto (tgt := 2) hx hb dX5_addWeight_76 (by decide) ?_
  exact g2 x1 x2 (x3 + 1) _ _ _ _ hw h (lv_sub hl [1, 2, 3, 0] rfl)
def wX5_addWeight_B2 (K2 : Int32 → Int32 → Int32 → ST → Prop) (Q : ST → Prop) (x1 : Int32) (x2 : Int32) (x3 : Int32) (u : ST) : Prop :=
  ((16 ≤ x3 → Q u) ∧ (¬ 16 ≤ x3 → (vp_in x1 256 ∧ ((((gR u 6 x1.toNatClampNeg) &&& (1 <<< (x3 &&& 31))) = 0 → (vp_in x1 256 ∧ ((((gR u 7 x1.toNatClampNeg) &&& (1 <<< (x3 &&& 31))) = 0 → (vp_in x3 16 ∧ (vp_in x3 16 ∧ wX5_addWeight_b73 K2 Q x1 x2 x3 (sR u 10 x3.toNatClampNeg ((gR u 10 x3.toNatClampNeg) + x2))))) ∧ (¬ ((gR u 7 x1.toNatClampNeg) &&& (1 <<< (x3 &&& 31))) = 0 → (vp_in x3 16 ∧ (vp_in x3 16 ∧ wX5_addWeight_b73 K2 Q x1 x2 x3 (sR u 11 x3.toNatClampNeg ((gR u 11 x3.toNatClampNeg) - x2)))))))) ∧ (¬ ((gR u 6 x1.toNatClampNeg) &&& (1 <<< (x3 &&& 31))) = 0 → (vp_in x3 16 ∧ (vp_in x3 16 ∧ wX5_addWeight_b73 K2 Q x1 x2 x3 (sR u 11 x3.toNatClampNeg ((gR u 11 x3.toNatClampNeg) + x2)))))))))
set_option maxHeartbeats 4000000 in
set_option maxRecDepth 100000 in
theorem kX5_addWeight_B2 {p : Program} {l : Launch} {e : Env} {s : State} {m : MethodId} {args : Array Value} {below : List Frame} {meth : Method} {c : Code} {D : va_G} {cy : CY} {A : Nat → Prop} {ad : Nat → Nat} {K2 : Int32 → Int32 → Int32 → ST → Prop} {Q : ST → Prop} (C : kC p m c cX5_addWeight 5 s args RX5 D cy A) (hr : meth.sig.returnType = none) (hlk : meth.locks = false) (g2 : ∀ (x1 : Int32) (x2 : Int32) (x3 : Int32) (u : ST) (H : Heap) (locs : List Loc) (ls : Array Slot), K2 x1 x2 x3 u → kH D (cW cy ad) A s u H locs → lv_has ls 5 [(0, .ref (ad 8)), (1, .int x1), (2, .int x2), (3, .int x3)] → W p l e (kRm 0) s m args below meth c H locs 0 0 (MQ below (kQv D (cW cy ad) cy A Q) args s 0 0 A) (F0 m 2 ls [])) : ∀ (x1 : Int32) (x2 : Int32) (x3 : Int32) (u : ST) (H : Heap) (locs : List Loc) (ls : Array Slot), wX5_addWeight_B2 K2 Q x1 x2 x3 u → kH D (cW cy ad) A s u H locs → lv_has ls 5 [(0, .ref (ad 8)), (1, .int x1), (2, .int x2), (3, .int x3)] → W p l e (kRm 0) s m args below meth c H locs 0 0 (MQ below (kQv D (cW cy ad) cy A Q) args s 0 0 A) (F0 m 2 ls []) := by
  intro x1 x2 x3 u H locs ls hw h hl
  obtain ⟨⟨hx, hb, hml, hown, hts⟩, hK, hA⟩ := id C
  unfold wX5_addWeight_B2 at hw
  refine lv_iload_n hx hb dX5_addWeight_2 rfl (lv_at hl 3 rfl) ?_
  refine lv_bipush (v := 16) hx hb dX5_addWeight_3 (by decide) ?_
  refine lv_icmp_ge (tgt := 79) hx hb dX5_addWeight_5 (by decide) (fun c_5 => ?_) (fun c_5 => ?_)
  · have hw := hw.1 c_5
    exact kretV C hr hlk h hw dX5_addWeight_79
  · have hw := hw.2 c_5
    refine lv_iconst (v := 1) hx hb dX5_addWeight_8 (by decide) ?_
    refine lv_iload_n hx hb dX5_addWeight_9 rfl (lv_at hl 3 rfl) ?_
    refine lv_ishl hx hb dX5_addWeight_10 ?_
    refine lv_istore (lv' := [(4, .int (1 <<< (x3 &&& 31))), (0, .ref (ad 8)), (1, .int x1), (2, .int x2), (3, .int x3)]) hx hb dX5_addWeight_11 hl (by decide) rfl (fun ls hl => ?_)
    refine lv_aload_n hx hb dX5_addWeight_13 rfl (lv_at hl 1 rfl) ?_
    refine kget C h 8 rfl rfl inBX5 0 (Nat.le_of_ble_eq_true rfl) wi_fl_X5_9 rfl dX5_addWeight_14 ?_
    refine lv_iload_n hx hb dX5_addWeight_17 rfl (lv_at hl 2 rfl) ?_
    obtain ⟨i_18, hw⟩ := hw
    refine kiald C h 23 rfl i_18 dX5_addWeight_18 ?_
    refine lv_iload hx hb dX5_addWeight_19 (lv_at hl 0 rfl) ?_
    refine lv_iand hx hb dX5_addWeight_21 ?_
    refine lv_if_eq (tgt := 38) hx hb dX5_addWeight_22 (by decide) (fun c_22 => ?_) (fun c_22 => ?_)
    · have hw := hw.1 c_22
      refine lv_aload_n hx hb dX5_addWeight_38 rfl (lv_at hl 1 rfl) ?_
      refine kget C h 8 rfl rfl inBX5 1 (Nat.le_of_ble_eq_true rfl) wi_fl_X5_15 rfl dX5_addWeight_39 ?_
      refine lv_iload_n hx hb dX5_addWeight_42 rfl (lv_at hl 2 rfl) ?_
      obtain ⟨i_43, hw⟩ := hw
      refine kiald C h 24 rfl i_43 dX5_addWeight_43 ?_
      refine lv_iload hx hb dX5_addWeight_44 (lv_at hl 0 rfl) ?_
      refine lv_iand hx hb dX5_addWeight_46 ?_
      refine lv_if_eq (tgt := 63) hx hb dX5_addWeight_47 (by decide) (fun c_47 => ?_) (fun c_47 => ?_)
      · have hw := hw.1 c_47
        refine lv_aload_n hx hb dX5_addWeight_63 rfl (lv_at hl 1 rfl) ?_
        refine kget C h 8 rfl rfl inBX5 6 (Nat.le_of_ble_eq_true rfl) wi_fl_X5_29 rfl dX5_addWeight_64 ?_
        refine lv_iload_n hx hb dX5_addWeight_67 rfl (lv_at hl 4 rfl) ?_
        refine lv_dup2_11 hx hb dX5_addWeight_68 rfl rfl ?_
        obtain ⟨i_69, hw⟩ := hw
        refine kiald C h 27 rfl i_69 dX5_addWeight_69 ?_
        refine lv_iload_n hx hb dX5_addWeight_70 rfl (lv_at hl 3 rfl) ?_
        refine lv_iadd hx hb dX5_addWeight_71 ?_
        obtain ⟨i_72, hw⟩ := hw
        refine kiast C h 27 rfl i_72 (cS_R cy ad u x3.toNatClampNeg ((gR u 10 x3.toNatClampNeg) + x2) 10 (Nat.le_of_ble_eq_true rfl)) dX5_addWeight_72 (fun H locs h => ?_)
        exact kX5_addWeight_b73 C hr hlk g2 x1 x2 x3 _ _ _ _ hw h (lv_sub hl [1, 2, 3, 4] rfl)
      · have hw := hw.2 c_47
        refine lv_aload_n hx hb dX5_addWeight_50 rfl (lv_at hl 1 rfl) ?_
        refine kget C h 8 rfl rfl inBX5 7 (Nat.le_of_ble_eq_true rfl) wi_fl_X5_32 rfl dX5_addWeight_51 ?_
        refine lv_iload_n hx hb dX5_addWeight_54 rfl (lv_at hl 4 rfl) ?_
        refine lv_dup2_11 hx hb dX5_addWeight_55 rfl rfl ?_
        obtain ⟨i_56, hw⟩ := hw
        refine kiald C h 28 rfl i_56 dX5_addWeight_56 ?_
        refine lv_iload_n hx hb dX5_addWeight_57 rfl (lv_at hl 3 rfl) ?_
        refine lv_isub hx hb dX5_addWeight_58 ?_
        obtain ⟨i_59, hw⟩ := hw
        refine kiast C h 28 rfl i_59 (cS_R cy ad u x3.toNatClampNeg ((gR u 11 x3.toNatClampNeg) - x2) 11 (Nat.le_of_ble_eq_true rfl)) dX5_addWeight_59 (fun H locs h => ?_)
        refine lv_goto (tgt := 73) hx hb dX5_addWeight_60 (by decide) ?_
        exact kX5_addWeight_b73 C hr hlk g2 x1 x2 x3 _ _ _ _ hw h (lv_sub hl [1, 2, 3, 4] rfl)
    · have hw := hw.2 c_22
      refine lv_aload_n hx hb dX5_addWeight_25 rfl (lv_at hl 1 rfl) ?_
      refine kget C h 8 rfl rfl inBX5 7 (Nat.le_of_ble_eq_true rfl) wi_fl_X5_32 rfl dX5_addWeight_26 ?_
      refine lv_iload_n hx hb dX5_addWeight_29 rfl (lv_at hl 4 rfl) ?_
      refine lv_dup2_11 hx hb dX5_addWeight_30 rfl rfl ?_
      obtain ⟨i_31, hw⟩ := hw
      refine kiald C h 28 rfl i_31 dX5_addWeight_31 ?_
      refine lv_iload_n hx hb dX5_addWeight_32 rfl (lv_at hl 3 rfl) ?_
      refine lv_iadd hx hb dX5_addWeight_33 ?_
      obtain ⟨i_34, hw⟩ := hw
      refine kiast C h 28 rfl i_34 (cS_R cy ad u x3.toNatClampNeg ((gR u 11 x3.toNatClampNeg) + x2) 11 (Nat.le_of_ble_eq_true rfl)) dX5_addWeight_34 (fun H locs h => ?_)
      refine lv_goto (tgt := 73) hx hb dX5_addWeight_35 (by decide) ?_
      exact kX5_addWeight_b73 C hr hlk g2 x1 x2 x3 _ _ _ _ hw h (lv_sub hl [1, 2, 3, 4] rfl)
def wX5_addWeight_L2 (Q : ST → Prop) : Nat → Int32 → Int32 → Int32 → ST → Prop
  | 0, _, _, _, _ => False
  | n + 1, x1, x2, x3, u => wX5_addWeight_B2 (wX5_addWeight_L2 Q n) Q x1 x2 x3 u
set_option maxHeartbeats 4000000 in
theorem kX5_addWeight_L2 {p : Program} {l : Launch} {e : Env} {s : State} {m : MethodId} {args : Array Value} {below : List Frame} {meth : Method} {c : Code} {D : va_G} {cy : CY} {A : Nat → Prop} {ad : Nat → Nat} {Q : ST → Prop} (C : kC p m c cX5_addWeight 5 s args RX5 D cy A) (hr : meth.sig.returnType = none) (hlk : meth.locks = false) : ∀ n : Nat, ∀ (x1 : Int32) (x2 : Int32) (x3 : Int32) (u : ST) (H : Heap) (locs : List Loc) (ls : Array Slot), wX5_addWeight_L2 Q n x1 x2 x3 u → kH D (cW cy ad) A s u H locs → lv_has ls 5 [(0, .ref (ad 8)), (1, .int x1), (2, .int x2), (3, .int x3)] → W p l e (kRm 0) s m args below meth c H locs 0 0 (MQ below (kQv D (cW cy ad) cy A Q) args s 0 0 A) (F0 m 2 ls []) := by
  intro n
  induction n with
  | zero => intro x1 x2 x3 u H locs ls hw; exact False.elim hw
  | succ n ih => exact kX5_addWeight_B2 C hr hlk ih
def wX5_addWeight (x1 : Int32) (x2 : Int32) (u : ST) (Q : ST → Prop) : Prop :=
  (∃ n : Nat, wX5_addWeight_L2 Q n x1 x2 0 u)
set_option maxHeartbeats 4000000 in
set_option maxRecDepth 100000 in
theorem mX5_addWeight (l : Launch) (D : va_G) (cy : CY) (ad : Nat → Nat) (x1 : Int32) (x2 : Int32) (u : ST) (sz : Nat) {Q : ST → Prop} (hw : wX5_addWeight x1 x2 u Q) : Met l yX5_addWeight (wM yX5_addWeight cX5_addWeight 5 none) (kRm 0) (kPc D (cW cy ad) cy u sz [.ref (ad 8), .int x1, .int x2]) (kQv D (cW cy ad) cy (va_A (cW cy ad u) sz) Q) 0 0 (va_A (cW cy ad u) sz) := by
  refine kMet pn_X5_addWeight (Nat.le_of_ble_eq_true rfl) (fun p e s m below meth c ls hsz C hr hlk hex h hl => ?_)
  have hl : lv_has ls 5 [(0, .ref (ad 8)), (1, .int x1), (2, .int x2)] := hl
  obtain ⟨⟨hx, hb, hml, hown, hts⟩, hK, hA⟩ := id C
  unfold wX5_addWeight at hw
  have h : kH D (cW cy ad) (va_A (cW cy ad u) sz) s u s.heap [] := h
  refine lv_iconst (v := 0) hx hb dX5_addWeight_0 (by decide) ?_
  refine lv_istore_n (lv' := [(3, .int 0), (0, .ref (ad 8)), (1, .int x1), (2, .int x2)]) hx hb dX5_addWeight_1 rfl hl (by decide) rfl (fun ls hl => ?_)
  obtain ⟨n, hw⟩ := hw
  exact kX5_addWeight_L2 C hr hlk n x1 x2 0 _ _ _ _ hw h (lv_sub hl [1, 2, 3, 0] rfl)

def wX5_weigh_B30 (K30 : Int32 → Int32 → Int32 → ST → Prop) (Q : ST → Prop) (x1 : Int32) (x2 : Int32) (x3 : Int32) (u : ST) : Prop :=
  (vp_in x1 17 ∧ (((gR u 9 x1.toNatClampNeg) ≤ x3 → Q u) ∧ (¬ (gR u 9 x1.toNatClampNeg) ≤ x3 → (vp_in x1 17 ∧ (vp_in x3 256 ∧ (vp_in (gR u (16 + x1.toNatClampNeg) x3.toNatClampNeg) 256 ∧ (vp_in (gR u (16 + x1.toNatClampNeg) x3.toNatClampNeg) 256 ∧ wJ6_bitCount_0f7a4 (x2 &&& (((gR u 6 (gR u (16 + x1.toNatClampNeg) x3.toNatClampNeg).toNatClampNeg) ||| (gR u 7 (gR u (16 + x1.toNatClampNeg) x3.toNatClampNeg).toNatClampNeg)) ^^^ (-1))) u (fun r_1 u_2 => wX5_addWeight (gR u (16 + x1.toNatClampNeg) x3.toNatClampNeg) (1 <<< (r_1 &&& 31)) u_2 (fun u_4 => K30 x1 x2 (x3 + 1) u_4)))))))))
set_option maxHeartbeats 4000000 in
set_option maxRecDepth 100000 in
theorem kX5_weigh_B30 {p : Program} {l : Launch} {e : Env} {s : State} {m : MethodId} {args : Array Value} {below : List Frame} {meth : Method} {c : Code} {D : va_G} {cy : CY} {A : Nat → Prop} {ad : Nat → Nat} {K30 : Int32 → Int32 → Int32 → ST → Prop} {Q : ST → Prop} (C : kC p m c cX5_weigh 5 s args RX5 D cy A) (hr : meth.sig.returnType = none) (hlk : meth.locks = false) (g30 : ∀ (x1 : Int32) (x2 : Int32) (x3 : Int32) (u : ST) (H : Heap) (locs : List Loc) (ls : Array Slot), K30 x1 x2 x3 u → kH D (cW cy ad) A s u H locs → lv_has ls 5 [(0, .ref (ad 8)), (1, .int x1), (2, .int x2), (3, .int x3)] → W p l e (kRm 1) s m args below meth c H locs 0 0 (MQ below (kQv D (cW cy ad) cy A Q) args s 0 0 A) (F0 m 30 ls [])) : ∀ (x1 : Int32) (x2 : Int32) (x3 : Int32) (u : ST) (H : Heap) (locs : List Loc) (ls : Array Slot), wX5_weigh_B30 K30 Q x1 x2 x3 u → kH D (cW cy ad) A s u H locs → lv_has ls 5 [(0, .ref (ad 8)), (1, .int x1), (2, .int x2), (3, .int x3)] → W p l e (kRm 1) s m args below meth c H locs 0 0 (MQ below (kQv D (cW cy ad) cy A Q) args s 0 0 A) (F0 m 30 ls []) := by
  intro x1 x2 x3 u H locs ls hw h hl
  obtain ⟨⟨hx, hb, hml, hown, hts⟩, hK, hA⟩ := id C
  unfold wX5_weigh_B30 at hw
  refine lv_iload_n hx hb dX5_weigh_30 rfl (lv_at hl 3 rfl) ?_
  refine lv_aload_n hx hb dX5_weigh_31 rfl (lv_at hl 0 rfl) ?_
  refine kget C h 8 rfl rfl inBX5 5 (Nat.le_of_ble_eq_true rfl) wi_fl_X5_26 rfl dX5_weigh_32 ?_
  refine lv_iload_n hx hb dX5_weigh_35 rfl (lv_at hl 1 rfl) ?_
  obtain ⟨i_36, hw⟩ := hw
  refine kiald C h 26 rfl i_36 dX5_weigh_36 ?_
  refine lv_icmp_ge (tgt := 86) hx hb dX5_weigh_37 (by decide) (fun c_37 => ?_) (fun c_37 => ?_)
  · have hw := hw.1 c_37
    exact kretV C hr hlk h hw dX5_weigh_86
  · have hw := hw.2 c_37
    refine lv_aload_n hx hb dX5_weigh_40 rfl (lv_at hl 0 rfl) ?_
    refine kget C h 8 rfl rfl inBX5 4 (Nat.le_of_ble_eq_true rfl) wi_fl_X5_23 rfl dX5_weigh_41 ?_
    refine lv_iload_n hx hb dX5_weigh_44 rfl (lv_at hl 1 rfl) ?_
    obtain ⟨i_45, hw⟩ := hw
    refine kaald C h 16 (f := fun d => aR ad (16 + d)) rfl i_45 dX5_weigh_45 ?_
    have b_45 := vp_lt i_45
    refine lv_iload_n hx hb dX5_weigh_46 rfl (lv_at hl 3 rfl) ?_
    obtain ⟨i_47, hw⟩ := hw
    have b_47 := vp_lt i_45
    refine kiald C h (17 + (16 + x1.toNatClampNeg)) (cW_R cy ad u (16 + x1.toNatClampNeg) (by omega)) (by rw [lenR_256 (by omega)]; exact i_47) dX5_weigh_47 ?_
    refine lv_istore (lv' := [(4, .int (gR u (16 + x1.toNatClampNeg) x3.toNatClampNeg)), (0, .ref (ad 8)), (1, .int x1), (2, .int x2), (3, .int x3)]) hx hb dX5_weigh_48 hl (by decide) rfl (fun ls hl => ?_)
    refine lv_aload_n hx hb dX5_weigh_50 rfl (lv_at hl 1 rfl) ?_
    refine lv_iload hx hb dX5_weigh_51 (lv_at hl 0 rfl) ?_
    refine lv_iconst (v := 1) hx hb dX5_weigh_53 (by decide) ?_
    refine lv_iload_n hx hb dX5_weigh_54 rfl (lv_at hl 3 rfl) ?_
    refine lv_aload_n hx hb dX5_weigh_55 rfl (lv_at hl 1 rfl) ?_
    refine kget C h 8 rfl rfl inBX5 0 (Nat.le_of_ble_eq_true rfl) wi_fl_X5_9 rfl dX5_weigh_56 ?_
    refine lv_iload hx hb dX5_weigh_59 (lv_at hl 0 rfl) ?_
    obtain ⟨i_61, hw⟩ := hw
    refine kiald C h 23 rfl i_61 dX5_weigh_61 ?_
    refine lv_aload_n hx hb dX5_weigh_62 rfl (lv_at hl 1 rfl) ?_
    refine kget C h 8 rfl rfl inBX5 1 (Nat.le_of_ble_eq_true rfl) wi_fl_X5_15 rfl dX5_weigh_63 ?_
    refine lv_iload hx hb dX5_weigh_66 (lv_at hl 0 rfl) ?_
    obtain ⟨i_68, hw⟩ := hw
    refine kiald C h 24 rfl i_68 dX5_weigh_68 ?_
    refine lv_ior hx hb dX5_weigh_69 ?_
    refine lv_iconst (v := (-1)) hx hb dX5_weigh_70 (by decide) ?_
    refine lv_ixor hx hb dX5_weigh_71 ?_
    refine lv_iand hx hb dX5_weigh_72 ?_
    refine kSi (As := [.int (x2 &&& (((gR u 6 (gR u (16 + x1.toNatClampNeg) x3.toNatClampNeg).toNatClampNeg) ||| (gR u 7 (gR u (16 + x1.toNatClampNeg) x3.toNatClampNeg).toNatClampNeg)) ^^^ (-1)))]) (rest := [.int 1, .int (gR u (16 + x1.toNatClampNeg) x3.toNatClampNeg), .ref (ad 8)]) C h (va_cwS 1 hts (gd_S wi_ml_X5_68 wi_st_J6_bitCount_0f7a4 wi_in_J6 wi_co_J6_bitCount_0f7a4) rfl rfl rfl hd_J6_bitCount_0f7a4.2 ⟨Nat.le_of_ble_eq_true rfl, Nat.le_of_ble_eq_true rfl⟩) (mJ6_bitCount_0f7a4 l D cy ad (x2 &&& (((gR u 6 (gR u (16 + x1.toNatClampNeg) x3.toNatClampNeg).toNatClampNeg) ||| (gR u 7 (gR u (16 + x1.toNatClampNeg) x3.toNatClampNeg).toNatClampNeg)) ^^^ (-1))) _ _ hw) rfl hl.1 rfl (Nat.le_of_ble_eq_true rfl) ⟨Nat.zero_le _, Nat.zero_le _⟩ dX5_weigh_73 (fun r_1 u_2 H locs hw h => ?_)
    refine lv_ishl hx hb dX5_weigh_76 ?_
    refine kVv (As := [.int (gR u (16 + x1.toNatClampNeg) x3.toNatClampNeg), .int (1 <<< (r_1 &&& 31))]) (rest := []) C h (cwV 2 hts (gd_V wi_ml_X5_87 wi_im_X5_addWeight wi_se_X5_addWeight wi_in_X5 wi_co_X5_addWeight) rfl rfl rfl hd_X5_addWeight ⟨Nat.le_of_ble_eq_true rfl, Nat.le_of_ble_eq_true rfl⟩) 8 rfl rfl rfl (mX5_addWeight l D cy ad (gR u (16 + x1.toNatClampNeg) x3.toNatClampNeg) (1 <<< (r_1 &&& 31)) _ _ hw) rfl hl.1 rfl (Nat.le_of_ble_eq_true rfl) ⟨Nat.zero_le _, Nat.zero_le _⟩ dX5_weigh_77 (fun u_4 H locs hw h => ?_)
    refine lv_iinc (v := x3 + 1) (lv' := [(3, .int (x3 + 1)), (4, .int (gR u (16 + x1.toNatClampNeg) x3.toNatClampNeg)), (0, .ref (ad 8)), (1, .int x1), (2, .int x2)]) hx hb dX5_weigh_80 hl (k := 4) rfl rfl (by decide) rfl (fun ls hl => ?_)
    refine lv_goto (tgt := 30) hx hb dX5_weigh_83 (by decide) ?_
    exact g30 x1 x2 (x3 + 1) _ _ _ _ hw h (lv_sub hl [2, 3, 4, 0] rfl)
def wX5_weigh_L30 (Q : ST → Prop) : Nat → Int32 → Int32 → Int32 → ST → Prop
  | 0, _, _, _, _ => False
  | n + 1, x1, x2, x3, u => wX5_weigh_B30 (wX5_weigh_L30 Q n) Q x1 x2 x3 u
set_option maxHeartbeats 4000000 in
theorem kX5_weigh_L30 {p : Program} {l : Launch} {e : Env} {s : State} {m : MethodId} {args : Array Value} {below : List Frame} {meth : Method} {c : Code} {D : va_G} {cy : CY} {A : Nat → Prop} {ad : Nat → Nat} {Q : ST → Prop} (C : kC p m c cX5_weigh 5 s args RX5 D cy A) (hr : meth.sig.returnType = none) (hlk : meth.locks = false) : ∀ n : Nat, ∀ (x1 : Int32) (x2 : Int32) (x3 : Int32) (u : ST) (H : Heap) (locs : List Loc) (ls : Array Slot), wX5_weigh_L30 Q n x1 x2 x3 u → kH D (cW cy ad) A s u H locs → lv_has ls 5 [(0, .ref (ad 8)), (1, .int x1), (2, .int x2), (3, .int x3)] → W p l e (kRm 1) s m args below meth c H locs 0 0 (MQ below (kQv D (cW cy ad) cy A Q) args s 0 0 A) (F0 m 30 ls []) := by
  intro n
  induction n with
  | zero => intro x1 x2 x3 u H locs ls hw; exact False.elim hw
  | succ n ih => exact kX5_weigh_B30 C hr hlk ih
def wX5_weigh_B2 (K2 : Int32 → Int32 → Int32 → ST → Prop) (Q : ST → Prop) (x1 : Int32) (x2 : Int32) (x3 : Int32) (u : ST) : Prop :=
  ((16 ≤ x3 → (∃ n : Nat, wX5_weigh_L30 Q n x1 x2 0 u)) ∧ (¬ 16 ≤ x3 → (vp_in x3 16 ∧ (vp_in x3 16 ∧ K2 x1 x2 (x3 + 1) (sR (sR u 10 x3.toNatClampNeg 0) 11 x3.toNatClampNeg 0)))))
set_option maxHeartbeats 4000000 in
set_option maxRecDepth 100000 in
theorem kX5_weigh_B2 {p : Program} {l : Launch} {e : Env} {s : State} {m : MethodId} {args : Array Value} {below : List Frame} {meth : Method} {c : Code} {D : va_G} {cy : CY} {A : Nat → Prop} {ad : Nat → Nat} {K2 : Int32 → Int32 → Int32 → ST → Prop} {Q : ST → Prop} (C : kC p m c cX5_weigh 5 s args RX5 D cy A) (hr : meth.sig.returnType = none) (hlk : meth.locks = false) (g2 : ∀ (x1 : Int32) (x2 : Int32) (x3 : Int32) (u : ST) (H : Heap) (locs : List Loc) (ls : Array Slot), K2 x1 x2 x3 u → kH D (cW cy ad) A s u H locs → lv_has ls 5 [(0, .ref (ad 8)), (1, .int x1), (2, .int x2), (3, .int x3)] → W p l e (kRm 1) s m args below meth c H locs 0 0 (MQ below (kQv D (cW cy ad) cy A Q) args s 0 0 A) (F0 m 2 ls [])) : ∀ (x1 : Int32) (x2 : Int32) (x3 : Int32) (u : ST) (H : Heap) (locs : List Loc) (ls : Array Slot), wX5_weigh_B2 K2 Q x1 x2 x3 u → kH D (cW cy ad) A s u H locs → lv_has ls 5 [(0, .ref (ad 8)), (1, .int x1), (2, .int x2), (3, .int x3)] → W p l e (kRm 1) s m args below meth c H locs 0 0 (MQ below (kQv D (cW cy ad) cy A Q) args s 0 0 A) (F0 m 2 ls []) := by
  intro x1 x2 x3 u H locs ls hw h hl
  obtain ⟨⟨hx, hb, hml, hown, hts⟩, hK, hA⟩ := id C
  unfold wX5_weigh_B2 at hw
  refine lv_iload_n hx hb dX5_weigh_2 rfl (lv_at hl 3 rfl) ?_
  refine lv_bipush (v := 16) hx hb dX5_weigh_3 (by decide) ?_
  refine lv_icmp_ge (tgt := 28) hx hb dX5_weigh_5 (by decide) (fun c_5 => ?_) (fun c_5 => ?_)
  · have hw := hw.1 c_5
    refine lv_iconst (v := 0) hx hb dX5_weigh_28 (by decide) ?_
    refine lv_istore_n (lv' := [(3, .int 0), (0, .ref (ad 8)), (1, .int x1), (2, .int x2)]) hx hb dX5_weigh_29 rfl hl (by decide) rfl (fun ls hl => ?_)
    obtain ⟨n, hw⟩ := hw
    exact kX5_weigh_L30 C hr hlk n x1 x2 0 _ _ _ _ hw h (lv_sub hl [1, 2, 3, 0] rfl)
  · have hw := hw.2 c_5
    refine lv_aload_n hx hb dX5_weigh_8 rfl (lv_at hl 0 rfl) ?_
    refine kget C h 8 rfl rfl inBX5 6 (Nat.le_of_ble_eq_true rfl) wi_fl_X5_29 rfl dX5_weigh_9 ?_
    refine lv_iload_n hx hb dX5_weigh_12 rfl (lv_at hl 3 rfl) ?_
    refine lv_iconst (v := 0) hx hb dX5_weigh_13 (by decide) ?_
    obtain ⟨i_14, hw⟩ := hw
    refine kiast C h 27 rfl i_14 (cS_R cy ad u x3.toNatClampNeg 0 10 (Nat.le_of_ble_eq_true rfl)) dX5_weigh_14 (fun H locs h => ?_)
    refine lv_aload_n hx hb dX5_weigh_15 rfl (lv_at hl 0 rfl) ?_
    refine kget C h 8 rfl rfl inBX5 7 (Nat.le_of_ble_eq_true rfl) wi_fl_X5_32 rfl dX5_weigh_16 ?_
    refine lv_iload_n hx hb dX5_weigh_19 rfl (lv_at hl 3 rfl) ?_
    refine lv_iconst (v := 0) hx hb dX5_weigh_20 (by decide) ?_
    obtain ⟨i_21, hw⟩ := hw
    refine kiast C h 28 rfl i_21 (cS_R cy ad (sR u 10 x3.toNatClampNeg 0) x3.toNatClampNeg 0 11 (Nat.le_of_ble_eq_true rfl)) dX5_weigh_21 (fun H locs h => ?_)
    refine lv_iinc (v := x3 + 1) (lv' := [(3, .int (x3 + 1)), (0, .ref (ad 8)), (1, .int x1), (2, .int x2)]) hx hb dX5_weigh_22 hl (k := 3) rfl rfl (by decide) rfl (fun ls hl => ?_)
    refine lv_goto (tgt := 2) hx hb dX5_weigh_25 (by decide) ?_
    exact g2 x1 x2 (x3 + 1) _ _ _ _ hw h (lv_sub hl [1, 2, 3, 0] rfl)
def wX5_weigh_L2 (Q : ST → Prop) : Nat → Int32 → Int32 → Int32 → ST → Prop
  | 0, _, _, _, _ => False
  | n + 1, x1, x2, x3, u => wX5_weigh_B2 (wX5_weigh_L2 Q n) Q x1 x2 x3 u
set_option maxHeartbeats 4000000 in
theorem kX5_weigh_L2 {p : Program} {l : Launch} {e : Env} {s : State} {m : MethodId} {args : Array Value} {below : List Frame} {meth : Method} {c : Code} {D : va_G} {cy : CY} {A : Nat → Prop} {ad : Nat → Nat} {Q : ST → Prop} (C : kC p m c cX5_weigh 5 s args RX5 D cy A) (hr : meth.sig.returnType = none) (hlk : meth.locks = false) : ∀ n : Nat, ∀ (x1 : Int32) (x2 : Int32) (x3 : Int32) (u : ST) (H : Heap) (locs : List Loc) (ls : Array Slot), wX5_weigh_L2 Q n x1 x2 x3 u → kH D (cW cy ad) A s u H locs → lv_has ls 5 [(0, .ref (ad 8)), (1, .int x1), (2, .int x2), (3, .int x3)] → W p l e (kRm 1) s m args below meth c H locs 0 0 (MQ below (kQv D (cW cy ad) cy A Q) args s 0 0 A) (F0 m 2 ls []) := by
  intro n
  induction n with
  | zero => intro x1 x2 x3 u H locs ls hw; exact False.elim hw
  | succ n ih => exact kX5_weigh_B2 C hr hlk ih
def wX5_weigh (x1 : Int32) (x2 : Int32) (u : ST) (Q : ST → Prop) : Prop :=
  (∃ n : Nat, wX5_weigh_L2 Q n x1 x2 0 u)
set_option maxHeartbeats 4000000 in
set_option maxRecDepth 100000 in
theorem mX5_weigh (l : Launch) (D : va_G) (cy : CY) (ad : Nat → Nat) (x1 : Int32) (x2 : Int32) (u : ST) (sz : Nat) {Q : ST → Prop} (hw : wX5_weigh x1 x2 u Q) : Met l yX5_weigh (wM yX5_weigh cX5_weigh 5 none) (kRm 1) (kPc D (cW cy ad) cy u sz [.ref (ad 8), .int x1, .int x2]) (kQv D (cW cy ad) cy (va_A (cW cy ad u) sz) Q) 0 0 (va_A (cW cy ad u) sz) := by
  refine kMet pn_X5_weigh (Nat.le_of_ble_eq_true rfl) (fun p e s m below meth c ls hsz C hr hlk hex h hl => ?_)
  have hl : lv_has ls 5 [(0, .ref (ad 8)), (1, .int x1), (2, .int x2)] := hl
  obtain ⟨⟨hx, hb, hml, hown, hts⟩, hK, hA⟩ := id C
  unfold wX5_weigh at hw
  have h : kH D (cW cy ad) (va_A (cW cy ad u) sz) s u s.heap [] := h
  refine lv_iconst (v := 0) hx hb dX5_weigh_0 (by decide) ?_
  refine lv_istore_n (lv' := [(3, .int 0), (0, .ref (ad 8)), (1, .int x1), (2, .int x2)]) hx hb dX5_weigh_1 rfl hl (by decide) rfl (fun ls hl => ?_)
  obtain ⟨n, hw⟩ := hw
  exact kX5_weigh_L2 C hr hlk n x1 x2 0 _ _ _ _ hw h (lv_sub hl [1, 2, 3, 0] rfl)

def wX5_choose_b45 (K11 : Int32 → Int32 → Int32 → ST → Prop) (Q : Int32 → ST → Prop) (x2 : Int32) (x3 : Int32) (x4 : Int32) (u : ST) : Prop :=
  K11 x2 x3 (x4 + 1) u
set_option maxHeartbeats 4000000 in
set_option maxRecDepth 100000 in
theorem kX5_choose_b45 {p : Program} {l : Launch} {e : Env} {s : State} {m : MethodId} {args : Array Value} {below : List Frame} {meth : Method} {c : Code} {D : va_G} {cy : CY} {A : Nat → Prop} {ad : Nat → Nat} {K11 : Int32 → Int32 → Int32 → ST → Prop} {Q : Int32 → ST → Prop} (C : kC p m c cX5_choose 5 s args RX5 D cy A) (hr : meth.sig.returnType = some .int) (hlk : meth.locks = false) (g11 : ∀ (x2 : Int32) (x3 : Int32) (x4 : Int32) (u : ST) (H : Heap) (locs : List Loc) (ls : Array Slot), K11 x2 x3 x4 u → kH D (cW cy ad) A s u H locs → lv_has ls 5 [(0, .ref (ad 8)), (2, .int x2), (3, .int x3), (4, .int x4)] → W p l e (kRm 2) s m args below meth c H locs 0 0 (MQ below (kQi D (cW cy ad) cy A Q) args s 0 0 A) (F0 m 11 ls [])) : ∀ (x2 : Int32) (x3 : Int32) (x4 : Int32) (u : ST) (H : Heap) (locs : List Loc) (ls : Array Slot), wX5_choose_b45 K11 Q x2 x3 x4 u → kH D (cW cy ad) A s u H locs → lv_has ls 5 [(0, .ref (ad 8)), (2, .int x2), (3, .int x3), (4, .int x4)] → W p l e (kRm 2) s m args below meth c H locs 0 0 (MQ below (kQi D (cW cy ad) cy A Q) args s 0 0 A) (F0 m 45 ls []) := by
  intro x2 x3 x4 u H locs ls hw h hl
  obtain ⟨⟨hx, hb, hml, hown, hts⟩, hK, hA⟩ := id C
  unfold wX5_choose_b45 at hw
  refine lv_iinc (v := x4 + 1) (lv' := [(4, .int (x4 + 1)), (0, .ref (ad 8)), (2, .int x2), (3, .int x3)]) hx hb dX5_choose_45 hl (k := 3) rfl rfl (by decide) rfl (fun ls hl => ?_)
  refine lv_goto (tgt := 11) hx hb dX5_choose_48 (by decide) ?_
  exact g11 x2 x3 (x4 + 1) _ _ _ _ hw h (lv_sub hl [1, 2, 3, 0] rfl)
def wX5_choose_b42 (K11 : Int32 → Int32 → Int32 → ST → Prop) (Q : Int32 → ST → Prop) (x2 : Int32) (x4 : Int32) (u : ST) : Prop :=
  wX5_choose_b45 K11 Q x2 x4 x4 u
set_option maxHeartbeats 4000000 in
set_option maxRecDepth 100000 in
theorem kX5_choose_b42 {p : Program} {l : Launch} {e : Env} {s : State} {m : MethodId} {args : Array Value} {below : List Frame} {meth : Method} {c : Code} {D : va_G} {cy : CY} {A : Nat → Prop} {ad : Nat → Nat} {K11 : Int32 → Int32 → Int32 → ST → Prop} {Q : Int32 → ST → Prop} (C : kC p m c cX5_choose 5 s args RX5 D cy A) (hr : meth.sig.returnType = some .int) (hlk : meth.locks = false) (g11 : ∀ (x2 : Int32) (x3 : Int32) (x4 : Int32) (u : ST) (H : Heap) (locs : List Loc) (ls : Array Slot), K11 x2 x3 x4 u → kH D (cW cy ad) A s u H locs → lv_has ls 5 [(0, .ref (ad 8)), (2, .int x2), (3, .int x3), (4, .int x4)] → W p l e (kRm 2) s m args below meth c H locs 0 0 (MQ below (kQi D (cW cy ad) cy A Q) args s 0 0 A) (F0 m 11 ls [])) : ∀ (x2 : Int32) (x4 : Int32) (u : ST) (H : Heap) (locs : List Loc) (ls : Array Slot), wX5_choose_b42 K11 Q x2 x4 u → kH D (cW cy ad) A s u H locs → lv_has ls 5 [(0, .ref (ad 8)), (2, .int x2), (4, .int x4)] → W p l e (kRm 2) s m args below meth c H locs 0 0 (MQ below (kQi D (cW cy ad) cy A Q) args s 0 0 A) (F0 m 42 ls []) := by
  intro x2 x4 u H locs ls hw h hl
  obtain ⟨⟨hx, hb, hml, hown, hts⟩, hK, hA⟩ := id C
  unfold wX5_choose_b42 at hw
  refine lv_iload hx hb dX5_choose_42 (lv_at hl 2 rfl) ?_
  refine lv_istore_n (lv' := [(3, .int x4), (0, .ref (ad 8)), (2, .int x2), (4, .int x4)]) hx hb dX5_choose_44 rfl hl (by decide) rfl (fun ls hl => ?_)
  exact kX5_choose_b45 C hr hlk g11 x2 x4 x4 _ _ _ _ hw h (lv_sub hl [1, 2, 0, 3] rfl)
def wX5_choose_B11 (K11 : Int32 → Int32 → Int32 → ST → Prop) (Q : Int32 → ST → Prop) (x2 : Int32) (x3 : Int32) (x4 : Int32) (u : ST) : Prop :=
  ((16 ≤ x4 → Q x3 u) ∧ (¬ 16 ≤ x4 → (((x2 &&& (1 <<< (x4 &&& 31))) = 0 → wX5_choose_b45 K11 Q x2 x3 x4 u) ∧ (¬ (x2 &&& (1 <<< (x4 &&& 31))) = 0 → ((x3 = (-1) → wX5_choose_b42 K11 Q x2 x4 u) ∧ (¬ x3 = (-1) → wX5_isBetter x4 x3 u (fun r_1 u_2 => ((r_1 = 0 → wX5_choose_b45 K11 Q x2 x3 x4 u_2) ∧ (¬ r_1 = 0 → wX5_choose_b42 K11 Q x2 x4 u_2)))))))))
set_option maxHeartbeats 4000000 in
set_option maxRecDepth 100000 in
theorem kX5_choose_B11 {p : Program} {l : Launch} {e : Env} {s : State} {m : MethodId} {args : Array Value} {below : List Frame} {meth : Method} {c : Code} {D : va_G} {cy : CY} {A : Nat → Prop} {ad : Nat → Nat} {K11 : Int32 → Int32 → Int32 → ST → Prop} {Q : Int32 → ST → Prop} (C : kC p m c cX5_choose 5 s args RX5 D cy A) (hr : meth.sig.returnType = some .int) (hlk : meth.locks = false) (g11 : ∀ (x2 : Int32) (x3 : Int32) (x4 : Int32) (u : ST) (H : Heap) (locs : List Loc) (ls : Array Slot), K11 x2 x3 x4 u → kH D (cW cy ad) A s u H locs → lv_has ls 5 [(0, .ref (ad 8)), (2, .int x2), (3, .int x3), (4, .int x4)] → W p l e (kRm 2) s m args below meth c H locs 0 0 (MQ below (kQi D (cW cy ad) cy A Q) args s 0 0 A) (F0 m 11 ls [])) : ∀ (x2 : Int32) (x3 : Int32) (x4 : Int32) (u : ST) (H : Heap) (locs : List Loc) (ls : Array Slot), wX5_choose_B11 K11 Q x2 x3 x4 u → kH D (cW cy ad) A s u H locs → lv_has ls 5 [(0, .ref (ad 8)), (2, .int x2), (3, .int x3), (4, .int x4)] → W p l e (kRm 2) s m args below meth c H locs 0 0 (MQ below (kQi D (cW cy ad) cy A Q) args s 0 0 A) (F0 m 11 ls []) := by
  intro x2 x3 x4 u H locs ls hw h hl
  obtain ⟨⟨hx, hb, hml, hown, hts⟩, hK, hA⟩ := id C
  unfold wX5_choose_B11 at hw
  refine lv_iload hx hb dX5_choose_11 (lv_at hl 3 rfl) ?_
  refine lv_bipush (v := 16) hx hb dX5_choose_13 (by decide) ?_
  refine lv_icmp_ge (tgt := 51) hx hb dX5_choose_15 (by decide) (fun c_15 => ?_) (fun c_15 => ?_)
  · have hw := hw.1 c_15
    refine lv_iload_n hx hb dX5_choose_51 rfl (lv_at hl 2 rfl) ?_
    exact kretI C hr hlk h hw dX5_choose_52
  · have hw := hw.2 c_15
    refine lv_iload_n hx hb dX5_choose_18 rfl (lv_at hl 1 rfl) ?_
    refine lv_iconst (v := 1) hx hb dX5_choose_19 (by decide) ?_
    refine lv_iload hx hb dX5_choose_20 (lv_at hl 3 rfl) ?_
    refine lv_ishl hx hb dX5_choose_22 ?_
    refine lv_iand hx hb dX5_choose_23 ?_
    refine lv_if_eq (tgt := 45) hx hb dX5_choose_24 (by decide) (fun c_24 => ?_) (fun c_24 => ?_)
    · have hw := hw.1 c_24
      exact kX5_choose_b45 C hr hlk g11 x2 x3 x4 _ _ _ _ hw h (lv_sub hl [0, 1, 2, 3] rfl)
    · have hw := hw.2 c_24
      refine lv_iload_n hx hb dX5_choose_27 rfl (lv_at hl 2 rfl) ?_
      refine lv_iconst (v := (-1)) hx hb dX5_choose_28 (by decide) ?_
      refine lv_icmp_eq (tgt := 42) hx hb dX5_choose_29 (by decide) (fun c_29 => ?_) (fun c_29 => ?_)
      · have hw := hw.1 c_29
        exact kX5_choose_b42 C hr hlk g11 x2 x4 _ _ _ _ hw h (lv_sub hl [0, 1, 3] rfl)
      · have hw := hw.2 c_29
        refine lv_aload_n hx hb dX5_choose_32 rfl (lv_at hl 0 rfl) ?_
        refine lv_iload hx hb dX5_choose_33 (lv_at hl 3 rfl) ?_
        refine lv_iload_n hx hb dX5_choose_35 rfl (lv_at hl 2 rfl) ?_
        refine kVi (As := [.int x4, .int x3]) (rest := []) C h (cwV 2 hts (gd_V wi_ml_X5_78 wi_im_X5_isBetter wi_se_X5_isBetter wi_in_X5 wi_co_X5_isBetter) rfl rfl rfl hd_X5_isBetter ⟨Nat.le_of_ble_eq_true rfl, Nat.le_of_ble_eq_true rfl⟩) 8 rfl rfl rfl (mX5_isBetter l D cy ad x4 x3 _ _ hw) rfl hl.1 rfl (Nat.le_of_ble_eq_true rfl) ⟨Nat.zero_le _, Nat.zero_le _⟩ dX5_choose_36 (fun r_1 u_2 H locs hw h => ?_)
        refine lv_if_eq (tgt := 45) hx hb dX5_choose_39 (by decide) (fun c_39 => ?_) (fun c_39 => ?_)
        · have hw := hw.1 c_39
          exact kX5_choose_b45 C hr hlk g11 x2 x3 x4 _ _ _ _ hw h (lv_sub hl [0, 1, 2, 3] rfl)
        · have hw := hw.2 c_39
          exact kX5_choose_b42 C hr hlk g11 x2 x4 _ _ _ _ hw h (lv_sub hl [0, 1, 3] rfl)
def wX5_choose_L11 (Q : Int32 → ST → Prop) : Nat → Int32 → Int32 → Int32 → ST → Prop
  | 0, _, _, _, _ => False
  | n + 1, x2, x3, x4, u => wX5_choose_B11 (wX5_choose_L11 Q n) Q x2 x3 x4 u
set_option maxHeartbeats 4000000 in
theorem kX5_choose_L11 {p : Program} {l : Launch} {e : Env} {s : State} {m : MethodId} {args : Array Value} {below : List Frame} {meth : Method} {c : Code} {D : va_G} {cy : CY} {A : Nat → Prop} {ad : Nat → Nat} {Q : Int32 → ST → Prop} (C : kC p m c cX5_choose 5 s args RX5 D cy A) (hr : meth.sig.returnType = some .int) (hlk : meth.locks = false) : ∀ n : Nat, ∀ (x2 : Int32) (x3 : Int32) (x4 : Int32) (u : ST) (H : Heap) (locs : List Loc) (ls : Array Slot), wX5_choose_L11 Q n x2 x3 x4 u → kH D (cW cy ad) A s u H locs → lv_has ls 5 [(0, .ref (ad 8)), (2, .int x2), (3, .int x3), (4, .int x4)] → W p l e (kRm 2) s m args below meth c H locs 0 0 (MQ below (kQi D (cW cy ad) cy A Q) args s 0 0 A) (F0 m 11 ls []) := by
  intro n
  induction n with
  | zero => intro x2 x3 x4 u H locs ls hw; exact False.elim hw
  | succ n ih => exact kX5_choose_B11 C hr hlk ih
def wX5_choose (x1 : Int32) (x2 : Int32) (u : ST) (Q : Int32 → ST → Prop) : Prop :=
  wX5_weigh x1 x2 u (fun u_2 => (∃ n : Nat, wX5_choose_L11 Q n x2 (-1) 0 u_2))
set_option maxHeartbeats 4000000 in
set_option maxRecDepth 100000 in
theorem mX5_choose (l : Launch) (D : va_G) (cy : CY) (ad : Nat → Nat) (x1 : Int32) (x2 : Int32) (u : ST) (sz : Nat) {Q : Int32 → ST → Prop} (hw : wX5_choose x1 x2 u Q) : Met l yX5_choose (wM yX5_choose cX5_choose 5 (some .int)) (kRm 2) (kPc D (cW cy ad) cy u sz [.ref (ad 8), .int x1, .int x2]) (kQi D (cW cy ad) cy (va_A (cW cy ad u) sz) Q) 0 0 (va_A (cW cy ad u) sz) := by
  refine kMet pn_X5_choose (Nat.le_of_ble_eq_true rfl) (fun p e s m below meth c ls hsz C hr hlk hex h hl => ?_)
  have hl : lv_has ls 5 [(0, .ref (ad 8)), (1, .int x1), (2, .int x2)] := hl
  obtain ⟨⟨hx, hb, hml, hown, hts⟩, hK, hA⟩ := id C
  unfold wX5_choose at hw
  have h : kH D (cW cy ad) (va_A (cW cy ad u) sz) s u s.heap [] := h
  refine lv_aload_n hx hb dX5_choose_0 rfl (lv_at hl 0 rfl) ?_
  refine lv_iload_n hx hb dX5_choose_1 rfl (lv_at hl 1 rfl) ?_
  refine lv_iload_n hx hb dX5_choose_2 rfl (lv_at hl 2 rfl) ?_
  refine kVv (As := [.int x1, .int x2]) (rest := []) C h (cwV 2 hts (gd_V wi_ml_X5_74 wi_im_X5_weigh wi_se_X5_weigh wi_in_X5 wi_co_X5_weigh) rfl rfl rfl hd_X5_weigh ⟨Nat.le_of_ble_eq_true rfl, Nat.le_of_ble_eq_true rfl⟩) 8 rfl rfl rfl (mX5_weigh l D cy ad x1 x2 _ _ hw) rfl hl.1 rfl (Nat.le_of_ble_eq_true rfl) ⟨Nat.zero_le _, Nat.zero_le _⟩ dX5_choose_3 (fun u_2 H locs hw h => ?_)
  refine lv_iconst (v := (-1)) hx hb dX5_choose_6 (by decide) ?_
  refine lv_istore_n (lv' := [(3, .int (-1)), (0, .ref (ad 8)), (1, .int x1), (2, .int x2)]) hx hb dX5_choose_7 rfl hl (by decide) rfl (fun ls hl => ?_)
  refine lv_iconst (v := 0) hx hb dX5_choose_8 (by decide) ?_
  refine lv_istore (lv' := [(4, .int 0), (3, .int (-1)), (0, .ref (ad 8)), (1, .int x1), (2, .int x2)]) hx hb dX5_choose_9 hl (by decide) rfl (fun ls hl => ?_)
  obtain ⟨n, hw⟩ := hw
  exact kX5_choose_L11 C hr hlk n x2 (-1) 0 _ _ _ _ hw h (lv_sub hl [2, 4, 1, 0] rfl)
end
section
def wX4_clear (u : ST) (Q : ST → Prop) : Prop :=
  Q (sI (sJ (sI (sI (sI u 17 0) 18 0) 19 0) 1 0) 20 0)
set_option maxHeartbeats 4000000 in
set_option maxRecDepth 100000 in
theorem mX4_clear (l : Launch) (D : va_G) (cy : CY) (ad : Nat → Nat) (u : ST) (sz : Nat) {Q : ST → Prop} (hw : wX4_clear  u Q) : Met l yX4_clear (wM yX4_clear cX4_clear 1 none) (kRm 0) (kPc D (cW cy ad) cy u sz [.ref (ad 9)]) (kQv D (cW cy ad) cy (va_A (cW cy ad u) sz) Q) 0 0 (va_A (cW cy ad u) sz) := by
  refine kMet pn_X4_clear (Nat.le_of_ble_eq_true rfl) (fun p e s m below meth c ls hsz C hr hlk hex h hl => ?_)
  have hl : lv_has ls 1 [(0, .ref (ad 9))] := hl
  obtain ⟨⟨hx, hb, hml, hown, hts⟩, hK, hA⟩ := id C
  unfold wX4_clear at hw
  have h : kH D (cW cy ad) (va_A (cW cy ad u) sz) s u s.heap [] := h
  refine lv_aload_n hx hb dX4_clear_0 rfl (lv_at hl 0 rfl) ?_
  refine lv_iconst (v := 0) hx hb dX4_clear_1 (by decide) ?_
  refine kput C h 9 rfl rfl inBX4 tyX4_ok nmX4 2 (Nat.le_of_ble_eq_true rfl) wi_fl_X4_18 rfl rfl rfl (Nat.le_of_ble_eq_true rfl) (cS_TR_2 cy ad u 0) dX4_clear_2 (fun H locs h => ?_)
  refine lv_aload_n hx hb dX4_clear_5 rfl (lv_at hl 0 rfl) ?_
  refine lv_iconst (v := 0) hx hb dX4_clear_6 (by decide) ?_
  refine kput C h 9 rfl rfl inBX4 tyX4_ok nmX4 3 (Nat.le_of_ble_eq_true rfl) wi_fl_X4_22 rfl rfl rfl (Nat.le_of_ble_eq_true rfl) (cS_TR_3 cy ad (sI u 17 0) 0) dX4_clear_7 (fun H locs h => ?_)
  refine lv_aload_n hx hb dX4_clear_10 rfl (lv_at hl 0 rfl) ?_
  refine lv_iconst (v := 0) hx hb dX4_clear_11 (by decide) ?_
  refine kput C h 9 rfl rfl inBX4 tyX4_ok nmX4 4 (Nat.le_of_ble_eq_true rfl) wi_fl_X4_25 rfl rfl rfl (Nat.le_of_ble_eq_true rfl) (cS_TR_4 cy ad (sI (sI u 17 0) 18 0) 0) dX4_clear_12 (fun H locs h => ?_)
  refine lv_aload_n hx hb dX4_clear_15 rfl (lv_at hl 0 rfl) ?_
  refine lv_lconst (v := 0) hx hb dX4_clear_16 rfl ?_
  refine kput C h 9 rfl rfl inBX4 tyX4_ok nmX4 5 (Nat.le_of_ble_eq_true rfl) wi_fl_X4_28 rfl rfl rfl (Nat.le_of_ble_eq_true rfl) (cS_TR_5 cy ad (sI (sI (sI u 17 0) 18 0) 19 0) 0) dX4_clear_17 (fun H locs h => ?_)
  refine lv_aload_n hx hb dX4_clear_20 rfl (lv_at hl 0 rfl) ?_
  refine lv_iconst (v := 0) hx hb dX4_clear_21 (by decide) ?_
  refine kput C h 9 rfl rfl inBX4 tyX4_ok nmX4 6 (Nat.le_of_ble_eq_true rfl) wi_fl_X4_32 rfl rfl rfl (Nat.le_of_ble_eq_true rfl) (cS_TR_6 cy ad (sJ (sI (sI (sI u 17 0) 18 0) 19 0) 1 0) 0) dX4_clear_22 (fun H locs h => ?_)
  exact kretV C hr hlk h hw dX4_clear_25

def wX4_isLeaf (x1 : Int32) (u : ST) (Q : Int32 → ST → Prop) : Prop :=
  (vp_in x1 1000 ∧ ((¬ (gR u 13 x1.toNatClampNeg) = (-1) → Q 0 u) ∧ ((gR u 13 x1.toNatClampNeg) = (-1) → Q 1 u)))
set_option maxHeartbeats 4000000 in
set_option maxRecDepth 100000 in
theorem mX4_isLeaf (l : Launch) (D : va_G) (cy : CY) (ad : Nat → Nat) (x1 : Int32) (u : ST) (sz : Nat) {Q : Int32 → ST → Prop} (hw : wX4_isLeaf x1 u Q) : Met l yX4_isLeaf (wM yX4_isLeaf cX4_isLeaf 2 (some .boolean)) (kRm 0) (kPc D (cW cy ad) cy u sz [.ref (ad 9), .int x1]) (kQi D (cW cy ad) cy (va_A (cW cy ad u) sz) Q) 0 0 (va_A (cW cy ad u) sz) := by
  refine kMet pn_X4_isLeaf (Nat.le_of_ble_eq_true rfl) (fun p e s m below meth c ls hsz C hr hlk hex h hl => ?_)
  have hl : lv_has ls 2 [(0, .ref (ad 9)), (1, .int x1)] := hl
  obtain ⟨⟨hx, hb, hml, hown, hts⟩, hK, hA⟩ := id C
  unfold wX4_isLeaf at hw
  have h : kH D (cW cy ad) (va_A (cW cy ad u) sz) s u s.heap [] := h
  refine lv_aload_n hx hb dX4_isLeaf_0 rfl (lv_at hl 0 rfl) ?_
  refine kget C h 9 rfl rfl inBX4 1 (Nat.le_of_ble_eq_true rfl) wi_fl_X4_15 rfl dX4_isLeaf_1 ?_
  refine lv_iload_n hx hb dX4_isLeaf_4 rfl (lv_at hl 1 rfl) ?_
  obtain ⟨i_5, hw⟩ := hw
  refine kiald C h 30 rfl i_5 dX4_isLeaf_5 ?_
  refine lv_iconst (v := (-1)) hx hb dX4_isLeaf_6 (by decide) ?_
  refine lv_icmp_ne (tgt := 14) hx hb dX4_isLeaf_7 (by decide) (fun c_7 => ?_) (fun c_7 => ?_)
  · have hw := hw.1 c_7
    refine lv_iconst (v := 0) hx hb dX4_isLeaf_14 (by decide) ?_
    exact kretZ C hr hlk h (Or.inl rfl) hw dX4_isLeaf_15
  · have hw := hw.2 c_7
    refine lv_iconst (v := 1) hx hb dX4_isLeaf_10 (by decide) ?_
    refine lv_goto (tgt := 15) hx hb dX4_isLeaf_11 (by decide) ?_
    exact kretZ C hr hlk h (Or.inr rfl) hw dX4_isLeaf_15

def wX4_addNode (x1 : Int32) (u : ST) (Q : ST → Prop) : Prop :=
  (vp_in (gI u 17) 1000 ∧ (vp_in (gI (sR u 12 (gI u 17).toNatClampNeg x1) 17) 1000 ∧ Q (sI (sR (sR u 12 (gI u 17).toNatClampNeg x1) 13 (gI (sR u 12 (gI u 17).toNatClampNeg x1) 17).toNatClampNeg (-1)) 17 ((gI (sR (sR u 12 (gI u 17).toNatClampNeg x1) 13 (gI (sR u 12 (gI u 17).toNatClampNeg x1) 17).toNatClampNeg (-1)) 17) + 1))))
set_option maxHeartbeats 4000000 in
set_option maxRecDepth 100000 in
theorem mX4_addNode (l : Launch) (D : va_G) (cy : CY) (ad : Nat → Nat) (x1 : Int32) (u : ST) (sz : Nat) {Q : ST → Prop} (hw : wX4_addNode x1 u Q) : Met l yX4_addNode (wM yX4_addNode cX4_addNode 2 none) (kRm 0) (kPc D (cW cy ad) cy u sz [.ref (ad 9), .int x1]) (kQv D (cW cy ad) cy (va_A (cW cy ad u) sz) Q) 0 0 (va_A (cW cy ad u) sz) := by
  refine kMet pn_X4_addNode (Nat.le_of_ble_eq_true rfl) (fun p e s m below meth c ls hsz C hr hlk hex h hl => ?_)
  have hl : lv_has ls 2 [(0, .ref (ad 9)), (1, .int x1)] := hl
  obtain ⟨⟨hx, hb, hml, hown, hts⟩, hK, hA⟩ := id C
  unfold wX4_addNode at hw
  have h : kH D (cW cy ad) (va_A (cW cy ad u) sz) s u s.heap [] := h
  refine lv_aload_n hx hb dX4_addNode_0 rfl (lv_at hl 0 rfl) ?_
  refine kget C h 9 rfl rfl inBX4 0 (Nat.le_of_ble_eq_true rfl) wi_fl_X4_9 rfl dX4_addNode_1 ?_
  refine lv_aload_n hx hb dX4_addNode_4 rfl (lv_at hl 0 rfl) ?_
  refine kget C h 9 rfl rfl inBX4 2 (Nat.le_of_ble_eq_true rfl) wi_fl_X4_18 rfl dX4_addNode_5 ?_
  refine lv_iload_n hx hb dX4_addNode_8 rfl (lv_at hl 1 rfl) ?_
  obtain ⟨i_9, hw⟩ := hw
  refine kiast C h 29 rfl i_9 (cS_R cy ad u (gI u 17).toNatClampNeg x1 12 (Nat.le_of_ble_eq_true rfl)) dX4_addNode_9 (fun H locs h => ?_)
  refine lv_aload_n hx hb dX4_addNode_10 rfl (lv_at hl 0 rfl) ?_
  refine kget C h 9 rfl rfl inBX4 1 (Nat.le_of_ble_eq_true rfl) wi_fl_X4_15 rfl dX4_addNode_11 ?_
  refine lv_aload_n hx hb dX4_addNode_14 rfl (lv_at hl 0 rfl) ?_
  refine kget C h 9 rfl rfl inBX4 2 (Nat.le_of_ble_eq_true rfl) wi_fl_X4_18 rfl dX4_addNode_15 ?_
  refine lv_iconst (v := (-1)) hx hb dX4_addNode_18 (by decide) ?_
  obtain ⟨i_19, hw⟩ := hw
  refine kiast C h 30 rfl i_19 (cS_R cy ad (sR u 12 (gI u 17).toNatClampNeg x1) (gI (sR u 12 (gI u 17).toNatClampNeg x1) 17).toNatClampNeg (-1) 13 (Nat.le_of_ble_eq_true rfl)) dX4_addNode_19 (fun H locs h => ?_)
  refine lv_aload_n hx hb dX4_addNode_20 rfl (lv_at hl 0 rfl) ?_
  refine lv_dup hx hb dX4_addNode_21 rfl ?_
  refine kget C h 9 rfl rfl inBX4 2 (Nat.le_of_ble_eq_true rfl) wi_fl_X4_18 rfl dX4_addNode_22 ?_
  refine lv_iconst (v := 1) hx hb dX4_addNode_25 (by decide) ?_
  refine lv_iadd hx hb dX4_addNode_26 ?_
  refine kput C h 9 rfl rfl inBX4 tyX4_ok nmX4 2 (Nat.le_of_ble_eq_true rfl) wi_fl_X4_18 rfl rfl rfl (Nat.le_of_ble_eq_true rfl) (cS_TR_2 cy ad (sR (sR u 12 (gI u 17).toNatClampNeg x1) 13 (gI (sR u 12 (gI u 17).toNatClampNeg x1) 17).toNatClampNeg (-1)) ((gI (sR (sR u 12 (gI u 17).toNatClampNeg x1) 13 (gI (sR u 12 (gI u 17).toNatClampNeg x1) 17).toNatClampNeg (-1)) 17) + 1)) dX4_addNode_27 (fun H locs h => ?_)
  exact kretV C hr hlk h hw dX4_addNode_30

def wX4_addLeaf (x1 : Int32) (x2 : Int32) (u : ST) (Q : ST → Prop) : Prop :=
  wX4_addNode (128 + x1) u (fun u_2 => Q (sI (sI u_2 18 ((gI u_2 18) + 1)) 19 (if (gI (sI u_2 18 ((gI u_2 18) + 1)) 19) < x2 then x2 else (gI (sI u_2 18 ((gI u_2 18) + 1)) 19))))
set_option maxHeartbeats 4000000 in
set_option maxRecDepth 100000 in
theorem mX4_addLeaf (l : Launch) (D : va_G) (cy : CY) (ad : Nat → Nat) (x1 : Int32) (x2 : Int32) (u : ST) (sz : Nat) {Q : ST → Prop} (hw : wX4_addLeaf x1 x2 u Q) : Met l yX4_addLeaf (wM yX4_addLeaf cX4_addLeaf 3 none) (kRm 1) (kPc D (cW cy ad) cy u sz [.ref (ad 9), .int x1, .int x2]) (kQv D (cW cy ad) cy (va_A (cW cy ad u) sz) Q) 0 0 (va_A (cW cy ad u) sz) := by
  refine kMet pn_X4_addLeaf (Nat.le_of_ble_eq_true rfl) (fun p e s m below meth c ls hsz C hr hlk hex h hl => ?_)
  have hl : lv_has ls 3 [(0, .ref (ad 9)), (1, .int x1), (2, .int x2)] := hl
  obtain ⟨⟨hx, hb, hml, hown, hts⟩, hK, hA⟩ := id C
  unfold wX4_addLeaf at hw
  have h : kH D (cW cy ad) (va_A (cW cy ad u) sz) s u s.heap [] := h
  refine lv_aload_n hx hb dX4_addLeaf_0 rfl (lv_at hl 0 rfl) ?_
  refine lv_sipush (v := 128) hx hb dX4_addLeaf_1 (by decide) ?_
  refine lv_iload_n hx hb dX4_addLeaf_4 rfl (lv_at hl 1 rfl) ?_
  refine lv_iadd hx hb dX4_addLeaf_5 ?_
  refine kVv (As := [.int (128 + x1)]) (rest := []) C h (cwV 1 hts (gd_V wi_ml_X4_60 wi_im_X4_addNode wi_se_X4_addNode wi_in_X4 wi_co_X4_addNode) rfl rfl rfl hd_X4_addNode ⟨Nat.le_of_ble_eq_true rfl, Nat.le_of_ble_eq_true rfl⟩) 9 rfl rfl rfl (mX4_addNode l D cy ad (128 + x1) _ _ hw) rfl hl.1 rfl (Nat.le_of_ble_eq_true rfl) ⟨Nat.zero_le _, Nat.zero_le _⟩ dX4_addLeaf_6 (fun u_2 H locs hw h => ?_)
  refine lv_aload_n hx hb dX4_addLeaf_9 rfl (lv_at hl 0 rfl) ?_
  refine lv_dup hx hb dX4_addLeaf_10 rfl ?_
  refine kget C h 9 rfl rfl inBX4 3 (Nat.le_of_ble_eq_true rfl) wi_fl_X4_22 rfl dX4_addLeaf_11 ?_
  refine lv_iconst (v := 1) hx hb dX4_addLeaf_14 (by decide) ?_
  refine lv_iadd hx hb dX4_addLeaf_15 ?_
  refine kput C h 9 rfl rfl inBX4 tyX4_ok nmX4 3 (Nat.le_of_ble_eq_true rfl) wi_fl_X4_22 rfl rfl rfl (Nat.le_of_ble_eq_true rfl) (cS_TR_3 cy ad u_2 ((gI u_2 18) + 1)) dX4_addLeaf_16 (fun H locs h => ?_)
  refine lv_aload_n hx hb dX4_addLeaf_19 rfl (lv_at hl 0 rfl) ?_
  refine lv_aload_n hx hb dX4_addLeaf_20 rfl (lv_at hl 0 rfl) ?_
  refine kget C h 9 rfl rfl inBX4 4 (Nat.le_of_ble_eq_true rfl) wi_fl_X4_25 rfl dX4_addLeaf_21 ?_
  refine lv_iload_n hx hb dX4_addLeaf_24 rfl (lv_at hl 2 rfl) ?_
  refine va_mmax hx hb (hml.trans hl.1.symm) hown (hts _ wi_ml_X4_73) (hts _ wi_st_J9_max_7cf53) (hts _ wi_in_J9) (hts _ wi_co_J9_max_7cf53) (Nat.le_of_ble_eq_true rfl) (Nat.le_of_ble_eq_true rfl) (Nat.zero_le _) (Nat.zero_le _) dX4_addLeaf_25 ?_
  refine kput C h 9 rfl rfl inBX4 tyX4_ok nmX4 4 (Nat.le_of_ble_eq_true rfl) wi_fl_X4_25 rfl rfl rfl (Nat.le_of_ble_eq_true rfl) (cS_TR_4 cy ad (sI u_2 18 ((gI u_2 18) + 1)) (if (gI (sI u_2 18 ((gI u_2 18) + 1)) 19) < x2 then x2 else (gI (sI u_2 18 ((gI u_2 18) + 1)) 19))) dX4_addLeaf_28 (fun H locs h => ?_)
  exact kretV C hr hlk h hw dX4_addLeaf_31

def wX4_grow_b17 (F : Int32 → Int32 → ST → (ST → Prop) → Prop) (Q : ST → Prop) (u : ST) : Prop :=
  Q (sI u 20 1)
set_option maxHeartbeats 4000000 in
set_option maxRecDepth 100000 in
theorem kX4_grow_b17 {p : Program} {l : Launch} {e : Env} {s : State} {m : MethodId} {args : Array Value} {below : List Frame} {meth : Method} {c : Code} {D : va_G} {cy : CY} {A : Nat → Prop} {ad : Nat → Nat} {d : Nat} {F : Int32 → Int32 → ST → (ST → Prop) → Prop} {Q : ST → Prop} (C : kC p m c cX4_grow 8 s args RX4 D cy A) (hr : meth.sig.returnType = none) (hlk : meth.locks = false) (hF : ∀ (x2 : Int32) (x3 : Int32) (u : ST) (sz : Nat) (Q : ST → Prop), F x2 x3 u Q → Met l yX4_grow (wM yX4_grow cX4_grow 8 none) (kRm (2 + d)) (kPc D (cW cy ad) cy u sz [.ref (ad 9), .ref (ad 8), .int x2, .int x3]) (kQv D (cW cy ad) cy (va_A (cW cy ad u) sz) Q) 0 0 (va_A (cW cy ad u) sz)) : ∀ (u : ST) (H : Heap) (locs : List Loc) (ls : Array Slot), wX4_grow_b17 F Q  u → kH D (cW cy ad) A s u H locs → lv_has ls 8 [(0, .ref (ad 9))] → W p l e (kRm (3 + d)) s m args below meth c H locs 0 0 (MQ below (kQv D (cW cy ad) cy A Q) args s 0 0 A) (F0 m 17 ls []) := by
  intro  u H locs ls hw h hl
  obtain ⟨⟨hx, hb, hml, hown, hts⟩, hK, hA⟩ := id C
  unfold wX4_grow_b17 at hw
  refine lv_aload_n hx hb dX4_grow_17 rfl (lv_at hl 0 rfl) ?_
  refine lv_iconst (v := 1) hx hb dX4_grow_18 (by decide) ?_
  refine kput C h 9 rfl rfl inBX4 tyX4_ok nmX4 6 (Nat.le_of_ble_eq_true rfl) wi_fl_X4_32 rfl rfl rfl (Nat.le_of_ble_eq_true rfl) (cS_TR_6 cy ad u 1) dX4_grow_19 (fun H locs h => ?_)
  exact kretV C hr hlk h hw dX4_grow_22
def wX4_grow_b46 (F : Int32 → Int32 → ST → (ST → Prop) → Prop) (Q : ST → Prop) (x2 : Int32) (x4 : Int32) (u : ST) : Prop :=
  wX4_addLeaf x4 x2 u (fun u_2 => Q u_2)
set_option maxHeartbeats 4000000 in
set_option maxRecDepth 100000 in
theorem kX4_grow_b46 {p : Program} {l : Launch} {e : Env} {s : State} {m : MethodId} {args : Array Value} {below : List Frame} {meth : Method} {c : Code} {D : va_G} {cy : CY} {A : Nat → Prop} {ad : Nat → Nat} {d : Nat} {F : Int32 → Int32 → ST → (ST → Prop) → Prop} {Q : ST → Prop} (C : kC p m c cX4_grow 8 s args RX4 D cy A) (hr : meth.sig.returnType = none) (hlk : meth.locks = false) (hF : ∀ (x2 : Int32) (x3 : Int32) (u : ST) (sz : Nat) (Q : ST → Prop), F x2 x3 u Q → Met l yX4_grow (wM yX4_grow cX4_grow 8 none) (kRm (2 + d)) (kPc D (cW cy ad) cy u sz [.ref (ad 9), .ref (ad 8), .int x2, .int x3]) (kQv D (cW cy ad) cy (va_A (cW cy ad u) sz) Q) 0 0 (va_A (cW cy ad u) sz)) : ∀ (x2 : Int32) (x4 : Int32) (u : ST) (H : Heap) (locs : List Loc) (ls : Array Slot), wX4_grow_b46 F Q x2 x4 u → kH D (cW cy ad) A s u H locs → lv_has ls 8 [(0, .ref (ad 9)), (2, .int x2), (4, .int x4)] → W p l e (kRm (3 + d)) s m args below meth c H locs 0 0 (MQ below (kQv D (cW cy ad) cy A Q) args s 0 0 A) (F0 m 46 ls []) := by
  intro x2 x4 u H locs ls hw h hl
  obtain ⟨⟨hx, hb, hml, hown, hts⟩, hK, hA⟩ := id C
  unfold wX4_grow_b46 at hw
  refine lv_aload_n hx hb dX4_grow_46 rfl (lv_at hl 0 rfl) ?_
  refine lv_iload hx hb dX4_grow_47 (lv_at hl 2 rfl) ?_
  refine lv_iload_n hx hb dX4_grow_49 rfl (lv_at hl 1 rfl) ?_
  refine kVv (As := [.int x4, .int x2]) (rest := []) C h (cwV 2 hts (gd_V wi_ml_X4_52 wi_im_X4_addLeaf wi_se_X4_addLeaf wi_in_X4 wi_co_X4_addLeaf) rfl rfl rfl hd_X4_addLeaf ⟨(by show 1 + 1 ≤ 3 + d; omega), (by show 8 + (3 + 11) + 40 * 1 ≤ 40 * (3 + d); omega)⟩) 9 rfl rfl rfl (mX4_addLeaf l D cy ad x4 x2 _ _ hw) rfl hl.1 rfl (Nat.le_of_ble_eq_true rfl) ⟨Nat.zero_le _, Nat.zero_le _⟩ dX4_grow_50 (fun u_2 H locs hw h => ?_)
  exact kretV C hr hlk h hw dX4_grow_53
def wX4_grow_E (F : Int32 → Int32 → ST → (ST → Prop) → Prop) (x2 : Int32) (x3 : Int32) (u : ST) (Q : ST → Prop) : Prop :=
  ((¬ (gI u 20) = 0 → wX4_grow_b17 F Q  u) ∧ ((gI u 20) = 0 → (((gI u 17) < 1000 → wX5_oneAction x2 u (fun r_1 u_2 => ((¬ r_1 = (-1) → wX4_grow_b46 F Q x2 r_1 u_2) ∧ (r_1 = (-1) → ((x3 = 0 → wX4_grow_b46 F Q x2 r_1 u_2) ∧ (¬ x3 = 0 → ((x2 < 16 → wX5_choose x2 x3 u_2 (fun r_3 u_4 => wX4_addNode r_3 u_4 (fun u_6 => wJ6_bitCount_0f7a4 x3 u_6 (fun r_7 u_8 => wX5_step x2 (1 <<< (r_3 &&& 31)) 1 (sJ u_8 1 ((gJ u_6 1) + ((1 : Int64) <<< ((r_7 : Int32).toInt64 &&& 63)))) (fun u_10 => F (x2 + 1) (x3 &&& ((1 <<< (r_3 &&& 31)) ^^^ (-1))) u_10 (fun u_12 => (vp_in (gI u_4 17) 1000 ∧ wX5_step x2 (1 <<< (r_3 &&& 31)) 0 (sR u_12 13 (gI u_4 17).toNatClampNeg (gI u_12 17)) (fun u_14 => F (x2 + 1) (x3 &&& ((1 <<< (r_3 &&& 31)) ^^^ (-1))) u_14 (fun u_16 => Q u_16))))))))) ∧ (¬ x2 < 16 → wX4_grow_b46 F Q x2 r_1 u_2)))))))) ∧ (¬ (gI u 17) < 1000 → wX4_grow_b17 F Q  u))))
set_option maxHeartbeats 4000000 in
set_option maxRecDepth 100000 in
theorem mX4_grow_E (l : Launch) (D : va_G) (cy : CY) (ad : Nat → Nat) (d : Nat) {F : Int32 → Int32 → ST → (ST → Prop) → Prop} (hF : ∀ (x2 : Int32) (x3 : Int32) (u : ST) (sz : Nat) (Q : ST → Prop), F x2 x3 u Q → Met l yX4_grow (wM yX4_grow cX4_grow 8 none) (kRm (2 + d)) (kPc D (cW cy ad) cy u sz [.ref (ad 9), .ref (ad 8), .int x2, .int x3]) (kQv D (cW cy ad) cy (va_A (cW cy ad u) sz) Q) 0 0 (va_A (cW cy ad u) sz)) (x2 : Int32) (x3 : Int32) (u : ST) (sz : Nat) {Q : ST → Prop} (hw : wX4_grow_E F x2 x3 u Q) : Met l yX4_grow (wM yX4_grow cX4_grow 8 none) (kRm (3 + d)) (kPc D (cW cy ad) cy u sz [.ref (ad 9), .ref (ad 8), .int x2, .int x3]) (kQv D (cW cy ad) cy (va_A (cW cy ad u) sz) Q) 0 0 (va_A (cW cy ad u) sz) := by
  refine kMet pn_X4_grow (Nat.le_of_ble_eq_true rfl) (fun p e s m below meth c ls hsz C hr hlk hex h hl => ?_)
  have hl : lv_has ls 8 [(0, .ref (ad 9)), (1, .ref (ad 8)), (2, .int x2), (3, .int x3)] := hl
  obtain ⟨⟨hx, hb, hml, hown, hts⟩, hK, hA⟩ := id C
  unfold wX4_grow_E at hw
  have h : kH D (cW cy ad) (va_A (cW cy ad u) sz) s u s.heap [] := h
  refine lv_aload_n hx hb dX4_grow_0 rfl (lv_at hl 0 rfl) ?_
  refine kget C h 9 rfl rfl inBX4 6 (Nat.le_of_ble_eq_true rfl) wi_fl_X4_32 rfl dX4_grow_1 ?_
  refine lv_if_ne (tgt := 17) hx hb dX4_grow_4 (by decide) (fun c_4 => ?_) (fun c_4 => ?_)
  · have hw := hw.1 c_4
    exact kX4_grow_b17 C hr hlk hF  _ _ _ _ hw h (lv_sub hl [0] rfl)
  · have hw := hw.2 c_4
    refine lv_aload_n hx hb dX4_grow_7 rfl (lv_at hl 0 rfl) ?_
    refine kget C h 9 rfl rfl inBX4 2 (Nat.le_of_ble_eq_true rfl) wi_fl_X4_18 rfl dX4_grow_8 ?_
    refine lv_sipush (v := 1000) hx hb dX4_grow_11 (by decide) ?_
    refine lv_icmp_lt (tgt := 23) hx hb dX4_grow_14 (by decide) (fun c_14 => ?_) (fun c_14 => ?_)
    · have hw := hw.1 c_14
      refine lv_aload_n hx hb dX4_grow_23 rfl (lv_at hl 1 rfl) ?_
      refine lv_iload_n hx hb dX4_grow_24 rfl (lv_at hl 2 rfl) ?_
      refine kVi (As := [.int x2]) (rest := []) C h (cwV 1 hts (gd_V wi_ml_X4_48 wi_im_X5_oneAction wi_se_X5_oneAction wi_in_X5 wi_co_X5_oneAction) rfl rfl rfl hd_X5_oneAction ⟨(by show 0 + 1 ≤ 3 + d; omega), (by show 8 + (4 + 11) + 40 * 0 ≤ 40 * (3 + d); omega)⟩) 8 rfl rfl rfl (mX5_oneAction l D cy ad x2 _ _ hw) rfl hl.1 rfl (Nat.le_of_ble_eq_true rfl) ⟨Nat.zero_le _, Nat.zero_le _⟩ dX4_grow_25 (fun r_1 u_2 H locs hw h => ?_)
      refine lv_istore (lv' := [(4, .int r_1), (0, .ref (ad 9)), (1, .ref (ad 8)), (2, .int x2), (3, .int x3)]) hx hb dX4_grow_28 hl (by decide) rfl (fun ls hl => ?_)
      refine lv_iload hx hb dX4_grow_30 (lv_at hl 0 rfl) ?_
      refine lv_iconst (v := (-1)) hx hb dX4_grow_32 (by decide) ?_
      refine lv_icmp_ne (tgt := 46) hx hb dX4_grow_33 (by decide) (fun c_33 => ?_) (fun c_33 => ?_)
      · have hw := hw.1 c_33
        exact kX4_grow_b46 C hr hlk hF x2 r_1 _ _ _ _ hw h (lv_sub hl [1, 3, 0] rfl)
      · have hw := hw.2 c_33
        refine lv_iload_n hx hb dX4_grow_36 rfl (lv_at hl 4 rfl) ?_
        refine lv_if_eq (tgt := 46) hx hb dX4_grow_37 (by decide) (fun c_37 => ?_) (fun c_37 => ?_)
        · have hw := hw.1 c_37
          exact kX4_grow_b46 C hr hlk hF x2 r_1 _ _ _ _ hw h (lv_sub hl [1, 3, 0] rfl)
        · have hw := hw.2 c_37
          refine lv_iload_n hx hb dX4_grow_40 rfl (lv_at hl 3 rfl) ?_
          refine lv_bipush (v := 16) hx hb dX4_grow_41 (by decide) ?_
          refine lv_icmp_lt (tgt := 54) hx hb dX4_grow_43 (by decide) (fun c_43 => ?_) (fun c_43 => ?_)
          · have hw := hw.1 c_43
            refine lv_aload_n hx hb dX4_grow_54 rfl (lv_at hl 2 rfl) ?_
            refine lv_iload_n hx hb dX4_grow_55 rfl (lv_at hl 3 rfl) ?_
            refine lv_iload_n hx hb dX4_grow_56 rfl (lv_at hl 4 rfl) ?_
            refine kVi (As := [.int x2, .int x3]) (rest := []) C h (cwV 2 hts (gd_V wi_ml_X4_56 wi_im_X5_choose wi_se_X5_choose wi_in_X5 wi_co_X5_choose) rfl rfl rfl hd_X5_choose ⟨(by show 2 + 1 ≤ 3 + d; omega), (by show 8 + (5 + 11) + 40 * 2 ≤ 40 * (3 + d); omega)⟩) 8 rfl rfl rfl (mX5_choose l D cy ad x2 x3 _ _ hw) rfl hl.1 rfl (Nat.le_of_ble_eq_true rfl) ⟨Nat.zero_le _, Nat.zero_le _⟩ dX4_grow_57 (fun r_3 u_4 H locs hw h => ?_)
            refine lv_istore (lv' := [(5, .int r_3), (4, .int r_1), (0, .ref (ad 9)), (1, .ref (ad 8)), (2, .int x2), (3, .int x3)]) hx hb dX4_grow_60 hl (by decide) rfl (fun ls hl => ?_)
            refine lv_iconst (v := 1) hx hb dX4_grow_62 (by decide) ?_
            refine lv_iload hx hb dX4_grow_63 (lv_at hl 0 rfl) ?_
            refine lv_ishl hx hb dX4_grow_65 ?_
            refine lv_istore (lv' := [(6, .int (1 <<< (r_3 &&& 31))), (5, .int r_3), (4, .int r_1), (0, .ref (ad 9)), (1, .ref (ad 8)), (2, .int x2), (3, .int x3)]) hx hb dX4_grow_66 hl (by decide) rfl (fun ls hl => ?_)
            refine lv_aload_n hx hb dX4_grow_68 rfl (lv_at hl 3 rfl) ?_
            refine kget C h 9 rfl rfl inBX4 2 (Nat.le_of_ble_eq_true rfl) wi_fl_X4_18 rfl dX4_grow_69 ?_
            refine lv_istore (lv' := [(7, .int (gI u_4 17)), (6, .int (1 <<< (r_3 &&& 31))), (5, .int r_3), (4, .int r_1), (0, .ref (ad 9)), (1, .ref (ad 8)), (2, .int x2), (3, .int x3)]) hx hb dX4_grow_72 hl (by decide) rfl (fun ls hl => ?_)
            refine lv_aload_n hx hb dX4_grow_74 rfl (lv_at hl 4 rfl) ?_
            refine lv_iload hx hb dX4_grow_75 (lv_at hl 2 rfl) ?_
            refine kVv (As := [.int r_3]) (rest := []) C h (cwV 1 hts (gd_V wi_ml_X4_60 wi_im_X4_addNode wi_se_X4_addNode wi_in_X4 wi_co_X4_addNode) rfl rfl rfl hd_X4_addNode ⟨(by show 0 + 1 ≤ 3 + d; omega), (by show 8 + (2 + 11) + 40 * 0 ≤ 40 * (3 + d); omega)⟩) 9 rfl rfl rfl (mX4_addNode l D cy ad r_3 _ _ hw) rfl hl.1 rfl (Nat.le_of_ble_eq_true rfl) ⟨Nat.zero_le _, Nat.zero_le _⟩ dX4_grow_77 (fun u_6 H locs hw h => ?_)
            refine lv_aload_n hx hb dX4_grow_80 rfl (lv_at hl 4 rfl) ?_
            refine lv_dup hx hb dX4_grow_81 rfl ?_
            refine kget C h 9 rfl rfl inBX4 5 (Nat.le_of_ble_eq_true rfl) wi_fl_X4_28 rfl dX4_grow_82 ?_
            refine lv_lconst (v := 1) hx hb dX4_grow_85 rfl ?_
            refine lv_iload_n hx hb dX4_grow_86 rfl (lv_at hl 7 rfl) ?_
            refine kSi (As := [.int x3]) (rest := [.long 1, .long (gJ u_6 1), .ref (ad 9)]) C h (va_cwS 1 hts (gd_S wi_ml_X4_64 wi_st_J6_bitCount_0f7a4 wi_in_J6 wi_co_J6_bitCount_0f7a4) rfl rfl rfl hd_J6_bitCount_0f7a4.2 ⟨(by show 0 + 1 ≤ 3 + d; omega), (by show 8 + (1 + 11) + 40 * 0 ≤ 40 * (3 + d); omega)⟩) (mJ6_bitCount_0f7a4 l D cy ad x3 _ _ hw) rfl hl.1 rfl (Nat.le_of_ble_eq_true rfl) ⟨Nat.zero_le _, Nat.zero_le _⟩ dX4_grow_87 (fun r_7 u_8 H locs hw h => ?_)
            refine lv_lshl hx hb dX4_grow_90 rfl ?_
            refine lv_ladd hx hb dX4_grow_91 ?_
            refine kput C h 9 rfl rfl inBX4 tyX4_ok nmX4 5 (Nat.le_of_ble_eq_true rfl) wi_fl_X4_28 rfl rfl rfl (Nat.le_of_ble_eq_true rfl) (cS_TR_5 cy ad u_8 ((gJ u_6 1) + ((1 : Int64) <<< ((r_7 : Int32).toInt64 &&& 63)))) dX4_grow_92 (fun H locs h => ?_)
            refine lv_aload_n hx hb dX4_grow_95 rfl (lv_at hl 5 rfl) ?_
            refine lv_iload_n hx hb dX4_grow_96 rfl (lv_at hl 6 rfl) ?_
            refine lv_iload hx hb dX4_grow_97 (lv_at hl 1 rfl) ?_
            refine lv_iconst (v := 1) hx hb dX4_grow_99 (by decide) ?_
            refine kVv (As := [.int x2, .int (1 <<< (r_3 &&& 31)), .int 1]) (rest := []) C h (cwV 3 hts (gd_V wi_ml_X4_69 wi_im_X5_step wi_se_X5_step wi_in_X5 wi_co_X5_step) rfl rfl rfl hd_X5_step ⟨(by show 0 + 1 ≤ 3 + d; omega), (by show 8 + (9 + 11) + 40 * 0 ≤ 40 * (3 + d); omega)⟩) 8 rfl rfl rfl (mX5_step l D cy ad x2 (1 <<< (r_3 &&& 31)) 1 _ _ hw) rfl hl.1 rfl (Nat.le_of_ble_eq_true rfl) ⟨Nat.zero_le _, Nat.zero_le _⟩ dX4_grow_100 (fun u_10 H locs hw h => ?_)
            refine lv_aload_n hx hb dX4_grow_103 rfl (lv_at hl 4 rfl) ?_
            refine lv_aload_n hx hb dX4_grow_104 rfl (lv_at hl 5 rfl) ?_
            refine lv_iload_n hx hb dX4_grow_105 rfl (lv_at hl 6 rfl) ?_
            refine lv_iconst (v := 1) hx hb dX4_grow_106 (by decide) ?_
            refine lv_iadd hx hb dX4_grow_107 ?_
            refine lv_iload_n hx hb dX4_grow_108 rfl (lv_at hl 7 rfl) ?_
            refine lv_iload hx hb dX4_grow_109 (lv_at hl 1 rfl) ?_
            refine lv_iconst (v := (-1)) hx hb dX4_grow_111 (by decide) ?_
            refine lv_ixor hx hb dX4_grow_112 ?_
            refine lv_iand hx hb dX4_grow_113 ?_
            refine kSv (As := [.ref (ad 9), .ref (ad 8), .int (x2 + 1), .int (x3 &&& ((1 <<< (r_3 &&& 31)) ^^^ (-1)))]) (rest := []) C h (va_cwS 4 hts (gd_S wi_ml_X4_41 wi_st_X4_grow wi_in_X4 wi_co_X4_grow) rfl rfl rfl hd_X4_grow.2 ⟨(by show 2 + d + 1 ≤ 3 + d; omega), (by show 8 + (8 + 11) + 40 * (2 + d) ≤ 40 * (3 + d); omega)⟩) (hF (x2 + 1) (x3 &&& ((1 <<< (r_3 &&& 31)) ^^^ (-1))) _ _ _ hw) rfl hl.1 rfl (Nat.le_of_ble_eq_true rfl) ⟨Nat.zero_le _, Nat.zero_le _⟩ dX4_grow_114 (fun u_12 H locs hw h => ?_)
            refine lv_aload_n hx hb dX4_grow_117 rfl (lv_at hl 4 rfl) ?_
            refine kget C h 9 rfl rfl inBX4 1 (Nat.le_of_ble_eq_true rfl) wi_fl_X4_15 rfl dX4_grow_118 ?_
            refine lv_iload hx hb dX4_grow_121 (lv_at hl 0 rfl) ?_
            refine lv_aload_n hx hb dX4_grow_123 rfl (lv_at hl 4 rfl) ?_
            refine kget C h 9 rfl rfl inBX4 2 (Nat.le_of_ble_eq_true rfl) wi_fl_X4_18 rfl dX4_grow_124 ?_
            obtain ⟨i_127, hw⟩ := hw
            refine kiast C h 30 rfl i_127 (cS_R cy ad u_12 (gI u_4 17).toNatClampNeg (gI u_12 17) 13 (Nat.le_of_ble_eq_true rfl)) dX4_grow_127 (fun H locs h => ?_)
            refine lv_aload_n hx hb dX4_grow_128 rfl (lv_at hl 5 rfl) ?_
            refine lv_iload_n hx hb dX4_grow_129 rfl (lv_at hl 6 rfl) ?_
            refine lv_iload hx hb dX4_grow_130 (lv_at hl 1 rfl) ?_
            refine lv_iconst (v := 0) hx hb dX4_grow_132 (by decide) ?_
            refine kVv (As := [.int x2, .int (1 <<< (r_3 &&& 31)), .int 0]) (rest := []) C h (cwV 3 hts (gd_V wi_ml_X4_69 wi_im_X5_step wi_se_X5_step wi_in_X5 wi_co_X5_step) rfl rfl rfl hd_X5_step ⟨(by show 0 + 1 ≤ 3 + d; omega), (by show 8 + (9 + 11) + 40 * 0 ≤ 40 * (3 + d); omega)⟩) 8 rfl rfl rfl (mX5_step l D cy ad x2 (1 <<< (r_3 &&& 31)) 0 _ _ hw) rfl hl.1 rfl (Nat.le_of_ble_eq_true rfl) ⟨Nat.zero_le _, Nat.zero_le _⟩ dX4_grow_133 (fun u_14 H locs hw h => ?_)
            refine lv_aload_n hx hb dX4_grow_136 rfl (lv_at hl 4 rfl) ?_
            refine lv_aload_n hx hb dX4_grow_137 rfl (lv_at hl 5 rfl) ?_
            refine lv_iload_n hx hb dX4_grow_138 rfl (lv_at hl 6 rfl) ?_
            refine lv_iconst (v := 1) hx hb dX4_grow_139 (by decide) ?_
            refine lv_iadd hx hb dX4_grow_140 ?_
            refine lv_iload_n hx hb dX4_grow_141 rfl (lv_at hl 7 rfl) ?_
            refine lv_iload hx hb dX4_grow_142 (lv_at hl 1 rfl) ?_
            refine lv_iconst (v := (-1)) hx hb dX4_grow_144 (by decide) ?_
            refine lv_ixor hx hb dX4_grow_145 ?_
            refine lv_iand hx hb dX4_grow_146 ?_
            refine kSv (As := [.ref (ad 9), .ref (ad 8), .int (x2 + 1), .int (x3 &&& ((1 <<< (r_3 &&& 31)) ^^^ (-1)))]) (rest := []) C h (va_cwS 4 hts (gd_S wi_ml_X4_41 wi_st_X4_grow wi_in_X4 wi_co_X4_grow) rfl rfl rfl hd_X4_grow.2 ⟨(by show 2 + d + 1 ≤ 3 + d; omega), (by show 8 + (8 + 11) + 40 * (2 + d) ≤ 40 * (3 + d); omega)⟩) (hF (x2 + 1) (x3 &&& ((1 <<< (r_3 &&& 31)) ^^^ (-1))) _ _ _ hw) rfl hl.1 rfl (Nat.le_of_ble_eq_true rfl) ⟨Nat.zero_le _, Nat.zero_le _⟩ dX4_grow_147 (fun u_16 H locs hw h => ?_)
            exact kretV C hr hlk h hw dX4_grow_150
          · have hw := hw.2 c_43
            exact kX4_grow_b46 C hr hlk hF x2 r_1 _ _ _ _ hw h (lv_sub hl [1, 3, 0] rfl)
    · have hw := hw.2 c_14
      exact kX4_grow_b17 C hr hlk hF  _ _ _ _ hw h (lv_sub hl [0] rfl)
def wX4_grow : Nat → Int32 → Int32 → ST → (ST → Prop) → Prop
  | 0, _, _, _, _ => False
  | d + 1, x2, x3, u, Q => wX4_grow_E (wX4_grow d) x2 x3 u Q
theorem mX4_grow (l : Launch) (D : va_G) (cy : CY) (ad : Nat → Nat) : ∀ (d : Nat) (x2 : Int32) (x3 : Int32) (u : ST) (sz : Nat) (Q : ST → Prop), wX4_grow d x2 x3 u Q → Met l yX4_grow (wM yX4_grow cX4_grow 8 none) (kRm (2 + d)) (kPc D (cW cy ad) cy u sz [.ref (ad 9), .ref (ad 8), .int x2, .int x3]) (kQv D (cW cy ad) cy (va_A (cW cy ad u) sz) Q) 0 0 (va_A (cW cy ad u) sz) := by
  intro d
  induction d with
  | zero => intro x2 x3 u sz Q hw; exact False.elim hw
  | succ d ih =>
    intro x2 x3 u sz Q hw
    rw [show 2 + (d + 1) = 3 + d by omega]
    exact mX4_grow_E l D cy ad d (fun x2 x3 u sz Q hw => ih x2 x3 u sz Q hw) x2 x3 u sz hw

def wX4_build (u : ST) (Q : ST → Prop) : Prop :=
  (∃ dd : Nat, dd ≤ 20 ∧ wX4_grow dd 0 (gI u 16) u (fun u_2 => (((gI u_2 20) = 0 → Q u_2) ∧ (¬ (gI u_2 20) = 0 → wX4_clear  u_2 (fun u_4 => Q u_4)))))
set_option maxHeartbeats 4000000 in
set_option maxRecDepth 100000 in
theorem mX4_build (l : Launch) (D : va_G) (cy : CY) (ad : Nat → Nat) (u : ST) (sz : Nat) {Q : ST → Prop} (hw : wX4_build  u Q) : Met l yX4_build (wM yX4_build cX4_build 2 none) (kRm 24) (kPc D (cW cy ad) cy u sz [.ref (ad 9), .ref (ad 8)]) (kQv D (cW cy ad) cy (va_A (cW cy ad u) sz) Q) 0 0 (va_A (cW cy ad u) sz) := by
  refine kMet pn_X4_build (Nat.le_of_ble_eq_true rfl) (fun p e s m below meth c ls hsz C hr hlk hex h hl => ?_)
  have hl : lv_has ls 2 [(0, .ref (ad 9)), (1, .ref (ad 8))] := hl
  obtain ⟨⟨hx, hb, hml, hown, hts⟩, hK, hA⟩ := id C
  unfold wX4_build at hw
  have h : kH D (cW cy ad) (va_A (cW cy ad u) sz) s u s.heap [] := h
  refine lv_aload_n hx hb dX4_build_0 rfl (lv_at hl 0 rfl) ?_
  refine lv_aload_n hx hb dX4_build_1 rfl (lv_at hl 1 rfl) ?_
  refine lv_iconst (v := 0) hx hb dX4_build_2 (by decide) ?_
  refine lv_aload_n hx hb dX4_build_3 rfl (lv_at hl 1 rfl) ?_
  refine kget C h 8 rfl rfl inBX5 3 (Nat.le_of_ble_eq_true rfl) wi_fl_X4_36 rfl dX4_build_4 ?_
  obtain ⟨dd, hdd, hw⟩ := hw
  refine kSv (As := [.ref (ad 9), .ref (ad 8), .int 0, .int (gI u 16)]) (rest := []) C h (va_cwS 4 hts (gd_S wi_ml_X4_41 wi_st_X4_grow wi_in_X4 wi_co_X4_grow) rfl rfl rfl hd_X4_grow.2 ⟨(by show 2 + dd + 1 ≤ 24; omega), (by show 8 + (8 + 11) + 40 * (2 + dd) ≤ 40 * 24; omega)⟩) (mX4_grow l D cy ad dd 0 (gI u 16) _ _ _ hw) rfl hl.1 rfl (Nat.le_of_ble_eq_true rfl) ⟨Nat.zero_le _, Nat.zero_le _⟩ dX4_build_7 (fun u_2 H locs hw h => ?_)
  refine lv_aload_n hx hb dX4_build_10 rfl (lv_at hl 0 rfl) ?_
  refine kget C h 9 rfl rfl inBX4 6 (Nat.le_of_ble_eq_true rfl) wi_fl_X4_32 rfl dX4_build_11 ?_
  refine lv_if_eq (tgt := 21) hx hb dX4_build_14 (by decide) (fun c_14 => ?_) (fun c_14 => ?_)
  · have hw := hw.1 c_14
    exact kretV C hr hlk h hw dX4_build_21
  · have hw := hw.2 c_14
    refine lv_aload_n hx hb dX4_build_17 rfl (lv_at hl 0 rfl) ?_
    refine kVv (As := []) (rest := []) C h (cwV 0 hts (gd_V wi_ml_X4_45 wi_im_X4_clear wi_se_X4_clear wi_in_X4 wi_co_X4_clear) rfl rfl rfl hd_X4_clear ⟨Nat.le_of_ble_eq_true rfl, Nat.le_of_ble_eq_true rfl⟩) 9 rfl rfl rfl (mX4_clear l D cy ad  _ _ hw) rfl hl.1 rfl (Nat.le_of_ble_eq_true rfl) ⟨Nat.zero_le _, Nat.zero_le _⟩ dX4_build_18 (fun u_4 H locs hw h => ?_)
    exact kretV C hr hlk h hw dX4_build_21

def wX0_append (x1 : Int32) (u : ST) (Q : ST → Prop) : Prop :=
  (((nI 2000) ≤ (gI u 21) → Q u) ∧ (¬ (nI 2000) ≤ (gI u 21) → (vp_in (gI u 21) 2000 ∧ Q (sI (sR u 14 (gI u 21).toNatClampNeg x1) 21 ((gI (sR u 14 (gI u 21).toNatClampNeg x1) 21) + 1)))))
set_option maxHeartbeats 4000000 in
set_option maxRecDepth 100000 in
theorem mX0_append (l : Launch) (D : va_G) (cy : CY) (ad : Nat → Nat) (x1 : Int32) (u : ST) (sz : Nat) {Q : ST → Prop} (hw : wX0_append x1 u Q) : Met l yX0_append (wM yX0_append cX0_append 2 none) (kRm 0) (kPc D (cW cy ad) cy u sz [.ref (ad 10), .int x1]) (kQv D (cW cy ad) cy (va_A (cW cy ad u) sz) Q) 0 0 (va_A (cW cy ad u) sz) := by
  refine kMet pn_X0_append (Nat.le_of_ble_eq_true rfl) (fun p e s m below meth c ls hsz C hr hlk hex h hl => ?_)
  have hl : lv_has ls 2 [(0, .ref (ad 10)), (1, .int x1)] := hl
  obtain ⟨⟨hx, hb, hml, hown, hts⟩, hK, hA⟩ := id C
  unfold wX0_append at hw
  have h : kH D (cW cy ad) (va_A (cW cy ad u) sz) s u s.heap [] := h
  refine lv_aload_n hx hb dX0_append_0 rfl (lv_at hl 0 rfl) ?_
  refine kget C h 10 rfl rfl inBX0 2 (Nat.le_of_ble_eq_true rfl) wi_fl_X0_22 rfl dX0_append_1 ?_
  refine lv_aload_n hx hb dX0_append_4 rfl (lv_at hl 0 rfl) ?_
  refine kget C h 10 rfl rfl inBX0 0 (Nat.le_of_ble_eq_true rfl) wi_fl_X0_9 rfl dX0_append_5 ?_
  refine kalenI C h 31 rfl dX0_append_8 ?_
  refine lv_icmp_ge (tgt := 32) hx hb dX0_append_9 (by decide) (fun c_9 => ?_) (fun c_9 => ?_)
  · have hw := hw.1 c_9
    exact kretV C hr hlk h hw dX0_append_32
  · have hw := hw.2 c_9
    refine lv_aload_n hx hb dX0_append_12 rfl (lv_at hl 0 rfl) ?_
    refine kget C h 10 rfl rfl inBX0 0 (Nat.le_of_ble_eq_true rfl) wi_fl_X0_9 rfl dX0_append_13 ?_
    refine lv_aload_n hx hb dX0_append_16 rfl (lv_at hl 0 rfl) ?_
    refine kget C h 10 rfl rfl inBX0 2 (Nat.le_of_ble_eq_true rfl) wi_fl_X0_22 rfl dX0_append_17 ?_
    refine lv_iload_n hx hb dX0_append_20 rfl (lv_at hl 1 rfl) ?_
    obtain ⟨i_21, hw⟩ := hw
    refine kiast C h 31 rfl i_21 (cS_R cy ad u (gI u 21).toNatClampNeg x1 14 (Nat.le_of_ble_eq_true rfl)) dX0_append_21 (fun H locs h => ?_)
    refine lv_aload_n hx hb dX0_append_22 rfl (lv_at hl 0 rfl) ?_
    refine lv_dup hx hb dX0_append_23 rfl ?_
    refine kget C h 10 rfl rfl inBX0 2 (Nat.le_of_ble_eq_true rfl) wi_fl_X0_22 rfl dX0_append_24 ?_
    refine lv_iconst (v := 1) hx hb dX0_append_27 (by decide) ?_
    refine lv_iadd hx hb dX0_append_28 ?_
    refine kput C h 10 rfl rfl inBX0 tyX0_ok nmX0 2 (Nat.le_of_ble_eq_true rfl) wi_fl_X0_22 rfl rfl rfl (Nat.le_of_ble_eq_true rfl) (cS_CD_2 cy ad (sR u 14 (gI u 21).toNatClampNeg x1) ((gI (sR u 14 (gI u 21).toNatClampNeg x1) 21) + 1)) dX0_append_29 (fun H locs h => ?_)
    exact kretV C hr hlk h hw dX0_append_32

def wX0_setPlaces_b33 (K4 : Int32 → Int32 → ST → Prop) (Q : ST → Prop) (x3 : Int32) (xs0 : Int32) (xs1 : Int32) (u : ST) : Prop :=
  K4 (xs0 + xs1) (x3 + 1) u
set_option maxHeartbeats 4000000 in
set_option maxRecDepth 100000 in
theorem kX0_setPlaces_b33 {p : Program} {l : Launch} {e : Env} {s : State} {m : MethodId} {args : Array Value} {below : List Frame} {meth : Method} {c : Code} {D : va_G} {cy : CY} {A : Nat → Prop} {ad : Nat → Nat} {K4 : Int32 → Int32 → ST → Prop} {Q : ST → Prop} (C : kC p m c cX0_setPlaces 4 s args RX0 D cy A) (hr : meth.sig.returnType = none) (hlk : meth.locks = false) (g4 : ∀ (x2 : Int32) (x3 : Int32) (u : ST) (H : Heap) (locs : List Loc) (ls : Array Slot), K4 x2 x3 u → kH D (cW cy ad) A s u H locs → lv_has ls 4 [(0, .ref (ad 10)), (1, .ref (ad 9)), (2, .int x2), (3, .int x3)] → W p l e (kRm 1) s m args below meth c H locs 0 0 (MQ below (kQv D (cW cy ad) cy A Q) args s 0 0 A) (F0 m 4 ls [])) : ∀ (x3 : Int32) (xs0 : Int32) (xs1 : Int32) (u : ST) (H : Heap) (locs : List Loc) (ls : Array Slot), wX0_setPlaces_b33 K4 Q x3 xs0 xs1 u → kH D (cW cy ad) A s u H locs → lv_has ls 4 [(0, .ref (ad 10)), (1, .ref (ad 9)), (3, .int x3)] → W p l e (kRm 1) s m args below meth c H locs 0 0 (MQ below (kQv D (cW cy ad) cy A Q) args s 0 0 A) (F0 m 33 ls [.int xs1, .int xs0]) := by
  intro x3 xs0 xs1 u H locs ls hw h hl
  obtain ⟨⟨hx, hb, hml, hown, hts⟩, hK, hA⟩ := id C
  unfold wX0_setPlaces_b33 at hw
  refine lv_iadd hx hb dX0_setPlaces_33 ?_
  refine lv_istore_n (lv' := [(2, .int (xs0 + xs1)), (0, .ref (ad 10)), (1, .ref (ad 9)), (3, .int x3)]) hx hb dX0_setPlaces_34 rfl hl (by decide) rfl (fun ls hl => ?_)
  refine lv_iinc (v := x3 + 1) (lv' := [(3, .int (x3 + 1)), (2, .int (xs0 + xs1)), (0, .ref (ad 10)), (1, .ref (ad 9))]) hx hb dX0_setPlaces_35 hl (k := 3) rfl rfl (by decide) rfl (fun ls hl => ?_)
  refine lv_goto (tgt := 4) hx hb dX0_setPlaces_38 (by decide) ?_
  exact g4 (xs0 + xs1) (x3 + 1) _ _ _ _ hw h (lv_sub hl [2, 3, 1, 0] rfl)
def wX0_setPlaces_B4 (K4 : Int32 → Int32 → ST → Prop) (Q : ST → Prop) (x2 : Int32) (x3 : Int32) (u : ST) : Prop :=
  (((gI u 17) ≤ x3 → Q u) ∧ (¬ (gI u 17) ≤ x3 → (vp_in x3 1000 ∧ wX4_isLeaf x3 (sR u 15 x3.toNatClampNeg x2) (fun r_1 u_2 => ((r_1 = 0 → wX0_setPlaces_b33 K4 Q x3 x2 3 u_2) ∧ (¬ r_1 = 0 → wX0_setPlaces_b33 K4 Q x3 x2 1 u_2))))))
set_option maxHeartbeats 4000000 in
set_option maxRecDepth 100000 in
theorem kX0_setPlaces_B4 {p : Program} {l : Launch} {e : Env} {s : State} {m : MethodId} {args : Array Value} {below : List Frame} {meth : Method} {c : Code} {D : va_G} {cy : CY} {A : Nat → Prop} {ad : Nat → Nat} {K4 : Int32 → Int32 → ST → Prop} {Q : ST → Prop} (C : kC p m c cX0_setPlaces 4 s args RX0 D cy A) (hr : meth.sig.returnType = none) (hlk : meth.locks = false) (g4 : ∀ (x2 : Int32) (x3 : Int32) (u : ST) (H : Heap) (locs : List Loc) (ls : Array Slot), K4 x2 x3 u → kH D (cW cy ad) A s u H locs → lv_has ls 4 [(0, .ref (ad 10)), (1, .ref (ad 9)), (2, .int x2), (3, .int x3)] → W p l e (kRm 1) s m args below meth c H locs 0 0 (MQ below (kQv D (cW cy ad) cy A Q) args s 0 0 A) (F0 m 4 ls [])) : ∀ (x2 : Int32) (x3 : Int32) (u : ST) (H : Heap) (locs : List Loc) (ls : Array Slot), wX0_setPlaces_B4 K4 Q x2 x3 u → kH D (cW cy ad) A s u H locs → lv_has ls 4 [(0, .ref (ad 10)), (1, .ref (ad 9)), (2, .int x2), (3, .int x3)] → W p l e (kRm 1) s m args below meth c H locs 0 0 (MQ below (kQv D (cW cy ad) cy A Q) args s 0 0 A) (F0 m 4 ls []) := by
  intro x2 x3 u H locs ls hw h hl
  obtain ⟨⟨hx, hb, hml, hown, hts⟩, hK, hA⟩ := id C
  unfold wX0_setPlaces_B4 at hw
  refine lv_iload_n hx hb dX0_setPlaces_4 rfl (lv_at hl 3 rfl) ?_
  refine lv_aload_n hx hb dX0_setPlaces_5 rfl (lv_at hl 1 rfl) ?_
  refine kget C h 9 rfl rfl inBX4 2 (Nat.le_of_ble_eq_true rfl) wi_fl_X0_26 rfl dX0_setPlaces_6 ?_
  refine lv_icmp_ge (tgt := 41) hx hb dX0_setPlaces_9 (by decide) (fun c_9 => ?_) (fun c_9 => ?_)
  · have hw := hw.1 c_9
    exact kretV C hr hlk h hw dX0_setPlaces_41
  · have hw := hw.2 c_9
    refine lv_aload_n hx hb dX0_setPlaces_12 rfl (lv_at hl 0 rfl) ?_
    refine kget C h 10 rfl rfl inBX0 1 (Nat.le_of_ble_eq_true rfl) wi_fl_X0_15 rfl dX0_setPlaces_13 ?_
    refine lv_iload_n hx hb dX0_setPlaces_16 rfl (lv_at hl 3 rfl) ?_
    refine lv_iload_n hx hb dX0_setPlaces_17 rfl (lv_at hl 2 rfl) ?_
    obtain ⟨i_18, hw⟩ := hw
    refine kiast C h 32 rfl i_18 (cS_R cy ad u x3.toNatClampNeg x2 15 (Nat.le_of_ble_eq_true rfl)) dX0_setPlaces_18 (fun H locs h => ?_)
    refine lv_iload_n hx hb dX0_setPlaces_19 rfl (lv_at hl 2 rfl) ?_
    refine lv_aload_n hx hb dX0_setPlaces_20 rfl (lv_at hl 1 rfl) ?_
    refine lv_iload_n hx hb dX0_setPlaces_21 rfl (lv_at hl 3 rfl) ?_
    refine kVi (As := [.int x3]) (rest := [.int x2]) C h (cwV 1 hts (gd_V wi_ml_X0_38 wi_im_X4_isLeaf wi_se_X4_isLeaf wi_in_X4 wi_co_X4_isLeaf) rfl rfl rfl hd_X4_isLeaf ⟨Nat.le_of_ble_eq_true rfl, Nat.le_of_ble_eq_true rfl⟩) 9 rfl rfl rfl (mX4_isLeaf l D cy ad x3 _ _ hw) rfl hl.1 rfl (Nat.le_of_ble_eq_true rfl) ⟨Nat.zero_le _, Nat.zero_le _⟩ dX0_setPlaces_22 (fun r_1 u_2 H locs hw h => ?_)
    refine lv_if_eq (tgt := 32) hx hb dX0_setPlaces_25 (by decide) (fun c_25 => ?_) (fun c_25 => ?_)
    · have hw := hw.1 c_25
      refine lv_iconst (v := 3) hx hb dX0_setPlaces_32 (by decide) ?_
      exact kX0_setPlaces_b33 C hr hlk g4 x3 x2 3 _ _ _ _ hw h (lv_sub hl [0, 1, 3] rfl)
    · have hw := hw.2 c_25
      refine lv_iconst (v := 1) hx hb dX0_setPlaces_28 (by decide) ?_
      refine lv_goto (tgt := 33) hx hb dX0_setPlaces_29 (by decide) ?_
      exact kX0_setPlaces_b33 C hr hlk g4 x3 x2 1 _ _ _ _ hw h (lv_sub hl [0, 1, 3] rfl)
def wX0_setPlaces_L4 (Q : ST → Prop) : Nat → Int32 → Int32 → ST → Prop
  | 0, _, _, _ => False
  | n + 1, x2, x3, u => wX0_setPlaces_B4 (wX0_setPlaces_L4 Q n) Q x2 x3 u
set_option maxHeartbeats 4000000 in
theorem kX0_setPlaces_L4 {p : Program} {l : Launch} {e : Env} {s : State} {m : MethodId} {args : Array Value} {below : List Frame} {meth : Method} {c : Code} {D : va_G} {cy : CY} {A : Nat → Prop} {ad : Nat → Nat} {Q : ST → Prop} (C : kC p m c cX0_setPlaces 4 s args RX0 D cy A) (hr : meth.sig.returnType = none) (hlk : meth.locks = false) : ∀ n : Nat, ∀ (x2 : Int32) (x3 : Int32) (u : ST) (H : Heap) (locs : List Loc) (ls : Array Slot), wX0_setPlaces_L4 Q n x2 x3 u → kH D (cW cy ad) A s u H locs → lv_has ls 4 [(0, .ref (ad 10)), (1, .ref (ad 9)), (2, .int x2), (3, .int x3)] → W p l e (kRm 1) s m args below meth c H locs 0 0 (MQ below (kQv D (cW cy ad) cy A Q) args s 0 0 A) (F0 m 4 ls []) := by
  intro n
  induction n with
  | zero => intro x2 x3 u H locs ls hw; exact False.elim hw
  | succ n ih => exact kX0_setPlaces_B4 C hr hlk ih
def wX0_setPlaces (u : ST) (Q : ST → Prop) : Prop :=
  (∃ n : Nat, wX0_setPlaces_L4 Q n 0 0 u)
set_option maxHeartbeats 4000000 in
set_option maxRecDepth 100000 in
theorem mX0_setPlaces (l : Launch) (D : va_G) (cy : CY) (ad : Nat → Nat) (u : ST) (sz : Nat) {Q : ST → Prop} (hw : wX0_setPlaces  u Q) : Met l yX0_setPlaces (wM yX0_setPlaces cX0_setPlaces 4 none) (kRm 1) (kPc D (cW cy ad) cy u sz [.ref (ad 10), .ref (ad 9)]) (kQv D (cW cy ad) cy (va_A (cW cy ad u) sz) Q) 0 0 (va_A (cW cy ad u) sz) := by
  refine kMet pn_X0_setPlaces (Nat.le_of_ble_eq_true rfl) (fun p e s m below meth c ls hsz C hr hlk hex h hl => ?_)
  have hl : lv_has ls 4 [(0, .ref (ad 10)), (1, .ref (ad 9))] := hl
  obtain ⟨⟨hx, hb, hml, hown, hts⟩, hK, hA⟩ := id C
  unfold wX0_setPlaces at hw
  have h : kH D (cW cy ad) (va_A (cW cy ad u) sz) s u s.heap [] := h
  refine lv_iconst (v := 0) hx hb dX0_setPlaces_0 (by decide) ?_
  refine lv_istore_n (lv' := [(2, .int 0), (0, .ref (ad 10)), (1, .ref (ad 9))]) hx hb dX0_setPlaces_1 rfl hl (by decide) rfl (fun ls hl => ?_)
  refine lv_iconst (v := 0) hx hb dX0_setPlaces_2 (by decide) ?_
  refine lv_istore_n (lv' := [(3, .int 0), (2, .int 0), (0, .ref (ad 10)), (1, .ref (ad 9))]) hx hb dX0_setPlaces_3 rfl hl (by decide) rfl (fun ls hl => ?_)
  obtain ⟨n, hw⟩ := hw
  exact kX0_setPlaces_L4 C hr hlk n 0 0 _ _ _ _ hw h (lv_sub hl [2, 3, 1, 0] rfl)

def wX0_write_b67 (K12 : Int32 → ST → Prop) (Q : ST → Prop) (x2 : Int32) (u : ST) : Prop :=
  K12 (x2 + 1) u
set_option maxHeartbeats 4000000 in
set_option maxRecDepth 100000 in
theorem kX0_write_b67 {p : Program} {l : Launch} {e : Env} {s : State} {m : MethodId} {args : Array Value} {below : List Frame} {meth : Method} {c : Code} {D : va_G} {cy : CY} {A : Nat → Prop} {ad : Nat → Nat} {K12 : Int32 → ST → Prop} {Q : ST → Prop} (C : kC p m c cX0_write 4 s args RX0 D cy A) (hr : meth.sig.returnType = none) (hlk : meth.locks = false) (g12 : ∀ (x2 : Int32) (u : ST) (H : Heap) (locs : List Loc) (ls : Array Slot), K12 x2 u → kH D (cW cy ad) A s u H locs → lv_has ls 4 [(0, .ref (ad 10)), (1, .ref (ad 9)), (2, .int x2)] → W p l e (kRm 2) s m args below meth c H locs 0 0 (MQ below (kQv D (cW cy ad) cy A Q) args s 0 0 A) (F0 m 12 ls [])) : ∀ (x2 : Int32) (u : ST) (H : Heap) (locs : List Loc) (ls : Array Slot), wX0_write_b67 K12 Q x2 u → kH D (cW cy ad) A s u H locs → lv_has ls 4 [(0, .ref (ad 10)), (1, .ref (ad 9)), (2, .int x2)] → W p l e (kRm 2) s m args below meth c H locs 0 0 (MQ below (kQv D (cW cy ad) cy A Q) args s 0 0 A) (F0 m 67 ls []) := by
  intro x2 u H locs ls hw h hl
  obtain ⟨⟨hx, hb, hml, hown, hts⟩, hK, hA⟩ := id C
  unfold wX0_write_b67 at hw
  refine lv_iinc (v := x2 + 1) (lv' := [(2, .int (x2 + 1)), (0, .ref (ad 10)), (1, .ref (ad 9))]) hx hb dX0_write_67 hl (k := 2) rfl rfl (by decide) rfl (fun ls hl => ?_)
  refine lv_goto (tgt := 12) hx hb dX0_write_70 (by decide) ?_
  exact g12 (x2 + 1) _ _ _ _ hw h (lv_sub hl [1, 2, 0] rfl)
def wX0_write_B12 (K12 : Int32 → ST → Prop) (Q : ST → Prop) (x2 : Int32) (u : ST) : Prop :=
  (((gI u 17) ≤ x2 → Q u) ∧ (¬ (gI u 17) ≤ x2 → (vp_in x2 1000 ∧ wX0_append (gR u 12 x2.toNatClampNeg) u (fun u_2 => wX4_isLeaf x2 u_2 (fun r_3 u_4 => ((¬ r_3 = 0 → wX0_write_b67 K12 Q x2 u_4) ∧ (r_3 = 0 → (vp_in x2 1000 ∧ (vp_in (gR u_4 13 x2.toNatClampNeg) 1000 ∧ (∀ x3_5 : Int32, x3_5 = gR u_4 15 (gR u_4 13 x2.toNatClampNeg).toNatClampNeg → wX0_append (x3_5 >>> (8 &&& 31)) u_4 (fun u_7 => wX0_append (x3_5 &&& 255) u_7 (fun u_9 => wX0_write_b67 K12 Q x2 u_9))))))))))))
set_option maxHeartbeats 4000000 in
set_option maxRecDepth 100000 in
theorem kX0_write_B12 {p : Program} {l : Launch} {e : Env} {s : State} {m : MethodId} {args : Array Value} {below : List Frame} {meth : Method} {c : Code} {D : va_G} {cy : CY} {A : Nat → Prop} {ad : Nat → Nat} {K12 : Int32 → ST → Prop} {Q : ST → Prop} (C : kC p m c cX0_write 4 s args RX0 D cy A) (hr : meth.sig.returnType = none) (hlk : meth.locks = false) (g12 : ∀ (x2 : Int32) (u : ST) (H : Heap) (locs : List Loc) (ls : Array Slot), K12 x2 u → kH D (cW cy ad) A s u H locs → lv_has ls 4 [(0, .ref (ad 10)), (1, .ref (ad 9)), (2, .int x2)] → W p l e (kRm 2) s m args below meth c H locs 0 0 (MQ below (kQv D (cW cy ad) cy A Q) args s 0 0 A) (F0 m 12 ls [])) : ∀ (x2 : Int32) (u : ST) (H : Heap) (locs : List Loc) (ls : Array Slot), wX0_write_B12 K12 Q x2 u → kH D (cW cy ad) A s u H locs → lv_has ls 4 [(0, .ref (ad 10)), (1, .ref (ad 9)), (2, .int x2)] → W p l e (kRm 2) s m args below meth c H locs 0 0 (MQ below (kQv D (cW cy ad) cy A Q) args s 0 0 A) (F0 m 12 ls []) := by
  intro x2 u H locs ls hw h hl
  obtain ⟨⟨hx, hb, hml, hown, hts⟩, hK, hA⟩ := id C
  unfold wX0_write_B12 at hw
  refine lv_iload_n hx hb dX0_write_12 rfl (lv_at hl 2 rfl) ?_
  refine lv_aload_n hx hb dX0_write_13 rfl (lv_at hl 1 rfl) ?_
  refine kget C h 9 rfl rfl inBX4 2 (Nat.le_of_ble_eq_true rfl) wi_fl_X0_26 rfl dX0_write_14 ?_
  refine lv_icmp_ge (tgt := 73) hx hb dX0_write_17 (by decide) (fun c_17 => ?_) (fun c_17 => ?_)
  · have hw := hw.1 c_17
    exact kretV C hr hlk h hw dX0_write_73
  · have hw := hw.2 c_17
    refine lv_aload_n hx hb dX0_write_20 rfl (lv_at hl 0 rfl) ?_
    refine lv_aload_n hx hb dX0_write_21 rfl (lv_at hl 1 rfl) ?_
    refine kget C h 9 rfl rfl inBX4 0 (Nat.le_of_ble_eq_true rfl) wi_fl_X0_31 rfl dX0_write_22 ?_
    refine lv_iload_n hx hb dX0_write_25 rfl (lv_at hl 2 rfl) ?_
    obtain ⟨i_26, hw⟩ := hw
    refine kiald C h 29 rfl i_26 dX0_write_26 ?_
    refine kVv (As := [.int (gR u 12 x2.toNatClampNeg)]) (rest := []) C h (cwV 1 hts (gd_V wi_ml_X0_34 wi_im_X0_append wi_se_X0_append wi_in_X0 wi_co_X0_append) rfl rfl rfl hd_X0_append ⟨Nat.le_of_ble_eq_true rfl, Nat.le_of_ble_eq_true rfl⟩) 10 rfl rfl rfl (mX0_append l D cy ad (gR u 12 x2.toNatClampNeg) _ _ hw) rfl hl.1 rfl (Nat.le_of_ble_eq_true rfl) ⟨Nat.zero_le _, Nat.zero_le _⟩ dX0_write_27 (fun u_2 H locs hw h => ?_)
    refine lv_aload_n hx hb dX0_write_30 rfl (lv_at hl 1 rfl) ?_
    refine lv_iload_n hx hb dX0_write_31 rfl (lv_at hl 2 rfl) ?_
    refine kVi (As := [.int x2]) (rest := []) C h (cwV 1 hts (gd_V wi_ml_X0_38 wi_im_X4_isLeaf wi_se_X4_isLeaf wi_in_X4 wi_co_X4_isLeaf) rfl rfl rfl hd_X4_isLeaf ⟨Nat.le_of_ble_eq_true rfl, Nat.le_of_ble_eq_true rfl⟩) 9 rfl rfl rfl (mX4_isLeaf l D cy ad x2 _ _ hw) rfl hl.1 rfl (Nat.le_of_ble_eq_true rfl) ⟨Nat.zero_le _, Nat.zero_le _⟩ dX0_write_32 (fun r_3 u_4 H locs hw h => ?_)
    refine lv_if_ne (tgt := 67) hx hb dX0_write_35 (by decide) (fun c_35 => ?_) (fun c_35 => ?_)
    · have hw := hw.1 c_35
      exact kX0_write_b67 C hr hlk g12 x2 _ _ _ _ hw h (lv_sub hl [0, 1, 2] rfl)
    · have hw := hw.2 c_35
      refine lv_aload_n hx hb dX0_write_38 rfl (lv_at hl 0 rfl) ?_
      refine kget C h 10 rfl rfl inBX0 1 (Nat.le_of_ble_eq_true rfl) wi_fl_X0_15 rfl dX0_write_39 ?_
      refine lv_aload_n hx hb dX0_write_42 rfl (lv_at hl 1 rfl) ?_
      refine kget C h 9 rfl rfl inBX4 1 (Nat.le_of_ble_eq_true rfl) wi_fl_X0_42 rfl dX0_write_43 ?_
      refine lv_iload_n hx hb dX0_write_46 rfl (lv_at hl 2 rfl) ?_
      obtain ⟨i_47, hw⟩ := hw
      refine kiald C h 30 rfl i_47 dX0_write_47 ?_
      obtain ⟨i_48, hw⟩ := hw
      refine kiald C h 32 rfl i_48 dX0_write_48 ?_
      refine lv_topi (fun x3_5 ex3_5 => ?_)
      have hw := hw x3_5 ex3_5
      refine lv_istore_n (lv' := [(3, .int x3_5), (0, .ref (ad 10)), (1, .ref (ad 9)), (2, .int x2)]) hx hb dX0_write_49 rfl hl (by decide) rfl (fun ls hl => ?_)
      refine lv_aload_n hx hb dX0_write_50 rfl (lv_at hl 1 rfl) ?_
      refine lv_iload_n hx hb dX0_write_51 rfl (lv_at hl 0 rfl) ?_
      refine lv_bipush (v := 8) hx hb dX0_write_52 (by decide) ?_
      refine lv_ishr hx hb dX0_write_54 ?_
      refine kVv (As := [.int (x3_5 >>> (8 &&& 31))]) (rest := []) C h (cwV 1 hts (gd_V wi_ml_X0_34 wi_im_X0_append wi_se_X0_append wi_in_X0 wi_co_X0_append) rfl rfl rfl hd_X0_append ⟨Nat.le_of_ble_eq_true rfl, Nat.le_of_ble_eq_true rfl⟩) 10 rfl rfl rfl (mX0_append l D cy ad (x3_5 >>> (8 &&& 31)) _ _ hw) rfl hl.1 rfl (Nat.le_of_ble_eq_true rfl) ⟨Nat.zero_le _, Nat.zero_le _⟩ dX0_write_55 (fun u_7 H locs hw h => ?_)
      refine lv_aload_n hx hb dX0_write_58 rfl (lv_at hl 1 rfl) ?_
      refine lv_iload_n hx hb dX0_write_59 rfl (lv_at hl 0 rfl) ?_
      refine lv_sipush (v := 255) hx hb dX0_write_60 (by decide) ?_
      refine lv_iand hx hb dX0_write_63 ?_
      refine kVv (As := [.int (x3_5 &&& 255)]) (rest := []) C h (cwV 1 hts (gd_V wi_ml_X0_34 wi_im_X0_append wi_se_X0_append wi_in_X0 wi_co_X0_append) rfl rfl rfl hd_X0_append ⟨Nat.le_of_ble_eq_true rfl, Nat.le_of_ble_eq_true rfl⟩) 10 rfl rfl rfl (mX0_append l D cy ad (x3_5 &&& 255) _ _ hw) rfl hl.1 rfl (Nat.le_of_ble_eq_true rfl) ⟨Nat.zero_le _, Nat.zero_le _⟩ dX0_write_64 (fun u_9 H locs hw h => ?_)
      exact kX0_write_b67 C hr hlk g12 x2 _ _ _ _ hw h (lv_sub hl [1, 2, 3] rfl)
def wX0_write_L12 (Q : ST → Prop) : Nat → Int32 → ST → Prop
  | 0, _, _ => False
  | n + 1, x2, u => wX0_write_B12 (wX0_write_L12 Q n) Q x2 u
set_option maxHeartbeats 4000000 in
theorem kX0_write_L12 {p : Program} {l : Launch} {e : Env} {s : State} {m : MethodId} {args : Array Value} {below : List Frame} {meth : Method} {c : Code} {D : va_G} {cy : CY} {A : Nat → Prop} {ad : Nat → Nat} {Q : ST → Prop} (C : kC p m c cX0_write 4 s args RX0 D cy A) (hr : meth.sig.returnType = none) (hlk : meth.locks = false) : ∀ n : Nat, ∀ (x2 : Int32) (u : ST) (H : Heap) (locs : List Loc) (ls : Array Slot), wX0_write_L12 Q n x2 u → kH D (cW cy ad) A s u H locs → lv_has ls 4 [(0, .ref (ad 10)), (1, .ref (ad 9)), (2, .int x2)] → W p l e (kRm 2) s m args below meth c H locs 0 0 (MQ below (kQv D (cW cy ad) cy A Q) args s 0 0 A) (F0 m 12 ls []) := by
  intro n
  induction n with
  | zero => intro x2 u H locs ls hw; exact False.elim hw
  | succ n ih => exact kX0_write_B12 C hr hlk ih
def wX0_write (u : ST) (Q : ST → Prop) : Prop :=
  wX0_setPlaces  u (fun u_2 => (∃ n : Nat, wX0_write_L12 Q n 0 (sI u_2 21 0)))
set_option maxHeartbeats 4000000 in
set_option maxRecDepth 100000 in
theorem mX0_write (l : Launch) (D : va_G) (cy : CY) (ad : Nat → Nat) (u : ST) (sz : Nat) {Q : ST → Prop} (hw : wX0_write  u Q) : Met l yX0_write (wM yX0_write cX0_write 4 none) (kRm 2) (kPc D (cW cy ad) cy u sz [.ref (ad 10), .ref (ad 9)]) (kQv D (cW cy ad) cy (va_A (cW cy ad u) sz) Q) 0 0 (va_A (cW cy ad u) sz) := by
  refine kMet pn_X0_write (Nat.le_of_ble_eq_true rfl) (fun p e s m below meth c ls hsz C hr hlk hex h hl => ?_)
  have hl : lv_has ls 4 [(0, .ref (ad 10)), (1, .ref (ad 9))] := hl
  obtain ⟨⟨hx, hb, hml, hown, hts⟩, hK, hA⟩ := id C
  unfold wX0_write at hw
  have h : kH D (cW cy ad) (va_A (cW cy ad u) sz) s u s.heap [] := h
  refine lv_aload_n hx hb dX0_write_0 rfl (lv_at hl 0 rfl) ?_
  refine lv_aload_n hx hb dX0_write_1 rfl (lv_at hl 1 rfl) ?_
  refine kVv (As := [.ref (ad 9)]) (rest := []) C h (cwV 1 hts (gd_V wi_ml_X0_18 wi_im_X0_setPlaces wi_se_X0_setPlaces wi_in_X0 wi_co_X0_setPlaces) rfl rfl rfl hd_X0_setPlaces ⟨Nat.le_of_ble_eq_true rfl, Nat.le_of_ble_eq_true rfl⟩) 10 rfl rfl rfl (mX0_setPlaces l D cy ad  _ _ hw) rfl hl.1 rfl (Nat.le_of_ble_eq_true rfl) ⟨Nat.zero_le _, Nat.zero_le _⟩ dX0_write_2 (fun u_2 H locs hw h => ?_)
  refine lv_aload_n hx hb dX0_write_5 rfl (lv_at hl 0 rfl) ?_
  refine lv_iconst (v := 0) hx hb dX0_write_6 (by decide) ?_
  refine kput C h 10 rfl rfl inBX0 tyX0_ok nmX0 2 (Nat.le_of_ble_eq_true rfl) wi_fl_X0_22 rfl rfl rfl (Nat.le_of_ble_eq_true rfl) (cS_CD_2 cy ad u_2 0) dX0_write_7 (fun H locs h => ?_)
  refine lv_iconst (v := 0) hx hb dX0_write_10 (by decide) ?_
  refine lv_istore_n (lv' := [(2, .int 0), (0, .ref (ad 10)), (1, .ref (ad 9))]) hx hb dX0_write_11 rfl hl (by decide) rfl (fun ls hl => ?_)
  obtain ⟨n, hw⟩ := hw
  exact kX0_write_L12 C hr hlk n 0 _ _ _ _ hw h (lv_sub hl [1, 2, 0] rfl)

def wX0_follow_b85 (K5 : Int32 → Int32 → Int32 → Int32 → ST → Prop) (Q : Int32 → ST → Prop) (x1 : Int32) (x2 : Int32) (x4 : Int32) (xs0 : Int32) (u : ST) : Prop :=
  K5 x1 x2 xs0 (x4 + 1) u
set_option maxHeartbeats 4000000 in
set_option maxRecDepth 100000 in
theorem kX0_follow_b85 {p : Program} {l : Launch} {e : Env} {s : State} {m : MethodId} {args : Array Value} {below : List Frame} {meth : Method} {c : Code} {D : va_G} {cy : CY} {A : Nat → Prop} {ad : Nat → Nat} {K5 : Int32 → Int32 → Int32 → Int32 → ST → Prop} {Q : Int32 → ST → Prop} (C : kC p m c cX0_follow 6 s args RX0 D cy A) (hr : meth.sig.returnType = some .int) (hlk : meth.locks = false) (g5 : ∀ (x1 : Int32) (x2 : Int32) (x3 : Int32) (x4 : Int32) (u : ST) (H : Heap) (locs : List Loc) (ls : Array Slot), K5 x1 x2 x3 x4 u → kH D (cW cy ad) A s u H locs → lv_has ls 6 [(0, .ref (ad 10)), (1, .int x1), (2, .int x2), (3, .int x3), (4, .int x4)] → W p l e (kRm 0) s m args below meth c H locs 0 0 (MQ below (kQi D (cW cy ad) cy A Q) args s 0 0 A) (F0 m 5 ls [])) : ∀ (x1 : Int32) (x2 : Int32) (x4 : Int32) (xs0 : Int32) (u : ST) (H : Heap) (locs : List Loc) (ls : Array Slot), wX0_follow_b85 K5 Q x1 x2 x4 xs0 u → kH D (cW cy ad) A s u H locs → lv_has ls 6 [(0, .ref (ad 10)), (1, .int x1), (2, .int x2), (4, .int x4)] → W p l e (kRm 0) s m args below meth c H locs 0 0 (MQ below (kQi D (cW cy ad) cy A Q) args s 0 0 A) (F0 m 85 ls [.int xs0]) := by
  intro x1 x2 x4 xs0 u H locs ls hw h hl
  obtain ⟨⟨hx, hb, hml, hown, hts⟩, hK, hA⟩ := id C
  unfold wX0_follow_b85 at hw
  refine lv_istore_n (lv' := [(3, .int xs0), (0, .ref (ad 10)), (1, .int x1), (2, .int x2), (4, .int x4)]) hx hb dX0_follow_85 rfl hl (by decide) rfl (fun ls hl => ?_)
  refine lv_iinc (v := x4 + 1) (lv' := [(4, .int (x4 + 1)), (3, .int xs0), (0, .ref (ad 10)), (1, .int x1), (2, .int x2)]) hx hb dX0_follow_86 hl (k := 4) rfl rfl (by decide) rfl (fun ls hl => ?_)
  refine lv_goto (tgt := 5) hx hb dX0_follow_89 (by decide) ?_
  exact g5 x1 x2 xs0 (x4 + 1) _ _ _ _ hw h (lv_sub hl [2, 3, 4, 1, 0] rfl)
def wX0_follow_b52 (K5 : Int32 → Int32 → Int32 → Int32 → ST → Prop) (Q : Int32 → ST → Prop) (x1 : Int32) (x2 : Int32) (x3 : Int32) (x4 : Int32) (xs0 : Int32) (u : ST) : Prop :=
  ((xs0 = 0 → (vp_in (x3 + 1) 2000 ∧ (vp_in (x3 + 2) 2000 ∧ wX0_follow_b85 K5 Q x1 x2 x4 (((gR u 14 (x3 + 1).toNatClampNeg) <<< (8 &&& 31)) ||| (gR u 14 (x3 + 2).toNatClampNeg)) u))) ∧ (¬ xs0 = 0 → wX0_follow_b85 K5 Q x1 x2 x4 (x3 + 3) u))
set_option maxHeartbeats 4000000 in
set_option maxRecDepth 100000 in
theorem kX0_follow_b52 {p : Program} {l : Launch} {e : Env} {s : State} {m : MethodId} {args : Array Value} {below : List Frame} {meth : Method} {c : Code} {D : va_G} {cy : CY} {A : Nat → Prop} {ad : Nat → Nat} {K5 : Int32 → Int32 → Int32 → Int32 → ST → Prop} {Q : Int32 → ST → Prop} (C : kC p m c cX0_follow 6 s args RX0 D cy A) (hr : meth.sig.returnType = some .int) (hlk : meth.locks = false) (g5 : ∀ (x1 : Int32) (x2 : Int32) (x3 : Int32) (x4 : Int32) (u : ST) (H : Heap) (locs : List Loc) (ls : Array Slot), K5 x1 x2 x3 x4 u → kH D (cW cy ad) A s u H locs → lv_has ls 6 [(0, .ref (ad 10)), (1, .int x1), (2, .int x2), (3, .int x3), (4, .int x4)] → W p l e (kRm 0) s m args below meth c H locs 0 0 (MQ below (kQi D (cW cy ad) cy A Q) args s 0 0 A) (F0 m 5 ls [])) : ∀ (x1 : Int32) (x2 : Int32) (x3 : Int32) (x4 : Int32) (xs0 : Int32) (u : ST) (H : Heap) (locs : List Loc) (ls : Array Slot), wX0_follow_b52 K5 Q x1 x2 x3 x4 xs0 u → kH D (cW cy ad) A s u H locs → lv_has ls 6 [(0, .ref (ad 10)), (1, .int x1), (2, .int x2), (3, .int x3), (4, .int x4)] → W p l e (kRm 0) s m args below meth c H locs 0 0 (MQ below (kQi D (cW cy ad) cy A Q) args s 0 0 A) (F0 m 52 ls [.int xs0]) := by
  intro x1 x2 x3 x4 xs0 u H locs ls hw h hl
  obtain ⟨⟨hx, hb, hml, hown, hts⟩, hK, hA⟩ := id C
  unfold wX0_follow_b52 at hw
  refine lv_istore (lv' := [(5, .int xs0), (0, .ref (ad 10)), (1, .int x1), (2, .int x2), (3, .int x3), (4, .int x4)]) hx hb dX0_follow_52 hl (by decide) rfl (fun ls hl => ?_)
  refine lv_iload hx hb dX0_follow_54 (lv_at hl 0 rfl) ?_
  refine lv_if_eq (tgt := 65) hx hb dX0_follow_56 (by decide) (fun c_56 => ?_) (fun c_56 => ?_)
  · have hw := hw.1 c_56
    refine lv_aload_n hx hb dX0_follow_65 rfl (lv_at hl 1 rfl) ?_
    refine kget C h 10 rfl rfl inBX0 0 (Nat.le_of_ble_eq_true rfl) wi_fl_X0_9 rfl dX0_follow_66 ?_
    refine lv_iload_n hx hb dX0_follow_69 rfl (lv_at hl 4 rfl) ?_
    refine lv_iconst (v := 1) hx hb dX0_follow_70 (by decide) ?_
    refine lv_iadd hx hb dX0_follow_71 ?_
    obtain ⟨i_72, hw⟩ := hw
    refine kiald C h 31 rfl i_72 dX0_follow_72 ?_
    refine lv_bipush (v := 8) hx hb dX0_follow_73 (by decide) ?_
    refine lv_ishl hx hb dX0_follow_75 ?_
    refine lv_aload_n hx hb dX0_follow_76 rfl (lv_at hl 1 rfl) ?_
    refine kget C h 10 rfl rfl inBX0 0 (Nat.le_of_ble_eq_true rfl) wi_fl_X0_9 rfl dX0_follow_77 ?_
    refine lv_iload_n hx hb dX0_follow_80 rfl (lv_at hl 4 rfl) ?_
    refine lv_iconst (v := 2) hx hb dX0_follow_81 (by decide) ?_
    refine lv_iadd hx hb dX0_follow_82 ?_
    obtain ⟨i_83, hw⟩ := hw
    refine kiald C h 31 rfl i_83 dX0_follow_83 ?_
    refine lv_ior hx hb dX0_follow_84 ?_
    exact kX0_follow_b85 C hr hlk g5 x1 x2 x4 (((gR u 14 (x3 + 1).toNatClampNeg) <<< (8 &&& 31)) ||| (gR u 14 (x3 + 2).toNatClampNeg)) _ _ _ _ hw h (lv_sub hl [1, 2, 3, 5] rfl)
  · have hw := hw.2 c_56
    refine lv_iload_n hx hb dX0_follow_59 rfl (lv_at hl 4 rfl) ?_
    refine lv_iconst (v := 3) hx hb dX0_follow_60 (by decide) ?_
    refine lv_iadd hx hb dX0_follow_61 ?_
    refine lv_goto (tgt := 85) hx hb dX0_follow_62 (by decide) ?_
    exact kX0_follow_b85 C hr hlk g5 x1 x2 x4 (x3 + 3) _ _ _ _ hw h (lv_sub hl [1, 2, 3, 5] rfl)
def wX0_follow_b92 (Q : Int32 → ST → Prop) (x2 : Int32) (x3 : Int32) (x4 : Int32) (u : ST) : Prop :=
  ((x2 = 0 → (((gI u 21) ≤ x3 → Q (-1) u) ∧ (¬ (gI u 21) ≤ x3 → (vp_in x3 2000 ∧ Q ((gR u 14 x3.toNatClampNeg) - 128) u)))) ∧ (¬ x2 = 0 → Q x4 u))
set_option maxHeartbeats 4000000 in
set_option maxRecDepth 100000 in
theorem kX0_follow_b92 {p : Program} {l : Launch} {e : Env} {s : State} {m : MethodId} {args : Array Value} {below : List Frame} {meth : Method} {c : Code} {D : va_G} {cy : CY} {A : Nat → Prop} {ad : Nat → Nat} {Q : Int32 → ST → Prop} (C : kC p m c cX0_follow 6 s args RX0 D cy A) (hr : meth.sig.returnType = some .int) (hlk : meth.locks = false) : ∀ (x2 : Int32) (x3 : Int32) (x4 : Int32) (u : ST) (H : Heap) (locs : List Loc) (ls : Array Slot), wX0_follow_b92 Q x2 x3 x4 u → kH D (cW cy ad) A s u H locs → lv_has ls 6 [(0, .ref (ad 10)), (2, .int x2), (3, .int x3), (4, .int x4)] → W p l e (kRm 0) s m args below meth c H locs 0 0 (MQ below (kQi D (cW cy ad) cy A Q) args s 0 0 A) (F0 m 92 ls []) := by
  intro x2 x3 x4 u H locs ls hw h hl
  obtain ⟨⟨hx, hb, hml, hown, hts⟩, hK, hA⟩ := id C
  unfold wX0_follow_b92 at hw
  refine lv_iload_n hx hb dX0_follow_92 rfl (lv_at hl 1 rfl) ?_
  refine lv_if_eq (tgt := 99) hx hb dX0_follow_93 (by decide) (fun c_93 => ?_) (fun c_93 => ?_)
  · have hw := hw.1 c_93
    refine lv_iload_n hx hb dX0_follow_99 rfl (lv_at hl 2 rfl) ?_
    refine lv_aload_n hx hb dX0_follow_100 rfl (lv_at hl 0 rfl) ?_
    refine kget C h 10 rfl rfl inBX0 2 (Nat.le_of_ble_eq_true rfl) wi_fl_X0_22 rfl dX0_follow_101 ?_
    refine lv_icmp_ge (tgt := 120) hx hb dX0_follow_104 (by decide) (fun c_104 => ?_) (fun c_104 => ?_)
    · have hw := hw.1 c_104
      refine lv_iconst (v := (-1)) hx hb dX0_follow_120 (by decide) ?_
      exact kretI C hr hlk h hw dX0_follow_121
    · have hw := hw.2 c_104
      refine lv_aload_n hx hb dX0_follow_107 rfl (lv_at hl 0 rfl) ?_
      refine kget C h 10 rfl rfl inBX0 0 (Nat.le_of_ble_eq_true rfl) wi_fl_X0_9 rfl dX0_follow_108 ?_
      refine lv_iload_n hx hb dX0_follow_111 rfl (lv_at hl 2 rfl) ?_
      obtain ⟨i_112, hw⟩ := hw
      refine kiald C h 31 rfl i_112 dX0_follow_112 ?_
      refine lv_sipush (v := 128) hx hb dX0_follow_113 (by decide) ?_
      refine lv_isub hx hb dX0_follow_116 ?_
      refine lv_goto (tgt := 121) hx hb dX0_follow_117 (by decide) ?_
      exact kretI C hr hlk h hw dX0_follow_121
  · have hw := hw.2 c_93
    refine lv_iload hx hb dX0_follow_96 (lv_at hl 3 rfl) ?_
    exact kretI C hr hlk h hw dX0_follow_98
def wX0_follow_B5 (K5 : Int32 → Int32 → Int32 → Int32 → ST → Prop) (Q : Int32 → ST → Prop) (x1 : Int32) (x2 : Int32) (x3 : Int32) (x4 : Int32) (u : ST) : Prop :=
  ((16 ≤ x4 → wX0_follow_b92 Q x2 x3 x4 u) ∧ (¬ 16 ≤ x4 → (((gI u 21) ≤ (x3 + 2) → wX0_follow_b92 Q x2 x3 x4 u) ∧ (¬ (gI u 21) ≤ (x3 + 2) → (vp_in x3 2000 ∧ ((128 ≤ (gR u 14 x3.toNatClampNeg) → wX0_follow_b92 Q x2 x3 x4 u) ∧ (¬ 128 ≤ (gR u 14 x3.toNatClampNeg) → (vp_in x3 2000 ∧ ((((x1 >>> ((gR u 14 x3.toNatClampNeg) &&& 31)) &&& 1) = 0 → wX0_follow_b52 K5 Q x1 x2 x3 x4 0 u) ∧ (¬ ((x1 >>> ((gR u 14 x3.toNatClampNeg) &&& 31)) &&& 1) = 0 → wX0_follow_b52 K5 Q x1 x2 x3 x4 1 u))))))))))
set_option maxHeartbeats 4000000 in
set_option maxRecDepth 100000 in
theorem kX0_follow_B5 {p : Program} {l : Launch} {e : Env} {s : State} {m : MethodId} {args : Array Value} {below : List Frame} {meth : Method} {c : Code} {D : va_G} {cy : CY} {A : Nat → Prop} {ad : Nat → Nat} {K5 : Int32 → Int32 → Int32 → Int32 → ST → Prop} {Q : Int32 → ST → Prop} (C : kC p m c cX0_follow 6 s args RX0 D cy A) (hr : meth.sig.returnType = some .int) (hlk : meth.locks = false) (g5 : ∀ (x1 : Int32) (x2 : Int32) (x3 : Int32) (x4 : Int32) (u : ST) (H : Heap) (locs : List Loc) (ls : Array Slot), K5 x1 x2 x3 x4 u → kH D (cW cy ad) A s u H locs → lv_has ls 6 [(0, .ref (ad 10)), (1, .int x1), (2, .int x2), (3, .int x3), (4, .int x4)] → W p l e (kRm 0) s m args below meth c H locs 0 0 (MQ below (kQi D (cW cy ad) cy A Q) args s 0 0 A) (F0 m 5 ls [])) : ∀ (x1 : Int32) (x2 : Int32) (x3 : Int32) (x4 : Int32) (u : ST) (H : Heap) (locs : List Loc) (ls : Array Slot), wX0_follow_B5 K5 Q x1 x2 x3 x4 u → kH D (cW cy ad) A s u H locs → lv_has ls 6 [(0, .ref (ad 10)), (1, .int x1), (2, .int x2), (3, .int x3), (4, .int x4)] → W p l e (kRm 0) s m args below meth c H locs 0 0 (MQ below (kQi D (cW cy ad) cy A Q) args s 0 0 A) (F0 m 5 ls []) := by
  intro x1 x2 x3 x4 u H locs ls hw h hl
  obtain ⟨⟨hx, hb, hml, hown, hts⟩, hK, hA⟩ := id C
  unfold wX0_follow_B5 at hw
  refine lv_iload hx hb dX0_follow_5 (lv_at hl 4 rfl) ?_
  refine lv_bipush (v := 16) hx hb dX0_follow_7 (by decide) ?_
  refine lv_icmp_ge (tgt := 92) hx hb dX0_follow_9 (by decide) (fun c_9 => ?_) (fun c_9 => ?_)
  · have hw := hw.1 c_9
    exact kX0_follow_b92 C hr hlk x2 x3 x4 _ _ _ _ hw h (lv_sub hl [0, 2, 3, 4] rfl)
  · have hw := hw.2 c_9
    refine lv_iload_n hx hb dX0_follow_12 rfl (lv_at hl 3 rfl) ?_
    refine lv_iconst (v := 2) hx hb dX0_follow_13 (by decide) ?_
    refine lv_iadd hx hb dX0_follow_14 ?_
    refine lv_aload_n hx hb dX0_follow_15 rfl (lv_at hl 0 rfl) ?_
    refine kget C h 10 rfl rfl inBX0 2 (Nat.le_of_ble_eq_true rfl) wi_fl_X0_22 rfl dX0_follow_16 ?_
    refine lv_icmp_ge (tgt := 92) hx hb dX0_follow_19 (by decide) (fun c_19 => ?_) (fun c_19 => ?_)
    · have hw := hw.1 c_19
      exact kX0_follow_b92 C hr hlk x2 x3 x4 _ _ _ _ hw h (lv_sub hl [0, 2, 3, 4] rfl)
    · have hw := hw.2 c_19
      refine lv_aload_n hx hb dX0_follow_22 rfl (lv_at hl 0 rfl) ?_
      refine kget C h 10 rfl rfl inBX0 0 (Nat.le_of_ble_eq_true rfl) wi_fl_X0_9 rfl dX0_follow_23 ?_
      refine lv_iload_n hx hb dX0_follow_26 rfl (lv_at hl 3 rfl) ?_
      obtain ⟨i_27, hw⟩ := hw
      refine kiald C h 31 rfl i_27 dX0_follow_27 ?_
      refine lv_sipush (v := 128) hx hb dX0_follow_28 (by decide) ?_
      refine lv_icmp_ge (tgt := 92) hx hb dX0_follow_31 (by decide) (fun c_31 => ?_) (fun c_31 => ?_)
      · have hw := hw.1 c_31
        exact kX0_follow_b92 C hr hlk x2 x3 x4 _ _ _ _ hw h (lv_sub hl [0, 2, 3, 4] rfl)
      · have hw := hw.2 c_31
        refine lv_iload_n hx hb dX0_follow_34 rfl (lv_at hl 1 rfl) ?_
        refine lv_aload_n hx hb dX0_follow_35 rfl (lv_at hl 0 rfl) ?_
        refine kget C h 10 rfl rfl inBX0 0 (Nat.le_of_ble_eq_true rfl) wi_fl_X0_9 rfl dX0_follow_36 ?_
        refine lv_iload_n hx hb dX0_follow_39 rfl (lv_at hl 3 rfl) ?_
        obtain ⟨i_40, hw⟩ := hw
        refine kiald C h 31 rfl i_40 dX0_follow_40 ?_
        refine lv_ishr hx hb dX0_follow_41 ?_
        refine lv_iconst (v := 1) hx hb dX0_follow_42 (by decide) ?_
        refine lv_iand hx hb dX0_follow_43 ?_
        refine lv_if_eq (tgt := 51) hx hb dX0_follow_44 (by decide) (fun c_44 => ?_) (fun c_44 => ?_)
        · have hw := hw.1 c_44
          refine lv_iconst (v := 0) hx hb dX0_follow_51 (by decide) ?_
          exact kX0_follow_b52 C hr hlk g5 x1 x2 x3 x4 0 _ _ _ _ hw h (lv_sub hl [0, 1, 2, 3, 4] rfl)
        · have hw := hw.2 c_44
          refine lv_iconst (v := 1) hx hb dX0_follow_47 (by decide) ?_
          refine lv_goto (tgt := 52) hx hb dX0_follow_48 (by decide) ?_
          exact kX0_follow_b52 C hr hlk g5 x1 x2 x3 x4 1 _ _ _ _ hw h (lv_sub hl [0, 1, 2, 3, 4] rfl)
def wX0_follow_L5 (Q : Int32 → ST → Prop) : Nat → Int32 → Int32 → Int32 → Int32 → ST → Prop
  | 0, _, _, _, _, _ => False
  | n + 1, x1, x2, x3, x4, u => wX0_follow_B5 (wX0_follow_L5 Q n) Q x1 x2 x3 x4 u
set_option maxHeartbeats 4000000 in
theorem kX0_follow_L5 {p : Program} {l : Launch} {e : Env} {s : State} {m : MethodId} {args : Array Value} {below : List Frame} {meth : Method} {c : Code} {D : va_G} {cy : CY} {A : Nat → Prop} {ad : Nat → Nat} {Q : Int32 → ST → Prop} (C : kC p m c cX0_follow 6 s args RX0 D cy A) (hr : meth.sig.returnType = some .int) (hlk : meth.locks = false) : ∀ n : Nat, ∀ (x1 : Int32) (x2 : Int32) (x3 : Int32) (x4 : Int32) (u : ST) (H : Heap) (locs : List Loc) (ls : Array Slot), wX0_follow_L5 Q n x1 x2 x3 x4 u → kH D (cW cy ad) A s u H locs → lv_has ls 6 [(0, .ref (ad 10)), (1, .int x1), (2, .int x2), (3, .int x3), (4, .int x4)] → W p l e (kRm 0) s m args below meth c H locs 0 0 (MQ below (kQi D (cW cy ad) cy A Q) args s 0 0 A) (F0 m 5 ls []) := by
  intro n
  induction n with
  | zero => intro x1 x2 x3 x4 u H locs ls hw; exact False.elim hw
  | succ n ih => exact kX0_follow_B5 C hr hlk ih
def wX0_follow (x1 : Int32) (x2 : Int32) (u : ST) (Q : Int32 → ST → Prop) : Prop :=
  (∃ n : Nat, wX0_follow_L5 Q n x1 x2 0 0 u)
set_option maxHeartbeats 4000000 in
set_option maxRecDepth 100000 in
theorem mX0_follow (l : Launch) (D : va_G) (cy : CY) (ad : Nat → Nat) (x1 : Int32) (x2 : Int32) (u : ST) (sz : Nat) {Q : Int32 → ST → Prop} (hw : wX0_follow x1 x2 u Q) : Met l yX0_follow (wM yX0_follow cX0_follow 6 (some .int)) (kRm 0) (kPc D (cW cy ad) cy u sz [.ref (ad 10), .int x1, .int x2]) (kQi D (cW cy ad) cy (va_A (cW cy ad u) sz) Q) 0 0 (va_A (cW cy ad u) sz) := by
  refine kMet pn_X0_follow (Nat.le_of_ble_eq_true rfl) (fun p e s m below meth c ls hsz C hr hlk hex h hl => ?_)
  have hl : lv_has ls 6 [(0, .ref (ad 10)), (1, .int x1), (2, .int x2)] := hl
  obtain ⟨⟨hx, hb, hml, hown, hts⟩, hK, hA⟩ := id C
  unfold wX0_follow at hw
  have h : kH D (cW cy ad) (va_A (cW cy ad u) sz) s u s.heap [] := h
  refine lv_iconst (v := 0) hx hb dX0_follow_0 (by decide) ?_
  refine lv_istore_n (lv' := [(3, .int 0), (0, .ref (ad 10)), (1, .int x1), (2, .int x2)]) hx hb dX0_follow_1 rfl hl (by decide) rfl (fun ls hl => ?_)
  refine lv_iconst (v := 0) hx hb dX0_follow_2 (by decide) ?_
  refine lv_istore (lv' := [(4, .int 0), (3, .int 0), (0, .ref (ad 10)), (1, .int x1), (2, .int x2)]) hx hb dX0_follow_3 hl (by decide) rfl (fun ls hl => ?_)
  obtain ⟨n, hw⟩ := hw
  exact kX0_follow_L5 C hr hlk n x1 x2 0 0 _ _ _ _ hw h (lv_sub hl [2, 3, 4, 1, 0] rfl)
end
