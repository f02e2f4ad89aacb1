section
-- ===== PART A: goes FIRST, ahead of the names: the tables' words, and 'selects' of the private methods out of them =====
/-- a private method of a class that the tables say can be made, by its rows of tables_1 -/
def lw_okq (q : MethodName × Nat) : Prop := (q.1.cls ≠ "java/lang/invoke/MethodHandle" ∧ q.1.cls ≠ "java/lang/invoke/VarHandle") ∧ Cond.instantiable q.1.cls q.2 ∈ tables_1 ∧ Cond.privateMethod q.1 ∈ tables_1 ∧ Cond.instanceMethod q.1 ∈ tables_1
theorem lw_p0 : lw_okq (⟨"RuleTables$Tape", "passName", "()Z"⟩, 7) := ⟨⟨by decide +kernel, by decide +kernel⟩, List.mem_of_getElem? (i := 27) (by decide +kernel), List.mem_of_getElem? (i := 248) (by decide +kernel), List.mem_of_getElem? (i := 249) (by decide +kernel)⟩
theorem lw_p1 : lw_okq (⟨"RuleTables$Tape", "look", "()I"⟩, 7) := ⟨⟨by decide +kernel, by decide +kernel⟩, List.mem_of_getElem? (i := 27) (by decide +kernel), List.mem_of_getElem? (i := 252) (by decide +kernel), List.mem_of_getElem? (i := 253) (by decide +kernel)⟩
theorem lw_p2 : lw_okq (⟨"RuleTables$Tape", "byteAt", "(I)I"⟩, 7) := ⟨⟨by decide +kernel, by decide +kernel⟩, List.mem_of_getElem? (i := 27) (by decide +kernel), List.mem_of_getElem? (i := 256) (by decide +kernel), List.mem_of_getElem? (i := 257) (by decide +kernel)⟩
theorem lw_p3 : lw_okq (⟨"RuleTables$Tape", "fail", "(II)Z"⟩, 7) := ⟨⟨by decide +kernel, by decide +kernel⟩, List.mem_of_getElem? (i := 27) (by decide +kernel), List.mem_of_getElem? (i := 260) (by decide +kernel), List.mem_of_getElem? (i := 261) (by decide +kernel)⟩
theorem lw_p4 : lw_okq (⟨"RuleTables$Tape", "isWord", "(J)Z"⟩, 7) := ⟨⟨by decide +kernel, by decide +kernel⟩, List.mem_of_getElem? (i := 27) (by decide +kernel), List.mem_of_getElem? (i := 268) (by decide +kernel), List.mem_of_getElem? (i := 269) (by decide +kernel)⟩
theorem lw_p5 : lw_okq (⟨"RuleTables$Tape", "passConditions", "(LRuleTables$Table;)Z"⟩, 7) := ⟨⟨by decide +kernel, by decide +kernel⟩, List.mem_of_getElem? (i := 27) (by decide +kernel), List.mem_of_getElem? (i := 272) (by decide +kernel), List.mem_of_getElem? (i := 273) (by decide +kernel)⟩
theorem lw_p6 : lw_okq (⟨"RuleTables$Tape", "passCondition", "(LRuleTables$Names;)Z"⟩, 7) := ⟨⟨by decide +kernel, by decide +kernel⟩, List.mem_of_getElem? (i := 27) (by decide +kernel), List.mem_of_getElem? (i := 276) (by decide +kernel), List.mem_of_getElem? (i := 277) (by decide +kernel)⟩
theorem lw_p7 : lw_okq (⟨"RuleTables$Tape", "passByte", "(I)Z"⟩, 7) := ⟨⟨by decide +kernel, by decide +kernel⟩, List.mem_of_getElem? (i := 27) (by decide +kernel), List.mem_of_getElem? (i := 288) (by decide +kernel), List.mem_of_getElem? (i := 289) (by decide +kernel)⟩
theorem lw_p8 : lw_okq (⟨"RuleTables$Tape", "passRules", "(LRuleTables$Table;)Z"⟩, 7) := ⟨⟨by decide +kernel, by decide +kernel⟩, List.mem_of_getElem? (i := 27) (by decide +kernel), List.mem_of_getElem? (i := 292) (by decide +kernel), List.mem_of_getElem? (i := 293) (by decide +kernel)⟩
theorem lw_p9 : lw_okq (⟨"RuleTables$Tape", "passRule", "(LRuleTables$Table;)Z"⟩, 7) := ⟨⟨by decide +kernel, by decide +kernel⟩, List.mem_of_getElem? (i := 27) (by decide +kernel), List.mem_of_getElem? (i := 296) (by decide +kernel), List.mem_of_getElem? (i := 297) (by decide +kernel)⟩
theorem lw_p10 : lw_okq (⟨"RuleTables$Tape", "passAction", "(LRuleTables$Names;)Z"⟩, 7) := ⟨⟨by decide +kernel, by decide +kernel⟩, List.mem_of_getElem? (i := 27) (by decide +kernel), List.mem_of_getElem? (i := 301) (by decide +kernel), List.mem_of_getElem? (i := 302) (by decide +kernel)⟩
theorem lw_p11 : lw_okq (⟨"RuleTables", "judge", "()I"⟩, 11) := ⟨⟨by decide +kernel, by decide +kernel⟩, List.mem_of_getElem? (i := 19) (by decide +kernel), List.mem_of_getElem? (i := 309) (by decide +kernel), List.mem_of_getElem? (i := 310) (by decide +kernel)⟩
theorem lw_p12 : lw_okq (⟨"RuleTables", "findAmiss", "()I"⟩, 11) := ⟨⟨by decide +kernel, by decide +kernel⟩, List.mem_of_getElem? (i := 19) (by decide +kernel), List.mem_of_getElem? (i := 317) (by decide +kernel), List.mem_of_getElem? (i := 318) (by decide +kernel)⟩
theorem lw_p13 : lw_okq (⟨"RuleTables", "findContradiction", "()Z"⟩, 11) := ⟨⟨by decide +kernel, by decide +kernel⟩, List.mem_of_getElem? (i := 19) (by decide +kernel), List.mem_of_getElem? (i := 321) (by decide +kernel), List.mem_of_getElem? (i := 322) (by decide +kernel)⟩
theorem lw_p14 : lw_okq (⟨"RuleTables$Way", "splittingBit", "(II)I"⟩, 8) := ⟨⟨by decide +kernel, by decide +kernel⟩, List.mem_of_getElem? (i := 113) (by decide +kernel), List.mem_of_getElem? (i := 344) (by decide +kernel), List.mem_of_getElem? (i := 345) (by decide +kernel)⟩
theorem lw_p15 : lw_okq (⟨"RuleTables$Tree", "addLeaf", "(II)V"⟩, 7) := ⟨⟨by decide +kernel, by decide +kernel⟩, List.mem_of_getElem? (i := 147) (by decide +kernel), List.mem_of_getElem? (i := 364) (by decide +kernel), List.mem_of_getElem? (i := 365) (by decide +kernel)⟩
def lw_privs_1 : List (MethodName × Nat) := [(⟨"RuleTables$Tape", "passName", "()Z"⟩, 7), (⟨"RuleTables$Tape", "look", "()I"⟩, 7), (⟨"RuleTables$Tape", "byteAt", "(I)I"⟩, 7), (⟨"RuleTables$Tape", "fail", "(II)Z"⟩, 7), (⟨"RuleTables$Tape", "isWord", "(J)Z"⟩, 7), (⟨"RuleTables$Tape", "passConditions", "(LRuleTables$Table;)Z"⟩, 7), (⟨"RuleTables$Tape", "passCondition", "(LRuleTables$Names;)Z"⟩, 7), (⟨"RuleTables$Tape", "passByte", "(I)Z"⟩, 7), (⟨"RuleTables$Tape", "passRules", "(LRuleTables$Table;)Z"⟩, 7), (⟨"RuleTables$Tape", "passRule", "(LRuleTables$Table;)Z"⟩, 7), (⟨"RuleTables$Tape", "passAction", "(LRuleTables$Names;)Z"⟩, 7), (⟨"RuleTables", "judge", "()I"⟩, 11), (⟨"RuleTables", "findAmiss", "()I"⟩, 11), (⟨"RuleTables", "findContradiction", "()Z"⟩, 11), (⟨"RuleTables$Way", "splittingBit", "(II)I"⟩, 8), (⟨"RuleTables$Tree", "addLeaf", "(II)V"⟩, 7)]
theorem lw_r1 : ∀ q ∈ lw_privs_1, lw_okq q := List.forall_mem_cons.mpr ⟨lw_p0, List.forall_mem_cons.mpr ⟨lw_p1, List.forall_mem_cons.mpr ⟨lw_p2, List.forall_mem_cons.mpr ⟨lw_p3, List.forall_mem_cons.mpr ⟨lw_p4, List.forall_mem_cons.mpr ⟨lw_p5, List.forall_mem_cons.mpr ⟨lw_p6, List.forall_mem_cons.mpr ⟨lw_p7, List.forall_mem_cons.mpr ⟨lw_p8, List.forall_mem_cons.mpr ⟨lw_p9, List.forall_mem_cons.mpr ⟨lw_p10, List.forall_mem_cons.mpr ⟨lw_p11, List.forall_mem_cons.mpr ⟨lw_p12, List.forall_mem_cons.mpr ⟨lw_p13, List.forall_mem_cons.mpr ⟨lw_p14, List.forall_mem_cons.mpr ⟨lw_p15, fun _ h => absurd h List.not_mem_nil⟩⟩⟩⟩⟩⟩⟩⟩⟩⟩⟩⟩⟩⟩⟩⟩
theorem lw_p16 : lw_okq (⟨"RuleTables$Tree", "addNode", "(I)V"⟩, 7) := ⟨⟨by decide +kernel, by decide +kernel⟩, List.mem_of_getElem? (i := 147) (by decide +kernel), List.mem_of_getElem? (i := 368) (by decide +kernel), List.mem_of_getElem? (i := 369) (by decide +kernel)⟩
theorem lw_p17 : lw_okq (⟨"RuleTables$Way", "weigh", "(II)V"⟩, 8) := ⟨⟨by decide +kernel, by decide +kernel⟩, List.mem_of_getElem? (i := 113) (by decide +kernel), List.mem_of_getElem? (i := 379) (by decide +kernel), List.mem_of_getElem? (i := 380) (by decide +kernel)⟩
theorem lw_p18 : lw_okq (⟨"RuleTables$Way", "addWeight", "(II)V"⟩, 8) := ⟨⟨by decide +kernel, by decide +kernel⟩, List.mem_of_getElem? (i := 113) (by decide +kernel), List.mem_of_getElem? (i := 389) (by decide +kernel), List.mem_of_getElem? (i := 390) (by decide +kernel)⟩
theorem lw_p19 : lw_okq (⟨"RuleTables$Way", "isBetter", "(II)Z"⟩, 8) := ⟨⟨by decide +kernel, by decide +kernel⟩, List.mem_of_getElem? (i := 113) (by decide +kernel), List.mem_of_getElem? (i := 393) (by decide +kernel), List.mem_of_getElem? (i := 394) (by decide +kernel)⟩
theorem lw_p20 : lw_okq (⟨"RuleTables$Code", "setPlaces", "(LRuleTables$Tree;)V"⟩, 3) := ⟨⟨by decide +kernel, by decide +kernel⟩, List.mem_of_getElem? (i := 184) (by decide +kernel), List.mem_of_getElem? (i := 407) (by decide +kernel), List.mem_of_getElem? (i := 408) (by decide +kernel)⟩
theorem lw_p21 : lw_okq (⟨"RuleTables$Code", "append", "(I)V"⟩, 3) := ⟨⟨by decide +kernel, by decide +kernel⟩, List.mem_of_getElem? (i := 184) (by decide +kernel), List.mem_of_getElem? (i := 415) (by decide +kernel), List.mem_of_getElem? (i := 416) (by decide +kernel)⟩
theorem lw_p22 : lw_okq (⟨"java/lang/Throwable", "fillInStackTrace", "(I)Ljava/lang/Throwable;"⟩, 6) := ⟨⟨by decide +kernel, by decide +kernel⟩, List.mem_of_getElem? (i := 471) (by decide +kernel), List.mem_of_getElem? (i := 469) (by decide +kernel), List.mem_of_getElem? (i := 470) (by decide +kernel)⟩
theorem lw_p23 : lw_okq (⟨"RuleTables", "needTable", "()V"⟩, 11) := ⟨⟨by decide +kernel, by decide +kernel⟩, List.mem_of_getElem? (i := 19) (by decide +kernel), List.mem_of_getElem? (i := 540) (by decide +kernel), List.mem_of_getElem? (i := 541) (by decide +kernel)⟩
theorem lw_p24 : lw_okq (⟨"RuleTables$Names", "letterAt", "(II)I"⟩, 2) := ⟨⟨by decide +kernel, by decide +kernel⟩, List.mem_of_getElem? (i := 65) (by decide +kernel), List.mem_of_getElem? (i := 608) (by decide +kernel), List.mem_of_getElem? (i := 609) (by decide +kernel)⟩
theorem lw_p25 : lw_okq (⟨"RuleTables", "needCase", "(I)V"⟩, 11) := ⟨⟨by decide +kernel, by decide +kernel⟩, List.mem_of_getElem? (i := 19) (by decide +kernel), List.mem_of_getElem? (i := 624) (by decide +kernel), List.mem_of_getElem? (i := 625) (by decide +kernel)⟩
theorem lw_p26 : lw_okq (⟨"RuleTables", "needTree", "()V"⟩, 11) := ⟨⟨by decide +kernel, by decide +kernel⟩, List.mem_of_getElem? (i := 19) (by decide +kernel), List.mem_of_getElem? (i := 656) (by decide +kernel), List.mem_of_getElem? (i := 657) (by decide +kernel)⟩
theorem lw_p27 : lw_okq (⟨"RuleTablesModel", "word", "(II)V"⟩, 34) := ⟨⟨by decide +kernel, by decide +kernel⟩, List.mem_of_getElem? (i := 689) (by decide +kernel), List.mem_of_getElem? (i := 814) (by decide +kernel), List.mem_of_getElem? (i := 815) (by decide +kernel)⟩
theorem lw_p28 : lw_okq (⟨"RuleTablesModel", "nameEnd", "()I"⟩, 34) := ⟨⟨by decide +kernel, by decide +kernel⟩, List.mem_of_getElem? (i := 689) (by decide +kernel), List.mem_of_getElem? (i := 818) (by decide +kernel), List.mem_of_getElem? (i := 819) (by decide +kernel)⟩
theorem lw_p29 : lw_okq (⟨"RuleTablesModel", "look", "()I"⟩, 34) := ⟨⟨by decide +kernel, by decide +kernel⟩, List.mem_of_getElem? (i := 689) (by decide +kernel), List.mem_of_getElem? (i := 822) (by decide +kernel), List.mem_of_getElem? (i := 823) (by decide +kernel)⟩
theorem lw_p30 : lw_okq (⟨"RuleTablesModel", "bad", "(II)V"⟩, 34) := ⟨⟨by decide +kernel, by decide +kernel⟩, List.mem_of_getElem? (i := 689) (by decide +kernel), List.mem_of_getElem? (i := 829) (by decide +kernel), List.mem_of_getElem? (i := 830) (by decide +kernel)⟩
theorem lw_p31 : lw_okq (⟨"RuleTablesModel", "readCondition", "()V"⟩, 34) := ⟨⟨by decide +kernel, by decide +kernel⟩, List.mem_of_getElem? (i := 689) (by decide +kernel), List.mem_of_getElem? (i := 836) (by decide +kernel), List.mem_of_getElem? (i := 837) (by decide +kernel)⟩
def lw_privs_2 : List (MethodName × Nat) := [(⟨"RuleTables$Tree", "addNode", "(I)V"⟩, 7), (⟨"RuleTables$Way", "weigh", "(II)V"⟩, 8), (⟨"RuleTables$Way", "addWeight", "(II)V"⟩, 8), (⟨"RuleTables$Way", "isBetter", "(II)Z"⟩, 8), (⟨"RuleTables$Code", "setPlaces", "(LRuleTables$Tree;)V"⟩, 3), (⟨"RuleTables$Code", "append", "(I)V"⟩, 3), (⟨"java/lang/Throwable", "fillInStackTrace", "(I)Ljava/lang/Throwable;"⟩, 6), (⟨"RuleTables", "needTable", "()V"⟩, 11), (⟨"RuleTables$Names", "letterAt", "(II)I"⟩, 2), (⟨"RuleTables", "needCase", "(I)V"⟩, 11), (⟨"RuleTables", "needTree", "()V"⟩, 11), (⟨"RuleTablesModel", "word", "(II)V"⟩, 34), (⟨"RuleTablesModel", "nameEnd", "()I"⟩, 34), (⟨"RuleTablesModel", "look", "()I"⟩, 34), (⟨"RuleTablesModel", "bad", "(II)V"⟩, 34), (⟨"RuleTablesModel", "readCondition", "()V"⟩, 34)]
theorem lw_r2 : ∀ q ∈ lw_privs_2, lw_okq q := List.forall_mem_cons.mpr ⟨lw_p16, List.forall_mem_cons.mpr ⟨lw_p17, List.forall_mem_cons.mpr ⟨lw_p18, List.forall_mem_cons.mpr ⟨lw_p19, List.forall_mem_cons.mpr ⟨lw_p20, List.forall_mem_cons.mpr ⟨lw_p21, List.forall_mem_cons.mpr ⟨lw_p22, List.forall_mem_cons.mpr ⟨lw_p23, List.forall_mem_cons.mpr ⟨lw_p24, List.forall_mem_cons.mpr ⟨lw_p25, List.forall_mem_cons.mpr ⟨lw_p26, List.forall_mem_cons.mpr ⟨lw_p27, List.forall_mem_cons.mpr ⟨lw_p28, List.forall_mem_cons.mpr ⟨lw_p29, List.forall_mem_cons.mpr ⟨lw_p30, List.forall_mem_cons.mpr ⟨lw_p31, fun _ h => absurd h List.not_mem_nil⟩⟩⟩⟩⟩⟩⟩⟩⟩⟩⟩⟩⟩⟩⟩⟩
theorem lw_p32 : lw_okq (⟨"RuleTablesModel", "find", "(III)I"⟩, 34) := ⟨⟨by decide +kernel, by decide +kernel⟩, List.mem_of_getElem? (i := 689) (by decide +kernel), List.mem_of_getElem? (i := 840) (by decide +kernel), List.mem_of_getElem? (i := 841) (by decide +kernel)⟩
theorem lw_p33 : lw_okq (⟨"RuleTablesModel", "store", "(II)V"⟩, 34) := ⟨⟨by decide +kernel, by decide +kernel⟩, List.mem_of_getElem? (i := 689) (by decide +kernel), List.mem_of_getElem? (i := 844) (by decide +kernel), List.mem_of_getElem? (i := 845) (by decide +kernel)⟩
theorem lw_p34 : lw_okq (⟨"RuleTablesModel", "sign", "(I)V"⟩, 34) := ⟨⟨by decide +kernel, by decide +kernel⟩, List.mem_of_getElem? (i := 689) (by decide +kernel), List.mem_of_getElem? (i := 848) (by decide +kernel), List.mem_of_getElem? (i := 849) (by decide +kernel)⟩
theorem lw_p35 : lw_okq (⟨"RuleTablesModel", "readRule", "()V"⟩, 34) := ⟨⟨by decide +kernel, by decide +kernel⟩, List.mem_of_getElem? (i := 689) (by decide +kernel), List.mem_of_getElem? (i := 852) (by decide +kernel), List.mem_of_getElem? (i := 853) (by decide +kernel)⟩
theorem lw_p36 : lw_okq (⟨"RuleTablesModel", "take", "()V"⟩, 34) := ⟨⟨by decide +kernel, by decide +kernel⟩, List.mem_of_getElem? (i := 689) (by decide +kernel), List.mem_of_getElem? (i := 856) (by decide +kernel), List.mem_of_getElem? (i := 857) (by decide +kernel)⟩
theorem lw_p37 : lw_okq (⟨"RuleTablesModel", "judge", "()I"⟩, 34) := ⟨⟨by decide +kernel, by decide +kernel⟩, List.mem_of_getElem? (i := 689) (by decide +kernel), List.mem_of_getElem? (i := 860) (by decide +kernel), List.mem_of_getElem? (i := 861) (by decide +kernel)⟩
theorem lw_p38 : lw_okq (⟨"RuleTablesModel", "allCases", "()I"⟩, 34) := ⟨⟨by decide +kernel, by decide +kernel⟩, List.mem_of_getElem? (i := 689) (by decide +kernel), List.mem_of_getElem? (i := 864) (by decide +kernel), List.mem_of_getElem? (i := 865) (by decide +kernel)⟩
theorem lw_p39 : lw_okq (⟨"RuleTablesModel", "firstMet", "(I)I"⟩, 34) := ⟨⟨by decide +kernel, by decide +kernel⟩, List.mem_of_getElem? (i := 689) (by decide +kernel), List.mem_of_getElem? (i := 868) (by decide +kernel), List.mem_of_getElem? (i := 869) (by decide +kernel)⟩
theorem lw_p40 : lw_okq (⟨"RuleTablesModel", "isMet", "(II)Z"⟩, 34) := ⟨⟨by decide +kernel, by decide +kernel⟩, List.mem_of_getElem? (i := 689) (by decide +kernel), List.mem_of_getElem? (i := 872) (by decide +kernel), List.mem_of_getElem? (i := 873) (by decide +kernel)⟩
theorem lw_p41 : lw_okq (⟨"RuleTablesModel", "grow", "()V"⟩, 34) := ⟨⟨by decide +kernel, by decide +kernel⟩, List.mem_of_getElem? (i := 689) (by decide +kernel), List.mem_of_getElem? (i := 876) (by decide +kernel), List.mem_of_getElem? (i := 877) (by decide +kernel)⟩
theorem lw_p42 : lw_okq (⟨"RuleTablesModel", "onlyAction", "(II)I"⟩, 34) := ⟨⟨by decide +kernel, by decide +kernel⟩, List.mem_of_getElem? (i := 689) (by decide +kernel), List.mem_of_getElem? (i := 880) (by decide +kernel), List.mem_of_getElem? (i := 881) (by decide +kernel)⟩
theorem lw_p43 : lw_okq (⟨"RuleTablesModel", "canMeet", "(III)Z"⟩, 34) := ⟨⟨by decide +kernel, by decide +kernel⟩, List.mem_of_getElem? (i := 689) (by decide +kernel), List.mem_of_getElem? (i := 884) (by decide +kernel), List.mem_of_getElem? (i := 885) (by decide +kernel)⟩
theorem lw_p44 : lw_okq (⟨"RuleTablesModel", "bestCondition", "(II)I"⟩, 34) := ⟨⟨by decide +kernel, by decide +kernel⟩, List.mem_of_getElem? (i := 689) (by decide +kernel), List.mem_of_getElem? (i := 888) (by decide +kernel), List.mem_of_getElem? (i := 889) (by decide +kernel)⟩
theorem lw_p45 : lw_okq (⟨"RuleTablesModel", "write", "()V"⟩, 34) := ⟨⟨by decide +kernel, by decide +kernel⟩, List.mem_of_getElem? (i := 689) (by decide +kernel), List.mem_of_getElem? (i := 895) (by decide +kernel), List.mem_of_getElem? (i := 896) (by decide +kernel)⟩
theorem lw_p46 : lw_okq (⟨"RuleTablesModel", "isCase", "(I)Z"⟩, 34) := ⟨⟨by decide +kernel, by decide +kernel⟩, List.mem_of_getElem? (i := 689) (by decide +kernel), List.mem_of_getElem? (i := 923) (by decide +kernel), List.mem_of_getElem? (i := 924) (by decide +kernel)⟩
def lw_privs_3 : List (MethodName × Nat) := [(⟨"RuleTablesModel", "find", "(III)I"⟩, 34), (⟨"RuleTablesModel", "store", "(II)V"⟩, 34), (⟨"RuleTablesModel", "sign", "(I)V"⟩, 34), (⟨"RuleTablesModel", "readRule", "()V"⟩, 34), (⟨"RuleTablesModel", "take", "()V"⟩, 34), (⟨"RuleTablesModel", "judge", "()I"⟩, 34), (⟨"RuleTablesModel", "allCases", "()I"⟩, 34), (⟨"RuleTablesModel", "firstMet", "(I)I"⟩, 34), (⟨"RuleTablesModel", "isMet", "(II)Z"⟩, 34), (⟨"RuleTablesModel", "grow", "()V"⟩, 34), (⟨"RuleTablesModel", "onlyAction", "(II)I"⟩, 34), (⟨"RuleTablesModel", "canMeet", "(III)Z"⟩, 34), (⟨"RuleTablesModel", "bestCondition", "(II)I"⟩, 34), (⟨"RuleTablesModel", "write", "()V"⟩, 34), (⟨"RuleTablesModel", "isCase", "(I)Z"⟩, 34)]
theorem lw_r3 : ∀ q ∈ lw_privs_3, lw_okq q := List.forall_mem_cons.mpr ⟨lw_p32, List.forall_mem_cons.mpr ⟨lw_p33, List.forall_mem_cons.mpr ⟨lw_p34, List.forall_mem_cons.mpr ⟨lw_p35, List.forall_mem_cons.mpr ⟨lw_p36, List.forall_mem_cons.mpr ⟨lw_p37, List.forall_mem_cons.mpr ⟨lw_p38, List.forall_mem_cons.mpr ⟨lw_p39, List.forall_mem_cons.mpr ⟨lw_p40, List.forall_mem_cons.mpr ⟨lw_p41, List.forall_mem_cons.mpr ⟨lw_p42, List.forall_mem_cons.mpr ⟨lw_p43, List.forall_mem_cons.mpr ⟨lw_p44, List.forall_mem_cons.mpr ⟨lw_p45, List.forall_mem_cons.mpr ⟨lw_p46, fun _ h => absurd h List.not_mem_nil⟩⟩⟩⟩⟩⟩⟩⟩⟩⟩⟩⟩⟩⟩⟩
def lw_privs : List (MethodName × Nat) := lw_privs_1 ++ (lw_privs_2 ++ (lw_privs_3))
def lw_tbl : List Cond := k2_sels lw_privs ++ tables_1
theorem lw_privs_ok : ∀ q ∈ lw_privs, lw_okq q := by
  show ∀ q ∈ lw_privs_1 ++ (lw_privs_2 ++ (lw_privs_3)), lw_okq q
  exact List.forall_mem_append.mpr ⟨lw_r1, List.forall_mem_append.mpr ⟨lw_r2, lw_r3⟩⟩
end
section
/-! ===== BEGIN printed: names, fields, word lists, decode rows ===== -/
def RX0 : String := "RuleTables$Code"
def TX0 : u_T := fun k => match k with
  | 0 => ("RuleTables$Code", "bytes", "[I", true)
  | 1 => ("RuleTables$Code", "places", "[I", true)
  | _ => ("RuleTables$Code", "length", "I", false)
def tyX0 : Nat → FieldType := fun k => match k with
  | 0 => .array .int
  | 1 => .array .int
  | _ => .int
abbrev wsX00 : List Cond := u_ws RX0 TX0 3
theorem nmX0 : ∀ a, a < 3 → ∀ b, b < 3 → a ≠ b → (TX0 a).2.1 ≠ (TX0 b).2.1 := by decide +kernel
theorem tyX0_ok : ∀ k, k < 3 → parseFieldDescriptor (TX0 k).2.2.1 = some (tyX0 k) := by decide +kernel
abbrev cX0_init : ByteArray := prog_2_method_1_code
def yX0_init : MethodName := ⟨RX0, "<init>", "()V"⟩
abbrev cX0_write : ByteArray := prog_2_method_2_code
def yX0_write : MethodName := ⟨RX0, "write", "(LRuleTables$Tree;)V"⟩
abbrev cX0_setPlaces : ByteArray := prog_2_method_3_code
def yX0_setPlaces : MethodName := ⟨RX0, "setPlaces", "(LRuleTables$Tree;)V"⟩
abbrev cX0_append : ByteArray := prog_2_method_4_code
def yX0_append : MethodName := ⟨RX0, "append", "(I)V"⟩
abbrev cX0_follow : ByteArray := prog_2_method_5_code
def yX0_follow : MethodName := ⟨RX0, "follow", "(IZ)I"⟩
def RX1 : String := "RuleTables$Names"
def TX1 : u_T := fun k => match k with
  | 0 => ("RuleTables$Names", "names", "[J", true)
  | _ => ("RuleTables$Names", "size", "I", false)
def tyX1 : Nat → FieldType := fun k => match k with
  | 0 => .array .long
  | _ => .int
abbrev wsX10 : List Cond := u_ws RX1 TX1 2
theorem nmX1 : ∀ a, a < 2 → ∀ b, b < 2 → a ≠ b → (TX1 a).2.1 ≠ (TX1 b).2.1 := by decide +kernel
theorem tyX1_ok : ∀ k, k < 2 → parseFieldDescriptor (TX1 k).2.2.1 = some (tyX1 k) := by decide +kernel
abbrev cX1_init : ByteArray := prog_3_method_1_code
def yX1_init : MethodName := ⟨RX1, "<init>", "(I)V"⟩
abbrev cX1_letterOf : ByteArray := prog_3_method_2_code
def yX1_letterOf : MethodName := ⟨RX1, "letterOf", "(I)I"⟩
abbrev cX1_find : ByteArray := prog_3_method_3_code
def yX1_find : MethodName := ⟨RX1, "find", "(J)I"⟩
abbrev cX1_add : ByteArray := prog_3_method_4_code
def yX1_add : MethodName := ⟨RX1, "add", "(J)Z"⟩
abbrev cX1_letterAt : ByteArray := prog_3_method_5_code
def yX1_letterAt : MethodName := ⟨RX1, "letterAt", "(II)I"⟩
abbrev cX1_lengthOf : ByteArray := prog_3_method_6_code
def yX1_lengthOf : MethodName := ⟨RX1, "lengthOf", "(I)I"⟩
abbrev cX1_byteOf : ByteArray := prog_3_method_7_code
def yX1_byteOf : MethodName := ⟨RX1, "byteOf", "(II)I"⟩
def RX2 : String := "RuleTables$Table"
def TX2 : u_T := fun k => match k with
  | 0 => ("RuleTables$Table", "conditions", "LRuleTables$Names;", true)
  | 1 => ("RuleTables$Table", "actions", "LRuleTables$Names;", true)
  | 2 => ("RuleTables$Table", "yes", "[I", true)
  | 3 => ("RuleTables$Table", "no", "[I", true)
  | 4 => ("RuleTables$Table", "action", "[I", true)
  | _ => ("RuleTables$Table", "rules", "I", false)
def tyX2 : Nat → FieldType := fun k => match k with
  | 0 => .object "RuleTables$Names"
  | 1 => .object "RuleTables$Names"
  | 2 => .array .int
  | 3 => .array .int
  | 4 => .array .int
  | _ => .int
abbrev wsX20 : List Cond := u_ws RX2 TX2 6
theorem nmX2 : ∀ a, a < 6 → ∀ b, b < 6 → a ≠ b → (TX2 a).2.1 ≠ (TX2 b).2.1 := by decide +kernel
theorem tyX2_ok : ∀ k, k < 6 → parseFieldDescriptor (TX2 k).2.2.1 = some (tyX2 k) := by decide +kernel
abbrev cX2_init : ByteArray := prog_4_method_1_code
def yX2_init : MethodName := ⟨RX2, "<init>", "()V"⟩
abbrev cX2_clear : ByteArray := prog_4_method_2_code
def yX2_clear : MethodName := ⟨RX2, "clear", "()V"⟩
abbrev cX2_add : ByteArray := prog_4_method_3_code
def yX2_add : MethodName := ⟨RX2, "add", "(III)V"⟩
abbrev cX2_caseCount : ByteArray := prog_4_method_4_code
def yX2_caseCount : MethodName := ⟨RX2, "caseCount", "()I"⟩
abbrev cX2_markOf : ByteArray := prog_4_method_5_code
def yX2_markOf : MethodName := ⟨RX2, "markOf", "(II)I"⟩
abbrev cX2_firstThatMeets : ByteArray := prog_4_method_6_code
def yX2_firstThatMeets : MethodName := ⟨RX2, "firstThatMeets", "(I)I"⟩
abbrev cX2_contradict : ByteArray := prog_4_method_7_code
def yX2_contradict : MethodName := ⟨RX2, "contradict", "(II)Z"⟩
def RX3 : String := "RuleTables$Tape"
def TX3 : u_T := fun k => match k with
  | 0 => ("RuleTables$Tape", "words", "[J", true)
  | 1 => ("RuleTables$Tape", "length", "I", false)
  | 2 => ("RuleTables$Tape", "at", "I", false)
  | 3 => ("RuleTables$Tape", "nameFrom", "I", false)
  | 4 => ("RuleTables$Tape", "name", "J", false)
  | 5 => ("RuleTables$Tape", "fault", "I", false)
  | _ => ("RuleTables$Tape", "faultPlace", "I", false)
def tyX3 : Nat → FieldType := fun k => match k with
  | 0 => .array .long
  | 1 => .int
  | 2 => .int
  | 3 => .int
  | 4 => .long
  | 5 => .int
  | _ => .int
abbrev wsX30 : List Cond := u_ws RX3 TX3 7
theorem nmX3 : ∀ a, a < 7 → ∀ b, b < 7 → a ≠ b → (TX3 a).2.1 ≠ (TX3 b).2.1 := by decide +kernel
theorem tyX3_ok : ∀ k, k < 7 → parseFieldDescriptor (TX3 k).2.2.1 = some (tyX3 k) := by decide +kernel
abbrev cX3_init : ByteArray := prog_5_method_1_code
def yX3_init : MethodName := ⟨RX3, "<init>", "()V"⟩
abbrev cX3_append : ByteArray := prog_5_method_2_code
def yX3_append : MethodName := ⟨RX3, "append", "(I)V"⟩
abbrev cX3_byteAt : ByteArray := prog_5_method_3_code
def yX3_byteAt : MethodName := ⟨RX3, "byteAt", "(I)I"⟩
abbrev cX3_parse : ByteArray := prog_5_method_4_code
def yX3_parse : MethodName := ⟨RX3, "parse", "(LRuleTables$Table;)Z"⟩
abbrev cX3_fail : ByteArray := prog_5_method_5_code
def yX3_fail : MethodName := ⟨RX3, "fail", "(II)Z"⟩
abbrev cX3_look : ByteArray := prog_5_method_6_code
def yX3_look : MethodName := ⟨RX3, "look", "()I"⟩
abbrev cX3_passByte : ByteArray := prog_5_method_7_code
def yX3_passByte : MethodName := ⟨RX3, "passByte", "(I)Z"⟩
abbrev cX3_passName : ByteArray := prog_5_method_8_code
def yX3_passName : MethodName := ⟨RX3, "passName", "()Z"⟩
abbrev cX3_isWord : ByteArray := prog_5_method_9_code
def yX3_isWord : MethodName := ⟨RX3, "isWord", "(J)Z"⟩
abbrev cX3_passConditions : ByteArray := prog_5_method_10_code
def yX3_passConditions : MethodName := ⟨RX3, "passConditions", "(LRuleTables$Table;)Z"⟩
abbrev cX3_passCondition : ByteArray := prog_5_method_11_code
def yX3_passCondition : MethodName := ⟨RX3, "passCondition", "(LRuleTables$Names;)Z"⟩
abbrev cX3_passRules : ByteArray := prog_5_method_12_code
def yX3_passRules : MethodName := ⟨RX3, "passRules", "(LRuleTables$Table;)Z"⟩
abbrev cX3_passRule : ByteArray := prog_5_method_13_code
def yX3_passRule : MethodName := ⟨RX3, "passRule", "(LRuleTables$Table;)Z"⟩
abbrev cX3_passAction : ByteArray := prog_5_method_14_code
def yX3_passAction : MethodName := ⟨RX3, "passAction", "(LRuleTables$Names;)Z"⟩
def RX4 : String := "RuleTables$Tree"
def TX4 : u_T := fun k => match k with
  | 0 => ("RuleTables$Tree", "heads", "[I", true)
  | 1 => ("RuleTables$Tree", "otherwise", "[I", true)
  | 2 => ("RuleTables$Tree", "size", "I", false)
  | 3 => ("RuleTables$Tree", "leaves", "I", false)
  | 4 => ("RuleTables$Tree", "mostTests", "I", false)
  | 5 => ("RuleTables$Tree", "allTests", "J", false)
  | _ => ("RuleTables$Tree", "tooBig", "Z", false)
def tyX4 : Nat → FieldType := fun k => match k with
  | 0 => .array .int
  | 1 => .array .int
  | 2 => .int
  | 3 => .int
  | 4 => .int
  | 5 => .long
  | _ => .boolean
abbrev wsX40 : List Cond := u_ws RX4 TX4 7
theorem nmX4 : ∀ a, a < 7 → ∀ b, b < 7 → a ≠ b → (TX4 a).2.1 ≠ (TX4 b).2.1 := by decide +kernel
theorem tyX4_ok : ∀ k, k < 7 → parseFieldDescriptor (TX4 k).2.2.1 = some (tyX4 k) := by decide +kernel
abbrev cX4_init : ByteArray := prog_6_method_1_code
def yX4_init : MethodName := ⟨RX4, "<init>", "()V"⟩
abbrev cX4_clear : ByteArray := prog_6_method_2_code
def yX4_clear : MethodName := ⟨RX4, "clear", "()V"⟩
abbrev cX4_isLeaf : ByteArray := prog_6_method_3_code
def yX4_isLeaf : MethodName := ⟨RX4, "isLeaf", "(I)Z"⟩
abbrev cX4_build : ByteArray := prog_6_method_4_code
def yX4_build : MethodName := ⟨RX4, "build", "(LRuleTables$Way;)V"⟩
abbrev cX4_grow : ByteArray := prog_6_method_5_code
def yX4_grow : MethodName := ⟨RX4, "grow", "(LRuleTables$Tree;LRuleTables$Way;II)V"⟩
abbrev cX4_addLeaf : ByteArray := prog_6_method_6_code
def yX4_addLeaf : MethodName := ⟨RX4, "addLeaf", "(II)V"⟩
abbrev cX4_addNode : ByteArray := prog_6_method_7_code
def yX4_addNode : MethodName := ⟨RX4, "addNode", "(I)V"⟩
def RX5 : String := "RuleTables$Way"
def TX5 : u_T := fun k => match k with
  | 0 => ("RuleTables$Way", "yes", "[I", true)
  | 1 => ("RuleTables$Way", "no", "[I", true)
  | 2 => ("RuleTables$Way", "action", "[I", true)
  | 3 => ("RuleTables$Way", "allOpen", "I", false)
  | 4 => ("RuleTables$Way", "lists", "[[I", true)
  | 5 => ("RuleTables$Way", "sizes", "[I", true)
  | 6 => ("RuleTables$Way", "blanks", "[I", true)
  | _ => ("RuleTables$Way", "differences", "[I", true)
def tyX5 : Nat → FieldType := fun k => match k with
  | 0 => .array .int
  | 1 => .array .int
  | 2 => .array .int
  | 3 => .int
  | 4 => .array (.array .int)
  | 5 => .array .int
  | 6 => .array .int
  | _ => .array .int
abbrev wsX50 : List Cond := u_ws RX5 TX5 8
theorem nmX5 : ∀ a, a < 8 → ∀ b, b < 8 → a ≠ b → (TX5 a).2.1 ≠ (TX5 b).2.1 := by decide +kernel
theorem tyX5_ok : ∀ k, k < 8 → parseFieldDescriptor (TX5 k).2.2.1 = some (tyX5 k) := by decide +kernel
abbrev cX5_init : ByteArray := prog_7_method_1_code
def yX5_init : MethodName := ⟨RX5, "<init>", "()V"⟩
abbrev cX5_start : ByteArray := prog_7_method_2_code
def yX5_start : MethodName := ⟨RX5, "start", "(LRuleTables$Table;I)V"⟩
abbrev cX5_step : ByteArray := prog_7_method_3_code
def yX5_step : MethodName := ⟨RX5, "step", "(IIZ)V"⟩
abbrev cX5_splittingBit : ByteArray := prog_7_method_4_code
def yX5_splittingBit : MethodName := ⟨RX5, "splittingBit", "(II)I"⟩
abbrev cX5_leastGap : ByteArray := prog_7_method_5_code
def yX5_leastGap : MethodName := ⟨RX5, "leastGap", "()I"⟩
abbrev cX5_leastGapFrom : ByteArray := prog_7_method_6_code
def yX5_leastGapFrom : MethodName := ⟨RX5, "leastGapFrom", "(LRuleTables$Way;III)I"⟩
abbrev cX5_casesMet : ByteArray := prog_7_method_7_code
def yX5_casesMet : MethodName := ⟨RX5, "casesMet", "()I"⟩
abbrev cX5_casesMetFrom : ByteArray := prog_7_method_8_code
def yX5_casesMetFrom : MethodName := ⟨RX5, "casesMetFrom", "(LRuleTables$Way;II)I"⟩
abbrev cX5_oneAction : ByteArray := prog_7_method_9_code
def yX5_oneAction : MethodName := ⟨RX5, "oneAction", "(I)I"⟩
abbrev cX5_choose : ByteArray := prog_7_method_10_code
def yX5_choose : MethodName := ⟨RX5, "choose", "(II)I"⟩
abbrev cX5_isBetter : ByteArray := prog_7_method_11_code
def yX5_isBetter : MethodName := ⟨RX5, "isBetter", "(II)Z"⟩
abbrev cX5_weigh : ByteArray := prog_7_method_12_code
def yX5_weigh : MethodName := ⟨RX5, "weigh", "(II)V"⟩
abbrev cX5_addWeight : ByteArray := prog_7_method_13_code
def yX5_addWeight : MethodName := ⟨RX5, "addWeight", "(II)V"⟩
def RX6 : String := "RuleTables"
def TX6 : u_T := fun k => match k with
  | 0 => ("RuleTables", "tape", "LRuleTables$Tape;", true)
  | 1 => ("RuleTables", "table", "LRuleTables$Table;", false)
  | 2 => ("RuleTables", "spare", "LRuleTables$Table;", false)
  | 3 => ("RuleTables", "hasTable", "Z", false)
  | 4 => ("RuleTables", "latestFault", "I", false)
  | 5 => ("RuleTables", "firstAmiss", "I", false)
  | 6 => ("RuleTables", "secondAmiss", "I", false)
  | 7 => ("RuleTables", "caseAmiss", "I", false)
  | 8 => ("RuleTables", "way", "LRuleTables$Way;", true)
  | 9 => ("RuleTables", "tree", "LRuleTables$Tree;", true)
  | _ => ("RuleTables", "code", "LRuleTables$Code;", true)
def tyX6 : Nat → FieldType := fun k => match k with
  | 0 => .object "RuleTables$Tape"
  | 1 => .object "RuleTables$Table"
  | 2 => .object "RuleTables$Table"
  | 3 => .boolean
  | 4 => .int
  | 5 => .int
  | 6 => .int
  | 7 => .int
  | 8 => .object "RuleTables$Way"
  | 9 => .object "RuleTables$Tree"
  | _ => .object "RuleTables$Code"
abbrev wsX60 : List Cond := u_ws RX6 TX6 11
theorem nmX6 : ∀ a, a < 11 → ∀ b, b < 11 → a ≠ b → (TX6 a).2.1 ≠ (TX6 b).2.1 := by decide +kernel
theorem tyX6_ok : ∀ k, k < 11 → parseFieldDescriptor (TX6 k).2.2.1 = some (tyX6 k) := by decide +kernel
abbrev cX6_init : ByteArray := prog_1_method_1_code
def yX6_init : MethodName := ⟨RX6, "<init>", "()V"⟩
abbrev cX6_type : ByteArray := prog_1_method_2_code
def yX6_type : MethodName := ⟨RX6, "type", "(JI)I"⟩
abbrev cX6_keep : ByteArray := prog_1_method_3_code
def yX6_keep : MethodName := ⟨RX6, "keep", "(I)V"⟩
abbrev cX6_read : ByteArray := prog_1_method_4_code
def yX6_read : MethodName := ⟨RX6, "read", "()I"⟩
abbrev cX6_fault : ByteArray := prog_1_method_5_code
def yX6_fault : MethodName := ⟨RX6, "fault", "()I"⟩
abbrev cX6_amiss : ByteArray := prog_1_method_6_code
def yX6_amiss : MethodName := ⟨RX6, "amiss", "(I)I"⟩
abbrev cX6_count : ByteArray := prog_1_method_7_code
def yX6_count : MethodName := ⟨RX6, "count", "(I)I"⟩
abbrev cX6_rule : ByteArray := prog_1_method_8_code
def yX6_rule : MethodName := ⟨RX6, "rule", "(II)I"⟩
abbrev cX6_name : ByteArray := prog_1_method_9_code
def yX6_name : MethodName := ⟨RX6, "name", "(ZII)I"⟩
abbrev cX6_meets : ByteArray := prog_1_method_10_code
def yX6_meets : MethodName := ⟨RX6, "meets", "(I)I"⟩
abbrev cX6_cases : ByteArray := prog_1_method_11_code
def yX6_cases : MethodName := ⟨RX6, "cases", "(I)I"⟩
abbrev cX6_node : ByteArray := prog_1_method_12_code
def yX6_node : MethodName := ⟨RX6, "node", "(II)I"⟩
abbrev cX6_code : ByteArray := prog_1_method_13_code
def yX6_code : MethodName := ⟨RX6, "code", "(I)I"⟩
abbrev cX6_run : ByteArray := prog_1_method_14_code
def yX6_run : MethodName := ⟨RX6, "run", "(IZ)I"⟩
abbrev cX6_tests : ByteArray := prog_1_method_15_code
def yX6_tests : MethodName := ⟨RX6, "tests", "()J"⟩
abbrev cX6_needTable : ByteArray := prog_1_method_16_code
def yX6_needTable : MethodName := ⟨RX6, "needTable", "()V"⟩
abbrev cX6_needTree : ByteArray := prog_1_method_17_code
def yX6_needTree : MethodName := ⟨RX6, "needTree", "()V"⟩
abbrev cX6_needCase : ByteArray := prog_1_method_18_code
def yX6_needCase : MethodName := ⟨RX6, "needCase", "(I)V"⟩
abbrev cX6_judge : ByteArray := prog_1_method_19_code
def yX6_judge : MethodName := ⟨RX6, "judge", "()I"⟩
abbrev cX6_findAmiss : ByteArray := prog_1_method_20_code
def yX6_findAmiss : MethodName := ⟨RX6, "findAmiss", "()I"⟩
abbrev cX6_findContradiction : ByteArray := prog_1_method_21_code
def yX6_findContradiction : MethodName := ⟨RX6, "findContradiction", "()Z"⟩
def RX7 : String := "RuleTablesModel"
def TX7 : u_T := fun k => match k with
  | 0 => ("RuleTablesModel", "thrown", "I", false)
  | 1 => ("RuleTablesModel", "tape", "[B", true)
  | 2 => ("RuleTablesModel", "size", "I", false)
  | 3 => ("RuleTablesModel", "at", "I", false)
  | 4 => ("RuleTablesModel", "fault", "I", false)
  | 5 => ("RuleTablesModel", "names", "[B", true)
  | 6 => ("RuleTablesModel", "sizes", "[I", true)
  | 7 => ("RuleTablesModel", "yes", "[I", true)
  | 8 => ("RuleTablesModel", "no", "[I", true)
  | 9 => ("RuleTablesModel", "does", "[I", true)
  | 10 => ("RuleTablesModel", "isTable", "Z", false)
  | 11 => ("RuleTablesModel", "conditions", "I", false)
  | 12 => ("RuleTablesModel", "rules", "I", false)
  | 13 => ("RuleTablesModel", "actions", "I", false)
  | 14 => ("RuleTablesModel", "newConditions", "I", false)
  | 15 => ("RuleTablesModel", "newRules", "I", false)
  | 16 => ("RuleTablesModel", "newActions", "I", false)
  | 17 => ("RuleTablesModel", "first", "I", false)
  | 18 => ("RuleTablesModel", "second", "I", false)
  | 19 => ("RuleTablesModel", "amissCase", "I", false)
  | 20 => ("RuleTablesModel", "isTree", "Z", false)
  | 21 => ("RuleTablesModel", "nodes", "I", false)
  | 22 => ("RuleTablesModel", "asks", "[I", true)
  | 23 => ("RuleTablesModel", "thens", "[I", true)
  | 24 => ("RuleTablesModel", "elses", "[I", true)
  | 25 => ("RuleTablesModel", "acts", "[I", true)
  | 26 => ("RuleTablesModel", "depths", "[I", true)
  | 27 => ("RuleTablesModel", "places", "[I", true)
  | 28 => ("RuleTablesModel", "holdsAt", "[I", true)
  | 29 => ("RuleTablesModel", "failsAt", "[I", true)
  | 30 => ("RuleTablesModel", "parentAt", "[I", true)
  | 31 => ("RuleTablesModel", "depthAt", "[I", true)
  | 32 => ("RuleTablesModel", "code", "[I", true)
  | _ => ("RuleTablesModel", "codeSize", "I", false)
def tyX7 : Nat → FieldType := fun k => match k with
  | 0 => .int
  | 1 => .array .byte
  | 2 => .int
  | 3 => .int
  | 4 => .int
  | 5 => .array .byte
  | 6 => .array .int
  | 7 => .array .int
  | 8 => .array .int
  | 9 => .array .int
  | 10 => .boolean
  | 11 => .int
  | 12 => .int
  | 13 => .int
  | 14 => .int
  | 15 => .int
  | 16 => .int
  | 17 => .int
  | 18 => .int
  | 19 => .int
  | 20 => .boolean
  | 21 => .int
  | 22 => .array .int
  | 23 => .array .int
  | 24 => .array .int
  | 25 => .array .int
  | 26 => .array .int
  | 27 => .array .int
  | 28 => .array .int
  | 29 => .array .int
  | 30 => .array .int
  | 31 => .array .int
  | 32 => .array .int
  | _ => .int
abbrev wsX70 : List Cond := u_ws RX7 TX7 34
theorem nmX7 : ∀ a, a < 34 → ∀ b, b < 34 → a ≠ b → (TX7 a).2.1 ≠ (TX7 b).2.1 := by decide +kernel
theorem tyX7_ok : ∀ k, k < 34 → parseFieldDescriptor (TX7 k).2.2.1 = some (tyX7 k) := by decide +kernel
abbrev cX7_init : ByteArray := prog_9_method_1_code
def yX7_init : MethodName := ⟨RX7, "<init>", "()V"⟩
abbrev cX7_thrown : ByteArray := prog_9_method_2_code
def yX7_thrown : MethodName := ⟨RX7, "thrown", "()I"⟩
abbrev cX7_type : ByteArray := prog_9_method_3_code
def yX7_type : MethodName := ⟨RX7, "type", "(JI)I"⟩
abbrev cX7_keep : ByteArray := prog_9_method_4_code
def yX7_keep : MethodName := ⟨RX7, "keep", "(I)V"⟩
abbrev cX7_look : ByteArray := prog_9_method_5_code
def yX7_look : MethodName := ⟨RX7, "look", "()I"⟩
abbrev cX7_bad : ByteArray := prog_9_method_6_code
def yX7_bad : MethodName := ⟨RX7, "bad", "(II)V"⟩
abbrev cX7_isLetter : ByteArray := prog_9_method_7_code
def yX7_isLetter : MethodName := ⟨RX7, "isLetter", "(I)Z"⟩
abbrev cX7_isDigit : ByteArray := prog_9_method_8_code
def yX7_isDigit : MethodName := ⟨RX7, "isDigit", "(I)Z"⟩
abbrev cX7_nameEnd : ByteArray := prog_9_method_9_code
def yX7_nameEnd : MethodName := ⟨RX7, "nameEnd", "()I"⟩
abbrev cX7_word : ByteArray := prog_9_method_10_code
def yX7_word : MethodName := ⟨RX7, "word", "(II)V"⟩
abbrev cX7_sign : ByteArray := prog_9_method_11_code
def yX7_sign : MethodName := ⟨RX7, "sign", "(I)V"⟩
abbrev cX7_find : ByteArray := prog_9_method_12_code
def yX7_find : MethodName := ⟨RX7, "find", "(III)I"⟩
abbrev cX7_store : ByteArray := prog_9_method_13_code
def yX7_store : MethodName := ⟨RX7, "store", "(II)V"⟩
abbrev cX7_readCondition : ByteArray := prog_9_method_14_code
def yX7_readCondition : MethodName := ⟨RX7, "readCondition", "()V"⟩
abbrev cX7_readRule : ByteArray := prog_9_method_15_code
def yX7_readRule : MethodName := ⟨RX7, "readRule", "()V"⟩
abbrev cX7_take : ByteArray := prog_9_method_16_code
def yX7_take : MethodName := ⟨RX7, "take", "()V"⟩
abbrev cX7_read : ByteArray := prog_9_method_17_code
def yX7_read : MethodName := ⟨RX7, "read", "()I"⟩
abbrev cX7_fault : ByteArray := prog_9_method_18_code
def yX7_fault : MethodName := ⟨RX7, "fault", "()I"⟩
abbrev cX7_allCases : ByteArray := prog_9_method_19_code
def yX7_allCases : MethodName := ⟨RX7, "allCases", "()I"⟩
abbrev cX7_isMet : ByteArray := prog_9_method_20_code
def yX7_isMet : MethodName := ⟨RX7, "isMet", "(II)Z"⟩
abbrev cX7_firstMet : ByteArray := prog_9_method_21_code
def yX7_firstMet : MethodName := ⟨RX7, "firstMet", "(I)I"⟩
abbrev cX7_judge : ByteArray := prog_9_method_22_code
def yX7_judge : MethodName := ⟨RX7, "judge", "()I"⟩
abbrev cX7_bits : ByteArray := prog_9_method_23_code
def yX7_bits : MethodName := ⟨RX7, "bits", "(I)I"⟩
abbrev cX7_canMeet : ByteArray := prog_9_method_24_code
def yX7_canMeet : MethodName := ⟨RX7, "canMeet", "(III)Z"⟩
abbrev cX7_onlyAction : ByteArray := prog_9_method_25_code
def yX7_onlyAction : MethodName := ⟨RX7, "onlyAction", "(II)I"⟩
abbrev cX7_bestCondition : ByteArray := prog_9_method_26_code
def yX7_bestCondition : MethodName := ⟨RX7, "bestCondition", "(II)I"⟩
abbrev cX7_grow : ByteArray := prog_9_method_27_code
def yX7_grow : MethodName := ⟨RX7, "grow", "()V"⟩
abbrev cX7_write : ByteArray := prog_9_method_28_code
def yX7_write : MethodName := ⟨RX7, "write", "()V"⟩
abbrev cX7_amiss : ByteArray := prog_9_method_29_code
def yX7_amiss : MethodName := ⟨RX7, "amiss", "(I)I"⟩
abbrev cX7_count : ByteArray := prog_9_method_30_code
def yX7_count : MethodName := ⟨RX7, "count", "(I)I"⟩
abbrev cX7_rule : ByteArray := prog_9_method_31_code
def yX7_rule : MethodName := ⟨RX7, "rule", "(II)I"⟩
abbrev cX7_name : ByteArray := prog_9_method_32_code
def yX7_name : MethodName := ⟨RX7, "name", "(ZII)I"⟩
abbrev cX7_isCase : ByteArray := prog_9_method_33_code
def yX7_isCase : MethodName := ⟨RX7, "isCase", "(I)Z"⟩
abbrev cX7_meets : ByteArray := prog_9_method_34_code
def yX7_meets : MethodName := ⟨RX7, "meets", "(I)I"⟩
abbrev cX7_cases : ByteArray := prog_9_method_35_code
def yX7_cases : MethodName := ⟨RX7, "cases", "(I)I"⟩
abbrev cX7_node : ByteArray := prog_9_method_36_code
def yX7_node : MethodName := ⟨RX7, "node", "(II)I"⟩
abbrev cX7_code : ByteArray := prog_9_method_37_code
def yX7_code : MethodName := ⟨RX7, "code", "(I)I"⟩
abbrev cX7_run : ByteArray := prog_9_method_38_code
def yX7_run : MethodName := ⟨RX7, "run", "(IZ)I"⟩
abbrev cX7_tests : ByteArray := prog_9_method_39_code
def yX7_tests : MethodName := ⟨RX7, "tests", "()J"⟩
def RJ6 : String := "java/lang/Integer"
def TJ6 : u_T := fun k => match k with
  | _ => ("", "", "", false)
def tyJ6 : Nat → FieldType := fun k => match k with
  | _ => .int
abbrev wsJ60 : List Cond := u_ws RJ6 TJ6 0
theorem nmJ6 : ∀ a, a < 0 → ∀ b, b < 0 → a ≠ b → (TJ6 a).2.1 ≠ (TJ6 b).2.1 := by decide +kernel
theorem tyJ6_ok : ∀ k, k < 0 → parseFieldDescriptor (TJ6 k).2.2.1 = some (tyJ6 k) := by decide +kernel
abbrev cJ6_bitCount_0f7a4 : ByteArray := prog_14_method_49_code
def yJ6_bitCount_0f7a4 : MethodName := ⟨RJ6, "bitCount", "(I)I"⟩
def RJ9 : String := "java/lang/Math"
def TJ9 : u_T := fun k => match k with
  | _ => ("", "", "", false)
def tyJ9 : Nat → FieldType := fun k => match k with
  | _ => .int
abbrev wsJ90 : List Cond := u_ws RJ9 TJ9 0
theorem nmJ9 : ∀ a, a < 0 → ∀ b, b < 0 → a ≠ b → (TJ9 a).2.1 ≠ (TJ9 b).2.1 := by decide +kernel
theorem tyJ9_ok : ∀ k, k < 0 → parseFieldDescriptor (TJ9 k).2.2.1 = some (tyJ9 k) := by decide +kernel
abbrev cJ9_abs_0f7a4 : ByteArray := prog_15_method_59_code
def yJ9_abs_0f7a4 : MethodName := ⟨RJ9, "abs", "(I)I"⟩
abbrev cJ9_max_7cf53 : ByteArray := prog_15_method_65_code
def yJ9_max_7cf53 : MethodName := ⟨RJ9, "max", "(II)I"⟩
def RJ0 : String := "java/lang/String"
def TJ0 : u_T := fun k => match k with
  | _ => ("", "", "", false)
def tyJ0 : Nat → FieldType := fun k => match k with
  | _ => .int
abbrev wsJ00 : List Cond := u_ws RJ0 TJ0 0
theorem nmJ0 : ∀ a, a < 0 → ∀ b, b < 0 → a ≠ b → (TJ0 a).2.1 ≠ (TJ0 b).2.1 := by decide +kernel
theorem tyJ0_ok : ∀ k, k < 0 → parseFieldDescriptor (TJ0 k).2.2.1 = some (tyJ0 k) := by decide +kernel
def RL : String := "RuleTablesLaw"
abbrev cL_type : ByteArray := method_3_code
def yL_type : MethodName := ⟨RL, "type", "(LRuleTables;JI[J)I"⟩
abbrev cL_keep : ByteArray := method_4_code
def yL_keep : MethodName := ⟨RL, "keep", "(LRuleTables;I)I"⟩
abbrev cL_amiss : ByteArray := method_5_code
def yL_amiss : MethodName := ⟨RL, "amiss", "(LRuleTables;I[J)I"⟩
abbrev cL_count : ByteArray := method_6_code
def yL_count : MethodName := ⟨RL, "count", "(LRuleTables;I[J)I"⟩
abbrev cL_rule : ByteArray := method_7_code
def yL_rule : MethodName := ⟨RL, "rule", "(LRuleTables;II[J)I"⟩
abbrev cL_name : ByteArray := method_8_code
def yL_name : MethodName := ⟨RL, "name", "(LRuleTables;ZII[J)I"⟩
abbrev cL_meets : ByteArray := method_9_code
def yL_meets : MethodName := ⟨RL, "meets", "(LRuleTables;I[J)I"⟩
abbrev cL_cases : ByteArray := method_10_code
def yL_cases : MethodName := ⟨RL, "cases", "(LRuleTables;I[J)I"⟩
abbrev cL_node : ByteArray := method_11_code
def yL_node : MethodName := ⟨RL, "node", "(LRuleTables;II[J)I"⟩
abbrev cL_code : ByteArray := method_12_code
def yL_code : MethodName := ⟨RL, "code", "(LRuleTables;I[J)I"⟩
abbrev cL_run : ByteArray := method_13_code
def yL_run : MethodName := ⟨RL, "run", "(LRuleTables;IZ[J)I"⟩
abbrev cL_tests : ByteArray := method_14_code
def yL_tests : MethodName := ⟨RL, "tests", "(LRuleTables;[J)I"⟩
abbrev cL_law : ByteArray := code
def yL_law : MethodName := ⟨RL, "law", "([I)Z"⟩
abbrev vwCl : List vw_C := [(RX0, TX0, 3), (RX1, TX1, 2), (RX2, TX2, 6), (RX3, TX3, 7), (RX4, TX4, 7), (RX5, TX5, 8), (RX6, TX6, 11), (RX7, TX7, 34)]
end
section
/-! THE STATE: ints, longs, rows of ints (bytes too), rows of longs, places; one type for the class and for the reference -/
abbrev ST : Type := (Nat → Int32) × (Nat → Int64) × (Nat → Nat → Int32) × (Nat → Nat → Int64) × (Nat → Nat)
def gI (u : ST) (k : Nat) : Int32 := u.1 k
def gJ (u : ST) (k : Nat) : Int64 := u.2.1 k
def gR (u : ST) (k : Nat) : Nat → Int32 := u.2.2.1 k
def gB (u : ST) (k : Nat) : Nat → Int64 := u.2.2.2.1 k
def gZ (u : ST) (k : Nat) : Nat := u.2.2.2.2 k
def sI (u : ST) (k : Nat) (v : Int32) : ST := (fun j => if j = k then v else u.1 j, u.2.1, u.2.2.1, u.2.2.2.1, u.2.2.2.2)
def sJ (u : ST) (k : Nat) (v : Int64) : ST := (u.1, fun j => if j = k then v else u.2.1 j, u.2.2.1, u.2.2.2.1, u.2.2.2.2)
def sR (u : ST) (k i : Nat) (v : Int32) : ST := (u.1, u.2.1, fun j => if j = k then upd (u.2.2.1 k) i v else u.2.2.1 j, u.2.2.2.1, u.2.2.2.2)
def sB (u : ST) (k i : Nat) (v : Int64) : ST := (u.1, u.2.1, u.2.2.1, fun j => if j = k then vp_updL (u.2.2.2.1 k) i v else u.2.2.2.1 j, u.2.2.2.2)
def sZ (u : ST) (k : Nat) (v : Nat) : ST := (u.1, u.2.1, u.2.2.1, u.2.2.2.1, fun j => if j = k then v else u.2.2.2.2 j)
theorem gI_sI (u : ST) (k j : Nat) (v : Int32) : gI (sI u k v) j = if j = k then v else gI u j := rfl
theorem gI_sJ (u : ST) (k j : Nat) (v : Int64) : gI (sJ u k v) j = gI u j := rfl
theorem gI_sR (u : ST) (k i j : Nat) (v : Int32) : gI (sR u k i v) j = gI u j := rfl
theorem gI_sB (u : ST) (k i j : Nat) (v : Int64) : gI (sB u k i v) j = gI u j := rfl
theorem gI_sZ (u : ST) (k j : Nat) (v : Nat) : gI (sZ u k v) j = gI u j := rfl
theorem gJ_sI (u : ST) (k j : Nat) (v : Int32) : gJ (sI u k v) j = gJ u j := rfl
theorem gJ_sJ (u : ST) (k j : Nat) (v : Int64) : gJ (sJ u k v) j = if j = k then v else gJ u j := rfl
theorem gJ_sR (u : ST) (k i j : Nat) (v : Int32) : gJ (sR u k i v) j = gJ u j := rfl
theorem gJ_sB (u : ST) (k i j : Nat) (v : Int64) : gJ (sB u k i v) j = gJ u j := rfl
theorem gJ_sZ (u : ST) (k j : Nat) (v : Nat) : gJ (sZ u k v) j = gJ u j := rfl
theorem gR_sI (u : ST) (k j : Nat) (v : Int32) : gR (sI u k v) j = gR u j := rfl
theorem gR_sJ (u : ST) (k j : Nat) (v : Int64) : gR (sJ u k v) j = gR u j := rfl
theorem gR_sR (u : ST) (k i j : Nat) (v : Int32) : gR (sR u k i v) j = if j = k then upd (gR u k) i v else gR u j := rfl
theorem gR_sB (u : ST) (k i j : Nat) (v : Int64) : gR (sB u k i v) j = gR u j := rfl
theorem gR_sZ (u : ST) (k j : Nat) (v : Nat) : gR (sZ u k v) j = gR u j := rfl
theorem gB_sI (u : ST) (k j : Nat) (v : Int32) : gB (sI u k v) j = gB u j := rfl
theorem gB_sJ (u : ST) (k j : Nat) (v : Int64) : gB (sJ u k v) j = gB u j := rfl
theorem gB_sR (u : ST) (k i j : Nat) (v : Int32) : gB (sR u k i v) j = gB u j := rfl
theorem gB_sB (u : ST) (k i j : Nat) (v : Int64) : gB (sB u k i v) j = if j = k then vp_updL (gB u k) i v else gB u j := rfl
theorem gB_sZ (u : ST) (k j : Nat) (v : Nat) : gB (sZ u k v) j = gB u j := rfl
theorem gZ_sI (u : ST) (k j : Nat) (v : Int32) : gZ (sI u k v) j = gZ u j := rfl
theorem gZ_sJ (u : ST) (k j : Nat) (v : Int64) : gZ (sJ u k v) j = gZ u j := rfl
theorem gZ_sR (u : ST) (k i j : Nat) (v : Int32) : gZ (sR u k i v) j = gZ u j := rfl
theorem gZ_sB (u : ST) (k i j : Nat) (v : Int64) : gZ (sB u k i v) j = gZ u j := rfl
theorem gZ_sZ (u : ST) (k j : Nat) (v : Nat) : gZ (sZ u k v) j = if j = k then v else gZ u j := rfl
/-! THE CLASS's WORLD. Places of addresses: 0 RuleTables, 1 Tape, 2+t Table t, 4+n Names n (2t conditions, 2t+1 actions), 8 Way, 9 Tree, 10 Code, 11+j rows of longs (0 words, 1+n names), 16 the lists, 17+k rows of ints (3t yes, 3t+1 no, 3t+2 action; 6 7 8 the way's; 9 sizes, 10 blanks, 11 differences, 12 heads, 13 otherwise, 14 bytes, 15 places, 16+d list d). -/
abbrev aT (ad : Nat → Nat) (t : Nat) : Nat := ad (2 + t)
abbrev aN (ad : Nat → Nat) (n : Nat) : Nat := ad (4 + n)
abbrev aL (ad : Nat → Nat) (j : Nat) : Nat := ad (11 + j)
abbrev aR (ad : Nat → Nat) (k : Nat) : Nat := ad (17 + k)
def lenL (j : Nat) : Nat := if j = 0 then 1000 else if j = 1 ∨ j = 3 then 16 else 64
def lenR (k : Nat) : Nat := if k < 9 then 256 else if k = 9 then 17 else if k < 12 then 16 else if k = 14 then 2000 else if k < 16 then 1000 else 256
/-- the classes of arrays: bytes, ints, longs, rows of rows -/
abbrev CY : Type := ClassId × ClassId × ClassId × ClassId
abbrev tyS (cy : CY) : List (ClassId × FieldType) := [(cy.1, .byte), (cy.2.1, .int), (cy.2.2.1, .long), (cy.2.2.2, .array .int)]
abbrev fRT (ad : Nat → Nat) (u : ST) : List Value := [.ref (ad 1), .ref (aT ad (gZ u 0)), .ref (aT ad (gZ u 1)), .int (gI u 0), .int (gI u 1), .int (gI u 2), .int (gI u 3), .int (gI u 4), .ref (ad 8), .ref (ad 9), .ref (ad 10)]
abbrev fTP (ad : Nat → Nat) (u : ST) : List Value := [.ref (aL ad 0), .int (gI u 5), .int (gI u 6), .int (gI u 7), .long (gJ u 0), .int (gI u 8), .int (gI u 9)]
abbrev fTB (ad : Nat → Nat) (u : ST) (t : Nat) : List Value := [.ref (aN ad (2 * t)), .ref (aN ad (2 * t + 1)), .ref (aR ad (3 * t)), .ref (aR ad (3 * t + 1)), .ref (aR ad (3 * t + 2)), .int (gI u (10 + t))]
abbrev fNM (ad : Nat → Nat) (u : ST) (n : Nat) : List Value := [.ref (aL ad (1 + n)), .int (gI u (12 + n))]
abbrev fWY (ad : Nat → Nat) (u : ST) : List Value := [.ref (aR ad 6), .ref (aR ad 7), .ref (aR ad 8), .int (gI u 16), .ref (ad 16), .ref (aR ad 9), .ref (aR ad 10), .ref (aR ad 11)]
abbrev fTR (ad : Nat → Nat) (u : ST) : List Value := [.ref (aR ad 12), .ref (aR ad 13), .int (gI u 17), .int (gI u 18), .int (gI u 19), .long (gJ u 1), .int (gI u 20)]
abbrev fCD (ad : Nat → Nat) (u : ST) : List Value := [.ref (aR ad 14), .ref (aR ad 15), .int (gI u 21)]
abbrev eL (cy : CY) (u : ST) (j : Nat) : va_E := .inl (cy.2.2.1, lenL j, .inr (.inl (gB u j)))
abbrev eR (cy : CY) (u : ST) (k : Nat) : va_E := .inl (cy.2.1, lenR k, .inl (gR u k))
abbrev eO (cy : CY) (ad : Nat → Nat) : va_E := .inl (cy.2.2.2, 17, .inr (.inr (.inr (.inr (fun d => some (aR ad (16 + d)))))))
def cW (cy : CY) (ad : Nat → Nat) (u : ST) : va_W := [(ad 0, .inr (6, fRT ad u)), (ad 1, .inr (3, fTP ad u)), (aT ad 0, .inr (2, fTB ad u 0)), (aT ad 1, .inr (2, fTB ad u 1)), (aN ad 0, .inr (1, fNM ad u 0)), (aN ad 1, .inr (1, fNM ad u 1)), (aN ad 2, .inr (1, fNM ad u 2)), (aN ad 3, .inr (1, fNM ad u 3)), (ad 8, .inr (5, fWY ad u)), (ad 9, .inr (4, fTR ad u)), (ad 10, .inr (0, fCD ad u)), (aL ad 0, eL cy u 0), (aL ad 1, eL cy u 1), (aL ad 2, eL cy u 2), (aL ad 3, eL cy u 3), (aL ad 4, eL cy u 4), (ad 16, eO cy ad), (aR ad 0, eR cy u 0), (aR ad 1, eR cy u 1), (aR ad 2, eR cy u 2), (aR ad 3, eR cy u 3), (aR ad 4, eR cy u 4), (aR ad 5, eR cy u 5), (aR ad 6, eR cy u 6), (aR ad 7, eR cy u 7), (aR ad 8, eR cy u 8), (aR ad 9, eR cy u 9), (aR ad 10, eR cy u 10), (aR ad 11, eR cy u 11), (aR ad 12, eR cy u 12), (aR ad 13, eR cy u 13), (aR ad 14, eR cy u 14), (aR ad 15, eR cy u 15), (aR ad 16, eR cy u 16), (aR ad 17, eR cy u 17), (aR ad 18, eR cy u 18), (aR ad 19, eR cy u 19), (aR ad 20, eR cy u 20), (aR ad 21, eR cy u 21), (aR ad 22, eR cy u 22), (aR ad 23, eR cy u 23), (aR ad 24, eR cy u 24), (aR ad 25, eR cy u 25), (aR ad 26, eR cy u 26), (aR ad 27, eR cy u 27), (aR ad 28, eR cy u 28), (aR ad 29, eR cy u 29), (aR ad 30, eR cy u 30), (aR ad 31, eR cy u 31), (aR ad 32, eR cy u 32)]
theorem cW_T (cy : CY) (ad : Nat → Nat) (u : ST) : ∀ t : Nat, t < 2 → (cW cy ad u)[2 + t]? = some (aT ad t, .inr (2, fTB ad u t))
  | 0, _ => rfl
  | 1, _ => rfl
  | t + 2, h => absurd h (by omega)
theorem cW_N (cy : CY) (ad : Nat → Nat) (u : ST) : ∀ t : Nat, t < 4 → (cW cy ad u)[4 + t]? = some (aN ad t, .inr (1, fNM ad u t))
  | 0, _ => rfl
  | 1, _ => rfl
  | 2, _ => rfl
  | 3, _ => rfl
  | t + 4, h => absurd h (by omega)
theorem cW_L (cy : CY) (ad : Nat → Nat) (u : ST) : ∀ t : Nat, t < 5 → (cW cy ad u)[11 + t]? = some (aL ad t, eL cy u t)
  | 0, _ => rfl
  | 1, _ => rfl
  | 2, _ => rfl
  | 3, _ => rfl
  | 4, _ => rfl
  | t + 5, h => absurd h (by omega)
theorem cW_R (cy : CY) (ad : Nat → Nat) (u : ST) : ∀ t : Nat, t < 33 → (cW cy ad u)[17 + t]? = some (aR ad t, eR cy u t)
  | 0, _ => rfl
  | 1, _ => rfl
  | 2, _ => rfl
  | 3, _ => rfl
  | 4, _ => rfl
  | 5, _ => rfl
  | 6, _ => rfl
  | 7, _ => rfl
  | 8, _ => rfl
  | 9, _ => rfl
  | 10, _ => rfl
  | 11, _ => rfl
  | 12, _ => rfl
  | 13, _ => rfl
  | 14, _ => rfl
  | 15, _ => rfl
  | 16, _ => rfl
  | 17, _ => rfl
  | 18, _ => rfl
  | 19, _ => rfl
  | 20, _ => rfl
  | 21, _ => rfl
  | 22, _ => rfl
  | 23, _ => rfl
  | 24, _ => rfl
  | 25, _ => rfl
  | 26, _ => rfl
  | 27, _ => rfl
  | 28, _ => rfl
  | 29, _ => rfl
  | 30, _ => rfl
  | 31, _ => rfl
  | 32, _ => rfl
  | t + 33, h => absurd h (by omega)
theorem cS_RT_3 (cy : CY) (ad : Nat → Nat) (u : ST) (v : Int32) : (cW cy ad u).set 0 (ad 0, .inr (6, (fRT ad u).set 3 (.int v))) = cW cy ad (sI u 0 v) := rfl
theorem cS_RT_4 (cy : CY) (ad : Nat → Nat) (u : ST) (v : Int32) : (cW cy ad u).set 0 (ad 0, .inr (6, (fRT ad u).set 4 (.int v))) = cW cy ad (sI u 1 v) := rfl
theorem cS_RT_5 (cy : CY) (ad : Nat → Nat) (u : ST) (v : Int32) : (cW cy ad u).set 0 (ad 0, .inr (6, (fRT ad u).set 5 (.int v))) = cW cy ad (sI u 2 v) := rfl
theorem cS_RT_6 (cy : CY) (ad : Nat → Nat) (u : ST) (v : Int32) : (cW cy ad u).set 0 (ad 0, .inr (6, (fRT ad u).set 6 (.int v))) = cW cy ad (sI u 3 v) := rfl
theorem cS_RT_7 (cy : CY) (ad : Nat → Nat) (u : ST) (v : Int32) : (cW cy ad u).set 0 (ad 0, .inr (6, (fRT ad u).set 7 (.int v))) = cW cy ad (sI u 4 v) := rfl
theorem cS_TP_1 (cy : CY) (ad : Nat → Nat) (u : ST) (v : Int32) : (cW cy ad u).set 1 (ad 1, .inr (3, (fTP ad u).set 1 (.int v))) = cW cy ad (sI u 5 v) := rfl
theorem cS_TP_2 (cy : CY) (ad : Nat → Nat) (u : ST) (v : Int32) : (cW cy ad u).set 1 (ad 1, .inr (3, (fTP ad u).set 2 (.int v))) = cW cy ad (sI u 6 v) := rfl
theorem cS_TP_3 (cy : CY) (ad : Nat → Nat) (u : ST) (v : Int32) : (cW cy ad u).set 1 (ad 1, .inr (3, (fTP ad u).set 3 (.int v))) = cW cy ad (sI u 7 v) := rfl
theorem cS_TP_5 (cy : CY) (ad : Nat → Nat) (u : ST) (v : Int32) : (cW cy ad u).set 1 (ad 1, .inr (3, (fTP ad u).set 5 (.int v))) = cW cy ad (sI u 8 v) := rfl
theorem cS_TP_6 (cy : CY) (ad : Nat → Nat) (u : ST) (v : Int32) : (cW cy ad u).set 1 (ad 1, .inr (3, (fTP ad u).set 6 (.int v))) = cW cy ad (sI u 9 v) := rfl
theorem cS_WY_3 (cy : CY) (ad : Nat → Nat) (u : ST) (v : Int32) : (cW cy ad u).set 8 (ad 8, .inr (5, (fWY ad u).set 3 (.int v))) = cW cy ad (sI u 16 v) := rfl
theorem cS_TR_2 (cy : CY) (ad : Nat → Nat) (u : ST) (v : Int32) : (cW cy ad u).set 9 (ad 9, .inr (4, (fTR ad u).set 2 (.int v))) = cW cy ad (sI u 17 v) := rfl
theorem cS_TR_3 (cy : CY) (ad : Nat → Nat) (u : ST) (v : Int32) : (cW cy ad u).set 9 (ad 9, .inr (4, (fTR ad u).set 3 (.int v))) = cW cy ad (sI u 18 v) := rfl
theorem cS_TR_4 (cy : CY) (ad : Nat → Nat) (u : ST) (v : Int32) : (cW cy ad u).set 9 (ad 9, .inr (4, (fTR ad u).set 4 (.int v))) = cW cy ad (sI u 19 v) := rfl
theorem cS_TR_6 (cy : CY) (ad : Nat → Nat) (u : ST) (v : Int32) : (cW cy ad u).set 9 (ad 9, .inr (4, (fTR ad u).set 6 (.int v))) = cW cy ad (sI u 20 v) := rfl
theorem cS_CD_2 (cy : CY) (ad : Nat → Nat) (u : ST) (v : Int32) : (cW cy ad u).set 10 (ad 10, .inr (0, (fCD ad u).set 2 (.int v))) = cW cy ad (sI u 21 v) := rfl
theorem cS_TP_4 (cy : CY) (ad : Nat → Nat) (u : ST) (v : Int64) : (cW cy ad u).set 1 (ad 1, .inr (3, (fTP ad u).set 4 (.long v))) = cW cy ad (sJ u 0 v) := rfl
theorem cS_TR_5 (cy : CY) (ad : Nat → Nat) (u : ST) (v : Int64) : (cW cy ad u).set 9 (ad 9, .inr (4, (fTR ad u).set 5 (.long v))) = cW cy ad (sJ u 1 v) := rfl
theorem cS_RT_1 (cy : CY) (ad : Nat → Nat) (u : ST) (v : Nat) : (cW cy ad u).set 0 (ad 0, .inr (6, (fRT ad u).set 1 (.ref (aT ad v)))) = cW cy ad (sZ u 0 v) := rfl
theorem cS_RT_2 (cy : CY) (ad : Nat → Nat) (u : ST) (v : Nat) : (cW cy ad u).set 0 (ad 0, .inr (6, (fRT ad u).set 2 (.ref (aT ad v)))) = cW cy ad (sZ u 1 v) := rfl
theorem cS_TB_5 (cy : CY) (ad : Nat → Nat) (u : ST) (v : Int32) : ∀ t : Nat, t < 2 → (cW cy ad u).set (2 + t) (aT ad t, .inr (2, (fTB ad u t).set 5 (.int v))) = cW cy ad (sI u (10 + t) v)
  | 0, _ => rfl
  | 1, _ => rfl
  | t + 2, h => absurd h (by omega)
theorem cS_NM_1 (cy : CY) (ad : Nat → Nat) (u : ST) (v : Int32) : ∀ t : Nat, t < 4 → (cW cy ad u).set (4 + t) (aN ad t, .inr (1, (fNM ad u t).set 1 (.int v))) = cW cy ad (sI u (12 + t) v)
  | 0, _ => rfl
  | 1, _ => rfl
  | 2, _ => rfl
  | 3, _ => rfl
  | t + 4, h => absurd h (by omega)
theorem cS_L (cy : CY) (ad : Nat → Nat) (u : ST) (i : Nat) (v : Int64) : ∀ t : Nat, t < 5 → (cW cy ad u).set (11 + t) (aL ad t, .inl (cy.2.2.1, lenL t, .inr (.inl (vp_updL (gB u t) i v)))) = cW cy ad (sB u t i v)
  | 0, _ => rfl
  | 1, _ => rfl
  | 2, _ => rfl
  | 3, _ => rfl
  | 4, _ => rfl
  | t + 5, h => absurd h (by omega)
theorem cS_R (cy : CY) (ad : Nat → Nat) (u : ST) (i : Nat) (v : Int32) : ∀ t : Nat, t < 33 → (cW cy ad u).set (17 + t) (aR ad t, .inl (cy.2.1, lenR t, .inl (upd (gR u t) i v))) = cW cy ad (sR u t i v)
  | 0, _ => rfl
  | 1, _ => rfl
  | 2, _ => rfl
  | 3, _ => rfl
  | 4, _ => rfl
  | 5, _ => rfl
  | 6, _ => rfl
  | 7, _ => rfl
  | 8, _ => rfl
  | 9, _ => rfl
  | 10, _ => rfl
  | 11, _ => rfl
  | 12, _ => rfl
  | 13, _ => rfl
  | 14, _ => rfl
  | 15, _ => rfl
  | 16, _ => rfl
  | 17, _ => rfl
  | 18, _ => rfl
  | 19, _ => rfl
  | 20, _ => rfl
  | 21, _ => rfl
  | 22, _ => rfl
  | 23, _ => rfl
  | 24, _ => rfl
  | 25, _ => rfl
  | 26, _ => rfl
  | 27, _ => rfl
  | 28, _ => rfl
  | 29, _ => rfl
  | 30, _ => rfl
  | 31, _ => rfl
  | 32, _ => rfl
  | t + 33, h => absurd h (by omega)
/-! THE REFERENCE's WORLD: its object at am 0, the array of slot k at am k; ints gI u slot, rows gR u slot -/
abbrev fMD (am : Nat → Nat) (u : ST) : List Value := [.int (gI u 0), .ref (am 1), .int (gI u 2), .int (gI u 3), .int (gI u 4), .ref (am 5), .ref (am 6), .ref (am 7), .ref (am 8), .ref (am 9), .int (gI u 10), .int (gI u 11), .int (gI u 12), .int (gI u 13), .int (gI u 14), .int (gI u 15), .int (gI u 16), .int (gI u 17), .int (gI u 18), .int (gI u 19), .int (gI u 20), .int (gI u 21), .ref (am 22), .ref (am 23), .ref (am 24), .ref (am 25), .ref (am 26), .ref (am 27), .ref (am 28), .ref (am 29), .ref (am 30), .ref (am 31), .ref (am 32), .int (gI u 33)]
def mLen (k : Nat) : Nat := match k with
  | 1 => 8000
  | 5 => 1600
  | 6 => 160
  | 7 => 512
  | 8 => 512
  | 9 => 512
  | 22 => 1000
  | 23 => 1000
  | 24 => 1000
  | 25 => 1000
  | 26 => 1000
  | 27 => 1000
  | 28 => 40
  | 29 => 40
  | 30 => 40
  | 31 => 40
  | 32 => 3000
  | _ => 0
abbrev mPos (k : Nat) : Nat := match k with
  | 1 => 1
  | 5 => 2
  | 6 => 3
  | 7 => 4
  | 8 => 5
  | 9 => 6
  | 22 => 7
  | 23 => 8
  | 24 => 9
  | 25 => 10
  | 26 => 11
  | 27 => 12
  | 28 => 13
  | 29 => 14
  | 30 => 15
  | 31 => 16
  | 32 => 17
  | _ => 0
def mW (cy : CY) (am : Nat → Nat) (u : ST) : va_W := [(am 0, .inr (7, fMD am u)), (am 1, .inl (cy.1, 8000, .inl (gR u 1))), (am 5, .inl (cy.1, 1600, .inl (gR u 5))), (am 6, .inl (cy.2.1, 160, .inl (gR u 6))), (am 7, .inl (cy.2.1, 512, .inl (gR u 7))), (am 8, .inl (cy.2.1, 512, .inl (gR u 8))), (am 9, .inl (cy.2.1, 512, .inl (gR u 9))), (am 22, .inl (cy.2.1, 1000, .inl (gR u 22))), (am 23, .inl (cy.2.1, 1000, .inl (gR u 23))), (am 24, .inl (cy.2.1, 1000, .inl (gR u 24))), (am 25, .inl (cy.2.1, 1000, .inl (gR u 25))), (am 26, .inl (cy.2.1, 1000, .inl (gR u 26))), (am 27, .inl (cy.2.1, 1000, .inl (gR u 27))), (am 28, .inl (cy.2.1, 40, .inl (gR u 28))), (am 29, .inl (cy.2.1, 40, .inl (gR u 29))), (am 30, .inl (cy.2.1, 40, .inl (gR u 30))), (am 31, .inl (cy.2.1, 40, .inl (gR u 31))), (am 32, .inl (cy.2.1, 3000, .inl (gR u 32)))]
theorem mS_0 (cy : CY) (am : Nat → Nat) (u : ST) (v : Int32) : (mW cy am u).set 0 (am 0, .inr (7, (fMD am u).set 0 (.int v))) = mW cy am (sI u 0 v) := rfl
theorem mS_2 (cy : CY) (am : Nat → Nat) (u : ST) (v : Int32) : (mW cy am u).set 0 (am 0, .inr (7, (fMD am u).set 2 (.int v))) = mW cy am (sI u 2 v) := rfl
theorem mS_3 (cy : CY) (am : Nat → Nat) (u : ST) (v : Int32) : (mW cy am u).set 0 (am 0, .inr (7, (fMD am u).set 3 (.int v))) = mW cy am (sI u 3 v) := rfl
theorem mS_4 (cy : CY) (am : Nat → Nat) (u : ST) (v : Int32) : (mW cy am u).set 0 (am 0, .inr (7, (fMD am u).set 4 (.int v))) = mW cy am (sI u 4 v) := rfl
theorem mS_10 (cy : CY) (am : Nat → Nat) (u : ST) (v : Int32) : (mW cy am u).set 0 (am 0, .inr (7, (fMD am u).set 10 (.int v))) = mW cy am (sI u 10 v) := rfl
theorem mS_11 (cy : CY) (am : Nat → Nat) (u : ST) (v : Int32) : (mW cy am u).set 0 (am 0, .inr (7, (fMD am u).set 11 (.int v))) = mW cy am (sI u 11 v) := rfl
theorem mS_12 (cy : CY) (am : Nat → Nat) (u : ST) (v : Int32) : (mW cy am u).set 0 (am 0, .inr (7, (fMD am u).set 12 (.int v))) = mW cy am (sI u 12 v) := rfl
theorem mS_13 (cy : CY) (am : Nat → Nat) (u : ST) (v : Int32) : (mW cy am u).set 0 (am 0, .inr (7, (fMD am u).set 13 (.int v))) = mW cy am (sI u 13 v) := rfl
theorem mS_14 (cy : CY) (am : Nat → Nat) (u : ST) (v : Int32) : (mW cy am u).set 0 (am 0, .inr (7, (fMD am u).set 14 (.int v))) = mW cy am (sI u 14 v) := rfl
theorem mS_15 (cy : CY) (am : Nat → Nat) (u : ST) (v : Int32) : (mW cy am u).set 0 (am 0, .inr (7, (fMD am u).set 15 (.int v))) = mW cy am (sI u 15 v) := rfl
theorem mS_16 (cy : CY) (am : Nat → Nat) (u : ST) (v : Int32) : (mW cy am u).set 0 (am 0, .inr (7, (fMD am u).set 16 (.int v))) = mW cy am (sI u 16 v) := rfl
theorem mS_17 (cy : CY) (am : Nat → Nat) (u : ST) (v : Int32) : (mW cy am u).set 0 (am 0, .inr (7, (fMD am u).set 17 (.int v))) = mW cy am (sI u 17 v) := rfl
theorem mS_18 (cy : CY) (am : Nat → Nat) (u : ST) (v : Int32) : (mW cy am u).set 0 (am 0, .inr (7, (fMD am u).set 18 (.int v))) = mW cy am (sI u 18 v) := rfl
theorem mS_19 (cy : CY) (am : Nat → Nat) (u : ST) (v : Int32) : (mW cy am u).set 0 (am 0, .inr (7, (fMD am u).set 19 (.int v))) = mW cy am (sI u 19 v) := rfl
theorem mS_20 (cy : CY) (am : Nat → Nat) (u : ST) (v : Int32) : (mW cy am u).set 0 (am 0, .inr (7, (fMD am u).set 20 (.int v))) = mW cy am (sI u 20 v) := rfl
theorem mS_21 (cy : CY) (am : Nat → Nat) (u : ST) (v : Int32) : (mW cy am u).set 0 (am 0, .inr (7, (fMD am u).set 21 (.int v))) = mW cy am (sI u 21 v) := rfl
theorem mS_33 (cy : CY) (am : Nat → Nat) (u : ST) (v : Int32) : (mW cy am u).set 0 (am 0, .inr (7, (fMD am u).set 33 (.int v))) = mW cy am (sI u 33 v) := rfl
theorem mR_1 (cy : CY) (am : Nat → Nat) (u : ST) (i : Nat) (v : Int32) : (mW cy am u).set 1 (am 1, .inl (cy.1, 8000, .inl (upd (gR u 1) i v))) = mW cy am (sR u 1 i v) := rfl
theorem mR_5 (cy : CY) (am : Nat → Nat) (u : ST) (i : Nat) (v : Int32) : (mW cy am u).set 2 (am 5, .inl (cy.1, 1600, .inl (upd (gR u 5) i v))) = mW cy am (sR u 5 i v) := rfl
theorem mR_6 (cy : CY) (am : Nat → Nat) (u : ST) (i : Nat) (v : Int32) : (mW cy am u).set 3 (am 6, .inl (cy.2.1, 160, .inl (upd (gR u 6) i v))) = mW cy am (sR u 6 i v) := rfl
theorem mR_7 (cy : CY) (am : Nat → Nat) (u : ST) (i : Nat) (v : Int32) : (mW cy am u).set 4 (am 7, .inl (cy.2.1, 512, .inl (upd (gR u 7) i v))) = mW cy am (sR u 7 i v) := rfl
theorem mR_8 (cy : CY) (am : Nat → Nat) (u : ST) (i : Nat) (v : Int32) : (mW cy am u).set 5 (am 8, .inl (cy.2.1, 512, .inl (upd (gR u 8) i v))) = mW cy am (sR u 8 i v) := rfl
theorem mR_9 (cy : CY) (am : Nat → Nat) (u : ST) (i : Nat) (v : Int32) : (mW cy am u).set 6 (am 9, .inl (cy.2.1, 512, .inl (upd (gR u 9) i v))) = mW cy am (sR u 9 i v) := rfl
theorem mR_22 (cy : CY) (am : Nat → Nat) (u : ST) (i : Nat) (v : Int32) : (mW cy am u).set 7 (am 22, .inl (cy.2.1, 1000, .inl (upd (gR u 22) i v))) = mW cy am (sR u 22 i v) := rfl
theorem mR_23 (cy : CY) (am : Nat → Nat) (u : ST) (i : Nat) (v : Int32) : (mW cy am u).set 8 (am 23, .inl (cy.2.1, 1000, .inl (upd (gR u 23) i v))) = mW cy am (sR u 23 i v) := rfl
theorem mR_24 (cy : CY) (am : Nat → Nat) (u : ST) (i : Nat) (v : Int32) : (mW cy am u).set 9 (am 24, .inl (cy.2.1, 1000, .inl (upd (gR u 24) i v))) = mW cy am (sR u 24 i v) := rfl
theorem mR_25 (cy : CY) (am : Nat → Nat) (u : ST) (i : Nat) (v : Int32) : (mW cy am u).set 10 (am 25, .inl (cy.2.1, 1000, .inl (upd (gR u 25) i v))) = mW cy am (sR u 25 i v) := rfl
theorem mR_26 (cy : CY) (am : Nat → Nat) (u : ST) (i : Nat) (v : Int32) : (mW cy am u).set 11 (am 26, .inl (cy.2.1, 1000, .inl (upd (gR u 26) i v))) = mW cy am (sR u 26 i v) := rfl
theorem mR_27 (cy : CY) (am : Nat → Nat) (u : ST) (i : Nat) (v : Int32) : (mW cy am u).set 12 (am 27, .inl (cy.2.1, 1000, .inl (upd (gR u 27) i v))) = mW cy am (sR u 27 i v) := rfl
theorem mR_28 (cy : CY) (am : Nat → Nat) (u : ST) (i : Nat) (v : Int32) : (mW cy am u).set 13 (am 28, .inl (cy.2.1, 40, .inl (upd (gR u 28) i v))) = mW cy am (sR u 28 i v) := rfl
theorem mR_29 (cy : CY) (am : Nat → Nat) (u : ST) (i : Nat) (v : Int32) : (mW cy am u).set 14 (am 29, .inl (cy.2.1, 40, .inl (upd (gR u 29) i v))) = mW cy am (sR u 29 i v) := rfl
theorem mR_30 (cy : CY) (am : Nat → Nat) (u : ST) (i : Nat) (v : Int32) : (mW cy am u).set 15 (am 30, .inl (cy.2.1, 40, .inl (upd (gR u 30) i v))) = mW cy am (sR u 30 i v) := rfl
theorem mR_31 (cy : CY) (am : Nat → Nat) (u : ST) (i : Nat) (v : Int32) : (mW cy am u).set 16 (am 31, .inl (cy.2.1, 40, .inl (upd (gR u 31) i v))) = mW cy am (sR u 31 i v) := rfl
theorem mR_32 (cy : CY) (am : Nat → Nat) (u : ST) (i : Nat) (v : Int32) : (mW cy am u).set 17 (am 32, .inl (cy.2.1, 3000, .inl (upd (gR u 32) i v))) = mW cy am (sR u 32 i v) := rfl
end
section
/-! THE WORDS: those of the tables that stay good; every method's list is its own code, then all of them -/
def wB : List Cond := lw_tbl.filter goodWord
def wM (y : MethodName) (b : ByteArray) (n : Nat) (r : Option FieldType) : List Cond := .code y b n r :: wB
theorem wB_good : ∀ w ∈ wB, goodWord w = true := fun _ h => (List.mem_filter.mp h).2
theorem wB_of {w : Cond} (h : w ∈ lw_tbl) (g : goodWord w = true) : w ∈ wB := List.mem_filter.mpr ⟨h, g⟩
theorem wB_t (i : Nat) {w : Cond} (h : tables_1[i]? = some w) (g : goodWord w = true) : w ∈ wB := wB_of (List.mem_append_right _ (List.mem_of_getElem? h)) g
theorem wB_s (i : Nat) {w : Cond} (h : (k2_sels lw_privs)[i]? = some w) (g : goodWord w = true) : w ∈ wB := wB_of (List.mem_append_left _ (List.mem_of_getElem? h)) g
theorem gd_ws {ws : List Cond} (h : ∀ w ∈ ws, w ∈ wB) : GoodIn wB ws := fun w hw => ⟨h w hw, good_of_word (wB_good w (h w hw))⟩
theorem gd_M {y : MethodName} {b : ByteArray} {n : Nat} {r : Option FieldType} (h : Cond.code y b n r ∈ wB) : GoodIn wB (wM y b n r) := gd_ws (fun w hw => (List.mem_cons.mp hw).elim (fun e => e ▸ h) id)
theorem gd_V {own C : String} {idx : Nat} {y : MethodName} {b : ByteArray} {n : Nat} {r : Option FieldType} (h1 : Cond.methodLink own idx y ∈ wB) (h2 : Cond.instanceMethod y ∈ wB) (h3 : Cond.selects C y y ∈ wB) (h4 : Cond.initialized C ∈ wB) (h5 : Cond.code y b n r ∈ wB) : GoodIn wB (wsV own idx C y (wM y b n r)) := by
  refine gd_ws (fun w hw => ?_)
  rcases List.mem_append.mp hw with hw | hw
  · simp only [List.mem_cons, List.not_mem_nil, or_false] at hw
    rcases hw with rfl | rfl | rfl | rfl
    · exact h1
    · exact h2
    · exact h3
    · exact h4
  · exact (gd_M h5 w hw).1
theorem gd_S {own : String} {idx : Nat} {y : MethodName} {b : ByteArray} {n : Nat} {r : Option FieldType} (h1 : Cond.methodLink own idx y ∈ wB) (h2 : Cond.static y ∈ wB) (h4 : Cond.initialized y.cls ∈ wB) (h5 : Cond.code y b n r ∈ wB) : GoodIn wB (va_wsS own idx y (wM y b n r)) := by
  refine gd_ws (fun w hw => ?_)
  rcases List.mem_append.mp hw with hw | hw
  · simp only [List.mem_cons, List.not_mem_nil, or_false] at hw
    rcases hw with rfl | rfl | rfl
    · exact h1
    · exact h2
    · exact h4
  · exact (gd_M h5 w hw).1
/-! CONTRACTS over a world w of one state -/
abbrev kRm (n : Nat) : Room := { frames := n, cells := 0, slots := 0, locals := 40 * n }
def kPc (D : va_G) (w : ST → va_W) (cy : CY) (u : ST) (sz : Nat) (av : List Value) : Array Value → State → Prop := va_Pc av (fun U => U.heap.size = sz ∧ va_P D vwCl (w u) U.heap ∧ va_K D vwCl (tyS cy) U ∧ va_D (fun _ => True) (w u))
def kAt (D : va_G) (w : ST → va_W) (cy : CY) (A : Nat → Prop) (u : ST) (t : State) : Prop := va_P D vwCl (w u) t.heap ∧ va_K D vwCl (tyS cy) t ∧ va_D A (w u)
abbrev kQi (D : va_G) (w : ST → va_W) (cy : CY) (A : Nat → Prop) (Q : Int32 → ST → Prop) : Array Value → State → Outcome → State → Prop := va_Qi Q (kAt D w cy A) A
abbrev kQl (D : va_G) (w : ST → va_W) (cy : CY) (A : Nat → Prop) (Q : Int64 → ST → Prop) : Array Value → State → Outcome → State → Prop := va_Ql Q (kAt D w cy A) A
abbrev kQv (D : va_G) (w : ST → va_W) (cy : CY) (A : Nat → Prop) (Q : ST → Prop) : Array Value → State → Outcome → State → Prop := va_Qv Q (kAt D w cy A) A
theorem kBlind (D : va_G) (w : ST → va_W) (cy : CY) (u : ST) (sz : Nat) (av : List Value) : FrameBlind (kPc D w cy u sz av) := fun a U g mk q => by
  obtain ⟨q0, q1, qP, qK, qD⟩ := q
  exact ⟨q0, q1, qP, va_K.moved (u := U) (U := U.calling g mk a) (Vm.Alike.refl U.vm) qK, qD⟩
def kC (p : Program) (m : MethodId) (c : Code) (cc : ByteArray) (nL : Nat) (s : State) (args : Array Value) (own : String) (D : va_G) (cy : CY) (A : Nat → Prop) : Prop := CallFix p m c cc nL s args wB own ∧ va_K D vwCl (tyS cy) s ∧ ∀ q, s.heap.size ≤ q → A q
def kH (D : va_G) (w : ST → va_W) (A : Nat → Prop) (s : State) (u : ST) (H : Heap) (locs : List Loc) : Prop := va_P D vwCl (w u) H ∧ va_D A (w u) ∧ va_S A s.heap H locs
theorem vp_lt {i : Int32} {n : Nat} (h : vp_in i n) : i.toNatClampNeg < n := Nat.not_le.mp fun q => h (Or.inr q)
section KR
variable {p : Program} {l : Launch} {e : Env} {R : Room} {s : State} {m : MethodId} {args : Array Value} {below : List Frame} {meth : Method} {c : Code} {H : Heap} {locs : List Loc} {cells slots : Nat} {Q : State → Prop} {cc : ByteArray} {pc nL : Nat} {ls : Array Slot} {rest st0 : List Value} {D : va_G} {cy : CY} {A : Nat → Prop} {own : String} {w : ST → va_W} {u u1 : ST}
theorem kfree (h : kH D w A s u H locs) (hA : ∀ q, s.heap.size ≤ q → A q) : ∀ q, va_A (w u) H.size q → A q := by
  intro q hq
  rcases hq with ⟨k, e, hk⟩ | hq
  · exact h.2.1.2 k (q, e) hk
  · exact hA q (Nat.le_trans h.2.2.1 hq)
theorem kget (C : kC p m c cc nL s args own D cy A) (h : kH D w A s u H locs) (q0 : Nat) {a ci : Nat} {fs : List Value} (he : (w u)[q0]? = some (a, .inr (ci, fs))) {Cn : String} {T : u_T} {N : Nat} (hc : vwCl[ci]? = some (Cn, T, N)) (hin : ∀ x ∈ u_ws Cn T N, x ∈ wB) (k : Nat) (hk : k < N) {index : Nat} (hl : Cond.fieldLink own index (T k).1 (T k).2.1 (T k).2.2.1 ∈ wB) {v : Value} (hv : fs[k]? = some v) (hdg : decode cc pc = .ok (.getfield index, 3))
    (kk : W p l e R s m args below meth c H locs cells slots Q (F0 m (pc + 3) ls (v :: rest))) : W p l e R s m args below meth c H locs cells slots Q (F0 m pc ls (.ref a :: rest)) := by
  obtain ⟨⟨hx, hb, hml, hown, hts⟩, hK, hA⟩ := C
  exact va_get hx hb hts hin hown hK h.1 q0 he hc k hk (hts _ hl) (fun _ z => z) hv hdg kk
theorem kput (C : kC p m c cc nL s args own D cy A) (h : kH D w A s u H locs) (q0 : Nat) {a ci : Nat} {fs : List Value} (he : (w u)[q0]? = some (a, .inr (ci, fs))) {Cn : String} {T : u_T} {N : Nat} (hc : vwCl[ci]? = some (Cn, T, N)) (hin : ∀ x ∈ u_ws Cn T N, x ∈ wB) {ty0 : Nat → FieldType} (hty : ∀ k, k < N → parseFieldDescriptor (T k).2.2.1 = some (ty0 k)) (hnm : ∀ a, a < N → ∀ b, b < N → a ≠ b → (T a).2.1 ≠ (T b).2.1) (k : Nat) (hk : k < N) {index : Nat} (hl : Cond.fieldLink own index (T k).1 (T k).2.1 (T k).2.2.1 ∈ wB) (hfin : (T k).2.2.2 = false) {v : Value} (hn : narrow (ty0 k) v = v) (hfit : fits (ty0 k) v = true) (hlen : k < fs.length) (hset : (w u).set q0 (a, .inr (ci, fs.set k v)) = w u1) (hdg : decode cc pc = .ok (.putfield index, 3))
    (kk : ∀ (H1 : Heap) (locs1 : List Loc), kH D w A s u1 H1 locs1 → W p l e R s m args below meth c H1 locs1 cells slots Q (F0 m (pc + 3) ls rest)) : W p l e R s m args below meth c H locs cells slots Q (F0 m pc ls (v :: .ref a :: rest)) := by
  obtain ⟨⟨hx, hb, hml, hown, hts⟩, hK, hA⟩ := C
  refine va_put hx hb hts hin ty0 hty hnm hown hK h.1 h.2.1 h.2.2 q0 he hc k hk (hts _ hl) (fun _ z => z) hfin (hty k hk) hn hfit hlen hdg (fun H1 locs1 hP hD hS => ?_)
  rw [hset] at hP hD
  exact kk H1 locs1 ⟨hP, hD, hS⟩
theorem kiald (C : kC p m c cc nL s args own D cy A) (h : kH D w A s u H locs) (q0 : Nat) {a n : Nat} {f : Nat → Int32} (ha : (w u)[q0]? = some (a, .inl (cy.2.1, n, .inl f))) {i : Int32} (hin : vp_in i n) (hdg : decode cc pc = .ok (.iaload, 1))
    (kk : W p l e R s m args below meth c H locs cells slots Q (F0 m (pc + 1) ls (.int (f i.toNatClampNeg) :: rest))) : W p l e R s m args below meth c H locs cells slots Q (F0 m pc ls (.int i :: .ref a :: rest)) := by
  obtain ⟨⟨hx, hb, hml, hown, hts⟩, hK, hA⟩ := C
  exact va_iald hx hb hK h.1 q0 1 ha rfl hin hdg kk
theorem kbald (C : kC p m c cc nL s args own D cy A) (h : kH D w A s u H locs) (q0 : Nat) {a n : Nat} {f : Nat → Int32} (ha : (w u)[q0]? = some (a, .inl (cy.1, n, .inl f))) {i : Int32} (hin : vp_in i n) (hdg : decode cc pc = .ok (.baload, 1))
    (kk : W p l e R s m args below meth c H locs cells slots Q (F0 m (pc + 1) ls (.int (f i.toNatClampNeg) :: rest))) : W p l e R s m args below meth c H locs cells slots Q (F0 m pc ls (.int i :: .ref a :: rest)) := by
  obtain ⟨⟨hx, hb, hml, hown, hts⟩, hK, hA⟩ := C
  exact va_bald hx hb hK h.1 q0 0 ha rfl hin hdg kk
theorem klald (C : kC p m c cc nL s args own D cy A) (h : kH D w A s u H locs) (q0 : Nat) {a n : Nat} {f : Nat → Int64} (ha : (w u)[q0]? = some (a, .inl (cy.2.2.1, n, .inr (.inl f)))) {i : Int32} (hin : vp_in i n) (hdg : decode cc pc = .ok (.laload, 1))
    (kk : W p l e R s m args below meth c H locs cells slots Q (F0 m (pc + 1) ls (.long (f i.toNatClampNeg) :: rest))) : W p l e R s m args below meth c H locs cells slots Q (F0 m pc ls (.int i :: .ref a :: rest)) := by
  obtain ⟨⟨hx, hb, hml, hown, hts⟩, hK, hA⟩ := C
  exact va_lald hx hb hK h.1 q0 2 ha rfl hin hdg kk
theorem kaald (C : kC p m c cc nL s args own D cy A) (h : kH D w A s u H locs) (q0 : Nat) {a n : Nat} {f : Nat → Nat} (ha : (w u)[q0]? = some (a, .inl (cy.2.2.2, n, .inr (.inr (.inr (.inr (fun d => some (f d)))))))) {i : Int32} (hin : vp_in i n) (hdg : decode cc pc = .ok (.aaload, 1))
    (kk : W p l e R s m args below meth c H locs cells slots Q (F0 m (pc + 1) ls (.ref (f i.toNatClampNeg) :: rest))) : W p l e R s m args below meth c H locs cells slots Q (F0 m pc ls (.int i :: .ref a :: rest)) := by
  obtain ⟨⟨hx, hb, hml, hown, hts⟩, hK, hA⟩ := C
  have hlt : i.toNatClampNeg < n := vp_lt hin
  exact W.aald (v := .ref (f i.toNatClampNeg)) (ty := .array .int) hx hb (h.1 q0 _ ha) ((hK.2 3 _ rfl).1 n (fun j => va_rf (some (f j)))) rfl (fun q => by cases q) (by show ¬ (i < 0 ∨ (arrV _ _ _).slots.size ≤ _); rw [arrV_size]; exact hin) (by show (arrV _ _ _).slots[_]? = _; rw [arrV_read _ _ hlt]; rfl) rfl rfl hdg kk
theorem kiast (C : kC p m c cc nL s args own D cy A) (h : kH D w A s u H locs) (q0 : Nat) {a n : Nat} {f : Nat → Int32} (ha : (w u)[q0]? = some (a, .inl (cy.2.1, n, .inl f))) {i x : Int32} (hin : vp_in i n) (hset : (w u).set q0 (a, .inl (cy.2.1, n, .inl (upd f i.toNatClampNeg x))) = w u1) (hdg : decode cc pc = .ok (.iastore, 1))
    (kk : ∀ (H1 : Heap) (locs1 : List Loc), kH D w A s u1 H1 locs1 → W p l e R s m args below meth c H1 locs1 cells slots Q (F0 m (pc + 1) ls rest)) : W p l e R s m args below meth c H locs cells slots Q (F0 m pc ls (.int x :: .int i :: .ref a :: rest)) := by
  obtain ⟨⟨hx, hb, hml, hown, hts⟩, hK, hA⟩ := C
  refine va_iast hx hb hK h.1 h.2.1 h.2.2 q0 1 ha rfl hin hdg (fun H1 locs1 hP hD hS => ?_)
  rw [hset] at hP hD
  exact kk H1 locs1 ⟨hP, hD, hS⟩
theorem kbast (C : kC p m c cc nL s args own D cy A) (h : kH D w A s u H locs) (q0 : Nat) {a n : Nat} {f : Nat → Int32} (ha : (w u)[q0]? = some (a, .inl (cy.1, n, .inl f))) {i x : Int32} (hin : vp_in i n) (hset : (w u).set q0 (a, .inl (cy.1, n, .inl (upd f i.toNatClampNeg (x.toInt8.toInt32)))) = w u1) (hdg : decode cc pc = .ok (.bastore, 1))
    (kk : ∀ (H1 : Heap) (locs1 : List Loc), kH D w A s u1 H1 locs1 → W p l e R s m args below meth c H1 locs1 cells slots Q (F0 m (pc + 1) ls rest)) : W p l e R s m args below meth c H locs cells slots Q (F0 m pc ls (.int x :: .int i :: .ref a :: rest)) := by
  obtain ⟨⟨hx, hb, hml, hown, hts⟩, hK, hA⟩ := C
  refine va_bast hx hb hK h.1 h.2.1 h.2.2 q0 0 ha rfl hin hdg (fun H1 locs1 hP hD hS => ?_)
  rw [vp_nar_byte, hset] at hP hD
  exact kk H1 locs1 ⟨hP, hD, hS⟩
theorem klast (C : kC p m c cc nL s args own D cy A) (h : kH D w A s u H locs) (q0 : Nat) {a n : Nat} {f : Nat → Int64} (ha : (w u)[q0]? = some (a, .inl (cy.2.2.1, n, .inr (.inl f)))) {i : Int32} {x : Int64} (hin : vp_in i n) (hset : (w u).set q0 (a, .inl (cy.2.2.1, n, .inr (.inl (vp_updL f i.toNatClampNeg x)))) = w u1) (hdg : decode cc pc = .ok (.lastore, 1))
    (kk : ∀ (H1 : Heap) (locs1 : List Loc), kH D w A s u1 H1 locs1 → W p l e R s m args below meth c H1 locs1 cells slots Q (F0 m (pc + 1) ls rest)) : W p l e R s m args below meth c H locs cells slots Q (F0 m pc ls (.long x :: .int i :: .ref a :: rest)) := by
  obtain ⟨⟨hx, hb, hml, hown, hts⟩, hK, hA⟩ := C
  refine va_last hx hb hK h.1 h.2.1 h.2.2 q0 2 ha rfl hin hdg (fun H1 locs1 hP hD hS => ?_)
  rw [hset] at hP hD
  exact kk H1 locs1 ⟨hP, hD, hS⟩
theorem kalenI (C : kC p m c cc nL s args own D cy A) (h : kH D w A s u H locs) (q0 : Nat) {a n : Nat} {f : Nat → Int32} (ha : (w u)[q0]? = some (a, .inl (cy.2.1, n, .inl f))) (hdg : decode cc pc = .ok (.arraylength, 1))
    (kk : W p l e R s m args below meth c H locs cells slots Q (F0 m (pc + 1) ls (.int (nI n) :: rest))) : W p l e R s m args below meth c H locs cells slots Q (F0 m pc ls (.ref a :: rest)) := by
  obtain ⟨⟨hx, hb, hml, hown, hts⟩, hK, hA⟩ := C
  exact va_alen hx hb hK h.1 q0 1 ha rfl rfl hdg kk
theorem kalenL (C : kC p m c cc nL s args own D cy A) (h : kH D w A s u H locs) (q0 : Nat) {a n : Nat} {f : Nat → Int64} (ha : (w u)[q0]? = some (a, .inl (cy.2.2.1, n, .inr (.inl f)))) (hdg : decode cc pc = .ok (.arraylength, 1))
    (kk : W p l e R s m args below meth c H locs cells slots Q (F0 m (pc + 1) ls (.int (nI n) :: rest))) : W p l e R s m args below meth c H locs cells slots Q (F0 m pc ls (.ref a :: rest)) := by
  obtain ⟨⟨hx, hb, hml, hown, hts⟩, hK, hA⟩ := C
  exact va_alen hx hb hK h.1 q0 2 ha rfl rfl hdg kk
theorem kretI {Qf : Int32 → ST → Prop} {v : Int32} (C : kC p m c cc nL s args own D cy A) (hr : meth.sig.returnType = some .int) (hlocks : meth.locks = false) (h : kH D w A s u H locs) (hq : Qf v u) (hdg : decode cc pc = .ok (.ireturn, 1)) : W p l e R s m args below meth c H locs cells slots (MQ below (kQi D w cy A Qf) args s cells slots A) (F0 m pc ls [.int v]) := by
  obtain ⟨⟨hx, hb, hml, hown, hts⟩, hK, hA⟩ := C
  obtain ⟨hP, hD, hS⟩ := h
  exact W.iret (v := v) hx hb hr (fun t ht hW => ⟨⟨v, u, rfl, hq, by rw [ht]; exact hP, va_K.moved hW.alike hK, hD⟩, hS.F ht⟩) hS.2.2 hdg hlocks
theorem kretZ {Qf : Int32 → ST → Prop} {v : Int32} (C : kC p m c cc nL s args own D cy A) (hr : meth.sig.returnType = some .boolean) (hlocks : meth.locks = false) (h : kH D w A s u H locs) (hv : v = 0 ∨ v = 1) (hq : Qf v u) (hdg : decode cc pc = .ok (.ireturn, 1)) : W p l e R s m args below meth c H locs cells slots (MQ below (kQi D w cy A Qf) args s cells slots A) (F0 m pc ls [.int v]) := by
  obtain ⟨⟨hx, hb, hml, hown, hts⟩, hK, hA⟩ := C
  obtain ⟨hP, hD, hS⟩ := h
  exact W.zret (v := v) hx hb hr (by rcases hv with rfl | rfl <;> rfl) (fun t ht hW => ⟨⟨v, u, rfl, hq, by rw [ht]; exact hP, va_K.moved hW.alike hK, hD⟩, hS.F ht⟩) hS.2.2 hdg hlocks
theorem kretL {Qf : Int64 → ST → Prop} {v : Int64} (C : kC p m c cc nL s args own D cy A) (hr : meth.sig.returnType = some .long) (hlocks : meth.locks = false) (h : kH D w A s u H locs) (hq : Qf v u) (hdg : decode cc pc = .ok (.lreturn, 1)) : W p l e R s m args below meth c H locs cells slots (MQ below (kQl D w cy A Qf) args s cells slots A) (F0 m pc ls [.long v]) := by
  obtain ⟨⟨hx, hb, hml, hown, hts⟩, hK, hA⟩ := C
  obtain ⟨hP, hD, hS⟩ := h
  exact W.lret (v := v) hx hb hr (fun t ht hW => ⟨⟨v, u, rfl, hq, by rw [ht]; exact hP, va_K.moved hW.alike hK, hD⟩, hS.F ht⟩) hS.2.2 hdg hlocks
theorem kretV {Qf : ST → Prop} (C : kC p m c cc nL s args own D cy A) (hr : meth.sig.returnType = none) (hlocks : meth.locks = false) (h : kH D w A s u H locs) (hq : Qf u) (hdg : decode cc pc = .ok (.return_, 1)) : W p l e R s m args below meth c H locs cells slots (MQ below (kQv D w cy A Qf) args s cells slots A) (F0 m pc ls []) := by
  obtain ⟨⟨hx, hb, hml, hown, hts⟩, hK, hA⟩ := C
  obtain ⟨hP, hD, hS⟩ := h
  exact W.vret hx hb hr (fun t ht hW => ⟨⟨u, rfl, hq, by rw [ht]; exact hP, va_K.moved hW.alike hK, hD⟩, hS.F ht⟩) hS.2.2 hdg hlocks
/-- the tables of a callee's start -/
theorem kpre (C : kC p m c cc nL s args own D cy A) (h : kH D w A s u H locs) (av : List Value) : ∀ U : State, U.heap = H → s.WarmedH U.vm → kPc D w cy u H.size av av.toArray U := fun U hU hW => ⟨rfl, by rw [hU], by rw [hU]; exact h.1, va_K.moved hW.alike C.2.1, h.2.1.weaken (fun _ _ _ _ => trivial)⟩
theorem kafter {t : State} {H1 : Heap} {locs1 : List Loc} (C : kC p m c cc nL s args own D cy A) (h : kH D w A s u H locs) (ht : t.heap = H1) (hB : kAt D w cy (va_A (w u) H.size) u1 t) (hS : va_S A s.heap H1 locs1) : kH D w A s u1 H1 locs1 := by
  obtain ⟨hP1, hK1, hD1⟩ := hB
  rw [ht] at hP1
  exact ⟨hP1, hD1.weaken (fun k q _ hq => kfree h C.2.2 q.1 hq), hS⟩
variable {y : MethodName} {bytes : ByteArray} {maxL n index : Nat} {ret : Option FieldType} {ws : List Cond} {rm : Room} {Cn : String} {b : Addr} {As : List Value}
theorem kVi {Q1 : Int32 → ST → Prop} (C : kC p m c cc nL s args own D cy A) (h : kH D w A s u H locs) (cw : CallW R s args own Cn index y bytes maxL ret ws rm 0 0 n) (q0 : Nat) {ci : Nat} {qc : vw_C} {fs : List Value} (he : (w u)[q0]? = some (b, .inr (ci, fs))) (hc : vwCl[ci]? = some qc) (hqc : qc.1 = Cn) (hM : Met l y ws rm (kPc D w cy u H.size (.ref b :: As)) (kQi D w cy (va_A (w u) H.size) Q1) 0 0 (va_A (w u) H.size)) (hn : As.length = n) (hsz : ls.size = nL) (hst : st0 = As.reverse ++ .ref b :: rest) (hrs : (rest.map fun v => v.category).sum ≤ 8) (hf : cells ≤ R.cells ∧ slots ≤ R.slots) (hdg : decode cc pc = .ok (.invokevirtual index, 3))
    (kk : ∀ (r : Int32) (u1 : ST) (H1 : Heap) (locs1 : List Loc), Q1 r u1 → kH D w A s u1 H1 locs1 → W p l e R s m args below meth c H1 locs1 cells slots Q (F0 m (pc + 3) ls (.int r :: rest))) : W p l e R s m args below meth c H locs cells slots Q (F0 m pc ls st0) := by
  subst hqc
  refine va_calli (va_runV (As := As) (rest := rest) C.1 hM cw ⟨kBlind _ _ _ _ _ _, va_recv C.2.1 h.1 hc he, kpre C h _⟩ rfl hn hsz hst (lv_room (m := m) (pc := pc) (ls := ls) (rest := st0) hrs) hdg hf) h.2.2 (fun q _ hq => kfree h C.2.2 q hq) (kfree h C.2.2) (fun r u1 t H1 locs1 ht hvm hw hB hz1 hk1 hS => ?_)
  exact kk r u1 H1 locs1 hw (kafter C h ht hB hS)
theorem kVl {Q1 : Int64 → ST → Prop} (C : kC p m c cc nL s args own D cy A) (h : kH D w A s u H locs) (cw : CallW R s args own Cn index y bytes maxL ret ws rm 0 0 n) (q0 : Nat) {ci : Nat} {qc : vw_C} {fs : List Value} (he : (w u)[q0]? = some (b, .inr (ci, fs))) (hc : vwCl[ci]? = some qc) (hqc : qc.1 = Cn) (hM : Met l y ws rm (kPc D w cy u H.size (.ref b :: As)) (kQl D w cy (va_A (w u) H.size) Q1) 0 0 (va_A (w u) H.size)) (hn : As.length = n) (hsz : ls.size = nL) (hst : st0 = As.reverse ++ .ref b :: rest) (hrs : (rest.map fun v => v.category).sum ≤ 8) (hf : cells ≤ R.cells ∧ slots ≤ R.slots) (hdg : decode cc pc = .ok (.invokevirtual index, 3))
    (kk : ∀ (r : Int64) (u1 : ST) (H1 : Heap) (locs1 : List Loc), Q1 r u1 → kH D w A s u1 H1 locs1 → W p l e R s m args below meth c H1 locs1 cells slots Q (F0 m (pc + 3) ls (.long r :: rest))) : W p l e R s m args below meth c H locs cells slots Q (F0 m pc ls st0) := by
  subst hqc
  refine va_calll (va_runV (As := As) (rest := rest) C.1 hM cw ⟨kBlind _ _ _ _ _ _, va_recv C.2.1 h.1 hc he, kpre C h _⟩ rfl hn hsz hst (lv_room (m := m) (pc := pc) (ls := ls) (rest := st0) hrs) hdg hf) h.2.2 (fun q _ hq => kfree h C.2.2 q hq) (kfree h C.2.2) (fun r u1 t H1 locs1 ht hvm hw hB hz1 hk1 hS => ?_)
  exact kk r u1 H1 locs1 hw (kafter C h ht hB hS)
theorem kVv {Q1 : ST → Prop} (C : kC p m c cc nL s args own D cy A) (h : kH D w A s u H locs) (cw : CallW R s args own Cn index y bytes maxL ret ws rm 0 0 n) (q0 : Nat) {ci : Nat} {qc : vw_C} {fs : List Value} (he : (w u)[q0]? = some (b, .inr (ci, fs))) (hc : vwCl[ci]? = some qc) (hqc : qc.1 = Cn) (hM : Met l y ws rm (kPc D w cy u H.size (.ref b :: As)) (kQv D w cy (va_A (w u) H.size) Q1) 0 0 (va_A (w u) H.size)) (hn : As.length = n) (hsz : ls.size = nL) (hst : st0 = As.reverse ++ .ref b :: rest) (hrs : (rest.map fun v => v.category).sum ≤ 8) (hf : cells ≤ R.cells ∧ slots ≤ R.slots) (hdg : decode cc pc = .ok (.invokevirtual index, 3))
    (kk : ∀ (u1 : ST) (H1 : Heap) (locs1 : List Loc), Q1 u1 → kH D w A s u1 H1 locs1 → W p l e R s m args below meth c H1 locs1 cells slots Q (F0 m (pc + 3) ls rest)) : W p l e R s m args below meth c H locs cells slots Q (F0 m pc ls st0) := by
  subst hqc
  refine va_callv (va_runV (As := As) (rest := rest) C.1 hM cw ⟨kBlind _ _ _ _ _ _, va_recv C.2.1 h.1 hc he, kpre C h _⟩ rfl hn hsz hst (lv_room (m := m) (pc := pc) (ls := ls) (rest := st0) hrs) hdg hf) h.2.2 (fun q _ hq => kfree h C.2.2 q hq) (kfree h C.2.2) (fun u1 t H1 locs1 ht hvm hw hB hz1 hk1 hS => ?_)
  exact kk u1 H1 locs1 hw (kafter C h ht hB hS)
theorem kSi {Q1 : Int32 → ST → Prop} (C : kC p m c cc nL s args own D cy A) (h : kH D w A s u H locs) (cw : CallB R s args own index y bytes maxL ret ws rm 0 0 n ∧ (Cond.static y).before args s = true) (hM : Met l y ws rm (kPc D w cy u H.size As) (kQi D w cy (va_A (w u) H.size) Q1) 0 0 (va_A (w u) H.size)) (hn : As.length = n) (hsz : ls.size = nL) (hst : st0 = As.reverse ++ rest) (hrs : (rest.map fun v => v.category).sum ≤ 8) (hf : cells ≤ R.cells ∧ slots ≤ R.slots) (hdg : decode cc pc = .ok (.invokestatic index, 3))
    (kk : ∀ (r : Int32) (u1 : ST) (H1 : Heap) (locs1 : List Loc), Q1 r u1 → kH D w A s u1 H1 locs1 → W p l e R s m args below meth c H1 locs1 cells slots Q (F0 m (pc + 3) ls (.int r :: rest))) : W p l e R s m args below meth c H locs cells slots Q (F0 m pc ls st0) := by
  refine va_calli (va_runS (As := As) (rest := rest) C.1 hM cw ⟨kBlind _ _ _ _ _ _, kpre C h _⟩ rfl hn hsz hst (lv_room (m := m) (pc := pc) (ls := ls) (rest := st0) hrs) hdg hf) h.2.2 (fun q _ hq => kfree h C.2.2 q hq) (kfree h C.2.2) (fun r u1 t H1 locs1 ht hvm hw hB hz1 hk1 hS => ?_)
  exact kk r u1 H1 locs1 hw (kafter C h ht hB hS)
theorem kSv {Q1 : ST → Prop} (C : kC p m c cc nL s args own D cy A) (h : kH D w A s u H locs) (cw : CallB R s args own index y bytes maxL ret ws rm 0 0 n ∧ (Cond.static y).before args s = true) (hM : Met l y ws rm (kPc D w cy u H.size As) (kQv D w cy (va_A (w u) H.size) Q1) 0 0 (va_A (w u) H.size)) (hn : As.length = n) (hsz : ls.size = nL) (hst : st0 = As.reverse ++ rest) (hrs : (rest.map fun v => v.category).sum ≤ 8) (hf : cells ≤ R.cells ∧ slots ≤ R.slots) (hdg : decode cc pc = .ok (.invokestatic index, 3))
    (kk : ∀ (u1 : ST) (H1 : Heap) (locs1 : List Loc), Q1 u1 → kH D w A s u1 H1 locs1 → W p l e R s m args below meth c H1 locs1 cells slots Q (F0 m (pc + 3) ls rest)) : W p l e R s m args below meth c H locs cells slots Q (F0 m pc ls st0) := by
  refine va_callv (va_runS (As := As) (rest := rest) C.1 hM cw ⟨kBlind _ _ _ _ _ _, kpre C h _⟩ rfl hn hsz hst (lv_room (m := m) (pc := pc) (ls := ls) (rest := st0) hrs) hdg hf) h.2.2 (fun q _ hq => kfree h C.2.2 q hq) (kfree h C.2.2) (fun u1 t H1 locs1 ht hvm hw hB hz1 hk1 hS => ?_)
  exact kk u1 H1 locs1 hw (kafter C h ht hB hS)
end KR
/-- a method's contract out of the walk of its body -/
theorem kMet {l : Launch} {y : MethodName} {cc : ByteArray} {nL : Nat} {ret : Option FieldType} {rm : Room} {D : va_G} {w : ST → va_W} {cy : CY} {u : ST} {sz : Nat} {av : List Value} {Qc : Array Value → State → Outcome → State → Prop} {mc ms : Nat} (hy : plainName y.cls = true) (hlen : (lg_sl av).length ≤ nL)
    (body : ∀ (p : Program) (e : Env) (s : State) (m : MethodId) (below : List Frame) (meth : Method) (c : Code) (ls : Array Slot), s.heap.size = sz → kC p m c cc nL s av.toArray y.cls D cy (va_A (w u) sz) → meth.sig.returnType = ret → meth.locks = false → c.exceptionTable.isEmpty = true → kH D w (va_A (w u) sz) s u s.heap [] → lv_has ls nL (lv_args 0 av) → W p l e rm s m av.toArray below meth c s.heap [] 0 0 (MQ below Qc av.toArray s mc ms (va_A (w u) sz)) (F0 m 0 ls [])) : Met l y (wM y cc nL ret) rm (kPc D w cy u sz av) Qc mc ms (va_A (w u) sz) := by
  refine Met.ofW (cc := cc) (maxL := nL) (ret := ret) hy rfl ?_
  intro p e s m args below meth c s₁ B hml hv
  obtain ⟨rfl, hsz, hP, hK, hD0⟩ := hv
  have hts := atoms_spec (ws := wM y cc nL ret) B.pre
  have hown : s.vm.findClass y.cls = some m.cls := findClass_of_methodNamed B.named
  have hl := lv_entry av (n := nL) hlen
  rw [lg_entry_eq]
  refine body p e s m below meth c _ hsz ⟨⟨B.exec, B.bytes, hml, hown, fun w hw => hts w (List.mem_cons_of_mem _ hw)⟩, hK, fun q hq => Or.inr (by rw [← hsz]; exact hq)⟩ B.returns B.notSynchronized (B.noHandlers (hts _ List.mem_cons_self)) ⟨hP, hD0.self, va_S.rf⟩ hl
end
