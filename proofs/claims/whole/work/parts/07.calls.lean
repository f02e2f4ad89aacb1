theorem lenR_256 {k : Nat} (h : k < 9 ∨ 16 ≤ k) : lenR k = 256 := by
  unfold lenR
  repeat' split
  all_goals omega
theorem sw_of {x : Int32} {n : Nat} (h : ¬ (x.toInt < 0 ∨ (n : Int) < x.toInt)) (hn : n < 2 ^ 31) : ∃ j : Nat, j ≤ n ∧ x = nI j := by
  have h0 : ¬ x < 0 := fun q => h (Or.inl (by rw [Int32.lt_iff_toInt_lt] at q; simpa using q))
  obtain ⟨j, hj, rfl⟩ := nI_of h0
  refine ⟨j, ?_, rfl⟩
  rw [nI_toInt hj] at h
  omega
theorem pn_X0_write : plainName yX0_write.cls = true := by decide +kernel
theorem hd_X0_write : yX0_write.cls = RX0 ∧ yX0_write.cls ≠ "java/lang/invoke/MethodHandle" ∧ yX0_write.cls ≠ "java/lang/invoke/VarHandle" ∧ (parseMethodDescriptor yX0_write.desc).map (fun d => d.parameters.length) = some 1 := by decide +kernel
theorem pn_X0_setPlaces : plainName yX0_setPlaces.cls = true := by decide +kernel
theorem hd_X0_setPlaces : yX0_setPlaces.cls = RX0 ∧ yX0_setPlaces.cls ≠ "java/lang/invoke/MethodHandle" ∧ yX0_setPlaces.cls ≠ "java/lang/invoke/VarHandle" ∧ (parseMethodDescriptor yX0_setPlaces.desc).map (fun d => d.parameters.length) = some 1 := by decide +kernel
theorem pn_X0_append : plainName yX0_append.cls = true := by decide +kernel
theorem hd_X0_append : yX0_append.cls = RX0 ∧ yX0_append.cls ≠ "java/lang/invoke/MethodHandle" ∧ yX0_append.cls ≠ "java/lang/invoke/VarHandle" ∧ (parseMethodDescriptor yX0_append.desc).map (fun d => d.parameters.length) = some 1 := by decide +kernel
theorem pn_X0_follow : plainName yX0_follow.cls = true := by decide +kernel
theorem hd_X0_follow : yX0_follow.cls = RX0 ∧ yX0_follow.cls ≠ "java/lang/invoke/MethodHandle" ∧ yX0_follow.cls ≠ "java/lang/invoke/VarHandle" ∧ (parseMethodDescriptor yX0_follow.desc).map (fun d => d.parameters.length) = some 2 := by decide +kernel
theorem pn_X1_letterOf : plainName yX1_letterOf.cls = true := by decide +kernel
theorem hd_X1_letterOf : yX1_letterOf.cls = RX1 ∧ yX1_letterOf.cls ≠ "java/lang/invoke/MethodHandle" ∧ yX1_letterOf.cls ≠ "java/lang/invoke/VarHandle" ∧ (parseMethodDescriptor yX1_letterOf.desc).map (fun d => d.parameters.length) = some 1 := by decide +kernel
theorem pn_X1_find : plainName yX1_find.cls = true := by decide +kernel
theorem hd_X1_find : yX1_find.cls = RX1 ∧ yX1_find.cls ≠ "java/lang/invoke/MethodHandle" ∧ yX1_find.cls ≠ "java/lang/invoke/VarHandle" ∧ (parseMethodDescriptor yX1_find.desc).map (fun d => d.parameters.length) = some 1 := by decide +kernel
theorem pn_X1_add : plainName yX1_add.cls = true := by decide +kernel
theorem hd_X1_add : yX1_add.cls = RX1 ∧ yX1_add.cls ≠ "java/lang/invoke/MethodHandle" ∧ yX1_add.cls ≠ "java/lang/invoke/VarHandle" ∧ (parseMethodDescriptor yX1_add.desc).map (fun d => d.parameters.length) = some 1 := by decide +kernel
theorem pn_X1_letterAt : plainName yX1_letterAt.cls = true := by decide +kernel
theorem hd_X1_letterAt : yX1_letterAt.cls = RX1 ∧ yX1_letterAt.cls ≠ "java/lang/invoke/MethodHandle" ∧ yX1_letterAt.cls ≠ "java/lang/invoke/VarHandle" ∧ (parseMethodDescriptor yX1_letterAt.desc).map (fun d => d.parameters.length) = some 2 := by decide +kernel
theorem pn_X1_lengthOf : plainName yX1_lengthOf.cls = true := by decide +kernel
theorem hd_X1_lengthOf : yX1_lengthOf.cls = RX1 ∧ yX1_lengthOf.cls ≠ "java/lang/invoke/MethodHandle" ∧ yX1_lengthOf.cls ≠ "java/lang/invoke/VarHandle" ∧ (parseMethodDescriptor yX1_lengthOf.desc).map (fun d => d.parameters.length) = some 1 := by decide +kernel
theorem pn_X1_byteOf : plainName yX1_byteOf.cls = true := by decide +kernel
theorem hd_X1_byteOf : yX1_byteOf.cls = RX1 ∧ yX1_byteOf.cls ≠ "java/lang/invoke/MethodHandle" ∧ yX1_byteOf.cls ≠ "java/lang/invoke/VarHandle" ∧ (parseMethodDescriptor yX1_byteOf.desc).map (fun d => d.parameters.length) = some 2 := by decide +kernel
theorem pn_X2_clear : plainName yX2_clear.cls = true := by decide +kernel
theorem hd_X2_clear : yX2_clear.cls = RX2 ∧ yX2_clear.cls ≠ "java/lang/invoke/MethodHandle" ∧ yX2_clear.cls ≠ "java/lang/invoke/VarHandle" ∧ (parseMethodDescriptor yX2_clear.desc).map (fun d => d.parameters.length) = some 0 := by decide +kernel
theorem pn_X2_add : plainName yX2_add.cls = true := by decide +kernel
theorem hd_X2_add : yX2_add.cls = RX2 ∧ yX2_add.cls ≠ "java/lang/invoke/MethodHandle" ∧ yX2_add.cls ≠ "java/lang/invoke/VarHandle" ∧ (parseMethodDescriptor yX2_add.desc).map (fun d => d.parameters.length) = some 3 := by decide +kernel
theorem pn_X2_caseCount : plainName yX2_caseCount.cls = true := by decide +kernel
theorem hd_X2_caseCount : yX2_caseCount.cls = RX2 ∧ yX2_caseCount.cls ≠ "java/lang/invoke/MethodHandle" ∧ yX2_caseCount.cls ≠ "java/lang/invoke/VarHandle" ∧ (parseMethodDescriptor yX2_caseCount.desc).map (fun d => d.parameters.length) = some 0 := by decide +kernel
theorem pn_X2_markOf : plainName yX2_markOf.cls = true := by decide +kernel
theorem hd_X2_markOf : yX2_markOf.cls = RX2 ∧ yX2_markOf.cls ≠ "java/lang/invoke/MethodHandle" ∧ yX2_markOf.cls ≠ "java/lang/invoke/VarHandle" ∧ (parseMethodDescriptor yX2_markOf.desc).map (fun d => d.parameters.length) = some 2 := by decide +kernel
theorem pn_X2_firstThatMeets : plainName yX2_firstThatMeets.cls = true := by decide +kernel
theorem hd_X2_firstThatMeets : yX2_firstThatMeets.cls = RX2 ∧ yX2_firstThatMeets.cls ≠ "java/lang/invoke/MethodHandle" ∧ yX2_firstThatMeets.cls ≠ "java/lang/invoke/VarHandle" ∧ (parseMethodDescriptor yX2_firstThatMeets.desc).map (fun d => d.parameters.length) = some 1 := by decide +kernel
theorem pn_X2_contradict : plainName yX2_contradict.cls = true := by decide +kernel
theorem hd_X2_contradict : yX2_contradict.cls = RX2 ∧ yX2_contradict.cls ≠ "java/lang/invoke/MethodHandle" ∧ yX2_contradict.cls ≠ "java/lang/invoke/VarHandle" ∧ (parseMethodDescriptor yX2_contradict.desc).map (fun d => d.parameters.length) = some 2 := by decide +kernel
theorem pn_X3_append : plainName yX3_append.cls = true := by decide +kernel
theorem hd_X3_append : yX3_append.cls = RX3 ∧ yX3_append.cls ≠ "java/lang/invoke/MethodHandle" ∧ yX3_append.cls ≠ "java/lang/invoke/VarHandle" ∧ (parseMethodDescriptor yX3_append.desc).map (fun d => d.parameters.length) = some 1 := by decide +kernel
theorem pn_X3_byteAt : plainName yX3_byteAt.cls = true := by decide +kernel
theorem hd_X3_byteAt : yX3_byteAt.cls = RX3 ∧ yX3_byteAt.cls ≠ "java/lang/invoke/MethodHandle" ∧ yX3_byteAt.cls ≠ "java/lang/invoke/VarHandle" ∧ (parseMethodDescriptor yX3_byteAt.desc).map (fun d => d.parameters.length) = some 1 := by decide +kernel
theorem pn_X3_parse : plainName yX3_parse.cls = true := by decide +kernel
theorem hd_X3_parse : yX3_parse.cls = RX3 ∧ yX3_parse.cls ≠ "java/lang/invoke/MethodHandle" ∧ yX3_parse.cls ≠ "java/lang/invoke/VarHandle" ∧ (parseMethodDescriptor yX3_parse.desc).map (fun d => d.parameters.length) = some 1 := by decide +kernel
theorem pn_X3_fail : plainName yX3_fail.cls = true := by decide +kernel
theorem hd_X3_fail : yX3_fail.cls = RX3 ∧ yX3_fail.cls ≠ "java/lang/invoke/MethodHandle" ∧ yX3_fail.cls ≠ "java/lang/invoke/VarHandle" ∧ (parseMethodDescriptor yX3_fail.desc).map (fun d => d.parameters.length) = some 2 := by decide +kernel
theorem pn_X3_look : plainName yX3_look.cls = true := by decide +kernel
theorem hd_X3_look : yX3_look.cls = RX3 ∧ yX3_look.cls ≠ "java/lang/invoke/MethodHandle" ∧ yX3_look.cls ≠ "java/lang/invoke/VarHandle" ∧ (parseMethodDescriptor yX3_look.desc).map (fun d => d.parameters.length) = some 0 := by decide +kernel
theorem pn_X3_passByte : plainName yX3_passByte.cls = true := by decide +kernel
theorem hd_X3_passByte : yX3_passByte.cls = RX3 ∧ yX3_passByte.cls ≠ "java/lang/invoke/MethodHandle" ∧ yX3_passByte.cls ≠ "java/lang/invoke/VarHandle" ∧ (parseMethodDescriptor yX3_passByte.desc).map (fun d => d.parameters.length) = some 1 := by decide +kernel
theorem pn_X3_passName : plainName yX3_passName.cls = true := by decide +kernel
theorem hd_X3_passName : yX3_passName.cls = RX3 ∧ yX3_passName.cls ≠ "java/lang/invoke/MethodHandle" ∧ yX3_passName.cls ≠ "java/lang/invoke/VarHandle" ∧ (parseMethodDescriptor yX3_passName.desc).map (fun d => d.parameters.length) = some 0 := by decide +kernel
theorem pn_X3_isWord : plainName yX3_isWord.cls = true := by decide +kernel
theorem hd_X3_isWord : yX3_isWord.cls = RX3 ∧ yX3_isWord.cls ≠ "java/lang/invoke/MethodHandle" ∧ yX3_isWord.cls ≠ "java/lang/invoke/VarHandle" ∧ (parseMethodDescriptor yX3_isWord.desc).map (fun d => d.parameters.length) = some 1 := by decide +kernel
theorem pn_X3_passConditions : plainName yX3_passConditions.cls = true := by decide +kernel
theorem hd_X3_passConditions : yX3_passConditions.cls = RX3 ∧ yX3_passConditions.cls ≠ "java/lang/invoke/MethodHandle" ∧ yX3_passConditions.cls ≠ "java/lang/invoke/VarHandle" ∧ (parseMethodDescriptor yX3_passConditions.desc).map (fun d => d.parameters.length) = some 1 := by decide +kernel
theorem pn_X3_passCondition : plainName yX3_passCondition.cls = true := by decide +kernel
theorem hd_X3_passCondition : yX3_passCondition.cls = RX3 ∧ yX3_passCondition.cls ≠ "java/lang/invoke/MethodHandle" ∧ yX3_passCondition.cls ≠ "java/lang/invoke/VarHandle" ∧ (parseMethodDescriptor yX3_passCondition.desc).map (fun d => d.parameters.length) = some 1 := by decide +kernel
theorem pn_X3_passRules : plainName yX3_passRules.cls = true := by decide +kernel
theorem hd_X3_passRules : yX3_passRules.cls = RX3 ∧ yX3_passRules.cls ≠ "java/lang/invoke/MethodHandle" ∧ yX3_passRules.cls ≠ "java/lang/invoke/VarHandle" ∧ (parseMethodDescriptor yX3_passRules.desc).map (fun d => d.parameters.length) = some 1 := by decide +kernel
theorem pn_X3_passRule : plainName yX3_passRule.cls = true := by decide +kernel
theorem hd_X3_passRule : yX3_passRule.cls = RX3 ∧ yX3_passRule.cls ≠ "java/lang/invoke/MethodHandle" ∧ yX3_passRule.cls ≠ "java/lang/invoke/VarHandle" ∧ (parseMethodDescriptor yX3_passRule.desc).map (fun d => d.parameters.length) = some 1 := by decide +kernel
theorem pn_X3_passAction : plainName yX3_passAction.cls = true := by decide +kernel
theorem hd_X3_passAction : yX3_passAction.cls = RX3 ∧ yX3_passAction.cls ≠ "java/lang/invoke/MethodHandle" ∧ yX3_passAction.cls ≠ "java/lang/invoke/VarHandle" ∧ (parseMethodDescriptor yX3_passAction.desc).map (fun d => d.parameters.length) = some 1 := by decide +kernel
theorem pn_X4_clear : plainName yX4_clear.cls = true := by decide +kernel
theorem hd_X4_clear : yX4_clear.cls = RX4 ∧ yX4_clear.cls ≠ "java/lang/invoke/MethodHandle" ∧ yX4_clear.cls ≠ "java/lang/invoke/VarHandle" ∧ (parseMethodDescriptor yX4_clear.desc).map (fun d => d.parameters.length) = some 0 := by decide +kernel
theorem pn_X4_isLeaf : plainName yX4_isLeaf.cls = true := by decide +kernel
theorem hd_X4_isLeaf : yX4_isLeaf.cls = RX4 ∧ yX4_isLeaf.cls ≠ "java/lang/invoke/MethodHandle" ∧ yX4_isLeaf.cls ≠ "java/lang/invoke/VarHandle" ∧ (parseMethodDescriptor yX4_isLeaf.desc).map (fun d => d.parameters.length) = some 1 := by decide +kernel
theorem pn_X4_build : plainName yX4_build.cls = true := by decide +kernel
theorem hd_X4_build : yX4_build.cls = RX4 ∧ yX4_build.cls ≠ "java/lang/invoke/MethodHandle" ∧ yX4_build.cls ≠ "java/lang/invoke/VarHandle" ∧ (parseMethodDescriptor yX4_build.desc).map (fun d => d.parameters.length) = some 1 := by decide +kernel
theorem pn_X4_grow : plainName yX4_grow.cls = true := by decide +kernel
theorem hd_X4_grow : yX4_grow.cls = RX4 ∧ yX4_grow.cls ≠ "java/lang/invoke/MethodHandle" ∧ yX4_grow.cls ≠ "java/lang/invoke/VarHandle" ∧ (parseMethodDescriptor yX4_grow.desc).map (fun d => d.parameters.length) = some 4 := by decide +kernel
theorem pn_X4_addLeaf : plainName yX4_addLeaf.cls = true := by decide +kernel
theorem hd_X4_addLeaf : yX4_addLeaf.cls = RX4 ∧ yX4_addLeaf.cls ≠ "java/lang/invoke/MethodHandle" ∧ yX4_addLeaf.cls ≠ "java/lang/invoke/VarHandle" ∧ (parseMethodDescriptor yX4_addLeaf.desc).map (fun d => d.parameters.length) = some 2 := by decide +kernel
theorem pn_X4_addNode : plainName yX4_addNode.cls = true := by decide +kernel
theorem hd_X4_addNode : yX4_addNode.cls = RX4 ∧ yX4_addNode.cls ≠ "java/lang/invoke/MethodHandle" ∧ yX4_addNode.cls ≠ "java/lang/invoke/VarHandle" ∧ (parseMethodDescriptor yX4_addNode.desc).map (fun d => d.parameters.length) = some 1 := by decide +kernel
theorem pn_X5_start : plainName yX5_start.cls = true := by decide +kernel
theorem hd_X5_start : yX5_start.cls = RX5 ∧ yX5_start.cls ≠ "java/lang/invoke/MethodHandle" ∧ yX5_start.cls ≠ "java/lang/invoke/VarHandle" ∧ (parseMethodDescriptor yX5_start.desc).map (fun d => d.parameters.length) = some 2 := by decide +kernel
theorem pn_X5_step : plainName yX5_step.cls = true := by decide +kernel
theorem hd_X5_step : yX5_step.cls = RX5 ∧ yX5_step.cls ≠ "java/lang/invoke/MethodHandle" ∧ yX5_step.cls ≠ "java/lang/invoke/VarHandle" ∧ (parseMethodDescriptor yX5_step.desc).map (fun d => d.parameters.length) = some 3 := by decide +kernel
theorem pn_X5_splittingBit : plainName yX5_splittingBit.cls = true := by decide +kernel
theorem hd_X5_splittingBit : yX5_splittingBit.cls = RX5 ∧ yX5_splittingBit.cls ≠ "java/lang/invoke/MethodHandle" ∧ yX5_splittingBit.cls ≠ "java/lang/invoke/VarHandle" ∧ (parseMethodDescriptor yX5_splittingBit.desc).map (fun d => d.parameters.length) = some 2 := by decide +kernel
theorem pn_X5_leastGap : plainName yX5_leastGap.cls = true := by decide +kernel
theorem hd_X5_leastGap : yX5_leastGap.cls = RX5 ∧ yX5_leastGap.cls ≠ "java/lang/invoke/MethodHandle" ∧ yX5_leastGap.cls ≠ "java/lang/invoke/VarHandle" ∧ (parseMethodDescriptor yX5_leastGap.desc).map (fun d => d.parameters.length) = some 0 := by decide +kernel
theorem pn_X5_leastGapFrom : plainName yX5_leastGapFrom.cls = true := by decide +kernel
theorem hd_X5_leastGapFrom : yX5_leastGapFrom.cls = RX5 ∧ yX5_leastGapFrom.cls ≠ "java/lang/invoke/MethodHandle" ∧ yX5_leastGapFrom.cls ≠ "java/lang/invoke/VarHandle" ∧ (parseMethodDescriptor yX5_leastGapFrom.desc).map (fun d => d.parameters.length) = some 4 := by decide +kernel
theorem pn_X5_casesMet : plainName yX5_casesMet.cls = true := by decide +kernel
theorem hd_X5_casesMet : yX5_casesMet.cls = RX5 ∧ yX5_casesMet.cls ≠ "java/lang/invoke/MethodHandle" ∧ yX5_casesMet.cls ≠ "java/lang/invoke/VarHandle" ∧ (parseMethodDescriptor yX5_casesMet.desc).map (fun d => d.parameters.length) = some 0 := by decide +kernel
theorem pn_X5_casesMetFrom : plainName yX5_casesMetFrom.cls = true := by decide +kernel
theorem hd_X5_casesMetFrom : yX5_casesMetFrom.cls = RX5 ∧ yX5_casesMetFrom.cls ≠ "java/lang/invoke/MethodHandle" ∧ yX5_casesMetFrom.cls ≠ "java/lang/invoke/VarHandle" ∧ (parseMethodDescriptor yX5_casesMetFrom.desc).map (fun d => d.parameters.length) = some 3 := by decide +kernel
theorem pn_X5_oneAction : plainName yX5_oneAction.cls = true := by decide +kernel
theorem hd_X5_oneAction : yX5_oneAction.cls = RX5 ∧ yX5_oneAction.cls ≠ "java/lang/invoke/MethodHandle" ∧ yX5_oneAction.cls ≠ "java/lang/invoke/VarHandle" ∧ (parseMethodDescriptor yX5_oneAction.desc).map (fun d => d.parameters.length) = some 1 := by decide +kernel
theorem pn_X5_choose : plainName yX5_choose.cls = true := by decide +kernel
theorem hd_X5_choose : yX5_choose.cls = RX5 ∧ yX5_choose.cls ≠ "java/lang/invoke/MethodHandle" ∧ yX5_choose.cls ≠ "java/lang/invoke/VarHandle" ∧ (parseMethodDescriptor yX5_choose.desc).map (fun d => d.parameters.length) = some 2 := by decide +kernel
theorem pn_X5_isBetter : plainName yX5_isBetter.cls = true := by decide +kernel
theorem hd_X5_isBetter : yX5_isBetter.cls = RX5 ∧ yX5_isBetter.cls ≠ "java/lang/invoke/MethodHandle" ∧ yX5_isBetter.cls ≠ "java/lang/invoke/VarHandle" ∧ (parseMethodDescriptor yX5_isBetter.desc).map (fun d => d.parameters.length) = some 2 := by decide +kernel
theorem pn_X5_weigh : plainName yX5_weigh.cls = true := by decide +kernel
theorem hd_X5_weigh : yX5_weigh.cls = RX5 ∧ yX5_weigh.cls ≠ "java/lang/invoke/MethodHandle" ∧ yX5_weigh.cls ≠ "java/lang/invoke/VarHandle" ∧ (parseMethodDescriptor yX5_weigh.desc).map (fun d => d.parameters.length) = some 2 := by decide +kernel
theorem pn_X5_addWeight : plainName yX5_addWeight.cls = true := by decide +kernel
theorem hd_X5_addWeight : yX5_addWeight.cls = RX5 ∧ yX5_addWeight.cls ≠ "java/lang/invoke/MethodHandle" ∧ yX5_addWeight.cls ≠ "java/lang/invoke/VarHandle" ∧ (parseMethodDescriptor yX5_addWeight.desc).map (fun d => d.parameters.length) = some 2 := by decide +kernel
theorem pn_X6_type : plainName yX6_type.cls = true := by decide +kernel
theorem hd_X6_type : yX6_type.cls = RX6 ∧ yX6_type.cls ≠ "java/lang/invoke/MethodHandle" ∧ yX6_type.cls ≠ "java/lang/invoke/VarHandle" ∧ (parseMethodDescriptor yX6_type.desc).map (fun d => d.parameters.length) = some 2 := by decide +kernel
theorem pn_X6_keep : plainName yX6_keep.cls = true := by decide +kernel
theorem hd_X6_keep : yX6_keep.cls = RX6 ∧ yX6_keep.cls ≠ "java/lang/invoke/MethodHandle" ∧ yX6_keep.cls ≠ "java/lang/invoke/VarHandle" ∧ (parseMethodDescriptor yX6_keep.desc).map (fun d => d.parameters.length) = some 1 := by decide +kernel
theorem pn_X6_read : plainName yX6_read.cls = true := by decide +kernel
theorem hd_X6_read : yX6_read.cls = RX6 ∧ yX6_read.cls ≠ "java/lang/invoke/MethodHandle" ∧ yX6_read.cls ≠ "java/lang/invoke/VarHandle" ∧ (parseMethodDescriptor yX6_read.desc).map (fun d => d.parameters.length) = some 0 := by decide +kernel
theorem pn_X6_fault : plainName yX6_fault.cls = true := by decide +kernel
theorem hd_X6_fault : yX6_fault.cls = RX6 ∧ yX6_fault.cls ≠ "java/lang/invoke/MethodHandle" ∧ yX6_fault.cls ≠ "java/lang/invoke/VarHandle" ∧ (parseMethodDescriptor yX6_fault.desc).map (fun d => d.parameters.length) = some 0 := by decide +kernel
theorem pn_X6_amiss : plainName yX6_amiss.cls = true := by decide +kernel
theorem hd_X6_amiss : yX6_amiss.cls = RX6 ∧ yX6_amiss.cls ≠ "java/lang/invoke/MethodHandle" ∧ yX6_amiss.cls ≠ "java/lang/invoke/VarHandle" ∧ (parseMethodDescriptor yX6_amiss.desc).map (fun d => d.parameters.length) = some 1 := by decide +kernel
theorem pn_X6_count : plainName yX6_count.cls = true := by decide +kernel
theorem hd_X6_count : yX6_count.cls = RX6 ∧ yX6_count.cls ≠ "java/lang/invoke/MethodHandle" ∧ yX6_count.cls ≠ "java/lang/invoke/VarHandle" ∧ (parseMethodDescriptor yX6_count.desc).map (fun d => d.parameters.length) = some 1 := by decide +kernel
theorem pn_X6_rule : plainName yX6_rule.cls = true := by decide +kernel
theorem hd_X6_rule : yX6_rule.cls = RX6 ∧ yX6_rule.cls ≠ "java/lang/invoke/MethodHandle" ∧ yX6_rule.cls ≠ "java/lang/invoke/VarHandle" ∧ (parseMethodDescriptor yX6_rule.desc).map (fun d => d.parameters.length) = some 2 := by decide +kernel
theorem pn_X6_name : plainName yX6_name.cls = true := by decide +kernel
theorem hd_X6_name : yX6_name.cls = RX6 ∧ yX6_name.cls ≠ "java/lang/invoke/MethodHandle" ∧ yX6_name.cls ≠ "java/lang/invoke/VarHandle" ∧ (parseMethodDescriptor yX6_name.desc).map (fun d => d.parameters.length) = some 3 := by decide +kernel
theorem pn_X6_meets : plainName yX6_meets.cls = true := by decide +kernel
theorem hd_X6_meets : yX6_meets.cls = RX6 ∧ yX6_meets.cls ≠ "java/lang/invoke/MethodHandle" ∧ yX6_meets.cls ≠ "java/lang/invoke/VarHandle" ∧ (parseMethodDescriptor yX6_meets.desc).map (fun d => d.parameters.length) = some 1 := by decide +kernel
theorem pn_X6_cases : plainName yX6_cases.cls = true := by decide +kernel
theorem hd_X6_cases : yX6_cases.cls = RX6 ∧ yX6_cases.cls ≠ "java/lang/invoke/MethodHandle" ∧ yX6_cases.cls ≠ "java/lang/invoke/VarHandle" ∧ (parseMethodDescriptor yX6_cases.desc).map (fun d => d.parameters.length) = some 1 := by decide +kernel
theorem pn_X6_node : plainName yX6_node.cls = true := by decide +kernel
theorem hd_X6_node : yX6_node.cls = RX6 ∧ yX6_node.cls ≠ "java/lang/invoke/MethodHandle" ∧ yX6_node.cls ≠ "java/lang/invoke/VarHandle" ∧ (parseMethodDescriptor yX6_node.desc).map (fun d => d.parameters.length) = some 2 := by decide +kernel
theorem pn_X6_code : plainName yX6_code.cls = true := by decide +kernel
theorem hd_X6_code : yX6_code.cls = RX6 ∧ yX6_code.cls ≠ "java/lang/invoke/MethodHandle" ∧ yX6_code.cls ≠ "java/lang/invoke/VarHandle" ∧ (parseMethodDescriptor yX6_code.desc).map (fun d => d.parameters.length) = some 1 := by decide +kernel
theorem pn_X6_run : plainName yX6_run.cls = true := by decide +kernel
theorem hd_X6_run : yX6_run.cls = RX6 ∧ yX6_run.cls ≠ "java/lang/invoke/MethodHandle" ∧ yX6_run.cls ≠ "java/lang/invoke/VarHandle" ∧ (parseMethodDescriptor yX6_run.desc).map (fun d => d.parameters.length) = some 2 := by decide +kernel
theorem pn_X6_tests : plainName yX6_tests.cls = true := by decide +kernel
theorem hd_X6_tests : yX6_tests.cls = RX6 ∧ yX6_tests.cls ≠ "java/lang/invoke/MethodHandle" ∧ yX6_tests.cls ≠ "java/lang/invoke/VarHandle" ∧ (parseMethodDescriptor yX6_tests.desc).map (fun d => d.parameters.length) = some 0 := by decide +kernel
theorem pn_X6_needTable : plainName yX6_needTable.cls = true := by decide +kernel
theorem hd_X6_needTable : yX6_needTable.cls = RX6 ∧ yX6_needTable.cls ≠ "java/lang/invoke/MethodHandle" ∧ yX6_needTable.cls ≠ "java/lang/invoke/VarHandle" ∧ (parseMethodDescriptor yX6_needTable.desc).map (fun d => d.parameters.length) = some 0 := by decide +kernel
theorem pn_X6_needTree : plainName yX6_needTree.cls = true := by decide +kernel
theorem hd_X6_needTree : yX6_needTree.cls = RX6 ∧ yX6_needTree.cls ≠ "java/lang/invoke/MethodHandle" ∧ yX6_needTree.cls ≠ "java/lang/invoke/VarHandle" ∧ (parseMethodDescriptor yX6_needTree.desc).map (fun d => d.parameters.length) = some 0 := by decide +kernel
theorem pn_X6_needCase : plainName yX6_needCase.cls = true := by decide +kernel
theorem hd_X6_needCase : yX6_needCase.cls = RX6 ∧ yX6_needCase.cls ≠ "java/lang/invoke/MethodHandle" ∧ yX6_needCase.cls ≠ "java/lang/invoke/VarHandle" ∧ (parseMethodDescriptor yX6_needCase.desc).map (fun d => d.parameters.length) = some 1 := by decide +kernel
theorem pn_X6_judge : plainName yX6_judge.cls = true := by decide +kernel
theorem hd_X6_judge : yX6_judge.cls = RX6 ∧ yX6_judge.cls ≠ "java/lang/invoke/MethodHandle" ∧ yX6_judge.cls ≠ "java/lang/invoke/VarHandle" ∧ (parseMethodDescriptor yX6_judge.desc).map (fun d => d.parameters.length) = some 0 := by decide +kernel
theorem pn_X6_findAmiss : plainName yX6_findAmiss.cls = true := by decide +kernel
theorem hd_X6_findAmiss : yX6_findAmiss.cls = RX6 ∧ yX6_findAmiss.cls ≠ "java/lang/invoke/MethodHandle" ∧ yX6_findAmiss.cls ≠ "java/lang/invoke/VarHandle" ∧ (parseMethodDescriptor yX6_findAmiss.desc).map (fun d => d.parameters.length) = some 0 := by decide +kernel
theorem pn_X6_findContradiction : plainName yX6_findContradiction.cls = true := by decide +kernel
theorem hd_X6_findContradiction : yX6_findContradiction.cls = RX6 ∧ yX6_findContradiction.cls ≠ "java/lang/invoke/MethodHandle" ∧ yX6_findContradiction.cls ≠ "java/lang/invoke/VarHandle" ∧ (parseMethodDescriptor yX6_findContradiction.desc).map (fun d => d.parameters.length) = some 0 := by decide +kernel
theorem pn_X7_thrown : plainName yX7_thrown.cls = true := by decide +kernel
theorem hd_X7_thrown : yX7_thrown.cls = RX7 ∧ yX7_thrown.cls ≠ "java/lang/invoke/MethodHandle" ∧ yX7_thrown.cls ≠ "java/lang/invoke/VarHandle" ∧ (parseMethodDescriptor yX7_thrown.desc).map (fun d => d.parameters.length) = some 0 := by decide +kernel
theorem pn_X7_type : plainName yX7_type.cls = true := by decide +kernel
theorem hd_X7_type : yX7_type.cls = RX7 ∧ yX7_type.cls ≠ "java/lang/invoke/MethodHandle" ∧ yX7_type.cls ≠ "java/lang/invoke/VarHandle" ∧ (parseMethodDescriptor yX7_type.desc).map (fun d => d.parameters.length) = some 2 := by decide +kernel
theorem pn_X7_keep : plainName yX7_keep.cls = true := by decide +kernel
theorem hd_X7_keep : yX7_keep.cls = RX7 ∧ yX7_keep.cls ≠ "java/lang/invoke/MethodHandle" ∧ yX7_keep.cls ≠ "java/lang/invoke/VarHandle" ∧ (parseMethodDescriptor yX7_keep.desc).map (fun d => d.parameters.length) = some 1 := by decide +kernel
theorem pn_X7_look : plainName yX7_look.cls = true := by decide +kernel
theorem hd_X7_look : yX7_look.cls = RX7 ∧ yX7_look.cls ≠ "java/lang/invoke/MethodHandle" ∧ yX7_look.cls ≠ "java/lang/invoke/VarHandle" ∧ (parseMethodDescriptor yX7_look.desc).map (fun d => d.parameters.length) = some 0 := by decide +kernel
theorem pn_X7_bad : plainName yX7_bad.cls = true := by decide +kernel
theorem hd_X7_bad : yX7_bad.cls = RX7 ∧ yX7_bad.cls ≠ "java/lang/invoke/MethodHandle" ∧ yX7_bad.cls ≠ "java/lang/invoke/VarHandle" ∧ (parseMethodDescriptor yX7_bad.desc).map (fun d => d.parameters.length) = some 2 := by decide +kernel
theorem pn_X7_isLetter : plainName yX7_isLetter.cls = true := by decide +kernel
theorem hd_X7_isLetter : yX7_isLetter.cls = RX7 ∧ yX7_isLetter.cls ≠ "java/lang/invoke/MethodHandle" ∧ yX7_isLetter.cls ≠ "java/lang/invoke/VarHandle" ∧ (parseMethodDescriptor yX7_isLetter.desc).map (fun d => d.parameters.length) = some 1 := by decide +kernel
theorem pn_X7_isDigit : plainName yX7_isDigit.cls = true := by decide +kernel
theorem hd_X7_isDigit : yX7_isDigit.cls = RX7 ∧ yX7_isDigit.cls ≠ "java/lang/invoke/MethodHandle" ∧ yX7_isDigit.cls ≠ "java/lang/invoke/VarHandle" ∧ (parseMethodDescriptor yX7_isDigit.desc).map (fun d => d.parameters.length) = some 1 := by decide +kernel
theorem pn_X7_nameEnd : plainName yX7_nameEnd.cls = true := by decide +kernel
theorem hd_X7_nameEnd : yX7_nameEnd.cls = RX7 ∧ yX7_nameEnd.cls ≠ "java/lang/invoke/MethodHandle" ∧ yX7_nameEnd.cls ≠ "java/lang/invoke/VarHandle" ∧ (parseMethodDescriptor yX7_nameEnd.desc).map (fun d => d.parameters.length) = some 0 := by decide +kernel
theorem pn_X7_word : plainName yX7_word.cls = true := by decide +kernel
theorem hd_X7_word : yX7_word.cls = RX7 ∧ yX7_word.cls ≠ "java/lang/invoke/MethodHandle" ∧ yX7_word.cls ≠ "java/lang/invoke/VarHandle" ∧ (parseMethodDescriptor yX7_word.desc).map (fun d => d.parameters.length) = some 2 := by decide +kernel
theorem pn_X7_sign : plainName yX7_sign.cls = true := by decide +kernel
theorem hd_X7_sign : yX7_sign.cls = RX7 ∧ yX7_sign.cls ≠ "java/lang/invoke/MethodHandle" ∧ yX7_sign.cls ≠ "java/lang/invoke/VarHandle" ∧ (parseMethodDescriptor yX7_sign.desc).map (fun d => d.parameters.length) = some 1 := by decide +kernel
theorem pn_X7_find : plainName yX7_find.cls = true := by decide +kernel
theorem hd_X7_find : yX7_find.cls = RX7 ∧ yX7_find.cls ≠ "java/lang/invoke/MethodHandle" ∧ yX7_find.cls ≠ "java/lang/invoke/VarHandle" ∧ (parseMethodDescriptor yX7_find.desc).map (fun d => d.parameters.length) = some 3 := by decide +kernel
theorem pn_X7_store : plainName yX7_store.cls = true := by decide +kernel
theorem hd_X7_store : yX7_store.cls = RX7 ∧ yX7_store.cls ≠ "java/lang/invoke/MethodHandle" ∧ yX7_store.cls ≠ "java/lang/invoke/VarHandle" ∧ (parseMethodDescriptor yX7_store.desc).map (fun d => d.parameters.length) = some 2 := by decide +kernel
theorem pn_X7_readCondition : plainName yX7_readCondition.cls = true := by decide +kernel
theorem hd_X7_readCondition : yX7_readCondition.cls = RX7 ∧ yX7_readCondition.cls ≠ "java/lang/invoke/MethodHandle" ∧ yX7_readCondition.cls ≠ "java/lang/invoke/VarHandle" ∧ (parseMethodDescriptor yX7_readCondition.desc).map (fun d => d.parameters.length) = some 0 := by decide +kernel
theorem pn_X7_readRule : plainName yX7_readRule.cls = true := by decide +kernel
theorem hd_X7_readRule : yX7_readRule.cls = RX7 ∧ yX7_readRule.cls ≠ "java/lang/invoke/MethodHandle" ∧ yX7_readRule.cls ≠ "java/lang/invoke/VarHandle" ∧ (parseMethodDescriptor yX7_readRule.desc).map (fun d => d.parameters.length) = some 0 := by decide +kernel
theorem pn_X7_take : plainName yX7_take.cls = true := by decide +kernel
theorem hd_X7_take : yX7_take.cls = RX7 ∧ yX7_take.cls ≠ "java/lang/invoke/MethodHandle" ∧ yX7_take.cls ≠ "java/lang/invoke/VarHandle" ∧ (parseMethodDescriptor yX7_take.desc).map (fun d => d.parameters.length) = some 0 := by decide +kernel
theorem pn_X7_read : plainName yX7_read.cls = true := by decide +kernel
theorem hd_X7_read : yX7_read.cls = RX7 ∧ yX7_read.cls ≠ "java/lang/invoke/MethodHandle" ∧ yX7_read.cls ≠ "java/lang/invoke/VarHandle" ∧ (parseMethodDescriptor yX7_read.desc).map (fun d => d.parameters.length) = some 0 := by decide +kernel
theorem pn_X7_fault : plainName yX7_fault.cls = true := by decide +kernel
theorem hd_X7_fault : yX7_fault.cls = RX7 ∧ yX7_fault.cls ≠ "java/lang/invoke/MethodHandle" ∧ yX7_fault.cls ≠ "java/lang/invoke/VarHandle" ∧ (parseMethodDescriptor yX7_fault.desc).map (fun d => d.parameters.length) = some 0 := by decide +kernel
theorem pn_X7_allCases : plainName yX7_allCases.cls = true := by decide +kernel
theorem hd_X7_allCases : yX7_allCases.cls = RX7 ∧ yX7_allCases.cls ≠ "java/lang/invoke/MethodHandle" ∧ yX7_allCases.cls ≠ "java/lang/invoke/VarHandle" ∧ (parseMethodDescriptor yX7_allCases.desc).map (fun d => d.parameters.length) = some 0 := by decide +kernel
theorem pn_X7_isMet : plainName yX7_isMet.cls = true := by decide +kernel
theorem hd_X7_isMet : yX7_isMet.cls = RX7 ∧ yX7_isMet.cls ≠ "java/lang/invoke/MethodHandle" ∧ yX7_isMet.cls ≠ "java/lang/invoke/VarHandle" ∧ (parseMethodDescriptor yX7_isMet.desc).map (fun d => d.parameters.length) = some 2 := by decide +kernel
theorem pn_X7_firstMet : plainName yX7_firstMet.cls = true := by decide +kernel
theorem hd_X7_firstMet : yX7_firstMet.cls = RX7 ∧ yX7_firstMet.cls ≠ "java/lang/invoke/MethodHandle" ∧ yX7_firstMet.cls ≠ "java/lang/invoke/VarHandle" ∧ (parseMethodDescriptor yX7_firstMet.desc).map (fun d => d.parameters.length) = some 1 := by decide +kernel
theorem pn_X7_judge : plainName yX7_judge.cls = true := by decide +kernel
theorem hd_X7_judge : yX7_judge.cls = RX7 ∧ yX7_judge.cls ≠ "java/lang/invoke/MethodHandle" ∧ yX7_judge.cls ≠ "java/lang/invoke/VarHandle" ∧ (parseMethodDescriptor yX7_judge.desc).map (fun d => d.parameters.length) = some 0 := by decide +kernel
theorem pn_X7_bits : plainName yX7_bits.cls = true := by decide +kernel
theorem hd_X7_bits : yX7_bits.cls = RX7 ∧ yX7_bits.cls ≠ "java/lang/invoke/MethodHandle" ∧ yX7_bits.cls ≠ "java/lang/invoke/VarHandle" ∧ (parseMethodDescriptor yX7_bits.desc).map (fun d => d.parameters.length) = some 1 := by decide +kernel
theorem pn_X7_canMeet : plainName yX7_canMeet.cls = true := by decide +kernel
theorem hd_X7_canMeet : yX7_canMeet.cls = RX7 ∧ yX7_canMeet.cls ≠ "java/lang/invoke/MethodHandle" ∧ yX7_canMeet.cls ≠ "java/lang/invoke/VarHandle" ∧ (parseMethodDescriptor yX7_canMeet.desc).map (fun d => d.parameters.length) = some 3 := by decide +kernel
theorem pn_X7_onlyAction : plainName yX7_onlyAction.cls = true := by decide +kernel
theorem hd_X7_onlyAction : yX7_onlyAction.cls = RX7 ∧ yX7_onlyAction.cls ≠ "java/lang/invoke/MethodHandle" ∧ yX7_onlyAction.cls ≠ "java/lang/invoke/VarHandle" ∧ (parseMethodDescriptor yX7_onlyAction.desc).map (fun d => d.parameters.length) = some 2 := by decide +kernel
theorem pn_X7_bestCondition : plainName yX7_bestCondition.cls = true := by decide +kernel
theorem hd_X7_bestCondition : yX7_bestCondition.cls = RX7 ∧ yX7_bestCondition.cls ≠ "java/lang/invoke/MethodHandle" ∧ yX7_bestCondition.cls ≠ "java/lang/invoke/VarHandle" ∧ (parseMethodDescriptor yX7_bestCondition.desc).map (fun d => d.parameters.length) = some 2 := by decide +kernel
theorem pn_X7_grow : plainName yX7_grow.cls = true := by decide +kernel
theorem hd_X7_grow : yX7_grow.cls = RX7 ∧ yX7_grow.cls ≠ "java/lang/invoke/MethodHandle" ∧ yX7_grow.cls ≠ "java/lang/invoke/VarHandle" ∧ (parseMethodDescriptor yX7_grow.desc).map (fun d => d.parameters.length) = some 0 := by decide +kernel
theorem pn_X7_write : plainName yX7_write.cls = true := by decide +kernel
theorem hd_X7_write : yX7_write.cls = RX7 ∧ yX7_write.cls ≠ "java/lang/invoke/MethodHandle" ∧ yX7_write.cls ≠ "java/lang/invoke/VarHandle" ∧ (parseMethodDescriptor yX7_write.desc).map (fun d => d.parameters.length) = some 0 := by decide +kernel
theorem pn_X7_amiss : plainName yX7_amiss.cls = true := by decide +kernel
theorem hd_X7_amiss : yX7_amiss.cls = RX7 ∧ yX7_amiss.cls ≠ "java/lang/invoke/MethodHandle" ∧ yX7_amiss.cls ≠ "java/lang/invoke/VarHandle" ∧ (parseMethodDescriptor yX7_amiss.desc).map (fun d => d.parameters.length) = some 1 := by decide +kernel
theorem pn_X7_count : plainName yX7_count.cls = true := by decide +kernel
theorem hd_X7_count : yX7_count.cls = RX7 ∧ yX7_count.cls ≠ "java/lang/invoke/MethodHandle" ∧ yX7_count.cls ≠ "java/lang/invoke/VarHandle" ∧ (parseMethodDescriptor yX7_count.desc).map (fun d => d.parameters.length) = some 1 := by decide +kernel
theorem pn_X7_rule : plainName yX7_rule.cls = true := by decide +kernel
theorem hd_X7_rule : yX7_rule.cls = RX7 ∧ yX7_rule.cls ≠ "java/lang/invoke/MethodHandle" ∧ yX7_rule.cls ≠ "java/lang/invoke/VarHandle" ∧ (parseMethodDescriptor yX7_rule.desc).map (fun d => d.parameters.length) = some 2 := by decide +kernel
theorem pn_X7_name : plainName yX7_name.cls = true := by decide +kernel
theorem hd_X7_name : yX7_name.cls = RX7 ∧ yX7_name.cls ≠ "java/lang/invoke/MethodHandle" ∧ yX7_name.cls ≠ "java/lang/invoke/VarHandle" ∧ (parseMethodDescriptor yX7_name.desc).map (fun d => d.parameters.length) = some 3 := by decide +kernel
theorem pn_X7_isCase : plainName yX7_isCase.cls = true := by decide +kernel
theorem hd_X7_isCase : yX7_isCase.cls = RX7 ∧ yX7_isCase.cls ≠ "java/lang/invoke/MethodHandle" ∧ yX7_isCase.cls ≠ "java/lang/invoke/VarHandle" ∧ (parseMethodDescriptor yX7_isCase.desc).map (fun d => d.parameters.length) = some 1 := by decide +kernel
theorem pn_X7_meets : plainName yX7_meets.cls = true := by decide +kernel
theorem hd_X7_meets : yX7_meets.cls = RX7 ∧ yX7_meets.cls ≠ "java/lang/invoke/MethodHandle" ∧ yX7_meets.cls ≠ "java/lang/invoke/VarHandle" ∧ (parseMethodDescriptor yX7_meets.desc).map (fun d => d.parameters.length) = some 1 := by decide +kernel
theorem pn_X7_cases : plainName yX7_cases.cls = true := by decide +kernel
theorem hd_X7_cases : yX7_cases.cls = RX7 ∧ yX7_cases.cls ≠ "java/lang/invoke/MethodHandle" ∧ yX7_cases.cls ≠ "java/lang/invoke/VarHandle" ∧ (parseMethodDescriptor yX7_cases.desc).map (fun d => d.parameters.length) = some 1 := by decide +kernel
theorem pn_X7_node : plainName yX7_node.cls = true := by decide +kernel
theorem hd_X7_node : yX7_node.cls = RX7 ∧ yX7_node.cls ≠ "java/lang/invoke/MethodHandle" ∧ yX7_node.cls ≠ "java/lang/invoke/VarHandle" ∧ (parseMethodDescriptor yX7_node.desc).map (fun d => d.parameters.length) = some 2 := by decide +kernel
theorem pn_X7_code : plainName yX7_code.cls = true := by decide +kernel
theorem hd_X7_code : yX7_code.cls = RX7 ∧ yX7_code.cls ≠ "java/lang/invoke/MethodHandle" ∧ yX7_code.cls ≠ "java/lang/invoke/VarHandle" ∧ (parseMethodDescriptor yX7_code.desc).map (fun d => d.parameters.length) = some 1 := by decide +kernel
theorem pn_X7_run : plainName yX7_run.cls = true := by decide +kernel
theorem hd_X7_run : yX7_run.cls = RX7 ∧ yX7_run.cls ≠ "java/lang/invoke/MethodHandle" ∧ yX7_run.cls ≠ "java/lang/invoke/VarHandle" ∧ (parseMethodDescriptor yX7_run.desc).map (fun d => d.parameters.length) = some 2 := by decide +kernel
theorem pn_X7_tests : plainName yX7_tests.cls = true := by decide +kernel
theorem hd_X7_tests : yX7_tests.cls = RX7 ∧ yX7_tests.cls ≠ "java/lang/invoke/MethodHandle" ∧ yX7_tests.cls ≠ "java/lang/invoke/VarHandle" ∧ (parseMethodDescriptor yX7_tests.desc).map (fun d => d.parameters.length) = some 0 := by decide +kernel
theorem pn_J6_bitCount_0f7a4 : plainName yJ6_bitCount_0f7a4.cls = true := by decide +kernel
theorem hd_J6_bitCount_0f7a4 : yJ6_bitCount_0f7a4.cls = RJ6 ∧ yJ6_bitCount_0f7a4.cls ≠ "java/lang/invoke/MethodHandle" ∧ yJ6_bitCount_0f7a4.cls ≠ "java/lang/invoke/VarHandle" ∧ (parseMethodDescriptor yJ6_bitCount_0f7a4.desc).map (fun d => d.parameters.length) = some 1 := by decide +kernel
theorem pn_L_type : plainName yL_type.cls = true := by decide +kernel
theorem hd_L_type : yL_type.cls = RL ∧ yL_type.cls ≠ "java/lang/invoke/MethodHandle" ∧ yL_type.cls ≠ "java/lang/invoke/VarHandle" ∧ (parseMethodDescriptor yL_type.desc).map (fun d => d.parameters.length) = some 4 := by decide +kernel
theorem pn_L_keep : plainName yL_keep.cls = true := by decide +kernel
theorem hd_L_keep : yL_keep.cls = RL ∧ yL_keep.cls ≠ "java/lang/invoke/MethodHandle" ∧ yL_keep.cls ≠ "java/lang/invoke/VarHandle" ∧ (parseMethodDescriptor yL_keep.desc).map (fun d => d.parameters.length) = some 2 := by decide +kernel
theorem pn_L_amiss : plainName yL_amiss.cls = true := by decide +kernel
theorem hd_L_amiss : yL_amiss.cls = RL ∧ yL_amiss.cls ≠ "java/lang/invoke/MethodHandle" ∧ yL_amiss.cls ≠ "java/lang/invoke/VarHandle" ∧ (parseMethodDescriptor yL_amiss.desc).map (fun d => d.parameters.length) = some 3 := by decide +kernel
theorem pn_L_count : plainName yL_count.cls = true := by decide +kernel
theorem hd_L_count : yL_count.cls = RL ∧ yL_count.cls ≠ "java/lang/invoke/MethodHandle" ∧ yL_count.cls ≠ "java/lang/invoke/VarHandle" ∧ (parseMethodDescriptor yL_count.desc).map (fun d => d.parameters.length) = some 3 := by decide +kernel
theorem pn_L_rule : plainName yL_rule.cls = true := by decide +kernel
theorem hd_L_rule : yL_rule.cls = RL ∧ yL_rule.cls ≠ "java/lang/invoke/MethodHandle" ∧ yL_rule.cls ≠ "java/lang/invoke/VarHandle" ∧ (parseMethodDescriptor yL_rule.desc).map (fun d => d.parameters.length) = some 4 := by decide +kernel
theorem pn_L_name : plainName yL_name.cls = true := by decide +kernel
theorem hd_L_name : yL_name.cls = RL ∧ yL_name.cls ≠ "java/lang/invoke/MethodHandle" ∧ yL_name.cls ≠ "java/lang/invoke/VarHandle" ∧ (parseMethodDescriptor yL_name.desc).map (fun d => d.parameters.length) = some 5 := by decide +kernel
theorem pn_L_meets : plainName yL_meets.cls = true := by decide +kernel
theorem hd_L_meets : yL_meets.cls = RL ∧ yL_meets.cls ≠ "java/lang/invoke/MethodHandle" ∧ yL_meets.cls ≠ "java/lang/invoke/VarHandle" ∧ (parseMethodDescriptor yL_meets.desc).map (fun d => d.parameters.length) = some 3 := by decide +kernel
theorem pn_L_cases : plainName yL_cases.cls = true := by decide +kernel
theorem hd_L_cases : yL_cases.cls = RL ∧ yL_cases.cls ≠ "java/lang/invoke/MethodHandle" ∧ yL_cases.cls ≠ "java/lang/invoke/VarHandle" ∧ (parseMethodDescriptor yL_cases.desc).map (fun d => d.parameters.length) = some 3 := by decide +kernel
theorem pn_L_node : plainName yL_node.cls = true := by decide +kernel
theorem hd_L_node : yL_node.cls = RL ∧ yL_node.cls ≠ "java/lang/invoke/MethodHandle" ∧ yL_node.cls ≠ "java/lang/invoke/VarHandle" ∧ (parseMethodDescriptor yL_node.desc).map (fun d => d.parameters.length) = some 4 := by decide +kernel
theorem pn_L_code : plainName yL_code.cls = true := by decide +kernel
theorem hd_L_code : yL_code.cls = RL ∧ yL_code.cls ≠ "java/lang/invoke/MethodHandle" ∧ yL_code.cls ≠ "java/lang/invoke/VarHandle" ∧ (parseMethodDescriptor yL_code.desc).map (fun d => d.parameters.length) = some 3 := by decide +kernel
theorem pn_L_run : plainName yL_run.cls = true := by decide +kernel
theorem hd_L_run : yL_run.cls = RL ∧ yL_run.cls ≠ "java/lang/invoke/MethodHandle" ∧ yL_run.cls ≠ "java/lang/invoke/VarHandle" ∧ (parseMethodDescriptor yL_run.desc).map (fun d => d.parameters.length) = some 4 := by decide +kernel
theorem pn_L_tests : plainName yL_tests.cls = true := by decide +kernel
theorem hd_L_tests : yL_tests.cls = RL ∧ yL_tests.cls ≠ "java/lang/invoke/MethodHandle" ∧ yL_tests.cls ≠ "java/lang/invoke/VarHandle" ∧ (parseMethodDescriptor yL_tests.desc).map (fun d => d.parameters.length) = some 2 := by decide +kernel
