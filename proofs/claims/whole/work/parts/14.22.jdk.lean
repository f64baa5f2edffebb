theorem hdX0_init : yX0_init.cls = RX0 ∧ yX0_init.cls ≠ "java/lang/invoke/MethodHandle" ∧ yX0_init.cls ≠ "java/lang/invoke/VarHandle" ∧ (parseMethodDescriptor yX0_init.desc).map (fun d => d.parameters.length) = some 0 := by decide +kernel
theorem hdX0_find : yX0_find.cls = RX0 ∧ yX0_find.cls ≠ "java/lang/invoke/MethodHandle" ∧ yX0_find.cls ≠ "java/lang/invoke/VarHandle" ∧ (parseMethodDescriptor yX0_find.desc).map (fun d => d.parameters.length) = some 1 := by decide +kernel
theorem hdX0_isAnswered : yX0_isAnswered.cls = RX0 ∧ yX0_isAnswered.cls ≠ "java/lang/invoke/MethodHandle" ∧ yX0_isAnswered.cls ≠ "java/lang/invoke/VarHandle" ∧ (parseMethodDescriptor yX0_isAnswered.desc).map (fun d => d.parameters.length) = some 1 := by decide +kernel
theorem hdX0_gatherPlaces : yX0_gatherPlaces.cls = RX0 ∧ yX0_gatherPlaces.cls ≠ "java/lang/invoke/MethodHandle" ∧ yX0_gatherPlaces.cls ≠ "java/lang/invoke/VarHandle" ∧ (parseMethodDescriptor yX0_gatherPlaces.desc).map (fun d => d.parameters.length) = some 0 := by decide +kernel
theorem hdX0_measureGaps : yX0_measureGaps.cls = RX0 ∧ yX0_measureGaps.cls ≠ "java/lang/invoke/MethodHandle" ∧ yX0_measureGaps.cls ≠ "java/lang/invoke/VarHandle" ∧ (parseMethodDescriptor yX0_measureGaps.desc).map (fun d => d.parameters.length) = some 0 := by decide +kernel
theorem hdX0_makeRoom : yX0_makeRoom.cls = RX0 ∧ yX0_makeRoom.cls ≠ "java/lang/invoke/MethodHandle" ∧ yX0_makeRoom.cls ≠ "java/lang/invoke/VarHandle" ∧ (parseMethodDescriptor yX0_makeRoom.desc).map (fun d => d.parameters.length) = some 1 := by decide +kernel
theorem hdX0_weighStates : yX0_weighStates.cls = RX0 ∧ yX0_weighStates.cls ≠ "java/lang/invoke/MethodHandle" ∧ yX0_weighStates.cls ≠ "java/lang/invoke/VarHandle" ∧ (parseMethodDescriptor yX0_weighStates.desc).map (fun d => d.parameters.length) = some 0 := by decide +kernel
theorem hdX0_listOpen : yX0_listOpen.cls = RX0 ∧ yX0_listOpen.cls ≠ "java/lang/invoke/MethodHandle" ∧ yX0_listOpen.cls ≠ "java/lang/invoke/VarHandle" ∧ (parseMethodDescriptor yX0_listOpen.desc).map (fun d => d.parameters.length) = some 1 := by decide +kernel
theorem hdX0_countOn : yX0_countOn.cls = RX0 ∧ yX0_countOn.cls ≠ "java/lang/invoke/MethodHandle" ∧ yX0_countOn.cls ≠ "java/lang/invoke/VarHandle" ∧ (parseMethodDescriptor yX0_countOn.desc).map (fun d => d.parameters.length) = some 0 := by decide +kernel
theorem hdX0_changesBy : yX0_changesBy.cls = RX0 ∧ yX0_changesBy.cls ≠ "java/lang/invoke/MethodHandle" ∧ yX0_changesBy.cls ≠ "java/lang/invoke/VarHandle" ∧ (parseMethodDescriptor yX0_changesBy.desc).map (fun d => d.parameters.length) = some 2 := by decide +kernel
theorem hdX0_firstLeast : yX0_firstLeast.cls = RX0 ∧ yX0_firstLeast.cls ≠ "java/lang/invoke/MethodHandle" ∧ yX0_firstLeast.cls ≠ "java/lang/invoke/VarHandle" ∧ (parseMethodDescriptor yX0_firstLeast.desc).map (fun d => d.parameters.length) = some 1 := by decide +kernel
theorem hdX0_readChain : yX0_readChain.cls = RX0 ∧ yX0_readChain.cls ≠ "java/lang/invoke/MethodHandle" ∧ yX0_readChain.cls ≠ "java/lang/invoke/VarHandle" ∧ (parseMethodDescriptor yX0_readChain.desc).map (fun d => d.parameters.length) = some 0 := by decide +kernel
theorem hdX1_init : yX1_init.cls = RX1 ∧ yX1_init.cls ≠ "java/lang/invoke/MethodHandle" ∧ yX1_init.cls ≠ "java/lang/invoke/VarHandle" ∧ (parseMethodDescriptor yX1_init.desc).map (fun d => d.parameters.length) = some 0 := by decide +kernel
theorem hdX1_copyFrom : yX1_copyFrom.cls = RX1 ∧ yX1_copyFrom.cls ≠ "java/lang/invoke/MethodHandle" ∧ yX1_copyFrom.cls ≠ "java/lang/invoke/VarHandle" ∧ (parseMethodDescriptor yX1_copyFrom.desc).map (fun d => d.parameters.length) = some 1 := by decide +kernel
theorem hdX1_restart : yX1_restart.cls = RX1 ∧ yX1_restart.cls ≠ "java/lang/invoke/MethodHandle" ∧ yX1_restart.cls ≠ "java/lang/invoke/VarHandle" ∧ (parseMethodDescriptor yX1_restart.desc).map (fun d => d.parameters.length) = some 1 := by decide +kernel
theorem hdX1_settingCount : yX1_settingCount.cls = RX1 ∧ yX1_settingCount.cls ≠ "java/lang/invoke/MethodHandle" ∧ yX1_settingCount.cls ≠ "java/lang/invoke/VarHandle" ∧ (parseMethodDescriptor yX1_settingCount.desc).map (fun d => d.parameters.length) = some 0 := by decide +kernel
theorem hdX1_hasNumber : yX1_hasNumber.cls = RX1 ∧ yX1_hasNumber.cls ≠ "java/lang/invoke/MethodHandle" ∧ yX1_hasNumber.cls ≠ "java/lang/invoke/VarHandle" ∧ (parseMethodDescriptor yX1_hasNumber.desc).map (fun d => d.parameters.length) = some 1 := by decide +kernel
theorem hdX1_hasTerm : yX1_hasTerm.cls = RX1 ∧ yX1_hasTerm.cls ≠ "java/lang/invoke/MethodHandle" ∧ yX1_hasTerm.cls ≠ "java/lang/invoke/VarHandle" ∧ (parseMethodDescriptor yX1_hasTerm.desc).map (fun d => d.parameters.length) = some 1 := by decide +kernel
theorem hdX1_dropTerm : yX1_dropTerm.cls = RX1 ∧ yX1_dropTerm.cls ≠ "java/lang/invoke/MethodHandle" ∧ yX1_dropTerm.cls ≠ "java/lang/invoke/VarHandle" ∧ (parseMethodDescriptor yX1_dropTerm.desc).map (fun d => d.parameters.length) = some 1 := by decide +kernel
theorem hdX1_tryTimes : yX1_tryTimes.cls = RX1 ∧ yX1_tryTimes.cls ≠ "java/lang/invoke/MethodHandle" ∧ yX1_tryTimes.cls ≠ "java/lang/invoke/VarHandle" ∧ (parseMethodDescriptor yX1_tryTimes.desc).map (fun d => d.parameters.length) = some 2 := by decide +kernel
theorem hdX1_tryNothing : yX1_tryNothing.cls = RX1 ∧ yX1_tryNothing.cls ≠ "java/lang/invoke/MethodHandle" ∧ yX1_tryNothing.cls ≠ "java/lang/invoke/VarHandle" ∧ (parseMethodDescriptor yX1_tryNothing.desc).map (fun d => d.parameters.length) = some 0 := by decide +kernel
theorem hdX1_takePlan : yX1_takePlan.cls = RX1 ∧ yX1_takePlan.cls ≠ "java/lang/invoke/MethodHandle" ∧ yX1_takePlan.cls ≠ "java/lang/invoke/VarHandle" ∧ (parseMethodDescriptor yX1_takePlan.desc).map (fun d => d.parameters.length) = some 1 := by decide +kernel
theorem hdX1_triedSettings : yX1_triedSettings.cls = RX1 ∧ yX1_triedSettings.cls ≠ "java/lang/invoke/MethodHandle" ∧ yX1_triedSettings.cls ≠ "java/lang/invoke/VarHandle" ∧ (parseMethodDescriptor yX1_triedSettings.desc).map (fun d => d.parameters.length) = some 0 := by decide +kernel
theorem hdX1_markOf : yX1_markOf.cls = RX1 ∧ yX1_markOf.cls ≠ "java/lang/invoke/MethodHandle" ∧ yX1_markOf.cls ≠ "java/lang/invoke/VarHandle" ∧ (parseMethodDescriptor yX1_markOf.desc).map (fun d => d.parameters.length) = some 2 := by decide +kernel
theorem hdX1_signsAt : yX1_signsAt.cls = RX1 ∧ yX1_signsAt.cls ≠ "java/lang/invoke/MethodHandle" ∧ yX1_signsAt.cls ≠ "java/lang/invoke/VarHandle" ∧ (parseMethodDescriptor yX1_signsAt.desc).map (fun d => d.parameters.length) = some 1 := by decide +kernel
theorem hdX1_kindOf : yX1_kindOf.cls = RX1 ∧ yX1_kindOf.cls ≠ "java/lang/invoke/MethodHandle" ∧ yX1_kindOf.cls ≠ "java/lang/invoke/VarHandle" ∧ (parseMethodDescriptor yX1_kindOf.desc).map (fun d => d.parameters.length) = some 1 := by decide +kernel
theorem hdX1_wordCount : yX1_wordCount.cls = RX1 ∧ yX1_wordCount.cls ≠ "java/lang/invoke/MethodHandle" ∧ yX1_wordCount.cls ≠ "java/lang/invoke/VarHandle" ∧ (parseMethodDescriptor yX1_wordCount.desc).map (fun d => d.parameters.length) = some 0 := by decide +kernel
theorem hdX1_isInPart : yX1_isInPart.cls = RX1 ∧ yX1_isInPart.cls ≠ "java/lang/invoke/MethodHandle" ∧ yX1_isInPart.cls ≠ "java/lang/invoke/VarHandle" ∧ (parseMethodDescriptor yX1_isInPart.desc).map (fun d => d.parameters.length) = some 1 := by decide +kernel
theorem hdX1_productsWithout : yX1_productsWithout.cls = RX1 ∧ yX1_productsWithout.cls ≠ "java/lang/invoke/MethodHandle" ∧ yX1_productsWithout.cls ≠ "java/lang/invoke/VarHandle" ∧ (parseMethodDescriptor yX1_productsWithout.desc).map (fun d => d.parameters.length) = some 1 := by decide +kernel
theorem hdX1_multiplied : yX1_multiplied.cls = RX1 ∧ yX1_multiplied.cls ≠ "java/lang/invoke/MethodHandle" ∧ yX1_multiplied.cls ≠ "java/lang/invoke/VarHandle" ∧ (parseMethodDescriptor yX1_multiplied.desc).map (fun d => d.parameters.length) = some 2 := by decide +kernel
theorem hdX1_hasMember : yX1_hasMember.cls = RX1 ∧ yX1_hasMember.cls ≠ "java/lang/invoke/MethodHandle" ∧ yX1_hasMember.cls ≠ "java/lang/invoke/VarHandle" ∧ (parseMethodDescriptor yX1_hasMember.desc).map (fun d => d.parameters.length) = some 2 := by decide +kernel
theorem hdX1_seeOne : yX1_seeOne.cls = RX1 ∧ yX1_seeOne.cls ≠ "java/lang/invoke/MethodHandle" ∧ yX1_seeOne.cls ≠ "java/lang/invoke/VarHandle" ∧ (parseMethodDescriptor yX1_seeOne.desc).map (fun d => d.parameters.length) = some 2 := by decide +kernel
theorem hdX1_seeNothing : yX1_seeNothing.cls = RX1 ∧ yX1_seeNothing.cls ≠ "java/lang/invoke/MethodHandle" ∧ yX1_seeNothing.cls ≠ "java/lang/invoke/VarHandle" ∧ (parseMethodDescriptor yX1_seeNothing.desc).map (fun d => d.parameters.length) = some 0 := by decide +kernel
theorem hdX2_init : yX2_init.cls = RX2 ∧ yX2_init.cls ≠ "java/lang/invoke/MethodHandle" ∧ yX2_init.cls ≠ "java/lang/invoke/VarHandle" ∧ (parseMethodDescriptor yX2_init.desc).map (fun d => d.parameters.length) = some 0 := by decide +kernel
theorem hdX2_cellAt : yX2_cellAt.cls = RX2 ∧ yX2_cellAt.cls ≠ "java/lang/invoke/MethodHandle" ∧ yX2_cellAt.cls ≠ "java/lang/invoke/VarHandle" ∧ (parseMethodDescriptor yX2_cellAt.desc).map (fun d => d.parameters.length) = some 2 := by decide +kernel
theorem hdX2_copyFrom : yX2_copyFrom.cls = RX2 ∧ yX2_copyFrom.cls ≠ "java/lang/invoke/MethodHandle" ∧ yX2_copyFrom.cls ≠ "java/lang/invoke/VarHandle" ∧ (parseMethodDescriptor yX2_copyFrom.desc).map (fun d => d.parameters.length) = some 1 := by decide +kernel
theorem hdX2_empty : yX2_empty.cls = RX2 ∧ yX2_empty.cls ≠ "java/lang/invoke/MethodHandle" ∧ yX2_empty.cls ≠ "java/lang/invoke/VarHandle" ∧ (parseMethodDescriptor yX2_empty.desc).map (fun d => d.parameters.length) = some 1 := by decide +kernel
theorem hdX2_fill : yX2_fill.cls = RX2 ∧ yX2_fill.cls ≠ "java/lang/invoke/MethodHandle" ∧ yX2_fill.cls ≠ "java/lang/invoke/VarHandle" ∧ (parseMethodDescriptor yX2_fill.desc).map (fun d => d.parameters.length) = some 2 := by decide +kernel
theorem hdX2_shift : yX2_shift.cls = RX2 ∧ yX2_shift.cls ≠ "java/lang/invoke/MethodHandle" ∧ yX2_shift.cls ≠ "java/lang/invoke/VarHandle" ∧ (parseMethodDescriptor yX2_shift.desc).map (fun d => d.parameters.length) = some 2 := by decide +kernel
theorem hdX2_determinant : yX2_determinant.cls = RX2 ∧ yX2_determinant.cls ≠ "java/lang/invoke/MethodHandle" ∧ yX2_determinant.cls ≠ "java/lang/invoke/VarHandle" ∧ (parseMethodDescriptor yX2_determinant.desc).map (fun d => d.parameters.length) = some 0 := by decide +kernel
theorem hdX2_sweep : yX2_sweep.cls = RX2 ∧ yX2_sweep.cls ≠ "java/lang/invoke/MethodHandle" ∧ yX2_sweep.cls ≠ "java/lang/invoke/VarHandle" ∧ (parseMethodDescriptor yX2_sweep.desc).map (fun d => d.parameters.length) = some 0 := by decide +kernel
theorem hdX2_sweepLine : yX2_sweepLine.cls = RX2 ∧ yX2_sweepLine.cls ≠ "java/lang/invoke/MethodHandle" ∧ yX2_sweepLine.cls ≠ "java/lang/invoke/VarHandle" ∧ (parseMethodDescriptor yX2_sweepLine.desc).map (fun d => d.parameters.length) = some 2 := by decide +kernel
theorem hdX2_reaches : yX2_reaches.cls = RX2 ∧ yX2_reaches.cls ≠ "java/lang/invoke/MethodHandle" ∧ yX2_reaches.cls ≠ "java/lang/invoke/VarHandle" ∧ (parseMethodDescriptor yX2_reaches.desc).map (fun d => d.parameters.length) = some 1 := by decide +kernel
theorem hdX2_measure : yX2_measure.cls = RX2 ∧ yX2_measure.cls ≠ "java/lang/invoke/MethodHandle" ∧ yX2_measure.cls ≠ "java/lang/invoke/VarHandle" ∧ (parseMethodDescriptor yX2_measure.desc).map (fun d => d.parameters.length) = some 2 := by decide +kernel
theorem hdX3_init : yX3_init.cls = RX3 ∧ yX3_init.cls ≠ "java/lang/invoke/MethodHandle" ∧ yX3_init.cls ≠ "java/lang/invoke/VarHandle" ∧ (parseMethodDescriptor yX3_init.desc).map (fun d => d.parameters.length) = some 0 := by decide +kernel
theorem hdX3_keep : yX3_keep.cls = RX3 ∧ yX3_keep.cls ≠ "java/lang/invoke/MethodHandle" ∧ yX3_keep.cls ≠ "java/lang/invoke/VarHandle" ∧ (parseMethodDescriptor yX3_keep.desc).map (fun d => d.parameters.length) = some 1 := by decide +kernel
theorem hdX3_takeBack : yX3_takeBack.cls = RX3 ∧ yX3_takeBack.cls ≠ "java/lang/invoke/MethodHandle" ∧ yX3_takeBack.cls ≠ "java/lang/invoke/VarHandle" ∧ (parseMethodDescriptor yX3_takeBack.desc).map (fun d => d.parameters.length) = some 1 := by decide +kernel
theorem hdX4_init : yX4_init.cls = RX4 ∧ yX4_init.cls ≠ "java/lang/invoke/MethodHandle" ∧ yX4_init.cls ≠ "java/lang/invoke/VarHandle" ∧ (parseMethodDescriptor yX4_init.desc).map (fun d => d.parameters.length) = some 0 := by decide +kernel
theorem hdX4_find : yX4_find.cls = RX4 ∧ yX4_find.cls ≠ "java/lang/invoke/MethodHandle" ∧ yX4_find.cls ≠ "java/lang/invoke/VarHandle" ∧ (parseMethodDescriptor yX4_find.desc).map (fun d => d.parameters.length) = some 2 := by decide +kernel
theorem hdX4_extend : yX4_extend.cls = RX4 ∧ yX4_extend.cls ≠ "java/lang/invoke/MethodHandle" ∧ yX4_extend.cls ≠ "java/lang/invoke/VarHandle" ∧ (parseMethodDescriptor yX4_extend.desc).map (fun d => d.parameters.length) = some 3 := by decide +kernel
theorem hdX4_greatestFactor : yX4_greatestFactor.cls = RX4 ∧ yX4_greatestFactor.cls ≠ "java/lang/invoke/MethodHandle" ∧ yX4_greatestFactor.cls ≠ "java/lang/invoke/VarHandle" ∧ (parseMethodDescriptor yX4_greatestFactor.desc).map (fun d => d.parameters.length) = some 1 := by decide +kernel
theorem hdX4_multiply : yX4_multiply.cls = RX4 ∧ yX4_multiply.cls ≠ "java/lang/invoke/MethodHandle" ∧ yX4_multiply.cls ≠ "java/lang/invoke/VarHandle" ∧ (parseMethodDescriptor yX4_multiply.desc).map (fun d => d.parameters.length) = some 2 := by decide +kernel
theorem hdX4_judge : yX4_judge.cls = RX4 ∧ yX4_judge.cls ≠ "java/lang/invoke/MethodHandle" ∧ yX4_judge.cls ≠ "java/lang/invoke/VarHandle" ∧ (parseMethodDescriptor yX4_judge.desc).map (fun d => d.parameters.length) = some 1 := by decide +kernel
theorem hdX5_init : yX5_init.cls = RX5 ∧ yX5_init.cls ≠ "java/lang/invoke/MethodHandle" ∧ yX5_init.cls ≠ "java/lang/invoke/VarHandle" ∧ (parseMethodDescriptor yX5_init.desc).map (fun d => d.parameters.length) = some 0 := by decide +kernel
theorem hdX5_find : yX5_find.cls = RX5 ∧ yX5_find.cls ≠ "java/lang/invoke/MethodHandle" ∧ yX5_find.cls ≠ "java/lang/invoke/VarHandle" ∧ (parseMethodDescriptor yX5_find.desc).map (fun d => d.parameters.length) = some 2 := by decide +kernel
theorem hdX5_isAnswered : yX5_isAnswered.cls = RX5 ∧ yX5_isAnswered.cls ≠ "java/lang/invoke/MethodHandle" ∧ yX5_isAnswered.cls ≠ "java/lang/invoke/VarHandle" ∧ (parseMethodDescriptor yX5_isAnswered.desc).map (fun d => d.parameters.length) = some 2 := by decide +kernel
theorem hdX5_noteAsked : yX5_noteAsked.cls = RX5 ∧ yX5_noteAsked.cls ≠ "java/lang/invoke/MethodHandle" ∧ yX5_noteAsked.cls ≠ "java/lang/invoke/VarHandle" ∧ (parseMethodDescriptor yX5_noteAsked.desc).map (fun d => d.parameters.length) = some 2 := by decide +kernel
theorem hdX5_countPlans : yX5_countPlans.cls = RX5 ∧ yX5_countPlans.cls ≠ "java/lang/invoke/MethodHandle" ∧ yX5_countPlans.cls ≠ "java/lang/invoke/VarHandle" ∧ (parseMethodDescriptor yX5_countPlans.desc).map (fun d => d.parameters.length) = some 0 := by decide +kernel
theorem hdX5_place : yX5_place.cls = RX5 ∧ yX5_place.cls ≠ "java/lang/invoke/MethodHandle" ∧ yX5_place.cls ≠ "java/lang/invoke/VarHandle" ∧ (parseMethodDescriptor yX5_place.desc).map (fun d => d.parameters.length) = some 2 := by decide +kernel
theorem hdX5_judge : yX5_judge.cls = RX5 ∧ yX5_judge.cls ≠ "java/lang/invoke/MethodHandle" ∧ yX5_judge.cls ≠ "java/lang/invoke/VarHandle" ∧ (parseMethodDescriptor yX5_judge.desc).map (fun d => d.parameters.length) = some 1 := by decide +kernel
theorem hdX5_countBests : yX5_countBests.cls = RX5 ∧ yX5_countBests.cls ≠ "java/lang/invoke/MethodHandle" ∧ yX5_countBests.cls ≠ "java/lang/invoke/VarHandle" ∧ (parseMethodDescriptor yX5_countBests.desc).map (fun d => d.parameters.length) = some 0 := by decide +kernel
theorem hdX6_init : yX6_init.cls = RX6 ∧ yX6_init.cls ≠ "java/lang/invoke/MethodHandle" ∧ yX6_init.cls ≠ "java/lang/invoke/VarHandle" ∧ (parseMethodDescriptor yX6_init.desc).map (fun d => d.parameters.length) = some 0 := by decide +kernel
theorem hdX6_factors : yX6_factors.cls = RX6 ∧ yX6_factors.cls ≠ "java/lang/invoke/MethodHandle" ∧ yX6_factors.cls ≠ "java/lang/invoke/VarHandle" ∧ (parseMethodDescriptor yX6_factors.desc).map (fun d => d.parameters.length) = some 1 := by decide +kernel
theorem hdX6_term : yX6_term.cls = RX6 ∧ yX6_term.cls ≠ "java/lang/invoke/MethodHandle" ∧ yX6_term.cls ≠ "java/lang/invoke/VarHandle" ∧ (parseMethodDescriptor yX6_term.desc).map (fun d => d.parameters.length) = some 1 := by decide +kernel
theorem hdX6_drop : yX6_drop.cls = RX6 ∧ yX6_drop.cls ≠ "java/lang/invoke/MethodHandle" ∧ yX6_drop.cls ≠ "java/lang/invoke/VarHandle" ∧ (parseMethodDescriptor yX6_drop.desc).map (fun d => d.parameters.length) = some 1 := by decide +kernel
theorem hdX6_plan : yX6_plan.cls = RX6 ∧ yX6_plan.cls ≠ "java/lang/invoke/MethodHandle" ∧ yX6_plan.cls ≠ "java/lang/invoke/VarHandle" ∧ (parseMethodDescriptor yX6_plan.desc).map (fun d => d.parameters.length) = some 2 := by decide +kernel
theorem hdX6_clear : yX6_clear.cls = RX6 ∧ yX6_clear.cls ≠ "java/lang/invoke/MethodHandle" ∧ yX6_clear.cls ≠ "java/lang/invoke/VarHandle" ∧ (parseMethodDescriptor yX6_clear.desc).map (fun d => d.parameters.length) = some 0 := by decide +kernel
theorem hdX6_about : yX6_about.cls = RX6 ∧ yX6_about.cls ≠ "java/lang/invoke/MethodHandle" ∧ yX6_about.cls ≠ "java/lang/invoke/VarHandle" ∧ (parseMethodDescriptor yX6_about.desc).map (fun d => d.parameters.length) = some 1 := by decide +kernel
theorem hdX6_aboutOne : yX6_aboutOne.cls = RX6 ∧ yX6_aboutOne.cls ≠ "java/lang/invoke/MethodHandle" ∧ yX6_aboutOne.cls ≠ "java/lang/invoke/VarHandle" ∧ (parseMethodDescriptor yX6_aboutOne.desc).map (fun d => d.parameters.length) = some 1 := by decide +kernel
theorem hdX6_mark : yX6_mark.cls = RX6 ∧ yX6_mark.cls ≠ "java/lang/invoke/MethodHandle" ∧ yX6_mark.cls ≠ "java/lang/invoke/VarHandle" ∧ (parseMethodDescriptor yX6_mark.desc).map (fun d => d.parameters.length) = some 2 := by decide +kernel
theorem hdX6_table : yX6_table.cls = RX6 ∧ yX6_table.cls ≠ "java/lang/invoke/MethodHandle" ∧ yX6_table.cls ≠ "java/lang/invoke/VarHandle" ∧ (parseMethodDescriptor yX6_table.desc).map (fun d => d.parameters.length) = some 2 := by decide +kernel
theorem hdX6_worth : yX6_worth.cls = RX6 ∧ yX6_worth.cls ≠ "java/lang/invoke/MethodHandle" ∧ yX6_worth.cls ≠ "java/lang/invoke/VarHandle" ∧ (parseMethodDescriptor yX6_worth.desc).map (fun d => d.parameters.length) = some 0 := by decide +kernel
theorem hdX6_known : yX6_known.cls = RX6 ∧ yX6_known.cls ≠ "java/lang/invoke/MethodHandle" ∧ yX6_known.cls ≠ "java/lang/invoke/VarHandle" ∧ (parseMethodDescriptor yX6_known.desc).map (fun d => d.parameters.length) = some 5 := by decide +kernel
theorem hdX6_spread : yX6_spread.cls = RX6 ∧ yX6_spread.cls ≠ "java/lang/invoke/MethodHandle" ∧ yX6_spread.cls ≠ "java/lang/invoke/VarHandle" ∧ (parseMethodDescriptor yX6_spread.desc).map (fun d => d.parameters.length) = some 6 := by decide +kernel
theorem hdX6_widest : yX6_widest.cls = RX6 ∧ yX6_widest.cls ≠ "java/lang/invoke/MethodHandle" ∧ yX6_widest.cls ≠ "java/lang/invoke/VarHandle" ∧ (parseMethodDescriptor yX6_widest.desc).map (fun d => d.parameters.length) = some 1 := by decide +kernel
theorem hdX6_needed : yX6_needed.cls = RX6 ∧ yX6_needed.cls ≠ "java/lang/invoke/MethodHandle" ∧ yX6_needed.cls ≠ "java/lang/invoke/VarHandle" ∧ (parseMethodDescriptor yX6_needed.desc).map (fun d => d.parameters.length) = some 0 := by decide +kernel
theorem hdX6_sweepPlan : yX6_sweepPlan.cls = RX6 ∧ yX6_sweepPlan.cls ≠ "java/lang/invoke/MethodHandle" ∧ yX6_sweepPlan.cls ≠ "java/lang/invoke/VarHandle" ∧ (parseMethodDescriptor yX6_sweepPlan.desc).map (fun d => d.parameters.length) = some 0 := by decide +kernel
theorem hdX6_spreadAt : yX6_spreadAt.cls = RX6 ∧ yX6_spreadAt.cls ≠ "java/lang/invoke/MethodHandle" ∧ yX6_spreadAt.cls ≠ "java/lang/invoke/VarHandle" ∧ (parseMethodDescriptor yX6_spreadAt.desc).map (fun d => d.parameters.length) = some 1 := by decide +kernel
theorem hdX6_takeSum : yX6_takeSum.cls = RX6 ∧ yX6_takeSum.cls ≠ "java/lang/invoke/MethodHandle" ∧ yX6_takeSum.cls ≠ "java/lang/invoke/VarHandle" ∧ (parseMethodDescriptor yX6_takeSum.desc).map (fun d => d.parameters.length) = some 5 := by decide +kernel
theorem hdX6_isFractionPart : yX6_isFractionPart.cls = RX6 ∧ yX6_isFractionPart.cls ≠ "java/lang/invoke/MethodHandle" ∧ yX6_isFractionPart.cls ≠ "java/lang/invoke/VarHandle" ∧ (parseMethodDescriptor yX6_isFractionPart.desc).map (fun d => d.parameters.length) = some 1 := by decide +kernel
theorem hdX6_partOfFraction : yX6_partOfFraction.cls = RX6 ∧ yX6_partOfFraction.cls ≠ "java/lang/invoke/MethodHandle" ∧ yX6_partOfFraction.cls ≠ "java/lang/invoke/VarHandle" ∧ (parseMethodDescriptor yX6_partOfFraction.desc).map (fun d => d.parameters.length) = some 3 := by decide +kernel
theorem hdX6_commonDivisor : yX6_commonDivisor.cls = RX6 ∧ yX6_commonDivisor.cls ≠ "java/lang/invoke/MethodHandle" ∧ yX6_commonDivisor.cls ≠ "java/lang/invoke/VarHandle" ∧ (parseMethodDescriptor yX6_commonDivisor.desc).map (fun d => d.parameters.length) = some 2 := by decide +kernel
theorem hdX6_best : yX6_best.cls = RX6 ∧ yX6_best.cls ≠ "java/lang/invoke/MethodHandle" ∧ yX6_best.cls ≠ "java/lang/invoke/VarHandle" ∧ (parseMethodDescriptor yX6_best.desc).map (fun d => d.parameters.length) = some 1 := by decide +kernel
theorem hdX6_bests : yX6_bests.cls = RX6 ∧ yX6_bests.cls ≠ "java/lang/invoke/MethodHandle" ∧ yX6_bests.cls ≠ "java/lang/invoke/VarHandle" ∧ (parseMethodDescriptor yX6_bests.desc).map (fun d => d.parameters.length) = some 1 := by decide +kernel
theorem hdX6_swap : yX6_swap.cls = RX6 ∧ yX6_swap.cls ≠ "java/lang/invoke/MethodHandle" ∧ yX6_swap.cls ≠ "java/lang/invoke/VarHandle" ∧ (parseMethodDescriptor yX6_swap.desc).map (fun d => d.parameters.length) = some 0 := by decide +kernel
theorem hdX6_prepareSwaps : yX6_prepareSwaps.cls = RX6 ∧ yX6_prepareSwaps.cls ≠ "java/lang/invoke/MethodHandle" ∧ yX6_prepareSwaps.cls ≠ "java/lang/invoke/VarHandle" ∧ (parseMethodDescriptor yX6_prepareSwaps.desc).map (fun d => d.parameters.length) = some 0 := by decide +kernel
theorem hdX6_worthOfSwap : yX6_worthOfSwap.cls = RX6 ∧ yX6_worthOfSwap.cls ≠ "java/lang/invoke/MethodHandle" ∧ yX6_worthOfSwap.cls ≠ "java/lang/invoke/VarHandle" ∧ (parseMethodDescriptor yX6_worthOfSwap.desc).map (fun d => d.parameters.length) = some 2 := by decide +kernel
theorem hdX6_next : yX6_next.cls = RX6 ∧ yX6_next.cls ≠ "java/lang/invoke/MethodHandle" ∧ yX6_next.cls ≠ "java/lang/invoke/VarHandle" ∧ (parseMethodDescriptor yX6_next.desc).map (fun d => d.parameters.length) = some 0 := by decide +kernel
theorem hdX6_word : yX6_word.cls = RX6 ∧ yX6_word.cls ≠ "java/lang/invoke/MethodHandle" ∧ yX6_word.cls ≠ "java/lang/invoke/VarHandle" ∧ (parseMethodDescriptor yX6_word.desc).map (fun d => d.parameters.length) = some 3 := by decide +kernel
theorem hdX6_part : yX6_part.cls = RX6 ∧ yX6_part.cls ≠ "java/lang/invoke/MethodHandle" ∧ yX6_part.cls ≠ "java/lang/invoke/VarHandle" ∧ (parseMethodDescriptor yX6_part.desc).map (fun d => d.parameters.length) = some 1 := by decide +kernel
theorem hdX6_alike : yX6_alike.cls = RX6 ∧ yX6_alike.cls ≠ "java/lang/invoke/MethodHandle" ∧ yX6_alike.cls ≠ "java/lang/invoke/VarHandle" ∧ (parseMethodDescriptor yX6_alike.desc).map (fun d => d.parameters.length) = some 1 := by decide +kernel
theorem hdX6_alikeOf : yX6_alikeOf.cls = RX6 ∧ yX6_alikeOf.cls ≠ "java/lang/invoke/MethodHandle" ∧ yX6_alikeOf.cls ≠ "java/lang/invoke/VarHandle" ∧ (parseMethodDescriptor yX6_alikeOf.desc).map (fun d => d.parameters.length) = some 2 := by decide +kernel
theorem hdX6_length : yX6_length.cls = RX6 ∧ yX6_length.cls ≠ "java/lang/invoke/MethodHandle" ∧ yX6_length.cls ≠ "java/lang/invoke/VarHandle" ∧ (parseMethodDescriptor yX6_length.desc).map (fun d => d.parameters.length) = some 1 := by decide +kernel
theorem hdX6_bestPart : yX6_bestPart.cls = RX6 ∧ yX6_bestPart.cls ≠ "java/lang/invoke/MethodHandle" ∧ yX6_bestPart.cls ≠ "java/lang/invoke/VarHandle" ∧ (parseMethodDescriptor yX6_bestPart.desc).map (fun d => d.parameters.length) = some 1 := by decide +kernel
theorem hdX6_chain : yX6_chain.cls = RX6 ∧ yX6_chain.cls ≠ "java/lang/invoke/MethodHandle" ∧ yX6_chain.cls ≠ "java/lang/invoke/VarHandle" ∧ (parseMethodDescriptor yX6_chain.desc).map (fun d => d.parameters.length) = some 0 := by decide +kernel
theorem hdX6_chainOf : yX6_chainOf.cls = RX6 ∧ yX6_chainOf.cls ≠ "java/lang/invoke/MethodHandle" ∧ yX6_chainOf.cls ≠ "java/lang/invoke/VarHandle" ∧ (parseMethodDescriptor yX6_chainOf.desc).map (fun d => d.parameters.length) = some 1 := by decide +kernel
theorem hdX6_see : yX6_see.cls = RX6 ∧ yX6_see.cls ≠ "java/lang/invoke/MethodHandle" ∧ yX6_see.cls ≠ "java/lang/invoke/VarHandle" ∧ (parseMethodDescriptor yX6_see.desc).map (fun d => d.parameters.length) = some 2 := by decide +kernel
theorem hdX6_forget : yX6_forget.cls = RX6 ∧ yX6_forget.cls ≠ "java/lang/invoke/MethodHandle" ∧ yX6_forget.cls ≠ "java/lang/invoke/VarHandle" ∧ (parseMethodDescriptor yX6_forget.desc).map (fun d => d.parameters.length) = some 0 := by decide +kernel
theorem hdX6_weight : yX6_weight.cls = RX6 ∧ yX6_weight.cls ≠ "java/lang/invoke/MethodHandle" ∧ yX6_weight.cls ≠ "java/lang/invoke/VarHandle" ∧ (parseMethodDescriptor yX6_weight.desc).map (fun d => d.parameters.length) = some 6 := by decide +kernel
theorem hdX6_miss : yX6_miss.cls = RX6 ∧ yX6_miss.cls ≠ "java/lang/invoke/MethodHandle" ∧ yX6_miss.cls ≠ "java/lang/invoke/VarHandle" ∧ (parseMethodDescriptor yX6_miss.desc).map (fun d => d.parameters.length) = some 1 := by decide +kernel
theorem hdX6_sweepSeen : yX6_sweepSeen.cls = RX6 ∧ yX6_sweepSeen.cls ≠ "java/lang/invoke/MethodHandle" ∧ yX6_sweepSeen.cls ≠ "java/lang/invoke/VarHandle" ∧ (parseMethodDescriptor yX6_sweepSeen.desc).map (fun d => d.parameters.length) = some 0 := by decide +kernel
theorem hdX6_undo : yX6_undo.cls = RX6 ∧ yX6_undo.cls ≠ "java/lang/invoke/MethodHandle" ∧ yX6_undo.cls ≠ "java/lang/invoke/VarHandle" ∧ (parseMethodDescriptor yX6_undo.desc).map (fun d => d.parameters.length) = some 0 := by decide +kernel
theorem hdX7_init : yX7_init.cls = RX7 ∧ yX7_init.cls ≠ "java/lang/invoke/MethodHandle" ∧ yX7_init.cls ≠ "java/lang/invoke/VarHandle" ∧ (parseMethodDescriptor yX7_init.desc).map (fun d => d.parameters.length) = some 0 := by decide +kernel
theorem hdX7_begins : yX7_begins.cls = RX7 ∧ yX7_begins.cls ≠ "java/lang/invoke/MethodHandle" ∧ yX7_begins.cls ≠ "java/lang/invoke/VarHandle" ∧ (parseMethodDescriptor yX7_begins.desc).map (fun d => d.parameters.length) = some 0 := by decide +kernel
theorem hdX7_lays : yX7_lays.cls = RX7 ∧ yX7_lays.cls ≠ "java/lang/invoke/MethodHandle" ∧ yX7_lays.cls ≠ "java/lang/invoke/VarHandle" ∧ (parseMethodDescriptor yX7_lays.desc).map (fun d => d.parameters.length) = some 1 := by decide +kernel
theorem hdX7_keep : yX7_keep.cls = RX7 ∧ yX7_keep.cls ≠ "java/lang/invoke/MethodHandle" ∧ yX7_keep.cls ≠ "java/lang/invoke/VarHandle" ∧ (parseMethodDescriptor yX7_keep.desc).map (fun d => d.parameters.length) = some 0 := by decide +kernel
theorem hdX7_undo : yX7_undo.cls = RX7 ∧ yX7_undo.cls ≠ "java/lang/invoke/MethodHandle" ∧ yX7_undo.cls ≠ "java/lang/invoke/VarHandle" ∧ (parseMethodDescriptor yX7_undo.desc).map (fun d => d.parameters.length) = some 0 := by decide +kernel
theorem hdX7_factors : yX7_factors.cls = RX7 ∧ yX7_factors.cls ≠ "java/lang/invoke/MethodHandle" ∧ yX7_factors.cls ≠ "java/lang/invoke/VarHandle" ∧ (parseMethodDescriptor yX7_factors.desc).map (fun d => d.parameters.length) = some 1 := by decide +kernel
theorem hdX7_settings : yX7_settings.cls = RX7 ∧ yX7_settings.cls ≠ "java/lang/invoke/MethodHandle" ∧ yX7_settings.cls ≠ "java/lang/invoke/VarHandle" ∧ (parseMethodDescriptor yX7_settings.desc).map (fun d => d.parameters.length) = some 0 := by decide +kernel
theorem hdX7_isSetting : yX7_isSetting.cls = RX7 ∧ yX7_isSetting.cls ≠ "java/lang/invoke/MethodHandle" ∧ yX7_isSetting.cls ≠ "java/lang/invoke/VarHandle" ∧ (parseMethodDescriptor yX7_isSetting.desc).map (fun d => d.parameters.length) = some 1 := by decide +kernel
theorem hdX7_term : yX7_term.cls = RX7 ∧ yX7_term.cls ≠ "java/lang/invoke/MethodHandle" ∧ yX7_term.cls ≠ "java/lang/invoke/VarHandle" ∧ (parseMethodDescriptor yX7_term.desc).map (fun d => d.parameters.length) = some 1 := by decide +kernel
theorem hdX7_drop : yX7_drop.cls = RX7 ∧ yX7_drop.cls ≠ "java/lang/invoke/MethodHandle" ∧ yX7_drop.cls ≠ "java/lang/invoke/VarHandle" ∧ (parseMethodDescriptor yX7_drop.desc).map (fun d => d.parameters.length) = some 1 := by decide +kernel
theorem hdX7_trials : yX7_trials.cls = RX7 ∧ yX7_trials.cls ≠ "java/lang/invoke/MethodHandle" ∧ yX7_trials.cls ≠ "java/lang/invoke/VarHandle" ∧ (parseMethodDescriptor yX7_trials.desc).map (fun d => d.parameters.length) = some 0 := by decide +kernel
theorem hdX7_plan : yX7_plan.cls = RX7 ∧ yX7_plan.cls ≠ "java/lang/invoke/MethodHandle" ∧ yX7_plan.cls ≠ "java/lang/invoke/VarHandle" ∧ (parseMethodDescriptor yX7_plan.desc).map (fun d => d.parameters.length) = some 2 := by decide +kernel
theorem hdX7_clear : yX7_clear.cls = RX7 ∧ yX7_clear.cls ≠ "java/lang/invoke/MethodHandle" ∧ yX7_clear.cls ≠ "java/lang/invoke/VarHandle" ∧ (parseMethodDescriptor yX7_clear.desc).map (fun d => d.parameters.length) = some 0 := by decide +kernel
theorem hdX7_ones : yX7_ones.cls = RX7 ∧ yX7_ones.cls ≠ "java/lang/invoke/MethodHandle" ∧ yX7_ones.cls ≠ "java/lang/invoke/VarHandle" ∧ (parseMethodDescriptor yX7_ones.desc).map (fun d => d.parameters.length) = some 1 := by decide +kernel
theorem hdX7_markOf : yX7_markOf.cls = RX7 ∧ yX7_markOf.cls ≠ "java/lang/invoke/MethodHandle" ∧ yX7_markOf.cls ≠ "java/lang/invoke/VarHandle" ∧ (parseMethodDescriptor yX7_markOf.desc).map (fun d => d.parameters.length) = some 2 := by decide +kernel
theorem hdX7_mark : yX7_mark.cls = RX7 ∧ yX7_mark.cls ≠ "java/lang/invoke/MethodHandle" ∧ yX7_mark.cls ≠ "java/lang/invoke/VarHandle" ∧ (parseMethodDescriptor yX7_mark.desc).map (fun d => d.parameters.length) = some 2 := by decide +kernel
theorem hdX7_tables : yX7_tables.cls = RX7 ∧ yX7_tables.cls ≠ "java/lang/invoke/MethodHandle" ∧ yX7_tables.cls ≠ "java/lang/invoke/VarHandle" ∧ (parseMethodDescriptor yX7_tables.desc).map (fun d => d.parameters.length) = some 1 := by decide +kernel
theorem hdX7_worthOf : yX7_worthOf.cls = RX7 ∧ yX7_worthOf.cls ≠ "java/lang/invoke/MethodHandle" ∧ yX7_worthOf.cls ≠ "java/lang/invoke/VarHandle" ∧ (parseMethodDescriptor yX7_worthOf.desc).map (fun d => d.parameters.length) = some 1 := by decide +kernel
theorem hdX7_wholeWorth : yX7_wholeWorth.cls = RX7 ∧ yX7_wholeWorth.cls ≠ "java/lang/invoke/MethodHandle" ∧ yX7_wholeWorth.cls ≠ "java/lang/invoke/VarHandle" ∧ (parseMethodDescriptor yX7_wholeWorth.desc).map (fun d => d.parameters.length) = some 0 := by decide +kernel
theorem hdX7_border : yX7_border.cls = RX7 ∧ yX7_border.cls ≠ "java/lang/invoke/MethodHandle" ∧ yX7_border.cls ≠ "java/lang/invoke/VarHandle" ∧ (parseMethodDescriptor yX7_border.desc).map (fun d => d.parameters.length) = some 3 := by decide +kernel
theorem hdX7_findLines : yX7_findLines.cls = RX7 ∧ yX7_findLines.cls ≠ "java/lang/invoke/MethodHandle" ∧ yX7_findLines.cls ≠ "java/lang/invoke/VarHandle" ∧ (parseMethodDescriptor yX7_findLines.desc).map (fun d => d.parameters.length) = some 0 := by decide +kernel
theorem hdX7_takesSum : yX7_takesSum.cls = RX7 ∧ yX7_takesSum.cls ≠ "java/lang/invoke/MethodHandle" ∧ yX7_takesSum.cls ≠ "java/lang/invoke/VarHandle" ∧ (parseMethodDescriptor yX7_takesSum.desc).map (fun d => d.parameters.length) = some 5 := by decide +kernel
theorem hdX7_isKnown : yX7_isKnown.cls = RX7 ∧ yX7_isKnown.cls ≠ "java/lang/invoke/MethodHandle" ∧ yX7_isKnown.cls ≠ "java/lang/invoke/VarHandle" ∧ (parseMethodDescriptor yX7_isKnown.desc).map (fun d => d.parameters.length) = some 0 := by decide +kernel
theorem hdX7_given : yX7_given.cls = RX7 ∧ yX7_given.cls ≠ "java/lang/invoke/MethodHandle" ∧ yX7_given.cls ≠ "java/lang/invoke/VarHandle" ∧ (parseMethodDescriptor yX7_given.desc).map (fun d => d.parameters.length) = some 2 := by decide +kernel
theorem hdX7_common : yX7_common.cls = RX7 ∧ yX7_common.cls ≠ "java/lang/invoke/MethodHandle" ∧ yX7_common.cls ≠ "java/lang/invoke/VarHandle" ∧ (parseMethodDescriptor yX7_common.desc).map (fun d => d.parameters.length) = some 2 := by decide +kernel
theorem hdX7_share : yX7_share.cls = RX7 ∧ yX7_share.cls ≠ "java/lang/invoke/MethodHandle" ∧ yX7_share.cls ≠ "java/lang/invoke/VarHandle" ∧ (parseMethodDescriptor yX7_share.desc).map (fun d => d.parameters.length) = some 3 := by decide +kernel
theorem hdX7_table : yX7_table.cls = RX7 ∧ yX7_table.cls ≠ "java/lang/invoke/MethodHandle" ∧ yX7_table.cls ≠ "java/lang/invoke/VarHandle" ∧ (parseMethodDescriptor yX7_table.desc).map (fun d => d.parameters.length) = some 2 := by decide +kernel
theorem hdX7_worth : yX7_worth.cls = RX7 ∧ yX7_worth.cls ≠ "java/lang/invoke/MethodHandle" ∧ yX7_worth.cls ≠ "java/lang/invoke/VarHandle" ∧ (parseMethodDescriptor yX7_worth.desc).map (fun d => d.parameters.length) = some 0 := by decide +kernel
theorem hdX7_rank : yX7_rank.cls = RX7 ∧ yX7_rank.cls ≠ "java/lang/invoke/MethodHandle" ∧ yX7_rank.cls ≠ "java/lang/invoke/VarHandle" ∧ (parseMethodDescriptor yX7_rank.desc).map (fun d => d.parameters.length) = some 0 := by decide +kernel
theorem hdX7_about : yX7_about.cls = RX7 ∧ yX7_about.cls ≠ "java/lang/invoke/MethodHandle" ∧ yX7_about.cls ≠ "java/lang/invoke/VarHandle" ∧ (parseMethodDescriptor yX7_about.desc).map (fun d => d.parameters.length) = some 1 := by decide +kernel
theorem hdX7_known : yX7_known.cls = RX7 ∧ yX7_known.cls ≠ "java/lang/invoke/MethodHandle" ∧ yX7_known.cls ≠ "java/lang/invoke/VarHandle" ∧ (parseMethodDescriptor yX7_known.desc).map (fun d => d.parameters.length) = some 5 := by decide +kernel
theorem hdX7_spread : yX7_spread.cls = RX7 ∧ yX7_spread.cls ≠ "java/lang/invoke/MethodHandle" ∧ yX7_spread.cls ≠ "java/lang/invoke/VarHandle" ∧ (parseMethodDescriptor yX7_spread.desc).map (fun d => d.parameters.length) = some 6 := by decide +kernel
theorem hdX7_widest : yX7_widest.cls = RX7 ∧ yX7_widest.cls ≠ "java/lang/invoke/MethodHandle" ∧ yX7_widest.cls ≠ "java/lang/invoke/VarHandle" ∧ (parseMethodDescriptor yX7_widest.desc).map (fun d => d.parameters.length) = some 1 := by decide +kernel
theorem hdX7_needed : yX7_needed.cls = RX7 ∧ yX7_needed.cls ≠ "java/lang/invoke/MethodHandle" ∧ yX7_needed.cls ≠ "java/lang/invoke/VarHandle" ∧ (parseMethodDescriptor yX7_needed.desc).map (fun d => d.parameters.length) = some 0 := by decide +kernel
theorem hdX7_areFew : yX7_areFew.cls = RX7 ∧ yX7_areFew.cls ≠ "java/lang/invoke/MethodHandle" ∧ yX7_areFew.cls ≠ "java/lang/invoke/VarHandle" ∧ (parseMethodDescriptor yX7_areFew.desc).map (fun d => d.parameters.length) = some 1 := by decide +kernel
theorem hdX7_goes : yX7_goes.cls = RX7 ∧ yX7_goes.cls ≠ "java/lang/invoke/MethodHandle" ∧ yX7_goes.cls ≠ "java/lang/invoke/VarHandle" ∧ (parseMethodDescriptor yX7_goes.desc).map (fun d => d.parameters.length) = some 1 := by decide +kernel
theorem hdX7_weighs : yX7_weighs.cls = RX7 ∧ yX7_weighs.cls ≠ "java/lang/invoke/MethodHandle" ∧ yX7_weighs.cls ≠ "java/lang/invoke/VarHandle" ∧ (parseMethodDescriptor yX7_weighs.desc).map (fun d => d.parameters.length) = some 0 := by decide +kernel
theorem hdX7_best : yX7_best.cls = RX7 ∧ yX7_best.cls ≠ "java/lang/invoke/MethodHandle" ∧ yX7_best.cls ≠ "java/lang/invoke/VarHandle" ∧ (parseMethodDescriptor yX7_best.desc).map (fun d => d.parameters.length) = some 1 := by decide +kernel
theorem hdX7_bests : yX7_bests.cls = RX7 ∧ yX7_bests.cls ≠ "java/lang/invoke/MethodHandle" ∧ yX7_bests.cls ≠ "java/lang/invoke/VarHandle" ∧ (parseMethodDescriptor yX7_bests.desc).map (fun d => d.parameters.length) = some 1 := by decide +kernel
theorem hdX7_worthNow : yX7_worthNow.cls = RX7 ∧ yX7_worthNow.cls ≠ "java/lang/invoke/MethodHandle" ∧ yX7_worthNow.cls ≠ "java/lang/invoke/VarHandle" ∧ (parseMethodDescriptor yX7_worthNow.desc).map (fun d => d.parameters.length) = some 0 := by decide +kernel
theorem hdX7_moves : yX7_moves.cls = RX7 ∧ yX7_moves.cls ≠ "java/lang/invoke/MethodHandle" ∧ yX7_moves.cls ≠ "java/lang/invoke/VarHandle" ∧ (parseMethodDescriptor yX7_moves.desc).map (fun d => d.parameters.length) = some 2 := by decide +kernel
theorem hdX7_swap : yX7_swap.cls = RX7 ∧ yX7_swap.cls ≠ "java/lang/invoke/MethodHandle" ∧ yX7_swap.cls ≠ "java/lang/invoke/VarHandle" ∧ (parseMethodDescriptor yX7_swap.desc).map (fun d => d.parameters.length) = some 0 := by decide +kernel
theorem hdX7_next : yX7_next.cls = RX7 ∧ yX7_next.cls ≠ "java/lang/invoke/MethodHandle" ∧ yX7_next.cls ≠ "java/lang/invoke/VarHandle" ∧ (parseMethodDescriptor yX7_next.desc).map (fun d => d.parameters.length) = some 0 := by decide +kernel
theorem hdX7_multiplies : yX7_multiplies.cls = RX7 ∧ yX7_multiplies.cls ≠ "java/lang/invoke/MethodHandle" ∧ yX7_multiplies.cls ≠ "java/lang/invoke/VarHandle" ∧ (parseMethodDescriptor yX7_multiplies.desc).map (fun d => d.parameters.length) = some 1 := by decide +kernel
theorem hdX7_joins : yX7_joins.cls = RX7 ∧ yX7_joins.cls ≠ "java/lang/invoke/MethodHandle" ∧ yX7_joins.cls ≠ "java/lang/invoke/VarHandle" ∧ (parseMethodDescriptor yX7_joins.desc).map (fun d => d.parameters.length) = some 1 := by decide +kernel
theorem hdX7_isProduct : yX7_isProduct.cls = RX7 ∧ yX7_isProduct.cls ≠ "java/lang/invoke/MethodHandle" ∧ yX7_isProduct.cls ≠ "java/lang/invoke/VarHandle" ∧ (parseMethodDescriptor yX7_isProduct.desc).map (fun d => d.parameters.length) = some 1 := by decide +kernel
theorem hdX7_word : yX7_word.cls = RX7 ∧ yX7_word.cls ≠ "java/lang/invoke/MethodHandle" ∧ yX7_word.cls ≠ "java/lang/invoke/VarHandle" ∧ (parseMethodDescriptor yX7_word.desc).map (fun d => d.parameters.length) = some 3 := by decide +kernel
theorem hdX7_isOfPart : yX7_isOfPart.cls = RX7 ∧ yX7_isOfPart.cls ≠ "java/lang/invoke/MethodHandle" ∧ yX7_isOfPart.cls ≠ "java/lang/invoke/VarHandle" ∧ (parseMethodDescriptor yX7_isOfPart.desc).map (fun d => d.parameters.length) = some 1 := by decide +kernel
theorem hdX7_part : yX7_part.cls = RX7 ∧ yX7_part.cls ≠ "java/lang/invoke/MethodHandle" ∧ yX7_part.cls ≠ "java/lang/invoke/VarHandle" ∧ (parseMethodDescriptor yX7_part.desc).map (fun d => d.parameters.length) = some 1 := by decide +kernel
theorem hdX7_alike : yX7_alike.cls = RX7 ∧ yX7_alike.cls ≠ "java/lang/invoke/MethodHandle" ∧ yX7_alike.cls ≠ "java/lang/invoke/VarHandle" ∧ (parseMethodDescriptor yX7_alike.desc).map (fun d => d.parameters.length) = some 1 := by decide +kernel
theorem hdX7_alikeOf : yX7_alikeOf.cls = RX7 ∧ yX7_alikeOf.cls ≠ "java/lang/invoke/MethodHandle" ∧ yX7_alikeOf.cls ≠ "java/lang/invoke/VarHandle" ∧ (parseMethodDescriptor yX7_alikeOf.desc).map (fun d => d.parameters.length) = some 2 := by decide +kernel
theorem hdX7_withFactors : yX7_withFactors.cls = RX7 ∧ yX7_withFactors.cls ≠ "java/lang/invoke/MethodHandle" ∧ yX7_withFactors.cls ≠ "java/lang/invoke/VarHandle" ∧ (parseMethodDescriptor yX7_withFactors.desc).map (fun d => d.parameters.length) = some 1 := by decide +kernel
theorem hdX7_length : yX7_length.cls = RX7 ∧ yX7_length.cls ≠ "java/lang/invoke/MethodHandle" ∧ yX7_length.cls ≠ "java/lang/invoke/VarHandle" ∧ (parseMethodDescriptor yX7_length.desc).map (fun d => d.parameters.length) = some 1 := by decide +kernel
theorem hdX7_isBetter : yX7_isBetter.cls = RX7 ∧ yX7_isBetter.cls ≠ "java/lang/invoke/MethodHandle" ∧ yX7_isBetter.cls ≠ "java/lang/invoke/VarHandle" ∧ (parseMethodDescriptor yX7_isBetter.desc).map (fun d => d.parameters.length) = some 0 := by decide +kernel
theorem hdX7_isBest : yX7_isBest.cls = RX7 ∧ yX7_isBest.cls ≠ "java/lang/invoke/MethodHandle" ∧ yX7_isBest.cls ≠ "java/lang/invoke/VarHandle" ∧ (parseMethodDescriptor yX7_isBest.desc).map (fun d => d.parameters.length) = some 1 := by decide +kernel
theorem hdX7_bestPart : yX7_bestPart.cls = RX7 ∧ yX7_bestPart.cls ≠ "java/lang/invoke/MethodHandle" ∧ yX7_bestPart.cls ≠ "java/lang/invoke/VarHandle" ∧ (parseMethodDescriptor yX7_bestPart.desc).map (fun d => d.parameters.length) = some 1 := by decide +kernel
theorem hdX7_changes : yX7_changes.cls = RX7 ∧ yX7_changes.cls ≠ "java/lang/invoke/MethodHandle" ∧ yX7_changes.cls ≠ "java/lang/invoke/VarHandle" ∧ (parseMethodDescriptor yX7_changes.desc).map (fun d => d.parameters.length) = some 2 := by decide +kernel
theorem hdX7_chains : yX7_chains.cls = RX7 ∧ yX7_chains.cls ≠ "java/lang/invoke/MethodHandle" ∧ yX7_chains.cls ≠ "java/lang/invoke/VarHandle" ∧ (parseMethodDescriptor yX7_chains.desc).map (fun d => d.parameters.length) = some 0 := by decide +kernel
theorem hdX7_chain : yX7_chain.cls = RX7 ∧ yX7_chain.cls ≠ "java/lang/invoke/MethodHandle" ∧ yX7_chain.cls ≠ "java/lang/invoke/VarHandle" ∧ (parseMethodDescriptor yX7_chain.desc).map (fun d => d.parameters.length) = some 0 := by decide +kernel
theorem hdX7_chainOf : yX7_chainOf.cls = RX7 ∧ yX7_chainOf.cls ≠ "java/lang/invoke/MethodHandle" ∧ yX7_chainOf.cls ≠ "java/lang/invoke/VarHandle" ∧ (parseMethodDescriptor yX7_chainOf.desc).map (fun d => d.parameters.length) = some 1 := by decide +kernel
theorem hdX7_see : yX7_see.cls = RX7 ∧ yX7_see.cls ≠ "java/lang/invoke/MethodHandle" ∧ yX7_see.cls ≠ "java/lang/invoke/VarHandle" ∧ (parseMethodDescriptor yX7_see.desc).map (fun d => d.parameters.length) = some 2 := by decide +kernel
theorem hdX7_forget : yX7_forget.cls = RX7 ∧ yX7_forget.cls ≠ "java/lang/invoke/MethodHandle" ∧ yX7_forget.cls ≠ "java/lang/invoke/VarHandle" ∧ (parseMethodDescriptor yX7_forget.desc).map (fun d => d.parameters.length) = some 0 := by decide +kernel
theorem hdX7_pulls : yX7_pulls.cls = RX7 ∧ yX7_pulls.cls ≠ "java/lang/invoke/MethodHandle" ∧ yX7_pulls.cls ≠ "java/lang/invoke/VarHandle" ∧ (parseMethodDescriptor yX7_pulls.desc).map (fun d => d.parameters.length) = some 0 := by decide +kernel
theorem hdX7_weight : yX7_weight.cls = RX7 ∧ yX7_weight.cls ≠ "java/lang/invoke/MethodHandle" ∧ yX7_weight.cls ≠ "java/lang/invoke/VarHandle" ∧ (parseMethodDescriptor yX7_weight.desc).map (fun d => d.parameters.length) = some 6 := by decide +kernel
theorem hdX7_miss : yX7_miss.cls = RX7 ∧ yX7_miss.cls ≠ "java/lang/invoke/MethodHandle" ∧ yX7_miss.cls ≠ "java/lang/invoke/VarHandle" ∧ (parseMethodDescriptor yX7_miss.desc).map (fun d => d.parameters.length) = some 1 := by decide +kernel
theorem hdJ6_bitCount_0f7a4 : yJ6_bitCount_0f7a4.cls = RJ6 ∧ yJ6_bitCount_0f7a4.cls ≠ "java/lang/invoke/MethodHandle" ∧ yJ6_bitCount_0f7a4.cls ≠ "java/lang/invoke/VarHandle" ∧ (parseMethodDescriptor yJ6_bitCount_0f7a4.desc).map (fun d => d.parameters.length) = some 1 := by decide +kernel
theorem hdJ9_abs_067f4 : yJ9_abs_067f4.cls = RJ9 ∧ yJ9_abs_067f4.cls ≠ "java/lang/invoke/MethodHandle" ∧ yJ9_abs_067f4.cls ≠ "java/lang/invoke/VarHandle" ∧ (parseMethodDescriptor yJ9_abs_067f4.desc).map (fun d => d.parameters.length) = some 1 := by decide +kernel
theorem hdJ9_max_7cf53 : yJ9_max_7cf53.cls = RJ9 ∧ yJ9_max_7cf53.cls ≠ "java/lang/invoke/MethodHandle" ∧ yJ9_max_7cf53.cls ≠ "java/lang/invoke/VarHandle" ∧ (parseMethodDescriptor yJ9_max_7cf53.desc).map (fun d => d.parameters.length) = some 2 := by decide +kernel
theorem hdJ9_min_7cf53 : yJ9_min_7cf53.cls = RJ9 ∧ yJ9_min_7cf53.cls ≠ "java/lang/invoke/MethodHandle" ∧ yJ9_min_7cf53.cls ≠ "java/lang/invoke/VarHandle" ∧ (parseMethodDescriptor yJ9_min_7cf53.desc).map (fun d => d.parameters.length) = some 2 := by decide +kernel
theorem hdJ7_fill_d0a16 : yJ7_fill_d0a16.cls = RJ7 ∧ yJ7_fill_d0a16.cls ≠ "java/lang/invoke/MethodHandle" ∧ yJ7_fill_d0a16.cls ≠ "java/lang/invoke/VarHandle" ∧ (parseMethodDescriptor yJ7_fill_d0a16.desc).map (fun d => d.parameters.length) = some 2 := by decide +kernel
theorem hdJ7_fill_53178 : yJ7_fill_53178.cls = RJ7 ∧ yJ7_fill_53178.cls ≠ "java/lang/invoke/MethodHandle" ∧ yJ7_fill_53178.cls ≠ "java/lang/invoke/VarHandle" ∧ (parseMethodDescriptor yJ7_fill_53178.desc).map (fun d => d.parameters.length) = some 2 := by decide +kernel
theorem hdL_law : yL_law.cls = RL ∧ yL_law.cls ≠ "java/lang/invoke/MethodHandle" ∧ yL_law.cls ≠ "java/lang/invoke/VarHandle" ∧ (parseMethodDescriptor yL_law.desc).map (fun d => d.parameters.length) = some 1 := by decide +kernel
theorem mJ6_bitCount_0f7a4_1 : Cond.constant RJ6 265 (1431655765) ∈ wsJ6_bitCount_0f7a4 := List.mem_of_getElem? (i := 1) (by decide +kernel)
theorem mJ6_bitCount_0f7a4_2 : Cond.constant RJ6 266 (858993459) ∈ wsJ6_bitCount_0f7a4 := List.mem_of_getElem? (i := 2) (by decide +kernel)
theorem mJ6_bitCount_0f7a4_3 : Cond.constant RJ6 267 (252645135) ∈ wsJ6_bitCount_0f7a4 := List.mem_of_getElem? (i := 3) (by decide +kernel)
abbrev rmJ6_bitCount_0f7a4 : Room := { frames := 0, cells := 0, slots := 0, locals := 0 }
set_option maxHeartbeats 4000000 in
set_option maxRecDepth 100000 in
theorem ctJ6_bitCount_0f7a4 (l : Launch) (D : va_G) (cB cI cJ cZ cR : ClassId) (tz : Nat) (a1 : Int32) (k : Int32 → Prop) (h : wpJ6_bitCount_0f7a4 a1 k) : MI l yJ6_bitCount_0f7a4 wsJ6_bitCount_0f7a4 rmJ6_bitCount_0f7a4 D (vTy cB cI cJ cZ cR) tz [.int a1] ([]) (fun (r : Int32) (u : Unit) => k r) (fun (u : Unit) => []) 0 0 := by
  refine MI.of (cc := cJ6_bitCount_0f7a4) (maxL := 1) (ret := (some .int)) (by decide) rfl (Nat.le_of_ble_eq_true rfl) ?_
  intro p e s m args below meth c A ls Q hQ E
  obtain ⟨hx, hb, hml, hr, hts, hown, hlk, hin, hP, hK, hD, hS, hA, hT, hl⟩ := E
  have hown : s.vm.findClass RJ6 = some m.cls := hown
  have hl : lv_has ls 1 [(0, .int a1)] := hl
  unfold wpJ6_bitCount_0f7a4 at h
  refine lv_iload_n hx hb dJ6_bitCount_0f7a4_0 rfl (lv_at hl 0 rfl) ?_
  refine lv_iload_n hx hb dJ6_bitCount_0f7a4_1 rfl (lv_at hl 0 rfl) ?_
  refine lv_iconst (v := 1) hx hb dJ6_bitCount_0f7a4_2 (by decide) ?_
  refine lv_iushr hx hb dJ6_bitCount_0f7a4_3 rfl ?_
  refine lv_ldcw (v := 1431655765) hx hb hown (hts _ mJ6_bitCount_0f7a4_1) dJ6_bitCount_0f7a4_4 ?_
  refine lv_iand hx hb dJ6_bitCount_0f7a4_7 ?_
  refine lv_isub hx hb dJ6_bitCount_0f7a4_8 ?_
  refine lv_istore_n (lv' := [(0, .int (a1 - (((a1.toUInt32 >>> ((1 : Int32).toUInt32 &&& Int32.toUInt32 31)).toInt32) &&& (1431655765 : Int32))))]) hx hb dJ6_bitCount_0f7a4_9 rfl hl (by decide) rfl (fun ls hl => ?_)
  refine lv_iload_n hx hb dJ6_bitCount_0f7a4_10 rfl (lv_at hl 0 rfl) ?_
  refine lv_ldcw (v := 858993459) hx hb hown (hts _ mJ6_bitCount_0f7a4_2) dJ6_bitCount_0f7a4_11 ?_
  refine lv_iand hx hb dJ6_bitCount_0f7a4_14 ?_
  refine lv_iload_n hx hb dJ6_bitCount_0f7a4_15 rfl (lv_at hl 0 rfl) ?_
  refine lv_iconst (v := 2) hx hb dJ6_bitCount_0f7a4_16 (by decide) ?_
  refine lv_iushr hx hb dJ6_bitCount_0f7a4_17 rfl ?_
  refine lv_ldcw (v := 858993459) hx hb hown (hts _ mJ6_bitCount_0f7a4_2) dJ6_bitCount_0f7a4_18 ?_
  refine lv_iand hx hb dJ6_bitCount_0f7a4_21 ?_
  refine lv_iadd hx hb dJ6_bitCount_0f7a4_22 ?_
  refine lv_istore_n (lv' := [(0, .int (((a1 - (((a1.toUInt32 >>> ((1 : Int32).toUInt32 &&& Int32.toUInt32 31)).toInt32) &&& (1431655765 : Int32))) &&& (858993459 : Int32)) + ((((a1 - (((a1.toUInt32 >>> ((1 : Int32).toUInt32 &&& Int32.toUInt32 31)).toInt32) &&& (1431655765 : Int32))).toUInt32 >>> ((2 : Int32).toUInt32 &&& Int32.toUInt32 31)).toInt32) &&& (858993459 : Int32))))]) hx hb dJ6_bitCount_0f7a4_23 rfl hl (by decide) rfl (fun ls hl => ?_)
  refine lv_iload_n hx hb dJ6_bitCount_0f7a4_24 rfl (lv_at hl 0 rfl) ?_
  refine lv_iload_n hx hb dJ6_bitCount_0f7a4_25 rfl (lv_at hl 0 rfl) ?_
  refine lv_iconst (v := 4) hx hb dJ6_bitCount_0f7a4_26 (by decide) ?_
  refine lv_iushr hx hb dJ6_bitCount_0f7a4_27 rfl ?_
  refine lv_iadd hx hb dJ6_bitCount_0f7a4_28 ?_
  refine lv_ldcw (v := 252645135) hx hb hown (hts _ mJ6_bitCount_0f7a4_3) dJ6_bitCount_0f7a4_29 ?_
  refine lv_iand hx hb dJ6_bitCount_0f7a4_32 ?_
  refine lv_istore_n (lv' := [(0, .int (((((a1 - (((a1.toUInt32 >>> ((1 : Int32).toUInt32 &&& Int32.toUInt32 31)).toInt32) &&& (1431655765 : Int32))) &&& (858993459 : Int32)) + ((((a1 - (((a1.toUInt32 >>> ((1 : Int32).toUInt32 &&& Int32.toUInt32 31)).toInt32) &&& (1431655765 : Int32))).toUInt32 >>> ((2 : Int32).toUInt32 &&& Int32.toUInt32 31)).toInt32) &&& (858993459 : Int32))) + (((((a1 - (((a1.toUInt32 >>> ((1 : Int32).toUInt32 &&& Int32.toUInt32 31)).toInt32) &&& (1431655765 : Int32))) &&& (858993459 : Int32)) + ((((a1 - (((a1.toUInt32 >>> ((1 : Int32).toUInt32 &&& Int32.toUInt32 31)).toInt32) &&& (1431655765 : Int32))).toUInt32 >>> ((2 : Int32).toUInt32 &&& Int32.toUInt32 31)).toInt32) &&& (858993459 : Int32))).toUInt32 >>> ((4 : Int32).toUInt32 &&& Int32.toUInt32 31)).toInt32)) &&& (252645135 : Int32)))]) hx hb dJ6_bitCount_0f7a4_33 rfl hl (by decide) rfl (fun ls hl => ?_)
  refine lv_iload_n hx hb dJ6_bitCount_0f7a4_34 rfl (lv_at hl 0 rfl) ?_
  refine lv_iload_n hx hb dJ6_bitCount_0f7a4_35 rfl (lv_at hl 0 rfl) ?_
  refine lv_bipush (v := 8) hx hb dJ6_bitCount_0f7a4_36 (by decide) ?_
  refine lv_iushr hx hb dJ6_bitCount_0f7a4_38 rfl ?_
  refine lv_iadd hx hb dJ6_bitCount_0f7a4_39 ?_
  refine lv_istore_n (lv' := [(0, .int ((((((a1 - (((a1.toUInt32 >>> ((1 : Int32).toUInt32 &&& Int32.toUInt32 31)).toInt32) &&& (1431655765 : Int32))) &&& (858993459 : Int32)) + ((((a1 - (((a1.toUInt32 >>> ((1 : Int32).toUInt32 &&& Int32.toUInt32 31)).toInt32) &&& (1431655765 : Int32))).toUInt32 >>> ((2 : Int32).toUInt32 &&& Int32.toUInt32 31)).toInt32) &&& (858993459 : Int32))) + (((((a1 - (((a1.toUInt32 >>> ((1 : Int32).toUInt32 &&& Int32.toUInt32 31)).toInt32) &&& (1431655765 : Int32))) &&& (858993459 : Int32)) + ((((a1 - (((a1.toUInt32 >>> ((1 : Int32).toUInt32 &&& Int32.toUInt32 31)).toInt32) &&& (1431655765 : Int32))).toUInt32 >>> ((2 : Int32).toUInt32 &&& Int32.toUInt32 31)).toInt32) &&& (858993459 : Int32))).toUInt32 >>> ((4 : Int32).toUInt32 &&& Int32.toUInt32 31)).toInt32)) &&& (252645135 : Int32)) + (((((((a1 - (((a1.toUInt32 >>> ((1 : Int32).toUInt32 &&& Int32.toUInt32 31)).toInt32) &&& (1431655765 : Int32))) &&& (858993459 : Int32)) + ((((a1 - (((a1.toUInt32 >>> ((1 : Int32).toUInt32 &&& Int32.toUInt32 31)).toInt32) &&& (1431655765 : Int32))).toUInt32 >>> ((2 : Int32).toUInt32 &&& Int32.toUInt32 31)).toInt32) &&& (858993459 : Int32))) + (((((a1 - (((a1.toUInt32 >>> ((1 : Int32).toUInt32 &&& Int32.toUInt32 31)).toInt32) &&& (1431655765 : Int32))) &&& (858993459 : Int32)) + ((((a1 - (((a1.toUInt32 >>> ((1 : Int32).toUInt32 &&& Int32.toUInt32 31)).toInt32) &&& (1431655765 : Int32))).toUInt32 >>> ((2 : Int32).toUInt32 &&& Int32.toUInt32 31)).toInt32) &&& (858993459 : Int32))).toUInt32 >>> ((4 : Int32).toUInt32 &&& Int32.toUInt32 31)).toInt32)) &&& (252645135 : Int32)).toUInt32 >>> ((8 : Int32).toUInt32 &&& Int32.toUInt32 31)).toInt32)))]) hx hb dJ6_bitCount_0f7a4_40 rfl hl (by decide) rfl (fun ls hl => ?_)
  refine lv_iload_n hx hb dJ6_bitCount_0f7a4_41 rfl (lv_at hl 0 rfl) ?_
  refine lv_iload_n hx hb dJ6_bitCount_0f7a4_42 rfl (lv_at hl 0 rfl) ?_
  refine lv_bipush (v := 16) hx hb dJ6_bitCount_0f7a4_43 (by decide) ?_
  refine lv_iushr hx hb dJ6_bitCount_0f7a4_45 rfl ?_
  refine lv_iadd hx hb dJ6_bitCount_0f7a4_46 ?_
  refine lv_istore_n (lv' := [(0, .int (((((((a1 - (((a1.toUInt32 >>> ((1 : Int32).toUInt32 &&& Int32.toUInt32 31)).toInt32) &&& (1431655765 : Int32))) &&& (858993459 : Int32)) + ((((a1 - (((a1.toUInt32 >>> ((1 : Int32).toUInt32 &&& Int32.toUInt32 31)).toInt32) &&& (1431655765 : Int32))).toUInt32 >>> ((2 : Int32).toUInt32 &&& Int32.toUInt32 31)).toInt32) &&& (858993459 : Int32))) + (((((a1 - (((a1.toUInt32 >>> ((1 : Int32).toUInt32 &&& Int32.toUInt32 31)).toInt32) &&& (1431655765 : Int32))) &&& (858993459 : Int32)) + ((((a1 - (((a1.toUInt32 >>> ((1 : Int32).toUInt32 &&& Int32.toUInt32 31)).toInt32) &&& (1431655765 : Int32))).toUInt32 >>> ((2 : Int32).toUInt32 &&& Int32.toUInt32 31)).toInt32) &&& (858993459 : Int32))).toUInt32 >>> ((4 : Int32).toUInt32 &&& Int32.toUInt32 31)).toInt32)) &&& (252645135 : Int32)) + (((((((a1 - (((a1.toUInt32 >>> ((1 : Int32).toUInt32 &&& Int32.toUInt32 31)).toInt32) &&& (1431655765 : Int32))) &&& (858993459 : Int32)) + ((((a1 - (((a1.toUInt32 >>> ((1 : Int32).toUInt32 &&& Int32.toUInt32 31)).toInt32) &&& (1431655765 : Int32))).toUInt32 >>> ((2 : Int32).toUInt32 &&& Int32.toUInt32 31)).toInt32) &&& (858993459 : Int32))) + (((((a1 - (((a1.toUInt32 >>> ((1 : Int32).toUInt32 &&& Int32.toUInt32 31)).toInt32) &&& (1431655765 : Int32))) &&& (858993459 : Int32)) + ((((a1 - (((a1.toUInt32 >>> ((1 : Int32).toUInt32 &&& Int32.toUInt32 31)).toInt32) &&& (1431655765 : Int32))).toUInt32 >>> ((2 : Int32).toUInt32 &&& Int32.toUInt32 31)).toInt32) &&& (858993459 : Int32))).toUInt32 >>> ((4 : Int32).toUInt32 &&& Int32.toUInt32 31)).toInt32)) &&& (252645135 : Int32)).toUInt32 >>> ((8 : Int32).toUInt32 &&& Int32.toUInt32 31)).toInt32)) + ((((((((a1 - (((a1.toUInt32 >>> ((1 : Int32).toUInt32 &&& Int32.toUInt32 31)).toInt32) &&& (1431655765 : Int32))) &&& (858993459 : Int32)) + ((((a1 - (((a1.toUInt32 >>> ((1 : Int32).toUInt32 &&& Int32.toUInt32 31)).toInt32) &&& (1431655765 : Int32))).toUInt32 >>> ((2 : Int32).toUInt32 &&& Int32.toUInt32 31)).toInt32) &&& (858993459 : Int32))) + (((((a1 - (((a1.toUInt32 >>> ((1 : Int32).toUInt32 &&& Int32.toUInt32 31)).toInt32) &&& (1431655765 : Int32))) &&& (858993459 : Int32)) + ((((a1 - (((a1.toUInt32 >>> ((1 : Int32).toUInt32 &&& Int32.toUInt32 31)).toInt32) &&& (1431655765 : Int32))).toUInt32 >>> ((2 : Int32).toUInt32 &&& Int32.toUInt32 31)).toInt32) &&& (858993459 : Int32))).toUInt32 >>> ((4 : Int32).toUInt32 &&& Int32.toUInt32 31)).toInt32)) &&& (252645135 : Int32)) + (((((((a1 - (((a1.toUInt32 >>> ((1 : Int32).toUInt32 &&& Int32.toUInt32 31)).toInt32) &&& (1431655765 : Int32))) &&& (858993459 : Int32)) + ((((a1 - (((a1.toUInt32 >>> ((1 : Int32).toUInt32 &&& Int32.toUInt32 31)).toInt32) &&& (1431655765 : Int32))).toUInt32 >>> ((2 : Int32).toUInt32 &&& Int32.toUInt32 31)).toInt32) &&& (858993459 : Int32))) + (((((a1 - (((a1.toUInt32 >>> ((1 : Int32).toUInt32 &&& Int32.toUInt32 31)).toInt32) &&& (1431655765 : Int32))) &&& (858993459 : Int32)) + ((((a1 - (((a1.toUInt32 >>> ((1 : Int32).toUInt32 &&& Int32.toUInt32 31)).toInt32) &&& (1431655765 : Int32))).toUInt32 >>> ((2 : Int32).toUInt32 &&& Int32.toUInt32 31)).toInt32) &&& (858993459 : Int32))).toUInt32 >>> ((4 : Int32).toUInt32 &&& Int32.toUInt32 31)).toInt32)) &&& (252645135 : Int32)).toUInt32 >>> ((8 : Int32).toUInt32 &&& Int32.toUInt32 31)).toInt32)).toUInt32 >>> ((16 : Int32).toUInt32 &&& Int32.toUInt32 31)).toInt32)))]) hx hb dJ6_bitCount_0f7a4_47 rfl hl (by decide) rfl (fun ls hl => ?_)
  refine lv_iload_n hx hb dJ6_bitCount_0f7a4_48 rfl (lv_at hl 0 rfl) ?_
  refine lv_bipush (v := 63) hx hb dJ6_bitCount_0f7a4_49 (by decide) ?_
  refine lv_iand hx hb dJ6_bitCount_0f7a4_51 ?_
  subst hQ
  exact vr_I (v := (((((((a1 - (((a1.toUInt32 >>> ((1 : Int32).toUInt32 &&& Int32.toUInt32 31)).toInt32) &&& (1431655765 : Int32))) &&& (858993459 : Int32)) + ((((a1 - (((a1.toUInt32 >>> ((1 : Int32).toUInt32 &&& Int32.toUInt32 31)).toInt32) &&& (1431655765 : Int32))).toUInt32 >>> ((2 : Int32).toUInt32 &&& Int32.toUInt32 31)).toInt32) &&& (858993459 : Int32))) + (((((a1 - (((a1.toUInt32 >>> ((1 : Int32).toUInt32 &&& Int32.toUInt32 31)).toInt32) &&& (1431655765 : Int32))) &&& (858993459 : Int32)) + ((((a1 - (((a1.toUInt32 >>> ((1 : Int32).toUInt32 &&& Int32.toUInt32 31)).toInt32) &&& (1431655765 : Int32))).toUInt32 >>> ((2 : Int32).toUInt32 &&& Int32.toUInt32 31)).toInt32) &&& (858993459 : Int32))).toUInt32 >>> ((4 : Int32).toUInt32 &&& Int32.toUInt32 31)).toInt32)) &&& (252645135 : Int32)) + (((((((a1 - (((a1.toUInt32 >>> ((1 : Int32).toUInt32 &&& Int32.toUInt32 31)).toInt32) &&& (1431655765 : Int32))) &&& (858993459 : Int32)) + ((((a1 - (((a1.toUInt32 >>> ((1 : Int32).toUInt32 &&& Int32.toUInt32 31)).toInt32) &&& (1431655765 : Int32))).toUInt32 >>> ((2 : Int32).toUInt32 &&& Int32.toUInt32 31)).toInt32) &&& (858993459 : Int32))) + (((((a1 - (((a1.toUInt32 >>> ((1 : Int32).toUInt32 &&& Int32.toUInt32 31)).toInt32) &&& (1431655765 : Int32))) &&& (858993459 : Int32)) + ((((a1 - (((a1.toUInt32 >>> ((1 : Int32).toUInt32 &&& Int32.toUInt32 31)).toInt32) &&& (1431655765 : Int32))).toUInt32 >>> ((2 : Int32).toUInt32 &&& Int32.toUInt32 31)).toInt32) &&& (858993459 : Int32))).toUInt32 >>> ((4 : Int32).toUInt32 &&& Int32.toUInt32 31)).toInt32)) &&& (252645135 : Int32)).toUInt32 >>> ((8 : Int32).toUInt32 &&& Int32.toUInt32 31)).toInt32)) + ((((((((a1 - (((a1.toUInt32 >>> ((1 : Int32).toUInt32 &&& Int32.toUInt32 31)).toInt32) &&& (1431655765 : Int32))) &&& (858993459 : Int32)) + ((((a1 - (((a1.toUInt32 >>> ((1 : Int32).toUInt32 &&& Int32.toUInt32 31)).toInt32) &&& (1431655765 : Int32))).toUInt32 >>> ((2 : Int32).toUInt32 &&& Int32.toUInt32 31)).toInt32) &&& (858993459 : Int32))) + (((((a1 - (((a1.toUInt32 >>> ((1 : Int32).toUInt32 &&& Int32.toUInt32 31)).toInt32) &&& (1431655765 : Int32))) &&& (858993459 : Int32)) + ((((a1 - (((a1.toUInt32 >>> ((1 : Int32).toUInt32 &&& Int32.toUInt32 31)).toInt32) &&& (1431655765 : Int32))).toUInt32 >>> ((2 : Int32).toUInt32 &&& Int32.toUInt32 31)).toInt32) &&& (858993459 : Int32))).toUInt32 >>> ((4 : Int32).toUInt32 &&& Int32.toUInt32 31)).toInt32)) &&& (252645135 : Int32)) + (((((((a1 - (((a1.toUInt32 >>> ((1 : Int32).toUInt32 &&& Int32.toUInt32 31)).toInt32) &&& (1431655765 : Int32))) &&& (858993459 : Int32)) + ((((a1 - (((a1.toUInt32 >>> ((1 : Int32).toUInt32 &&& Int32.toUInt32 31)).toInt32) &&& (1431655765 : Int32))).toUInt32 >>> ((2 : Int32).toUInt32 &&& Int32.toUInt32 31)).toInt32) &&& (858993459 : Int32))) + (((((a1 - (((a1.toUInt32 >>> ((1 : Int32).toUInt32 &&& Int32.toUInt32 31)).toInt32) &&& (1431655765 : Int32))) &&& (858993459 : Int32)) + ((((a1 - (((a1.toUInt32 >>> ((1 : Int32).toUInt32 &&& Int32.toUInt32 31)).toInt32) &&& (1431655765 : Int32))).toUInt32 >>> ((2 : Int32).toUInt32 &&& Int32.toUInt32 31)).toInt32) &&& (858993459 : Int32))).toUInt32 >>> ((4 : Int32).toUInt32 &&& Int32.toUInt32 31)).toInt32)) &&& (252645135 : Int32)).toUInt32 >>> ((8 : Int32).toUInt32 &&& Int32.toUInt32 31)).toInt32)).toUInt32 >>> ((16 : Int32).toUInt32 &&& Int32.toUInt32 31)).toInt32)) &&& (63 : Int32)) () hx hb hr hlk hP hD hS [] rfl rfl h dJ6_bitCount_0f7a4_52
abbrev rmJ7_fill_53178 : Room := { frames := 0, cells := 0, slots := 0, locals := 0 }
set_option maxHeartbeats 4000000 in
set_option maxRecDepth 100000 in
theorem ctJ7_fill_53178 (l : Launch) (D : va_G) (cB cI cJ cZ cR : ClassId) (tz : Nat) (q_p1 : Nat) (n_p1 : Nat) (p1 : (Nat → Int32)) (a2 : Int32) (k : (Nat → Int32) → Prop) (h : wpJ7_fill_53178 n_p1 p1 a2 k) : MV l yJ7_fill_53178 wsJ7_fill_53178 rmJ7_fill_53178 D (vTy cB cI cJ cZ cR) tz [.ref q_p1, .int a2] ([(q_p1, .inl (cI, n_p1, .inl p1))]) (fun (u : (Nat → Int32)) => k u) (fun (u : (Nat → Int32)) => [(q_p1, .inl (cI, n_p1, .inl u))]) 0 0 := by
  refine MV.of (cc := cJ7_fill_53178) (maxL := 4) (ret := none) (by decide) rfl (Nat.le_of_ble_eq_true rfl) ?_
  intro p e s m args below meth c A ls Q hQ E
  obtain ⟨hx, hb, hml, hr, hts, hown, hlk, hin, hP, hK, hD, hS, hA, hT, hl⟩ := E
  have hown : s.vm.findClass RJ7 = some m.cls := hown
  have hl : lv_has ls 4 [(0, .ref q_p1), (1, .int a2)] := hl
  unfold wpJ7_fill_53178 at h
  refine lv_iconst (v := 0) hx hb dJ7_fill_53178_0 (by decide) ?_
  refine lv_istore_n (lv' := [(2, .int (0 : Int32)), (0, .ref q_p1), (1, .int a2)]) hx hb dJ7_fill_53178_1 rfl hl (by decide) rfl (fun ls hl => ?_)
  refine lv_aload_n hx hb dJ7_fill_53178_2 rfl (lv_at hl 1 rfl) ?_
  refine va_alen (v := Int32.ofNat n_p1) hx hb hK hP 0 1 rfl rfl rfl dJ7_fill_53178_3 ?_
  refine lv_istore_n (lv' := [(3, .int (Int32.ofNat n_p1)), (2, .int (0 : Int32)), (0, .ref q_p1), (1, .int a2)]) hx hb dJ7_fill_53178_4 rfl hl (by decide) rfl (fun ls hl => ?_)
  have hL_5 : ∀ (n_5 : Nat) (x2_1 : Int32) (p1_2 : (Nat → Int32)) (H : Heap) (locs : List Loc) (ls : Array Slot), wl (wbJ7_fill_53178_5 n_p1 a2 k) n_5 (x2_1, p1_2) → va_P D vwCl ([(q_p1, .inl (cI, n_p1, .inl p1_2))]) H → va_D A ([(q_p1, .inl (cI, n_p1, .inl p1_2))]) → va_S A s.heap H locs → lv_has ls 4 [(0, .ref q_p1), (1, .int a2), (2, .int x2_1), (3, .int (Int32.ofNat n_p1))] → W p l e rmJ7_fill_53178 s m args below meth c H locs 0 0 Q (F0 m 5 ls []) := by
    intro n_5
    induction n_5 with
    | zero => intro x2_1 p1_2 H locs ls h; exact h.elim
    | succ n_5 ih_5 =>
      intro x2_1 p1_2 H locs ls h hP hD hS hl
      refine lv_iload_n hx hb dJ7_fill_53178_5 rfl (lv_at hl 2 rfl) ?_
      refine lv_iload_n hx hb dJ7_fill_53178_6 rfl (lv_at hl 3 rfl) ?_
      obtain ⟨hp_3, hn_3⟩ := h
      refine lv_icmp_ge (tgt := 20) hx hb dJ7_fill_53178_7 (by decide) (fun hc => ?_) (fun hc => ?_)
      · have h := hp_3 hc
        subst hQ
        exact vr_V p1_2 hx hb hr hlk hP hD hS [0] rfl rfl h dJ7_fill_53178_20
      · have h := hn_3 hc
        refine lv_aload_n hx hb dJ7_fill_53178_10 rfl (lv_at hl 0 rfl) ?_
        refine lv_iload_n hx hb dJ7_fill_53178_11 rfl (lv_at hl 2 rfl) ?_
        refine lv_iload_n hx hb dJ7_fill_53178_12 rfl (lv_at hl 1 rfl) ?_
        obtain ⟨hi_4, h⟩ := h
        refine vi_ast (x := a2) hx hb hK hP hD hS 0 1 rfl rfl hi_4 rfl dJ7_fill_53178_13 (fun H locs hP hD hS => ?_)
        have hP : va_P D vwCl ([(q_p1, .inl (cI, n_p1, .inl (upd p1_2 (x2_1.toNatClampNeg) a2)))]) H := hP
        have hD : va_D A ([(q_p1, .inl (cI, n_p1, .inl (upd p1_2 (x2_1.toNatClampNeg) a2)))]) := hD
        refine lv_iinc (v := x2_1 + (1 : Int32)) (lv' := [(2, .int (x2_1 + (1 : Int32))), (0, .ref q_p1), (1, .int a2), (3, .int (Int32.ofNat n_p1))]) hx hb dJ7_fill_53178_14 hl (k := 2) rfl rfl (by decide) rfl (fun ls hl => ?_)
        refine lv_goto (tgt := 5) hx hb dJ7_fill_53178_17 (by decide) ?_
        exact ih_5 (x2_1 + (1 : Int32)) (upd p1_2 (x2_1.toNatClampNeg) a2) _ _ _ h hP hD hS (lv_sub hl [1, 2, 0, 3] rfl)
  obtain ⟨n_5, h⟩ := h
  exact hL_5 n_5 (0 : Int32) p1 _ _ _ h hP hD hS (lv_sub hl [2, 3, 1, 0] rfl)
abbrev rmJ7_fill_d0a16 : Room := { frames := 0, cells := 0, slots := 0, locals := 0 }
set_option maxHeartbeats 4000000 in
set_option maxRecDepth 100000 in
theorem ctJ7_fill_d0a16 (l : Launch) (D : va_G) (cB cI cJ cZ cR : ClassId) (tz : Nat) (q_p1 : Nat) (n_p1 : Nat) (p1 : (Nat → Int64)) (a2 : Int64) (k : (Nat → Int64) → Prop) (h : wpJ7_fill_d0a16 n_p1 p1 a2 k) : MV l yJ7_fill_d0a16 wsJ7_fill_d0a16 rmJ7_fill_d0a16 D (vTy cB cI cJ cZ cR) tz [.ref q_p1, .long a2] ([(q_p1, .inl (cJ, n_p1, .inr (.inl p1)))]) (fun (u : (Nat → Int64)) => k u) (fun (u : (Nat → Int64)) => [(q_p1, .inl (cJ, n_p1, .inr (.inl u)))]) 0 0 := by
  refine MV.of (cc := cJ7_fill_d0a16) (maxL := 5) (ret := none) (by decide) rfl (Nat.le_of_ble_eq_true rfl) ?_
  intro p e s m args below meth c A ls Q hQ E
  obtain ⟨hx, hb, hml, hr, hts, hown, hlk, hin, hP, hK, hD, hS, hA, hT, hl⟩ := E
  have hown : s.vm.findClass RJ7 = some m.cls := hown
  have hl : lv_has ls 5 [(0, .ref q_p1), (1, .long a2)] := hl
  unfold wpJ7_fill_d0a16 at h
  refine lv_iconst (v := 0) hx hb dJ7_fill_d0a16_0 (by decide) ?_
  refine lv_istore_n (lv' := [(3, .int (0 : Int32)), (0, .ref q_p1), (1, .long a2)]) hx hb dJ7_fill_d0a16_1 rfl hl (by decide) rfl (fun ls hl => ?_)
  refine lv_aload_n hx hb dJ7_fill_d0a16_2 rfl (lv_at hl 1 rfl) ?_
  refine va_alen (v := Int32.ofNat n_p1) hx hb hK hP 0 2 rfl rfl rfl dJ7_fill_d0a16_3 ?_
  refine lv_istore (lv' := [(4, .int (Int32.ofNat n_p1)), (3, .int (0 : Int32)), (0, .ref q_p1), (1, .long a2)]) hx hb dJ7_fill_d0a16_4 hl (by decide) rfl (fun ls hl => ?_)
  have hL_6 : ∀ (n_6 : Nat) (x3_1 : Int32) (p1_2 : (Nat → Int64)) (H : Heap) (locs : List Loc) (ls : Array Slot), wl (wbJ7_fill_d0a16_6 n_p1 a2 k) n_6 (x3_1, p1_2) → va_P D vwCl ([(q_p1, .inl (cJ, n_p1, .inr (.inl p1_2)))]) H → va_D A ([(q_p1, .inl (cJ, n_p1, .inr (.inl p1_2)))]) → va_S A s.heap H locs → lv_has ls 5 [(0, .ref q_p1), (1, .long a2), (3, .int x3_1), (4, .int (Int32.ofNat n_p1))] → W p l e rmJ7_fill_d0a16 s m args below meth c H locs 0 0 Q (F0 m 6 ls []) := by
    intro n_6
    induction n_6 with
    | zero => intro x3_1 p1_2 H locs ls h; exact h.elim
    | succ n_6 ih_6 =>
      intro x3_1 p1_2 H locs ls h hP hD hS hl
      refine lv_iload_n hx hb dJ7_fill_d0a16_6 rfl (lv_at hl 2 rfl) ?_
      refine lv_iload hx hb dJ7_fill_d0a16_7 (lv_at hl 3 rfl) ?_
      obtain ⟨hp_3, hn_3⟩ := h
      refine lv_icmp_ge (tgt := 22) hx hb dJ7_fill_d0a16_9 (by decide) (fun hc => ?_) (fun hc => ?_)
      · have h := hp_3 hc
        subst hQ
        exact vr_V p1_2 hx hb hr hlk hP hD hS [0] rfl rfl h dJ7_fill_d0a16_22
      · have h := hn_3 hc
        refine lv_aload_n hx hb dJ7_fill_d0a16_12 rfl (lv_at hl 0 rfl) ?_
        refine lv_iload_n hx hb dJ7_fill_d0a16_13 rfl (lv_at hl 2 rfl) ?_
        refine lv_lload_n hx hb dJ7_fill_d0a16_14 rfl (lv_at hl 1 rfl) ?_
        obtain ⟨hi_4, h⟩ := h
        refine vl_ast (x := a2) hx hb hK hP hD hS 0 2 rfl rfl hi_4 rfl dJ7_fill_d0a16_15 (fun H locs hP hD hS => ?_)
        have hP : va_P D vwCl ([(q_p1, .inl (cJ, n_p1, .inr (.inl (vp_updL p1_2 (x3_1.toNatClampNeg) a2))))]) H := hP
        have hD : va_D A ([(q_p1, .inl (cJ, n_p1, .inr (.inl (vp_updL p1_2 (x3_1.toNatClampNeg) a2))))]) := hD
        refine lv_iinc (v := x3_1 + (1 : Int32)) (lv' := [(3, .int (x3_1 + (1 : Int32))), (0, .ref q_p1), (1, .long a2), (4, .int (Int32.ofNat n_p1))]) hx hb dJ7_fill_d0a16_16 hl (k := 2) rfl rfl (by decide) rfl (fun ls hl => ?_)
        refine lv_goto (tgt := 6) hx hb dJ7_fill_d0a16_19 (by decide) ?_
        exact ih_6 (x3_1 + (1 : Int32)) (vp_updL p1_2 (x3_1.toNatClampNeg) a2) _ _ _ h hP hD hS (lv_sub hl [1, 2, 0, 3] rfl)
  obtain ⟨n_6, h⟩ := h
  exact hL_6 n_6 (0 : Int32) p1 _ _ _ h hP hD hS (lv_sub hl [2, 3, 1, 0] rfl)
theorem ctbit (l : Launch) (D : va_G) (cB cI cJ cZ cR : ClassId) (tz : Nat) (x : Int32) : MI l yJ6_bitCount_0f7a4 wsJ6_bitCount_0f7a4 rmJ6_bitCount_0f7a4 D (vTy cB cI cJ cZ cR) tz [.int x] [] (fun (r : Int32) (_ : Unit) => r = vbc x) (fun (_ : Unit) => []) 0 0 := ctJ6_bitCount_0f7a4 l D cB cI cJ cZ cR tz x (fun r => r = vbc x) rfl
theorem vfillI_step (f : Nat → Int32) (v : Int32) (i : Nat) : upd (vfillI f i v) i v = vfillI f (i + 1) v := by
  funext j
  simp only [upd, vfillI]
  by_cases h : j = i
  · subst h; simp
  · by_cases h2 : j < i
    · rw [if_neg h, if_pos h2, if_pos (by omega)]
    · rw [if_neg h, if_neg h2, if_neg (by omega)]
theorem vfillL_step (f : Nat → Int64) (v : Int64) (i : Nat) : vp_updL (vfillL f i v) i v = vfillL f (i + 1) v := by
  funext j
  simp only [vp_updL, vfillL]
  by_cases h : j = i
  · subst h; simp
  · by_cases h2 : j < i
    · rw [if_neg h, if_pos h2, if_pos (by omega)]
    · rw [if_neg h, if_neg h2, if_neg (by omega)]
theorem vfillI_0 (f : Nat → Int32) (v : Int32) : vfillI f 0 v = f := by funext j; simp [vfillI]
theorem vfillL_0 (f : Nat → Int64) (v : Int64) : vfillL f 0 v = f := by funext j; simp [vfillL]
theorem wfillI (n : Nat) (hn : n < 2 ^ 31) (f : Nat → Int32) (v : Int32) (k : (Nat → Int32) → Prop) (h : k (vfillI f n v)) : wpJ7_fill_53178 n f v k := by
  unfold wpJ7_fill_53178
  refine ⟨n + 1, ?_⟩
  have key : ∀ d i : Nat, i + d = n → wl (wbJ7_fill_53178_5 n v k) (d + 1) (nI i, vfillI f i v) := by
    intro d
    induction d with
    | zero =>
      intro i hi
      have : i = n := by omega
      subst this
      exact ⟨fun _ => h, fun hc => absurd (nI_le (Nat.le_refl i) hn) hc⟩
    | succ d ih =>
      intro i hi
      refine ⟨fun hc => absurd hc (nI_ge (by omega) hn), fun _ => ⟨vp_in_nI (by omega) hn, ?_⟩⟩
      rw [nI_clamp (by omega), vfillI_step, nI_1]
      exact ih (i + 1) (by omega)
  have h0 := key n 0 (by omega)
  rw [vfillI_0] at h0
  exact h0
theorem wfillL (n : Nat) (hn : n < 2 ^ 31) (f : Nat → Int64) (v : Int64) (k : (Nat → Int64) → Prop) (h : k (vfillL f n v)) : wpJ7_fill_d0a16 n f v k := by
  unfold wpJ7_fill_d0a16
  refine ⟨n + 1, ?_⟩
  have key : ∀ d i : Nat, i + d = n → wl (wbJ7_fill_d0a16_6 n v k) (d + 1) (nI i, vfillL f i v) := by
    intro d
    induction d with
    | zero =>
      intro i hi
      have : i = n := by omega
      subst this
      exact ⟨fun _ => h, fun hc => absurd (nI_le (Nat.le_refl i) hn) hc⟩
    | succ d ih =>
      intro i hi
      refine ⟨fun hc => absurd hc (nI_ge (by omega) hn), fun _ => ⟨vp_in_nI (by omega) hn, ?_⟩⟩
      rw [nI_clamp (by omega), vfillL_step, nI_1]
      exact ih (i + 1) (by omega)
  have h0 := key n 0 (by omega)
  rw [vfillL_0] at h0
  exact h0
theorem cfillI (l : Launch) (D : va_G) (cB cI cJ cZ cR : ClassId) (tz q n : Nat) (f : Nat → Int32) (v : Int32) (hn : n < 2 ^ 31) : MV l yJ7_fill_53178 wsJ7_fill_53178 rmJ7_fill_53178 D (vTy cB cI cJ cZ cR) tz [.ref q, .int v] [(q, .inl (cI, n, .inl f))] (fun (_ : Unit) => True) (fun (_ : Unit) => [(q, .inl (cI, n, .inl (fun _ => v)))]) 0 0 :=
  (ctJ7_fill_53178 l D cB cI cJ cZ cR tz q n f v (fun u => u = vfillI f n v) (wfillI n hn f v _ rfl)).world (fun u hu => ⟨(), trivial, fun H A hP hD => by
    have e : u = vfillI f n v := hu
    subst e
    exact ⟨hP.cell 0 rfl (cell_i (fun j hj => by simp [vfillI, hj])), hD.set (e := (.inl (cI, n, .inl (fun _ => v)) : va_E)) (p := 0) rfl⟩⟩)
theorem cfillL (l : Launch) (D : va_G) (cB cI cJ cZ cR : ClassId) (tz q n : Nat) (f : Nat → Int64) (v : Int64) (hn : n < 2 ^ 31) : MV l yJ7_fill_d0a16 wsJ7_fill_d0a16 rmJ7_fill_d0a16 D (vTy cB cI cJ cZ cR) tz [.ref q, .long v] [(q, .inl (cJ, n, .inr (.inl f)))] (fun (_ : Unit) => True) (fun (_ : Unit) => [(q, .inl (cJ, n, .inr (.inl (fun _ => v))))]) 0 0 :=
  (ctJ7_fill_d0a16 l D cB cI cJ cZ cR tz q n f v (fun u => u = vfillL f n v) (wfillL n hn f v _ rfl)).world (fun u hu => ⟨(), trivial, fun H A hP hD => by
    have e : u = vfillL f n v := hu
    subst e
    exact ⟨hP.cell 0 rfl (cell_l (fun j hj => by simp [vfillL, hj])), hD.set (e := (.inl (cJ, n, .inr (.inl (fun _ => v))) : va_E)) (p := 0) rfl⟩⟩)
