theorem hd_J6_bitCount_0f7a4 : yJ6_bitCount_0f7a4.cls ≠ "java/lang/invoke/MethodHandle" ∧ yJ6_bitCount_0f7a4.cls ≠ "java/lang/invoke/VarHandle" ∧ (parseMethodDescriptor yJ6_bitCount_0f7a4.desc).map (fun d => d.parameters.length) = some 1 := by decide +kernel
theorem hd_X0_bestOrder : yX0_bestOrder.cls ≠ "java/lang/invoke/MethodHandle" ∧ yX0_bestOrder.cls ≠ "java/lang/invoke/VarHandle" ∧ (parseMethodDescriptor yX0_bestOrder.desc).map (fun d => d.parameters.length) = some 0 := by decide +kernel
theorem hd_X0_chanceOfTenths : yX0_chanceOfTenths.cls ≠ "java/lang/invoke/MethodHandle" ∧ yX0_chanceOfTenths.cls ≠ "java/lang/invoke/VarHandle" ∧ (parseMethodDescriptor yX0_chanceOfTenths.desc).map (fun d => d.parameters.length) = some 3 := by decide +kernel
theorem hd_X0_comeAgain : yX0_comeAgain.cls ≠ "java/lang/invoke/MethodHandle" ∧ yX0_comeAgain.cls ≠ "java/lang/invoke/VarHandle" ∧ (parseMethodDescriptor yX0_comeAgain.desc).map (fun d => d.parameters.length) = some 1 := by decide +kernel
theorem hd_X0_drawOne : yX0_drawOne.cls ≠ "java/lang/invoke/MethodHandle" ∧ yX0_drawOne.cls ≠ "java/lang/invoke/VarHandle" ∧ (parseMethodDescriptor yX0_drawOne.desc).map (fun d => d.parameters.length) = some 2 := by decide +kernel
theorem hd_X0_isFedByRumours : yX0_isFedByRumours.cls ≠ "java/lang/invoke/MethodHandle" ∧ yX0_isFedByRumours.cls ≠ "java/lang/invoke/VarHandle" ∧ (parseMethodDescriptor yX0_isFedByRumours.desc).map (fun d => d.parameters.length) = some 3 := by decide +kernel
theorem hd_X0_lineBehind : yX0_lineBehind.cls ≠ "java/lang/invoke/MethodHandle" ∧ yX0_lineBehind.cls ≠ "java/lang/invoke/VarHandle" ∧ (parseMethodDescriptor yX0_lineBehind.desc).map (fun d => d.parameters.length) = some 1 := by decide +kernel
theorem hd_X0_lineBehindDay : yX0_lineBehindDay.cls ≠ "java/lang/invoke/MethodHandle" ∧ yX0_lineBehindDay.cls ≠ "java/lang/invoke/VarHandle" ∧ (parseMethodDescriptor yX0_lineBehindDay.desc).map (fun d => d.parameters.length) = some 2 := by decide +kernel
theorem hd_X0_longestWaitInOrder : yX0_longestWaitInOrder.cls ≠ "java/lang/invoke/MethodHandle" ∧ yX0_longestWaitInOrder.cls ≠ "java/lang/invoke/VarHandle" ∧ (parseMethodDescriptor yX0_longestWaitInOrder.desc).map (fun d => d.parameters.length) = some 0 := by decide +kernel
theorem hd_X0_move : yX0_move.cls ≠ "java/lang/invoke/MethodHandle" ∧ yX0_move.cls ≠ "java/lang/invoke/VarHandle" ∧ (parseMethodDescriptor yX0_move.desc).map (fun d => d.parameters.length) = some 2 := by decide +kernel
theorem hd_X0_startTrial : yX0_startTrial.cls ≠ "java/lang/invoke/MethodHandle" ∧ yX0_startTrial.cls ≠ "java/lang/invoke/VarHandle" ∧ (parseMethodDescriptor yX0_startTrial.desc).map (fun d => d.parameters.length) = some 0 := by decide +kernel
theorem hd_X0_whenEaten : yX0_whenEaten.cls ≠ "java/lang/invoke/MethodHandle" ∧ yX0_whenEaten.cls ≠ "java/lang/invoke/VarHandle" ∧ (parseMethodDescriptor yX0_whenEaten.desc).map (fun d => d.parameters.length) = some 2 := by decide +kernel
theorem hd_X0_whichKinds : yX0_whichKinds.cls ≠ "java/lang/invoke/MethodHandle" ∧ yX0_whichKinds.cls ≠ "java/lang/invoke/VarHandle" ∧ (parseMethodDescriptor yX0_whichKinds.desc).map (fun d => d.parameters.length) = some 2 := by decide +kernel
theorem hd_X0_whoGains : yX0_whoGains.cls ≠ "java/lang/invoke/MethodHandle" ∧ yX0_whoGains.cls ≠ "java/lang/invoke/VarHandle" ∧ (parseMethodDescriptor yX0_whoGains.desc).map (fun d => d.parameters.length) = some 1 := by decide +kernel
theorem hd_X0_whoSneezed : yX0_whoSneezed.cls ≠ "java/lang/invoke/MethodHandle" ∧ yX0_whoSneezed.cls ≠ "java/lang/invoke/VarHandle" ∧ (parseMethodDescriptor yX0_whoSneezed.desc).map (fun d => d.parameters.length) = some 1 := by decide +kernel
theorem hd_X1_ateInOf : yX1_ateInOf.cls ≠ "java/lang/invoke/MethodHandle" ∧ yX1_ateInOf.cls ≠ "java/lang/invoke/VarHandle" ∧ (parseMethodDescriptor yX1_ateInOf.desc).map (fun d => d.parameters.length) = some 1 := by decide +kernel
theorem hd_X1_canYield : yX1_canYield.cls ≠ "java/lang/invoke/MethodHandle" ∧ yX1_canYield.cls ≠ "java/lang/invoke/VarHandle" ∧ (parseMethodDescriptor yX1_canYield.desc).map (fun d => d.parameters.length) = some 1 := by decide +kernel
theorem hd_X1_clear : yX1_clear.cls ≠ "java/lang/invoke/MethodHandle" ∧ yX1_clear.cls ≠ "java/lang/invoke/VarHandle" ∧ (parseMethodDescriptor yX1_clear.desc).map (fun d => d.parameters.length) = some 0 := by decide +kernel
theorem hd_X1_copyFrom : yX1_copyFrom.cls ≠ "java/lang/invoke/MethodHandle" ∧ yX1_copyFrom.cls ≠ "java/lang/invoke/VarHandle" ∧ (parseMethodDescriptor yX1_copyFrom.desc).map (fun d => d.parameters.length) = some 1 := by decide +kernel
theorem hd_X1_giveLoaf : yX1_giveLoaf.cls ≠ "java/lang/invoke/MethodHandle" ∧ yX1_giveLoaf.cls ≠ "java/lang/invoke/VarHandle" ∧ (parseMethodDescriptor yX1_giveLoaf.desc).map (fun d => d.parameters.length) = some 2 := by decide +kernel
theorem hd_X1_goAway : yX1_goAway.cls ≠ "java/lang/invoke/MethodHandle" ∧ yX1_goAway.cls ≠ "java/lang/invoke/VarHandle" ∧ (parseMethodDescriptor yX1_goAway.desc).map (fun d => d.parameters.length) = some 1 := by decide +kernel
theorem hd_X1_goOn : yX1_goOn.cls ≠ "java/lang/invoke/MethodHandle" ∧ yX1_goOn.cls ≠ "java/lang/invoke/VarHandle" ∧ (parseMethodDescriptor yX1_goOn.desc).map (fun d => d.parameters.length) = some 3 := by decide +kernel
theorem hd_X1_goToHead : yX1_goToHead.cls ≠ "java/lang/invoke/MethodHandle" ∧ yX1_goToHead.cls ≠ "java/lang/invoke/VarHandle" ∧ (parseMethodDescriptor yX1_goToHead.desc).map (fun d => d.parameters.length) = some 1 := by decide +kernel
theorem hd_X1_howMany : yX1_howMany.cls ≠ "java/lang/invoke/MethodHandle" ∧ yX1_howMany.cls ≠ "java/lang/invoke/VarHandle" ∧ (parseMethodDescriptor yX1_howMany.desc).map (fun d => d.parameters.length) = some 1 := by decide +kernel
theorem hd_X1_join : yX1_join.cls ≠ "java/lang/invoke/MethodHandle" ∧ yX1_join.cls ≠ "java/lang/invoke/VarHandle" ∧ (parseMethodDescriptor yX1_join.desc).map (fun d => d.parameters.length) = some 2 := by decide +kernel
theorem hd_X1_joinAll : yX1_joinAll.cls ≠ "java/lang/invoke/MethodHandle" ∧ yX1_joinAll.cls ≠ "java/lang/invoke/VarHandle" ∧ (parseMethodDescriptor yX1_joinAll.desc).map (fun d => d.parameters.length) = some 1 := by decide +kernel
theorem hd_X1_placeOf : yX1_placeOf.cls ≠ "java/lang/invoke/MethodHandle" ∧ yX1_placeOf.cls ≠ "java/lang/invoke/VarHandle" ∧ (parseMethodDescriptor yX1_placeOf.desc).map (fun d => d.parameters.length) = some 1 := by decide +kernel
theorem hd_X1_placeServed : yX1_placeServed.cls ≠ "java/lang/invoke/MethodHandle" ∧ yX1_placeServed.cls ≠ "java/lang/invoke/VarHandle" ∧ (parseMethodDescriptor yX1_placeServed.desc).map (fun d => d.parameters.length) = some 2 := by decide +kernel
theorem hd_X1_run : yX1_run.cls ≠ "java/lang/invoke/MethodHandle" ∧ yX1_run.cls ≠ "java/lang/invoke/VarHandle" ∧ (parseMethodDescriptor yX1_run.desc).map (fun d => d.parameters.length) = some 2 := by decide +kernel
theorem hd_X1_sneezeAll : yX1_sneezeAll.cls ≠ "java/lang/invoke/MethodHandle" ∧ yX1_sneezeAll.cls ≠ "java/lang/invoke/VarHandle" ∧ (parseMethodDescriptor yX1_sneezeAll.desc).map (fun d => d.parameters.length) = some 1 := by decide +kernel
theorem hd_X1_standOn : yX1_standOn.cls ≠ "java/lang/invoke/MethodHandle" ∧ yX1_standOn.cls ≠ "java/lang/invoke/VarHandle" ∧ (parseMethodDescriptor yX1_standOn.desc).map (fun d => d.parameters.length) = some 0 := by decide +kernel
theorem hd_X1_stoodOf : yX1_stoodOf.cls ≠ "java/lang/invoke/MethodHandle" ∧ yX1_stoodOf.cls ≠ "java/lang/invoke/VarHandle" ∧ (parseMethodDescriptor yX1_stoodOf.desc).map (fun d => d.parameters.length) = some 1 := by decide +kernel
theorem hd_X1_takeOut : yX1_takeOut.cls ≠ "java/lang/invoke/MethodHandle" ∧ yX1_takeOut.cls ≠ "java/lang/invoke/VarHandle" ∧ (parseMethodDescriptor yX1_takeOut.desc).map (fun d => d.parameters.length) = some 1 := by decide +kernel
theorem hd_X1_warmOf : yX1_warmOf.cls ≠ "java/lang/invoke/MethodHandle" ∧ yX1_warmOf.cls ≠ "java/lang/invoke/VarHandle" ∧ (parseMethodDescriptor yX1_warmOf.desc).map (fun d => d.parameters.length) = some 1 := by decide +kernel
theorem hd_X1_whereIs : yX1_whereIs.cls ≠ "java/lang/invoke/MethodHandle" ∧ yX1_whereIs.cls ≠ "java/lang/invoke/VarHandle" ∧ (parseMethodDescriptor yX1_whereIs.desc).map (fun d => d.parameters.length) = some 1 := by decide +kernel
theorem hd_X1_whoAt : yX1_whoAt.cls ≠ "java/lang/invoke/MethodHandle" ∧ yX1_whoAt.cls ≠ "java/lang/invoke/VarHandle" ∧ (parseMethodDescriptor yX1_whoAt.desc).map (fun d => d.parameters.length) = some 1 := by decide +kernel
theorem hd_X1_yieldPlace : yX1_yieldPlace.cls ≠ "java/lang/invoke/MethodHandle" ∧ yX1_yieldPlace.cls ≠ "java/lang/invoke/VarHandle" ∧ (parseMethodDescriptor yX1_yieldPlace.desc).map (fun d => d.parameters.length) = some 1 := by decide +kernel
theorem hd_X2_advance : yX2_advance.cls ≠ "java/lang/invoke/MethodHandle" ∧ yX2_advance.cls ≠ "java/lang/invoke/VarHandle" ∧ (parseMethodDescriptor yX2_advance.desc).map (fun d => d.parameters.length) = some 0 := by decide +kernel
theorem hd_X2_allAte : yX2_allAte.cls ≠ "java/lang/invoke/MethodHandle" ∧ yX2_allAte.cls ≠ "java/lang/invoke/VarHandle" ∧ (parseMethodDescriptor yX2_allAte.desc).map (fun d => d.parameters.length) = some 1 := by decide +kernel
theorem hd_X2_bestAt : yX2_bestAt.cls ≠ "java/lang/invoke/MethodHandle" ∧ yX2_bestAt.cls ≠ "java/lang/invoke/VarHandle" ∧ (parseMethodDescriptor yX2_bestAt.desc).map (fun d => d.parameters.length) = some 1 := by decide +kernel
theorem hd_X2_gather : yX2_gather.cls ≠ "java/lang/invoke/MethodHandle" ∧ yX2_gather.cls ≠ "java/lang/invoke/VarHandle" ∧ (parseMethodDescriptor yX2_gather.desc).map (fun d => d.parameters.length) = some 3 := by decide +kernel
theorem hd_X2_longestWait : yX2_longestWait.cls ≠ "java/lang/invoke/MethodHandle" ∧ yX2_longestWait.cls ≠ "java/lang/invoke/VarHandle" ∧ (parseMethodDescriptor yX2_longestWait.desc).map (fun d => d.parameters.length) = some 2 := by decide +kernel
theorem hd_X2_markBest : yX2_markBest.cls ≠ "java/lang/invoke/MethodHandle" ∧ yX2_markBest.cls ≠ "java/lang/invoke/VarHandle" ∧ (parseMethodDescriptor yX2_markBest.desc).map (fun d => d.parameters.length) = some 0 := by decide +kernel
theorem hd_X2_swap : yX2_swap.cls ≠ "java/lang/invoke/MethodHandle" ∧ yX2_swap.cls ≠ "java/lang/invoke/VarHandle" ∧ (parseMethodDescriptor yX2_swap.desc).map (fun d => d.parameters.length) = some 2 := by decide +kernel
theorem hd_X2_tellComings : yX2_tellComings.cls ≠ "java/lang/invoke/MethodHandle" ∧ yX2_tellComings.cls ≠ "java/lang/invoke/VarHandle" ∧ (parseMethodDescriptor yX2_tellComings.desc).map (fun d => d.parameters.length) = some 2 := by decide +kernel
theorem hd_X3_addPerson : yX3_addPerson.cls ≠ "java/lang/invoke/MethodHandle" ∧ yX3_addPerson.cls ≠ "java/lang/invoke/VarHandle" ∧ (parseMethodDescriptor yX3_addPerson.desc).map (fun d => d.parameters.length) = some 3 := by decide +kernel
theorem hd_X3_clear : yX3_clear.cls ≠ "java/lang/invoke/MethodHandle" ∧ yX3_clear.cls ≠ "java/lang/invoke/VarHandle" ∧ (parseMethodDescriptor yX3_clear.desc).map (fun d => d.parameters.length) = some 0 := by decide +kernel
theorem hd_X3_comingOf : yX3_comingOf.cls ≠ "java/lang/invoke/MethodHandle" ∧ yX3_comingOf.cls ≠ "java/lang/invoke/VarHandle" ∧ (parseMethodDescriptor yX3_comingOf.desc).map (fun d => d.parameters.length) = some 1 := by decide +kernel
theorem hd_X3_copyFrom : yX3_copyFrom.cls ≠ "java/lang/invoke/MethodHandle" ∧ yX3_copyFrom.cls ≠ "java/lang/invoke/VarHandle" ∧ (parseMethodDescriptor yX3_copyFrom.desc).map (fun d => d.parameters.length) = some 1 := by decide +kernel
theorem hd_X3_givesIn : yX3_givesIn.cls ≠ "java/lang/invoke/MethodHandle" ∧ yX3_givesIn.cls ≠ "java/lang/invoke/VarHandle" ∧ (parseMethodDescriptor yX3_givesIn.desc).map (fun d => d.parameters.length) = some 1 := by decide +kernel
theorem hd_X3_has : yX3_has.cls ≠ "java/lang/invoke/MethodHandle" ∧ yX3_has.cls ≠ "java/lang/invoke/VarHandle" ∧ (parseMethodDescriptor yX3_has.desc).map (fun d => d.parameters.length) = some 1 := by decide +kernel
theorem hd_X3_howManyOf : yX3_howManyOf.cls ≠ "java/lang/invoke/MethodHandle" ∧ yX3_howManyOf.cls ≠ "java/lang/invoke/VarHandle" ∧ (parseMethodDescriptor yX3_howManyOf.desc).map (fun d => d.parameters.length) = some 1 := by decide +kernel
theorem hd_X3_kinOf : yX3_kinOf.cls ≠ "java/lang/invoke/MethodHandle" ∧ yX3_kinOf.cls ≠ "java/lang/invoke/VarHandle" ∧ (parseMethodDescriptor yX3_kinOf.desc).map (fun d => d.parameters.length) = some 1 := by decide +kernel
theorem hd_X3_kindOf : yX3_kindOf.cls ≠ "java/lang/invoke/MethodHandle" ∧ yX3_kindOf.cls ≠ "java/lang/invoke/VarHandle" ∧ (parseMethodDescriptor yX3_kindOf.desc).map (fun d => d.parameters.length) = some 1 := by decide +kernel
theorem hd_X3_letsPass : yX3_letsPass.cls ≠ "java/lang/invoke/MethodHandle" ∧ yX3_letsPass.cls ≠ "java/lang/invoke/VarHandle" ∧ (parseMethodDescriptor yX3_letsPass.desc).map (fun d => d.parameters.length) = some 2 := by decide +kernel
theorem hd_X3_rumourIn : yX3_rumourIn.cls ≠ "java/lang/invoke/MethodHandle" ∧ yX3_rumourIn.cls ≠ "java/lang/invoke/VarHandle" ∧ (parseMethodDescriptor yX3_rumourIn.desc).map (fun d => d.parameters.length) = some 1 := by decide +kernel
theorem hd_X3_setBaker : yX3_setBaker.cls ≠ "java/lang/invoke/MethodHandle" ∧ yX3_setBaker.cls ≠ "java/lang/invoke/VarHandle" ∧ (parseMethodDescriptor yX3_setBaker.desc).map (fun d => d.parameters.length) = some 2 := by decide +kernel
theorem hd_X3_setComing : yX3_setComing.cls ≠ "java/lang/invoke/MethodHandle" ∧ yX3_setComing.cls ≠ "java/lang/invoke/VarHandle" ∧ (parseMethodDescriptor yX3_setComing.desc).map (fun d => d.parameters.length) = some 2 := by decide +kernel
theorem hd_X3_setKind : yX3_setKind.cls ≠ "java/lang/invoke/MethodHandle" ∧ yX3_setKind.cls ≠ "java/lang/invoke/VarHandle" ∧ (parseMethodDescriptor yX3_setKind.desc).map (fun d => d.parameters.length) = some 2 := by decide +kernel
theorem hd_X3_setRumour : yX3_setRumour.cls ≠ "java/lang/invoke/MethodHandle" ∧ yX3_setRumour.cls ≠ "java/lang/invoke/VarHandle" ∧ (parseMethodDescriptor yX3_setRumour.desc).map (fun d => d.parameters.length) = some 1 := by decide +kernel
theorem hd_X4_add : yX4_add.cls ≠ "java/lang/invoke/MethodHandle" ∧ yX4_add.cls ≠ "java/lang/invoke/VarHandle" ∧ (parseMethodDescriptor yX4_add.desc).map (fun d => d.parameters.length) = some 3 := by decide +kernel
theorem hd_X4_empty : yX4_empty.cls ≠ "java/lang/invoke/MethodHandle" ∧ yX4_empty.cls ≠ "java/lang/invoke/VarHandle" ∧ (parseMethodDescriptor yX4_empty.desc).map (fun d => d.parameters.length) = some 0 := by decide +kernel
theorem hd_X4_holdsFor : yX4_holdsFor.cls ≠ "java/lang/invoke/MethodHandle" ∧ yX4_holdsFor.cls ≠ "java/lang/invoke/VarHandle" ∧ (parseMethodDescriptor yX4_holdsFor.desc).map (fun d => d.parameters.length) = some 2 := by decide +kernel
theorem hd_X4_latest : yX4_latest.cls ≠ "java/lang/invoke/MethodHandle" ∧ yX4_latest.cls ≠ "java/lang/invoke/VarHandle" ∧ (parseMethodDescriptor yX4_latest.desc).map (fun d => d.parameters.length) = some 0 := by decide +kernel
theorem hd_X5_empty : yX5_empty.cls ≠ "java/lang/invoke/MethodHandle" ∧ yX5_empty.cls ≠ "java/lang/invoke/VarHandle" ∧ (parseMethodDescriptor yX5_empty.desc).map (fun d => d.parameters.length) = some 0 := by decide +kernel
theorem hd_X5_popInto : yX5_popInto.cls ≠ "java/lang/invoke/MethodHandle" ∧ yX5_popInto.cls ≠ "java/lang/invoke/VarHandle" ∧ (parseMethodDescriptor yX5_popInto.desc).map (fun d => d.parameters.length) = some 1 := by decide +kernel
theorem hd_X5_push : yX5_push.cls ≠ "java/lang/invoke/MethodHandle" ∧ yX5_push.cls ≠ "java/lang/invoke/VarHandle" ∧ (parseMethodDescriptor yX5_push.desc).map (fun d => d.parameters.length) = some 1 := by decide +kernel
theorem hd_X6_empty : yX6_empty.cls ≠ "java/lang/invoke/MethodHandle" ∧ yX6_empty.cls ≠ "java/lang/invoke/VarHandle" ∧ (parseMethodDescriptor yX6_empty.desc).map (fun d => d.parameters.length) = some 0 := by decide +kernel
theorem hd_X6_figuresFrom : yX6_figuresFrom.cls ≠ "java/lang/invoke/MethodHandle" ∧ yX6_figuresFrom.cls ≠ "java/lang/invoke/VarHandle" ∧ (parseMethodDescriptor yX6_figuresFrom.desc).map (fun d => d.parameters.length) = some 1 := by decide +kernel
theorem hd_X6_isFigure : yX6_isFigure.cls ≠ "java/lang/invoke/MethodHandle" ∧ yX6_isFigure.cls ≠ "java/lang/invoke/VarHandle" ∧ (parseMethodDescriptor yX6_isFigure.desc).map (fun d => d.parameters.length) = some 1 := by decide +kernel
theorem hd_X6_letterAt : yX6_letterAt.cls ≠ "java/lang/invoke/MethodHandle" ∧ yX6_letterAt.cls ≠ "java/lang/invoke/VarHandle" ∧ (parseMethodDescriptor yX6_letterAt.desc).map (fun d => d.parameters.length) = some 1 := by decide +kernel
theorem hd_X6_numbersBehind : yX6_numbersBehind.cls ≠ "java/lang/invoke/MethodHandle" ∧ yX6_numbersBehind.cls ≠ "java/lang/invoke/VarHandle" ∧ (parseMethodDescriptor yX6_numbersBehind.desc).map (fun d => d.parameters.length) = some 1 := by decide +kernel
theorem hd_X6_put : yX6_put.cls ≠ "java/lang/invoke/MethodHandle" ∧ yX6_put.cls ≠ "java/lang/invoke/VarHandle" ∧ (parseMethodDescriptor yX6_put.desc).map (fun d => d.parameters.length) = some 1 := by decide +kernel
theorem hd_X6_readInto : yX6_readInto.cls ≠ "java/lang/invoke/MethodHandle" ∧ yX6_readInto.cls ≠ "java/lang/invoke/VarHandle" ∧ (parseMethodDescriptor yX6_readInto.desc).map (fun d => d.parameters.length) = some 1 := by decide +kernel
theorem hd_X6_readItem : yX6_readItem.cls ≠ "java/lang/invoke/MethodHandle" ∧ yX6_readItem.cls ≠ "java/lang/invoke/VarHandle" ∧ (parseMethodDescriptor yX6_readItem.desc).map (fun d => d.parameters.length) = some 2 := by decide +kernel
theorem hd_X6_take : yX6_take.cls ≠ "java/lang/invoke/MethodHandle" ∧ yX6_take.cls ≠ "java/lang/invoke/VarHandle" ∧ (parseMethodDescriptor yX6_take.desc).map (fun d => d.parameters.length) = some 2 := by decide +kernel
theorem hd_X6_valueOf : yX6_valueOf.cls ≠ "java/lang/invoke/MethodHandle" ∧ yX6_valueOf.cls ≠ "java/lang/invoke/VarHandle" ∧ (parseMethodDescriptor yX6_valueOf.desc).map (fun d => d.parameters.length) = some 2 := by decide +kernel
theorem hd_X7_greatestDivisor : yX7_greatestDivisor.cls ≠ "java/lang/invoke/MethodHandle" ∧ yX7_greatestDivisor.cls ≠ "java/lang/invoke/VarHandle" ∧ (parseMethodDescriptor yX7_greatestDivisor.desc).map (fun d => d.parameters.length) = some 2 := by decide +kernel
theorem hd_X7_power : yX7_power.cls ≠ "java/lang/invoke/MethodHandle" ∧ yX7_power.cls ≠ "java/lang/invoke/VarHandle" ∧ (parseMethodDescriptor yX7_power.desc).map (fun d => d.parameters.length) = some 2 := by decide +kernel
theorem hd_X7_whenOf : yX7_whenOf.cls ≠ "java/lang/invoke/MethodHandle" ∧ yX7_whenOf.cls ≠ "java/lang/invoke/VarHandle" ∧ (parseMethodDescriptor yX7_whenOf.desc).map (fun d => d.parameters.length) = some 2 := by decide +kernel
theorem hd_X8_adds : yX8_adds.cls ≠ "java/lang/invoke/MethodHandle" ∧ yX8_adds.cls ≠ "java/lang/invoke/VarHandle" ∧ (parseMethodDescriptor yX8_adds.desc).map (fun d => d.parameters.length) = some 3 := by decide +kernel
theorem hd_X8_begins : yX8_begins.cls ≠ "java/lang/invoke/MethodHandle" ∧ yX8_begins.cls ≠ "java/lang/invoke/VarHandle" ∧ (parseMethodDescriptor yX8_begins.desc).map (fun d => d.parameters.length) = some 0 := by decide +kernel
theorem hd_X8_canGiveUp : yX8_canGiveUp.cls ≠ "java/lang/invoke/MethodHandle" ∧ yX8_canGiveUp.cls ≠ "java/lang/invoke/VarHandle" ∧ (parseMethodDescriptor yX8_canGiveUp.desc).map (fun d => d.parameters.length) = some 2 := by decide +kernel
theorem hd_X8_copy : yX8_copy.cls ≠ "java/lang/invoke/MethodHandle" ∧ yX8_copy.cls ≠ "java/lang/invoke/VarHandle" ∧ (parseMethodDescriptor yX8_copy.desc).map (fun d => d.parameters.length) = some 2 := by decide +kernel
theorem hd_X8_doesBy : yX8_doesBy.cls ≠ "java/lang/invoke/MethodHandle" ∧ yX8_doesBy.cls ≠ "java/lang/invoke/VarHandle" ∧ (parseMethodDescriptor yX8_doesBy.desc).map (fun d => d.parameters.length) = some 1 := by decide +kernel
theorem hd_X8_eats : yX8_eats.cls ≠ "java/lang/invoke/MethodHandle" ∧ yX8_eats.cls ≠ "java/lang/invoke/VarHandle" ∧ (parseMethodDescriptor yX8_eats.desc).map (fun d => d.parameters.length) = some 2 := by decide +kernel
theorem hd_X8_faultOf : yX8_faultOf.cls ≠ "java/lang/invoke/MethodHandle" ∧ yX8_faultOf.cls ≠ "java/lang/invoke/VarHandle" ∧ (parseMethodDescriptor yX8_faultOf.desc).map (fun d => d.parameters.length) = some 0 := by decide +kernel
theorem hd_X8_givesOne : yX8_givesOne.cls ≠ "java/lang/invoke/MethodHandle" ∧ yX8_givesOne.cls ≠ "java/lang/invoke/VarHandle" ∧ (parseMethodDescriptor yX8_givesOne.desc).map (fun d => d.parameters.length) = some 2 := by decide +kernel
theorem hd_X8_givesUp : yX8_givesUp.cls ≠ "java/lang/invoke/MethodHandle" ∧ yX8_givesUp.cls ≠ "java/lang/invoke/VarHandle" ∧ (parseMethodDescriptor yX8_givesUp.desc).map (fun d => d.parameters.length) = some 2 := by decide +kernel
theorem hd_X8_goes : yX8_goes.cls ≠ "java/lang/invoke/MethodHandle" ∧ yX8_goes.cls ≠ "java/lang/invoke/VarHandle" ∧ (parseMethodDescriptor yX8_goes.desc).map (fun d => d.parameters.length) = some 3 := by decide +kernel
theorem hd_X8_in : yX8_in.cls ≠ "java/lang/invoke/MethodHandle" ∧ yX8_in.cls ≠ "java/lang/invoke/VarHandle" ∧ (parseMethodDescriptor yX8_in.desc).map (fun d => d.parameters.length) = some 3 := by decide +kernel
theorem hd_X8_isIn : yX8_isIn.cls ≠ "java/lang/invoke/MethodHandle" ∧ yX8_isIn.cls ≠ "java/lang/invoke/VarHandle" ∧ (parseMethodDescriptor yX8_isIn.desc).map (fun d => d.parameters.length) = some 2 := by decide +kernel
theorem hd_X8_isPerson : yX8_isPerson.cls ≠ "java/lang/invoke/MethodHandle" ∧ yX8_isPerson.cls ≠ "java/lang/invoke/VarHandle" ∧ (parseMethodDescriptor yX8_isPerson.desc).map (fun d => d.parameters.length) = some 1 := by decide +kernel
theorem hd_X8_isRumour : yX8_isRumour.cls ≠ "java/lang/invoke/MethodHandle" ∧ yX8_isRumour.cls ≠ "java/lang/invoke/VarHandle" ∧ (parseMethodDescriptor yX8_isRumour.desc).map (fun d => d.parameters.length) = some 1 := by decide +kernel
theorem hd_X8_isSeen : yX8_isSeen.cls ≠ "java/lang/invoke/MethodHandle" ∧ yX8_isSeen.cls ≠ "java/lang/invoke/VarHandle" ∧ (parseMethodDescriptor yX8_isSeen.desc).map (fun d => d.parameters.length) = some 0 := by decide +kernel
theorem hd_X8_isWhere : yX8_isWhere.cls ≠ "java/lang/invoke/MethodHandle" ∧ yX8_isWhere.cls ≠ "java/lang/invoke/VarHandle" ∧ (parseMethodDescriptor yX8_isWhere.desc).map (fun d => d.parameters.length) = some 3 := by decide +kernel
theorem hd_X8_joins : yX8_joins.cls ≠ "java/lang/invoke/MethodHandle" ∧ yX8_joins.cls ≠ "java/lang/invoke/VarHandle" ∧ (parseMethodDescriptor yX8_joins.desc).map (fun d => d.parameters.length) = some 2 := by decide +kernel
theorem hd_X8_letterAt : yX8_letterAt.cls ≠ "java/lang/invoke/MethodHandle" ∧ yX8_letterAt.cls ≠ "java/lang/invoke/VarHandle" ∧ (parseMethodDescriptor yX8_letterAt.desc).map (fun d => d.parameters.length) = some 1 := by decide +kernel
theorem hd_X8_manyWhere : yX8_manyWhere.cls ≠ "java/lang/invoke/MethodHandle" ∧ yX8_manyWhere.cls ≠ "java/lang/invoke/VarHandle" ∧ (parseMethodDescriptor yX8_manyWhere.desc).map (fun d => d.parameters.length) = some 1 := by decide +kernel
theorem hd_X8_minds : yX8_minds.cls ≠ "java/lang/invoke/MethodHandle" ∧ yX8_minds.cls ≠ "java/lang/invoke/VarHandle" ∧ (parseMethodDescriptor yX8_minds.desc).map (fun d => d.parameters.length) = some 0 := by decide +kernel
theorem hd_X8_passes : yX8_passes.cls ≠ "java/lang/invoke/MethodHandle" ∧ yX8_passes.cls ≠ "java/lang/invoke/VarHandle" ∧ (parseMethodDescriptor yX8_passes.desc).map (fun d => d.parameters.length) = some 1 := by decide +kernel
theorem hd_X8_passesBy : yX8_passesBy.cls ≠ "java/lang/invoke/MethodHandle" ∧ yX8_passesBy.cls ≠ "java/lang/invoke/VarHandle" ∧ (parseMethodDescriptor yX8_passesBy.desc).map (fun d => d.parameters.length) = some 3 := by decide +kernel
theorem hd_X8_placeOf : yX8_placeOf.cls ≠ "java/lang/invoke/MethodHandle" ∧ yX8_placeOf.cls ≠ "java/lang/invoke/VarHandle" ∧ (parseMethodDescriptor yX8_placeOf.desc).map (fun d => d.parameters.length) = some 2 := by decide +kernel
theorem hd_X8_servedBy : yX8_servedBy.cls ≠ "java/lang/invoke/MethodHandle" ∧ yX8_servedBy.cls ≠ "java/lang/invoke/VarHandle" ∧ (parseMethodDescriptor yX8_servedBy.desc).map (fun d => d.parameters.length) = some 1 := by decide +kernel
theorem hd_X8_sneezes : yX8_sneezes.cls ≠ "java/lang/invoke/MethodHandle" ∧ yX8_sneezes.cls ≠ "java/lang/invoke/VarHandle" ∧ (parseMethodDescriptor yX8_sneezes.desc).map (fun d => d.parameters.length) = some 2 := by decide +kernel
theorem hd_X8_stands : yX8_stands.cls ≠ "java/lang/invoke/MethodHandle" ∧ yX8_stands.cls ≠ "java/lang/invoke/VarHandle" ∧ (parseMethodDescriptor yX8_stands.desc).map (fun d => d.parameters.length) = some 3 := by decide +kernel
theorem hd_X8_takesBaker : yX8_takesBaker.cls ≠ "java/lang/invoke/MethodHandle" ∧ yX8_takesBaker.cls ≠ "java/lang/invoke/VarHandle" ∧ (parseMethodDescriptor yX8_takesBaker.desc).map (fun d => d.parameters.length) = some 0 := by decide +kernel
theorem hd_X8_takesItem : yX8_takesItem.cls ≠ "java/lang/invoke/MethodHandle" ∧ yX8_takesItem.cls ≠ "java/lang/invoke/VarHandle" ∧ (parseMethodDescriptor yX8_takesItem.desc).map (fun d => d.parameters.length) = some 0 := by decide +kernel
theorem hd_X8_takesNumber : yX8_takesNumber.cls ≠ "java/lang/invoke/MethodHandle" ∧ yX8_takesNumber.cls ≠ "java/lang/invoke/VarHandle" ∧ (parseMethodDescriptor yX8_takesNumber.desc).map (fun d => d.parameters.length) = some 3 := by decide +kernel
theorem hd_X8_takesPerson : yX8_takesPerson.cls ≠ "java/lang/invoke/MethodHandle" ∧ yX8_takesPerson.cls ≠ "java/lang/invoke/VarHandle" ∧ (parseMethodDescriptor yX8_takesPerson.desc).map (fun d => d.parameters.length) = some 0 := by decide +kernel
theorem hd_X8_takesRumour : yX8_takesRumour.cls ≠ "java/lang/invoke/MethodHandle" ∧ yX8_takesRumour.cls ≠ "java/lang/invoke/VarHandle" ∧ (parseMethodDescriptor yX8_takesRumour.desc).map (fun d => d.parameters.length) = some 0 := by decide +kernel
theorem hd_X8_tries : yX8_tries.cls ≠ "java/lang/invoke/MethodHandle" ∧ yX8_tries.cls ≠ "java/lang/invoke/VarHandle" ∧ (parseMethodDescriptor yX8_tries.desc).map (fun d => d.parameters.length) = some 0 := by decide +kernel
theorem hd_X8_waitBy : yX8_waitBy.cls ≠ "java/lang/invoke/MethodHandle" ∧ yX8_waitBy.cls ≠ "java/lang/invoke/VarHandle" ∧ (parseMethodDescriptor yX8_waitBy.desc).map (fun d => d.parameters.length) = some 1 := by decide +kernel
theorem hd_X8_warmthOf : yX8_warmthOf.cls ≠ "java/lang/invoke/MethodHandle" ∧ yX8_warmthOf.cls ≠ "java/lang/invoke/VarHandle" ∧ (parseMethodDescriptor yX8_warmthOf.desc).map (fun d => d.parameters.length) = some 2 := by decide +kernel
theorem hd_X8_whenOf : yX8_whenOf.cls ≠ "java/lang/invoke/MethodHandle" ∧ yX8_whenOf.cls ≠ "java/lang/invoke/VarHandle" ∧ (parseMethodDescriptor yX8_whenOf.desc).map (fun d => d.parameters.length) = some 2 := by decide +kernel
theorem pm_12_0_1_2_3_4_5_6_7_8_9_10_11 : ([0, 1, 2, 3, 4, 5, 6, 7, 8, 9, 10, 11] ++ [] : List Nat).Perm (List.range 12) := by decide
theorem pm_12_1 : ([1] ++ [0, 2, 3, 4, 5, 6, 7, 8, 9, 10, 11] : List Nat).Perm (List.range 12) := by decide
theorem pm_12_10 : ([10] ++ [0, 1, 2, 3, 4, 5, 6, 7, 8, 9, 11] : List Nat).Perm (List.range 12) := by decide
theorem pm_12_10_5 : ([10, 5] ++ [0, 1, 2, 3, 4, 6, 7, 8, 9, 11] : List Nat).Perm (List.range 12) := by decide
theorem pm_12_11 : ([11] ++ [0, 1, 2, 3, 4, 5, 6, 7, 8, 9, 10] : List Nat).Perm (List.range 12) := by decide
theorem pm_12_11_5 : ([11, 5] ++ [0, 1, 2, 3, 4, 6, 7, 8, 9, 10] : List Nat).Perm (List.range 12) := by decide
theorem pm_12_1_2 : ([1, 2] ++ [0, 3, 4, 5, 6, 7, 8, 9, 10, 11] : List Nat).Perm (List.range 12) := by decide
theorem pm_12_3_4_5_6_7_8 : ([3, 4, 5, 6, 7, 8] ++ [0, 1, 2, 9, 10, 11] : List Nat).Perm (List.range 12) := by decide
theorem pm_12_3_4_5_6_7_8_9 : ([3, 4, 5, 6, 7, 8, 9] ++ [0, 1, 2, 10, 11] : List Nat).Perm (List.range 12) := by decide
theorem pm_12_4 : ([4] ++ [0, 1, 2, 3, 5, 6, 7, 8, 9, 10, 11] : List Nat).Perm (List.range 12) := by decide
theorem pm_12_4_2 : ([4, 2] ++ [0, 1, 3, 5, 6, 7, 8, 9, 10, 11] : List Nat).Perm (List.range 12) := by decide
theorem pm_12_5 : ([5] ++ [0, 1, 2, 3, 4, 6, 7, 8, 9, 10, 11] : List Nat).Perm (List.range 12) := by decide
theorem pm_12_5_4 : ([5, 4] ++ [0, 1, 2, 3, 6, 7, 8, 9, 10, 11] : List Nat).Perm (List.range 12) := by decide
theorem pm_12_7 : ([7] ++ [0, 1, 2, 3, 4, 5, 6, 8, 9, 10, 11] : List Nat).Perm (List.range 12) := by decide
theorem pm_12_8 : ([8] ++ [0, 1, 2, 3, 4, 5, 6, 7, 9, 10, 11] : List Nat).Perm (List.range 12) := by decide
theorem pm_12_8_4_5 : ([8, 4, 5] ++ [0, 1, 2, 3, 6, 7, 9, 10, 11] : List Nat).Perm (List.range 12) := by decide
theorem pm_12_9 : ([9] ++ [0, 1, 2, 3, 4, 5, 6, 7, 8, 10, 11] : List Nat).Perm (List.range 12) := by decide
theorem pm_1_0 : ([0] ++ [] : List Nat).Perm (List.range 1) := by decide
theorem pm_2_0 : ([0] ++ [1] : List Nat).Perm (List.range 2) := by decide
theorem pm_2_0_1 : ([0, 1] ++ [] : List Nat).Perm (List.range 2) := by decide
theorem pm_2_1 : ([1] ++ [0] : List Nat).Perm (List.range 2) := by decide
theorem pm_3_0 : ([0] ++ [1, 2] : List Nat).Perm (List.range 3) := by decide
theorem pm_3_1 : ([1] ++ [0, 2] : List Nat).Perm (List.range 3) := by decide
theorem pm_3_2 : ([2] ++ [0, 1] : List Nat).Perm (List.range 3) := by decide
theorem pm_3_2_1 : ([2, 1] ++ [0] : List Nat).Perm (List.range 3) := by decide
theorem pm_4_1_2 : ([1, 2] ++ [0, 3] : List Nat).Perm (List.range 4) := by decide
theorem pm_4_2_1 : ([2, 1] ++ [0, 3] : List Nat).Perm (List.range 4) := by decide
theorem pm_6_0_1_2_3_4_5 : ([0, 1, 2, 3, 4, 5] ++ [] : List Nat).Perm (List.range 6) := by decide
theorem pm_6_1 : ([1] ++ [0, 2, 3, 4, 5] : List Nat).Perm (List.range 6) := by decide
theorem pm_6_2 : ([2] ++ [0, 1, 3, 4, 5] : List Nat).Perm (List.range 6) := by decide
theorem pm_6_3 : ([3] ++ [0, 1, 2, 4, 5] : List Nat).Perm (List.range 6) := by decide
theorem pm_6_3_1 : ([3, 1] ++ [0, 2, 4, 5] : List Nat).Perm (List.range 6) := by decide
theorem pm_6_4 : ([4] ++ [0, 1, 2, 3, 5] : List Nat).Perm (List.range 6) := by decide
theorem pm_6_4_1 : ([4, 1] ++ [0, 2, 3, 5] : List Nat).Perm (List.range 6) := by decide
theorem pm_6_4_2 : ([4, 2] ++ [0, 1, 3, 5] : List Nat).Perm (List.range 6) := by decide
theorem pm_6_4_3 : ([4, 3] ++ [0, 1, 2, 5] : List Nat).Perm (List.range 6) := by decide
theorem pm_6_5 : ([5] ++ [0, 1, 2, 3, 4] : List Nat).Perm (List.range 6) := by decide
theorem pm_6_5_3 : ([5, 3] ++ [0, 1, 2, 4] : List Nat).Perm (List.range 6) := by decide
theorem pm_6_5_4 : ([5, 4] ++ [0, 1, 2, 3] : List Nat).Perm (List.range 6) := by decide
theorem pm_7_0_1_2_3_4_5 : ([0, 1, 2, 3, 4, 5] ++ [6] : List Nat).Perm (List.range 7) := by decide
theorem pm_7_2 : ([2] ++ [0, 1, 3, 4, 5, 6] : List Nat).Perm (List.range 7) := by decide
theorem pm_7_3 : ([3] ++ [0, 1, 2, 4, 5, 6] : List Nat).Perm (List.range 7) := by decide
theorem pm_7_3_1 : ([3, 1] ++ [0, 2, 4, 5, 6] : List Nat).Perm (List.range 7) := by decide
theorem pm_7_4 : ([4] ++ [0, 1, 2, 3, 5, 6] : List Nat).Perm (List.range 7) := by decide
theorem pm_7_6_1_4 : ([6, 1, 4] ++ [0, 2, 3, 5] : List Nat).Perm (List.range 7) := by decide
theorem pm_7_6_3_4 : ([6, 3, 4] ++ [0, 1, 2, 5] : List Nat).Perm (List.range 7) := by decide
