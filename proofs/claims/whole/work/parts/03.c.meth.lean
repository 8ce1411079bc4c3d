/-! the words that a call of a method wants -/
theorem kj_J13 : Cond.initialized RJ13 ∈ gw := tb_in (List.mem_of_getElem? (i := 13) (by decide +kernel)) rfl
theorem kj_J7 : Cond.initialized RJ7 ∈ gw := tb_in (List.mem_of_getElem? (i := 5) (by decide +kernel)) rfl
theorem kj_J9 : Cond.initialized RJ9 ∈ gw := tb_in (List.mem_of_getElem? (i := 11) (by decide +kernel)) rfl
theorem kj_X0 : Cond.initialized RX0 ∈ gw := tb_in (List.mem_of_getElem? (i := 8) (by decide +kernel)) rfl
theorem kj_X1 : Cond.initialized RX1 ∈ gw := tb_in (List.mem_of_getElem? (i := 9) (by decide +kernel)) rfl
theorem kj_X2 : Cond.initialized RX2 ∈ gw := tb_in (List.mem_of_getElem? (i := 4) (by decide +kernel)) rfl
theorem kj_X3 : Cond.initialized RX3 ∈ gw := tb_in (List.mem_of_getElem? (i := 3) (by decide +kernel)) rfl
theorem kj_X4 : Cond.initialized RX4 ∈ gw := tb_in (List.mem_of_getElem? (i := 6) (by decide +kernel)) rfl
theorem kj_X5 : Cond.initialized RX5 ∈ gw := tb_in (List.mem_of_getElem? (i := 7) (by decide +kernel)) rfl
theorem kj_X6 : Cond.initialized RX6 ∈ gw := tb_in (List.mem_of_getElem? (i := 2) (by decide +kernel)) rfl
theorem kj_X7 : Cond.initialized RX7 ∈ gw := tb_in (List.mem_of_getElem? (i := 1) (by decide +kernel)) rfl
theorem kj_X8 : Cond.initialized RX8 ∈ gw := tb_in (List.mem_of_getElem? (i := 10) (by decide +kernel)) rfl
theorem kx_X0_init : Cond.code yX0_init cX0_init 1 none ∈ gw := tb_in (List.mem_of_getElem? (i := 214) (by decide +kernel)) rfl
theorem kd_X0_init : yX0_init.cls ≠ "java/lang/invoke/MethodHandle" ∧ yX0_init.cls ≠ "java/lang/invoke/VarHandle" ∧ (parseMethodDescriptor yX0_init.desc).map (fun d => d.parameters.length) = some 0 := by decide +kernel
theorem ki_X0_init : Cond.instanceMethod yX0_init ∈ gw := tb_in (List.mem_of_getElem? (i := 213) (by decide +kernel)) rfl
theorem kx_X0_divide : Cond.code yX0_divide cX0_divide 9 (some .int) ∈ gw := tb_in (List.mem_of_getElem? (i := 730) (by decide +kernel)) rfl
theorem kd_X0_divide : yX0_divide.cls ≠ "java/lang/invoke/MethodHandle" ∧ yX0_divide.cls ≠ "java/lang/invoke/VarHandle" ∧ (parseMethodDescriptor yX0_divide.desc).map (fun d => d.parameters.length) = some 2 := by decide +kernel
theorem ki_X0_divide : Cond.instanceMethod yX0_divide ∈ gw := tb_in (List.mem_of_getElem? (i := 729) (by decide +kernel)) rfl
theorem ks_X0_divide : Cond.selects RX0 yX0_divide yX0_divide ∈ gw := tb_sel (List.mem_of_getElem? (i := 67) (by decide +kernel)) rfl
theorem kx_X1_init : Cond.code yX1_init cX1_init 1 none ∈ gw := tb_in (List.mem_of_getElem? (i := 229) (by decide +kernel)) rfl
theorem kd_X1_init : yX1_init.cls ≠ "java/lang/invoke/MethodHandle" ∧ yX1_init.cls ≠ "java/lang/invoke/VarHandle" ∧ (parseMethodDescriptor yX1_init.desc).map (fun d => d.parameters.length) = some 0 := by decide +kernel
theorem ki_X1_init : Cond.instanceMethod yX1_init ∈ gw := tb_in (List.mem_of_getElem? (i := 228) (by decide +kernel)) rfl
theorem kx_X1_coefficientAt : Cond.code yX1_coefficientAt cX1_coefficientAt 2 (some .int) ∈ gw := tb_in (List.mem_of_getElem? (i := 772) (by decide +kernel)) rfl
theorem kd_X1_coefficientAt : yX1_coefficientAt.cls ≠ "java/lang/invoke/MethodHandle" ∧ yX1_coefficientAt.cls ≠ "java/lang/invoke/VarHandle" ∧ (parseMethodDescriptor yX1_coefficientAt.desc).map (fun d => d.parameters.length) = some 1 := by decide +kernel
theorem ki_X1_coefficientAt : Cond.instanceMethod yX1_coefficientAt ∈ gw := tb_in (List.mem_of_getElem? (i := 771) (by decide +kernel)) rfl
theorem ks_X1_coefficientAt : Cond.selects RX1 yX1_coefficientAt yX1_coefficientAt ∈ gw := tb_sel (List.mem_of_getElem? (i := 74) (by decide +kernel)) rfl
theorem kx_X1_learn : Cond.code yX1_learn cX1_learn 9 (some .int) ∈ gw := tb_in (List.mem_of_getElem? (i := 742) (by decide +kernel)) rfl
theorem kd_X1_learn : yX1_learn.cls ≠ "java/lang/invoke/MethodHandle" ∧ yX1_learn.cls ≠ "java/lang/invoke/VarHandle" ∧ (parseMethodDescriptor yX1_learn.desc).map (fun d => d.parameters.length) = some 3 := by decide +kernel
theorem ki_X1_learn : Cond.instanceMethod yX1_learn ∈ gw := tb_in (List.mem_of_getElem? (i := 741) (by decide +kernel)) rfl
theorem ks_X1_learn : Cond.selects RX1 yX1_learn yX1_learn ∈ gw := tb_sel (List.mem_of_getElem? (i := 68) (by decide +kernel)) rfl
theorem kx_X1_gapAt : Cond.code yX1_gapAt cX1_gapAt 5 (some .int) ∈ gw := tb_in (List.mem_of_getElem? (i := 747) (by decide +kernel)) rfl
theorem kd_X1_gapAt : yX1_gapAt.cls ≠ "java/lang/invoke/MethodHandle" ∧ yX1_gapAt.cls ≠ "java/lang/invoke/VarHandle" ∧ (parseMethodDescriptor yX1_gapAt.desc).map (fun d => d.parameters.length) = some 2 := by decide +kernel
theorem ki_X1_gapAt : Cond.instanceMethod yX1_gapAt ∈ gw := tb_in (List.mem_of_getElem? (i := 746) (by decide +kernel)) rfl
theorem ks_X1_gapAt : Cond.selects RX1 yX1_gapAt yX1_gapAt ∈ gw := tb_sel (List.mem_of_getElem? (i := 69) (by decide +kernel)) rfl
theorem kx_X1_inverse : Cond.code yX1_inverse cX1_inverse 3 (some .int) ∈ gw := tb_in (List.mem_of_getElem? (i := 751) (by decide +kernel)) rfl
theorem kd_X1_inverse : yX1_inverse.cls ≠ "java/lang/invoke/MethodHandle" ∧ yX1_inverse.cls ≠ "java/lang/invoke/VarHandle" ∧ (parseMethodDescriptor yX1_inverse.desc).map (fun d => d.parameters.length) = some 1 := by decide +kernel
theorem ki_X1_inverse : Cond.instanceMethod yX1_inverse ∈ gw := tb_in (List.mem_of_getElem? (i := 750) (by decide +kernel)) rfl
theorem ks_X1_inverse : Cond.selects RX1 yX1_inverse yX1_inverse ∈ gw := tb_sel (List.mem_of_getElem? (i := 70) (by decide +kernel)) rfl
theorem kx_X1_lengthen : Cond.code yX1_lengthen cX1_lengthen 4 none ∈ gw := tb_in (List.mem_of_getElem? (i := 755) (by decide +kernel)) rfl
theorem kd_X1_lengthen : yX1_lengthen.cls ≠ "java/lang/invoke/MethodHandle" ∧ yX1_lengthen.cls ≠ "java/lang/invoke/VarHandle" ∧ (parseMethodDescriptor yX1_lengthen.desc).map (fun d => d.parameters.length) = some 3 := by decide +kernel
theorem ki_X1_lengthen : Cond.instanceMethod yX1_lengthen ∈ gw := tb_in (List.mem_of_getElem? (i := 754) (by decide +kernel)) rfl
theorem ks_X1_lengthen : Cond.selects RX1 yX1_lengthen yX1_lengthen ∈ gw := tb_sel (List.mem_of_getElem? (i := 71) (by decide +kernel)) rfl
theorem kx_X1_subtractEarlier : Cond.code yX1_subtractEarlier cX1_subtractEarlier 4 none ∈ gw := tb_in (List.mem_of_getElem? (i := 760) (by decide +kernel)) rfl
theorem kd_X1_subtractEarlier : yX1_subtractEarlier.cls ≠ "java/lang/invoke/MethodHandle" ∧ yX1_subtractEarlier.cls ≠ "java/lang/invoke/VarHandle" ∧ (parseMethodDescriptor yX1_subtractEarlier.desc).map (fun d => d.parameters.length) = some 2 := by decide +kernel
theorem ki_X1_subtractEarlier : Cond.instanceMethod yX1_subtractEarlier ∈ gw := tb_in (List.mem_of_getElem? (i := 759) (by decide +kernel)) rfl
theorem ks_X1_subtractEarlier : Cond.selects RX1 yX1_subtractEarlier yX1_subtractEarlier ∈ gw := tb_sel (List.mem_of_getElem? (i := 72) (by decide +kernel)) rfl
theorem kx_X1_lowerNumbers : Cond.code yX1_lowerNumbers cX1_lowerNumbers 4 none ∈ gw := tb_in (List.mem_of_getElem? (i := 764) (by decide +kernel)) rfl
theorem kd_X1_lowerNumbers : yX1_lowerNumbers.cls ≠ "java/lang/invoke/MethodHandle" ∧ yX1_lowerNumbers.cls ≠ "java/lang/invoke/VarHandle" ∧ (parseMethodDescriptor yX1_lowerNumbers.desc).map (fun d => d.parameters.length) = some 2 := by decide +kernel
theorem ki_X1_lowerNumbers : Cond.instanceMethod yX1_lowerNumbers ∈ gw := tb_in (List.mem_of_getElem? (i := 763) (by decide +kernel)) rfl
theorem ks_X1_lowerNumbers : Cond.selects RX1 yX1_lowerNumbers yX1_lowerNumbers ∈ gw := tb_sel (List.mem_of_getElem? (i := 73) (by decide +kernel)) rfl
theorem kx_X2_init : Cond.code yX2_init cX2_init 2 none ∈ gw := tb_in (List.mem_of_getElem? (i := 90) (by decide +kernel)) rfl
theorem kd_X2_init : yX2_init.cls ≠ "java/lang/invoke/MethodHandle" ∧ yX2_init.cls ≠ "java/lang/invoke/VarHandle" ∧ (parseMethodDescriptor yX2_init.desc).map (fun d => d.parameters.length) = some 1 := by decide +kernel
theorem ki_X2_init : Cond.instanceMethod yX2_init ∈ gw := tb_in (List.mem_of_getElem? (i := 89) (by decide +kernel)) rfl
theorem kx_X2_becomeTurning : Cond.code yX2_becomeTurning cX2_becomeTurning 1 none ∈ gw := tb_in (List.mem_of_getElem? (i := 95) (by decide +kernel)) rfl
theorem kd_X2_becomeTurning : yX2_becomeTurning.cls ≠ "java/lang/invoke/MethodHandle" ∧ yX2_becomeTurning.cls ≠ "java/lang/invoke/VarHandle" ∧ (parseMethodDescriptor yX2_becomeTurning.desc).map (fun d => d.parameters.length) = some 0 := by decide +kernel
theorem ki_X2_becomeTurning : Cond.instanceMethod yX2_becomeTurning ∈ gw := tb_in (List.mem_of_getElem? (i := 94) (by decide +kernel)) rfl
theorem ks_X2_becomeTurning : Cond.selects RX2 yX2_becomeTurning yX2_becomeTurning ∈ gw := tb_sel (List.mem_of_getElem? (i := 1) (by decide +kernel)) rfl
theorem kx_X2_changeFactor : Cond.code yX2_changeFactor cX2_changeFactor 4 (some .int) ∈ gw := tb_in (List.mem_of_getElem? (i := 431) (by decide +kernel)) rfl
theorem kd_X2_changeFactor : yX2_changeFactor.cls ≠ "java/lang/invoke/MethodHandle" ∧ yX2_changeFactor.cls ≠ "java/lang/invoke/VarHandle" ∧ (parseMethodDescriptor yX2_changeFactor.desc).map (fun d => d.parameters.length) = some 2 := by decide +kernel
theorem ki_X2_changeFactor : Cond.instanceMethod yX2_changeFactor ∈ gw := tb_in (List.mem_of_getElem? (i := 430) (by decide +kernel)) rfl
theorem ks_X2_changeFactor : Cond.selects RX2 yX2_changeFactor yX2_changeFactor ∈ gw := tb_sel (List.mem_of_getElem? (i := 24) (by decide +kernel)) rfl
theorem kx_X2_changeSum : Cond.code yX2_changeSum cX2_changeSum 3 (some .int) ∈ gw := tb_in (List.mem_of_getElem? (i := 439) (by decide +kernel)) rfl
theorem kd_X2_changeSum : yX2_changeSum.cls ≠ "java/lang/invoke/MethodHandle" ∧ yX2_changeSum.cls ≠ "java/lang/invoke/VarHandle" ∧ (parseMethodDescriptor yX2_changeSum.desc).map (fun d => d.parameters.length) = some 1 := by decide +kernel
theorem ki_X2_changeSum : Cond.instanceMethod yX2_changeSum ∈ gw := tb_in (List.mem_of_getElem? (i := 438) (by decide +kernel)) rfl
theorem ks_X2_changeSum : Cond.selects RX2 yX2_changeSum yX2_changeSum ∈ gw := tb_sel (List.mem_of_getElem? (i := 25) (by decide +kernel)) rfl
theorem kx_X2_forgetExchanges : Cond.code yX2_forgetExchanges cX2_forgetExchanges 1 none ∈ gw := tb_in (List.mem_of_getElem? (i := 102) (by decide +kernel)) rfl
theorem kd_X2_forgetExchanges : yX2_forgetExchanges.cls ≠ "java/lang/invoke/MethodHandle" ∧ yX2_forgetExchanges.cls ≠ "java/lang/invoke/VarHandle" ∧ (parseMethodDescriptor yX2_forgetExchanges.desc).map (fun d => d.parameters.length) = some 0 := by decide +kernel
theorem ki_X2_forgetExchanges : Cond.instanceMethod yX2_forgetExchanges ∈ gw := tb_in (List.mem_of_getElem? (i := 101) (by decide +kernel)) rfl
theorem ks_X2_forgetExchanges : Cond.selects RX2 yX2_forgetExchanges yX2_forgetExchanges ∈ gw := tb_sel (List.mem_of_getElem? (i := 2) (by decide +kernel)) rfl
theorem kx_X2_isRight : Cond.code yX2_isRight cX2_isRight 2 (some .boolean) ∈ gw := tb_in (List.mem_of_getElem? (i := 463) (by decide +kernel)) rfl
theorem kd_X2_isRight : yX2_isRight.cls ≠ "java/lang/invoke/MethodHandle" ∧ yX2_isRight.cls ≠ "java/lang/invoke/VarHandle" ∧ (parseMethodDescriptor yX2_isRight.desc).map (fun d => d.parameters.length) = some 0 := by decide +kernel
theorem ki_X2_isRight : Cond.instanceMethod yX2_isRight ∈ gw := tb_in (List.mem_of_getElem? (i := 462) (by decide +kernel)) rfl
theorem ks_X2_isRight : Cond.selects RX2 yX2_isRight yX2_isRight ∈ gw := tb_sel (List.mem_of_getElem? (i := 29) (by decide +kernel)) rfl
theorem kx_X2_isFull : Cond.code yX2_isFull cX2_isFull 1 (some .boolean) ∈ gw := tb_in (List.mem_of_getElem? (i := 475) (by decide +kernel)) rfl
theorem kd_X2_isFull : yX2_isFull.cls ≠ "java/lang/invoke/MethodHandle" ∧ yX2_isFull.cls ≠ "java/lang/invoke/VarHandle" ∧ (parseMethodDescriptor yX2_isFull.desc).map (fun d => d.parameters.length) = some 0 := by decide +kernel
theorem ki_X2_isFull : Cond.instanceMethod yX2_isFull ∈ gw := tb_in (List.mem_of_getElem? (i := 474) (by decide +kernel)) rfl
theorem ks_X2_isFull : Cond.selects RX2 yX2_isFull yX2_isFull ∈ gw := tb_sel (List.mem_of_getElem? (i := 31) (by decide +kernel)) rfl
theorem kx_X2_leadOf : Cond.code yX2_leadOf cX2_leadOf 2 (some .int) ∈ gw := tb_in (List.mem_of_getElem? (i := 447) (by decide +kernel)) rfl
theorem kd_X2_leadOf : yX2_leadOf.cls ≠ "java/lang/invoke/MethodHandle" ∧ yX2_leadOf.cls ≠ "java/lang/invoke/VarHandle" ∧ (parseMethodDescriptor yX2_leadOf.desc).map (fun d => d.parameters.length) = some 1 := by decide +kernel
theorem ki_X2_leadOf : Cond.instanceMethod yX2_leadOf ∈ gw := tb_in (List.mem_of_getElem? (i := 446) (by decide +kernel)) rfl
theorem ks_X2_leadOf : Cond.selects RX2 yX2_leadOf yX2_leadOf ∈ gw := tb_sel (List.mem_of_getElem? (i := 26) (by decide +kernel)) rfl
theorem kx_X2_leads : Cond.code yX2_leads cX2_leads 2 (some (.array .int)) ∈ gw := tb_in (List.mem_of_getElem? (i := 451) (by decide +kernel)) rfl
theorem kd_X2_leads : yX2_leads.cls ≠ "java/lang/invoke/MethodHandle" ∧ yX2_leads.cls ≠ "java/lang/invoke/VarHandle" ∧ (parseMethodDescriptor yX2_leads.desc).map (fun d => d.parameters.length) = some 0 := by decide +kernel
theorem ki_X2_leads : Cond.instanceMethod yX2_leads ∈ gw := tb_in (List.mem_of_getElem? (i := 450) (by decide +kernel)) rfl
theorem ks_X2_leads : Cond.selects RX2 yX2_leads yX2_leads ∈ gw := tb_sel (List.mem_of_getElem? (i := 27) (by decide +kernel)) rfl
theorem kx_X2_fillComing : Cond.code yX2_fillComing cX2_fillComing 6 none ∈ gw := tb_in (List.mem_of_getElem? (i := 455) (by decide +kernel)) rfl
theorem kd_X2_fillComing : yX2_fillComing.cls ≠ "java/lang/invoke/MethodHandle" ∧ yX2_fillComing.cls ≠ "java/lang/invoke/VarHandle" ∧ (parseMethodDescriptor yX2_fillComing.desc).map (fun d => d.parameters.length) = some 0 := by decide +kernel
theorem ki_X2_fillComing : Cond.instanceMethod yX2_fillComing ∈ gw := tb_in (List.mem_of_getElem? (i := 454) (by decide +kernel)) rfl
theorem ks_X2_fillComing : Cond.selects RX2 yX2_fillComing yX2_fillComing ∈ gw := tb_sel (List.mem_of_getElem? (i := 28) (by decide +kernel)) rfl
theorem kx_X2_numberCycles : Cond.code yX2_numberCycles cX2_numberCycles 2 none ∈ gw := tb_in (List.mem_of_getElem? (i := 491) (by decide +kernel)) rfl
theorem kd_X2_numberCycles : yX2_numberCycles.cls ≠ "java/lang/invoke/MethodHandle" ∧ yX2_numberCycles.cls ≠ "java/lang/invoke/VarHandle" ∧ (parseMethodDescriptor yX2_numberCycles.desc).map (fun d => d.parameters.length) = some 0 := by decide +kernel
theorem ki_X2_numberCycles : Cond.instanceMethod yX2_numberCycles ∈ gw := tb_in (List.mem_of_getElem? (i := 490) (by decide +kernel)) rfl
theorem ks_X2_numberCycles : Cond.selects RX2 yX2_numberCycles yX2_numberCycles ∈ gw := tb_sel (List.mem_of_getElem? (i := 35) (by decide +kernel)) rfl
theorem kx_X2_markCycle : Cond.code yX2_markCycle cX2_markCycle 5 none ∈ gw := tb_in (List.mem_of_getElem? (i := 496) (by decide +kernel)) rfl
theorem kd_X2_markCycle : yX2_markCycle.cls ≠ "java/lang/invoke/MethodHandle" ∧ yX2_markCycle.cls ≠ "java/lang/invoke/VarHandle" ∧ (parseMethodDescriptor yX2_markCycle.desc).map (fun d => d.parameters.length) = some 2 := by decide +kernel
theorem ki_X2_markCycle : Cond.instanceMethod yX2_markCycle ∈ gw := tb_in (List.mem_of_getElem? (i := 495) (by decide +kernel)) rfl
theorem ks_X2_markCycle : Cond.selects RX2 yX2_markCycle yX2_markCycle ∈ gw := tb_sel (List.mem_of_getElem? (i := 36) (by decide +kernel)) rfl
theorem kx_X2_howManyCycles : Cond.code yX2_howManyCycles cX2_howManyCycles 1 (some .int) ∈ gw := tb_in (List.mem_of_getElem? (i := 487) (by decide +kernel)) rfl
theorem kd_X2_howManyCycles : yX2_howManyCycles.cls ≠ "java/lang/invoke/MethodHandle" ∧ yX2_howManyCycles.cls ≠ "java/lang/invoke/VarHandle" ∧ (parseMethodDescriptor yX2_howManyCycles.desc).map (fun d => d.parameters.length) = some 0 := by decide +kernel
theorem ki_X2_howManyCycles : Cond.instanceMethod yX2_howManyCycles ∈ gw := tb_in (List.mem_of_getElem? (i := 486) (by decide +kernel)) rfl
theorem ks_X2_howManyCycles : Cond.selects RX2 yX2_howManyCycles yX2_howManyCycles ∈ gw := tb_sel (List.mem_of_getElem? (i := 34) (by decide +kernel)) rfl
theorem kx_X2_numberOfCycle : Cond.code yX2_numberOfCycle cX2_numberOfCycle 2 (some .int) ∈ gw := tb_in (List.mem_of_getElem? (i := 529) (by decide +kernel)) rfl
theorem kd_X2_numberOfCycle : yX2_numberOfCycle.cls ≠ "java/lang/invoke/MethodHandle" ∧ yX2_numberOfCycle.cls ≠ "java/lang/invoke/VarHandle" ∧ (parseMethodDescriptor yX2_numberOfCycle.desc).map (fun d => d.parameters.length) = some 1 := by decide +kernel
theorem ki_X2_numberOfCycle : Cond.instanceMethod yX2_numberOfCycle ∈ gw := tb_in (List.mem_of_getElem? (i := 528) (by decide +kernel)) rfl
theorem ks_X2_numberOfCycle : Cond.selects RX2 yX2_numberOfCycle yX2_numberOfCycle ∈ gw := tb_sel (List.mem_of_getElem? (i := 41) (by decide +kernel)) rfl
theorem kx_X2_leastOfCycle : Cond.code yX2_leastOfCycle cX2_leastOfCycle 2 (some .int) ∈ gw := tb_in (List.mem_of_getElem? (i := 537) (by decide +kernel)) rfl
theorem kd_X2_leastOfCycle : yX2_leastOfCycle.cls ≠ "java/lang/invoke/MethodHandle" ∧ yX2_leastOfCycle.cls ≠ "java/lang/invoke/VarHandle" ∧ (parseMethodDescriptor yX2_leastOfCycle.desc).map (fun d => d.parameters.length) = some 1 := by decide +kernel
theorem ki_X2_leastOfCycle : Cond.instanceMethod yX2_leastOfCycle ∈ gw := tb_in (List.mem_of_getElem? (i := 536) (by decide +kernel)) rfl
theorem ks_X2_leastOfCycle : Cond.selects RX2 yX2_leastOfCycle yX2_leastOfCycle ∈ gw := tb_sel (List.mem_of_getElem? (i := 42) (by decide +kernel)) rfl
theorem kx_X2_wordsOfCycle : Cond.code yX2_wordsOfCycle cX2_wordsOfCycle 5 (some .int) ∈ gw := tb_in (List.mem_of_getElem? (i := 541) (by decide +kernel)) rfl
theorem kd_X2_wordsOfCycle : yX2_wordsOfCycle.cls ≠ "java/lang/invoke/MethodHandle" ∧ yX2_wordsOfCycle.cls ≠ "java/lang/invoke/VarHandle" ∧ (parseMethodDescriptor yX2_wordsOfCycle.desc).map (fun d => d.parameters.length) = some 1 := by decide +kernel
theorem ki_X2_wordsOfCycle : Cond.instanceMethod yX2_wordsOfCycle ∈ gw := tb_in (List.mem_of_getElem? (i := 540) (by decide +kernel)) rfl
theorem ks_X2_wordsOfCycle : Cond.selects RX2 yX2_wordsOfCycle yX2_wordsOfCycle ∈ gw := tb_sel (List.mem_of_getElem? (i := 43) (by decide +kernel)) rfl
theorem kx_X2_makeExchange : Cond.code yX2_makeExchange cX2_makeExchange 3 (some .int) ∈ gw := tb_in (List.mem_of_getElem? (i := 479) (by decide +kernel)) rfl
theorem kd_X2_makeExchange : yX2_makeExchange.cls ≠ "java/lang/invoke/MethodHandle" ∧ yX2_makeExchange.cls ≠ "java/lang/invoke/VarHandle" ∧ (parseMethodDescriptor yX2_makeExchange.desc).map (fun d => d.parameters.length) = some 2 := by decide +kernel
theorem ki_X2_makeExchange : Cond.instanceMethod yX2_makeExchange ∈ gw := tb_in (List.mem_of_getElem? (i := 478) (by decide +kernel)) rfl
theorem ks_X2_makeExchange : Cond.selects RX2 yX2_makeExchange yX2_makeExchange ∈ gw := tb_sel (List.mem_of_getElem? (i := 32) (by decide +kernel)) rfl
theorem kx_X2_takeBack : Cond.code yX2_takeBack cX2_takeBack 1 (some .int) ∈ gw := tb_in (List.mem_of_getElem? (i := 516) (by decide +kernel)) rfl
theorem kd_X2_takeBack : yX2_takeBack.cls ≠ "java/lang/invoke/MethodHandle" ∧ yX2_takeBack.cls ≠ "java/lang/invoke/VarHandle" ∧ (parseMethodDescriptor yX2_takeBack.desc).map (fun d => d.parameters.length) = some 0 := by decide +kernel
theorem ki_X2_takeBack : Cond.instanceMethod yX2_takeBack ∈ gw := tb_in (List.mem_of_getElem? (i := 515) (by decide +kernel)) rfl
theorem ks_X2_takeBack : Cond.selects RX2 yX2_takeBack yX2_takeBack ∈ gw := tb_sel (List.mem_of_getElem? (i := 40) (by decide +kernel)) rfl
theorem kx_X2_noteExchange : Cond.code yX2_noteExchange cX2_noteExchange 3 none ∈ gw := tb_in (List.mem_of_getElem? (i := 508) (by decide +kernel)) rfl
theorem kd_X2_noteExchange : yX2_noteExchange.cls ≠ "java/lang/invoke/MethodHandle" ∧ yX2_noteExchange.cls ≠ "java/lang/invoke/VarHandle" ∧ (parseMethodDescriptor yX2_noteExchange.desc).map (fun d => d.parameters.length) = some 2 := by decide +kernel
theorem ki_X2_noteExchange : Cond.instanceMethod yX2_noteExchange ∈ gw := tb_in (List.mem_of_getElem? (i := 507) (by decide +kernel)) rfl
theorem ks_X2_noteExchange : Cond.selects RX2 yX2_noteExchange yX2_noteExchange ∈ gw := tb_sel (List.mem_of_getElem? (i := 39) (by decide +kernel)) rfl
theorem kx_X2_swapLeads : Cond.code yX2_swapLeads cX2_swapLeads 4 none ∈ gw := tb_in (List.mem_of_getElem? (i := 504) (by decide +kernel)) rfl
theorem kd_X2_swapLeads : yX2_swapLeads.cls ≠ "java/lang/invoke/MethodHandle" ∧ yX2_swapLeads.cls ≠ "java/lang/invoke/VarHandle" ∧ (parseMethodDescriptor yX2_swapLeads.desc).map (fun d => d.parameters.length) = some 2 := by decide +kernel
theorem ki_X2_swapLeads : Cond.instanceMethod yX2_swapLeads ∈ gw := tb_in (List.mem_of_getElem? (i := 503) (by decide +kernel)) rfl
theorem ks_X2_swapLeads : Cond.selects RX2 yX2_swapLeads yX2_swapLeads ∈ gw := tb_sel (List.mem_of_getElem? (i := 38) (by decide +kernel)) rfl
theorem kx_X2_countBehindExchange : Cond.code yX2_countBehindExchange cX2_countBehindExchange 4 (some .int) ∈ gw := tb_in (List.mem_of_getElem? (i := 483) (by decide +kernel)) rfl
theorem kd_X2_countBehindExchange : yX2_countBehindExchange.cls ≠ "java/lang/invoke/MethodHandle" ∧ yX2_countBehindExchange.cls ≠ "java/lang/invoke/VarHandle" ∧ (parseMethodDescriptor yX2_countBehindExchange.desc).map (fun d => d.parameters.length) = some 2 := by decide +kernel
theorem ki_X2_countBehindExchange : Cond.instanceMethod yX2_countBehindExchange ∈ gw := tb_in (List.mem_of_getElem? (i := 482) (by decide +kernel)) rfl
theorem ks_X2_countBehindExchange : Cond.selects RX2 yX2_countBehindExchange yX2_countBehindExchange ∈ gw := tb_sel (List.mem_of_getElem? (i := 33) (by decide +kernel)) rfl
theorem kx_X2_inOneCycle : Cond.code yX2_inOneCycle cX2_inOneCycle 5 (some .boolean) ∈ gw := tb_in (List.mem_of_getElem? (i := 500) (by decide +kernel)) rfl
theorem kd_X2_inOneCycle : yX2_inOneCycle.cls ≠ "java/lang/invoke/MethodHandle" ∧ yX2_inOneCycle.cls ≠ "java/lang/invoke/VarHandle" ∧ (parseMethodDescriptor yX2_inOneCycle.desc).map (fun d => d.parameters.length) = some 2 := by decide +kernel
theorem ki_X2_inOneCycle : Cond.instanceMethod yX2_inOneCycle ∈ gw := tb_in (List.mem_of_getElem? (i := 499) (by decide +kernel)) rfl
theorem ks_X2_inOneCycle : Cond.selects RX2 yX2_inOneCycle yX2_inOneCycle ∈ gw := tb_sel (List.mem_of_getElem? (i := 37) (by decide +kernel)) rfl
theorem kx_X2_joinCycles : Cond.code yX2_joinCycles cX2_joinCycles 4 (some .int) ∈ gw := tb_in (List.mem_of_getElem? (i := 549) (by decide +kernel)) rfl
theorem kd_X2_joinCycles : yX2_joinCycles.cls ≠ "java/lang/invoke/MethodHandle" ∧ yX2_joinCycles.cls ≠ "java/lang/invoke/VarHandle" ∧ (parseMethodDescriptor yX2_joinCycles.desc).map (fun d => d.parameters.length) = some 0 := by decide +kernel
theorem ki_X2_joinCycles : Cond.instanceMethod yX2_joinCycles ∈ gw := tb_in (List.mem_of_getElem? (i := 548) (by decide +kernel)) rfl
theorem ks_X2_joinCycles : Cond.selects RX2 yX2_joinCycles yX2_joinCycles ∈ gw := tb_sel (List.mem_of_getElem? (i := 44) (by decide +kernel)) rfl
theorem kx_X2_joinAt : Cond.code yX2_joinAt cX2_joinAt 6 (some .boolean) ∈ gw := tb_in (List.mem_of_getElem? (i := 553) (by decide +kernel)) rfl
theorem kd_X2_joinAt : yX2_joinAt.cls ≠ "java/lang/invoke/MethodHandle" ∧ yX2_joinAt.cls ≠ "java/lang/invoke/VarHandle" ∧ (parseMethodDescriptor yX2_joinAt.desc).map (fun d => d.parameters.length) = some 2 := by decide +kernel
theorem ki_X2_joinAt : Cond.instanceMethod yX2_joinAt ∈ gw := tb_in (List.mem_of_getElem? (i := 552) (by decide +kernel)) rfl
theorem ks_X2_joinAt : Cond.selects RX2 yX2_joinAt yX2_joinAt ∈ gw := tb_sel (List.mem_of_getElem? (i := 45) (by decide +kernel)) rfl
theorem kx_X3_init : Cond.code yX3_init cX3_init 2 none ∈ gw := tb_in (List.mem_of_getElem? (i := 71) (by decide +kernel)) rfl
theorem kd_X3_init : yX3_init.cls ≠ "java/lang/invoke/MethodHandle" ∧ yX3_init.cls ≠ "java/lang/invoke/VarHandle" ∧ (parseMethodDescriptor yX3_init.desc).map (fun d => d.parameters.length) = some 1 := by decide +kernel
theorem ki_X3_init : Cond.instanceMethod yX3_init ∈ gw := tb_in (List.mem_of_getElem? (i := 70) (by decide +kernel)) rfl
theorem kx_X3_ringsUpTo : Cond.code yX3_ringsUpTo cX3_ringsUpTo 4 (some .int) ∈ gw := tb_in (List.mem_of_getElem? (i := 347) (by decide +kernel)) rfl
theorem kd_X3_ringsUpTo : yX3_ringsUpTo.cls ≠ "java/lang/invoke/MethodHandle" ∧ yX3_ringsUpTo.cls ≠ "java/lang/invoke/VarHandle" ∧ (parseMethodDescriptor yX3_ringsUpTo.desc).map (fun d => d.parameters.length) = some 1 := by decide +kernel
theorem ki_X3_ringsUpTo : Cond.instanceMethod yX3_ringsUpTo ∈ gw := tb_in (List.mem_of_getElem? (i := 346) (by decide +kernel)) rfl
theorem ks_X3_ringsUpTo : Cond.selects RX3 yX3_ringsUpTo yX3_ringsUpTo ∈ gw := tb_sel (List.mem_of_getElem? (i := 11) (by decide +kernel)) rfl
theorem kx_X3_greatestRepeated : Cond.code yX3_greatestRepeated cX3_greatestRepeated 6 (some .int) ∈ gw := tb_in (List.mem_of_getElem? (i := 353) (by decide +kernel)) rfl
theorem kd_X3_greatestRepeated : yX3_greatestRepeated.cls ≠ "java/lang/invoke/MethodHandle" ∧ yX3_greatestRepeated.cls ≠ "java/lang/invoke/VarHandle" ∧ (parseMethodDescriptor yX3_greatestRepeated.desc).map (fun d => d.parameters.length) = some 2 := by decide +kernel
theorem ki_X3_greatestRepeated : Cond.instanceMethod yX3_greatestRepeated ∈ gw := tb_in (List.mem_of_getElem? (i := 352) (by decide +kernel)) rfl
theorem ks_X3_greatestRepeated : Cond.selects RX3 yX3_greatestRepeated yX3_greatestRepeated ∈ gw := tb_sel (List.mem_of_getElem? (i := 12) (by decide +kernel)) rfl
theorem kx_X3_leastOfRing : Cond.code yX3_leastOfRing cX3_leastOfRing 6 (some .int) ∈ gw := tb_in (List.mem_of_getElem? (i := 392) (by decide +kernel)) rfl
theorem kd_X3_leastOfRing : yX3_leastOfRing.cls ≠ "java/lang/invoke/MethodHandle" ∧ yX3_leastOfRing.cls ≠ "java/lang/invoke/VarHandle" ∧ (parseMethodDescriptor yX3_leastOfRing.desc).map (fun d => d.parameters.length) = some 1 := by decide +kernel
theorem ki_X3_leastOfRing : Cond.instanceMethod yX3_leastOfRing ∈ gw := tb_in (List.mem_of_getElem? (i := 391) (by decide +kernel)) rfl
theorem ks_X3_leastOfRing : Cond.selects RX3 yX3_leastOfRing yX3_leastOfRing ∈ gw := tb_sel (List.mem_of_getElem? (i := 18) (by decide +kernel)) rfl
theorem kx_X3_wordsUpTo : Cond.code yX3_wordsUpTo cX3_wordsUpTo 5 (some .int) ∈ gw := tb_in (List.mem_of_getElem? (i := 357) (by decide +kernel)) rfl
theorem kd_X3_wordsUpTo : yX3_wordsUpTo.cls ≠ "java/lang/invoke/MethodHandle" ∧ yX3_wordsUpTo.cls ≠ "java/lang/invoke/VarHandle" ∧ (parseMethodDescriptor yX3_wordsUpTo.desc).map (fun d => d.parameters.length) = some 2 := by decide +kernel
theorem ki_X3_wordsUpTo : Cond.instanceMethod yX3_wordsUpTo ∈ gw := tb_in (List.mem_of_getElem? (i := 356) (by decide +kernel)) rfl
theorem ks_X3_wordsUpTo : Cond.selects RX3 yX3_wordsUpTo yX3_wordsUpTo ∈ gw := tb_sel (List.mem_of_getElem? (i := 13) (by decide +kernel)) rfl
theorem kx_X3_lowerToBeginning : Cond.code yX3_lowerToBeginning cX3_lowerToBeginning 5 none ∈ gw := tb_in (List.mem_of_getElem? (i := 361) (by decide +kernel)) rfl
theorem kd_X3_lowerToBeginning : yX3_lowerToBeginning.cls ≠ "java/lang/invoke/MethodHandle" ∧ yX3_lowerToBeginning.cls ≠ "java/lang/invoke/VarHandle" ∧ (parseMethodDescriptor yX3_lowerToBeginning.desc).map (fun d => d.parameters.length) = some 1 := by decide +kernel
theorem ki_X3_lowerToBeginning : Cond.instanceMethod yX3_lowerToBeginning ∈ gw := tb_in (List.mem_of_getElem? (i := 360) (by decide +kernel)) rfl
theorem ks_X3_lowerToBeginning : Cond.selects RX3 yX3_lowerToBeginning yX3_lowerToBeginning ∈ gw := tb_sel (List.mem_of_getElem? (i := 14) (by decide +kernel)) rfl
theorem kx_X3_firstFault : Cond.code yX3_firstFault cX3_firstFault 4 (some .int) ∈ gw := tb_in (List.mem_of_getElem? (i := 365) (by decide +kernel)) rfl
theorem kd_X3_firstFault : yX3_firstFault.cls ≠ "java/lang/invoke/MethodHandle" ∧ yX3_firstFault.cls ≠ "java/lang/invoke/VarHandle" ∧ (parseMethodDescriptor yX3_firstFault.desc).map (fun d => d.parameters.length) = some 1 := by decide +kernel
theorem ki_X3_firstFault : Cond.instanceMethod yX3_firstFault ∈ gw := tb_in (List.mem_of_getElem? (i := 364) (by decide +kernel)) rfl
theorem ks_X3_firstFault : Cond.selects RX3 yX3_firstFault yX3_firstFault ∈ gw := tb_sel (List.mem_of_getElem? (i := 15) (by decide +kernel)) rfl
theorem kx_X3_wordsAboveRow : Cond.code yX3_wordsAboveRow cX3_wordsAboveRow 5 (some .int) ∈ gw := tb_in (List.mem_of_getElem? (i := 375) (by decide +kernel)) rfl
theorem kd_X3_wordsAboveRow : yX3_wordsAboveRow.cls ≠ "java/lang/invoke/MethodHandle" ∧ yX3_wordsAboveRow.cls ≠ "java/lang/invoke/VarHandle" ∧ (parseMethodDescriptor yX3_wordsAboveRow.desc).map (fun d => d.parameters.length) = some 1 := by decide +kernel
theorem ki_X3_wordsAboveRow : Cond.instanceMethod yX3_wordsAboveRow ∈ gw := tb_in (List.mem_of_getElem? (i := 374) (by decide +kernel)) rfl
theorem ks_X3_wordsAboveRow : Cond.selects RX3 yX3_wordsAboveRow yX3_wordsAboveRow ∈ gw := tb_sel (List.mem_of_getElem? (i := 16) (by decide +kernel)) rfl
theorem kx_X3_greaterThan : Cond.code yX3_greaterThan cX3_greaterThan 2 (some .int) ∈ gw := tb_in (List.mem_of_getElem? (i := 379) (by decide +kernel)) rfl
theorem kd_X3_greaterThan : yX3_greaterThan.cls ≠ "java/lang/invoke/MethodHandle" ∧ yX3_greaterThan.cls ≠ "java/lang/invoke/VarHandle" ∧ (parseMethodDescriptor yX3_greaterThan.desc).map (fun d => d.parameters.length) = some 1 := by decide +kernel
theorem ki_X3_greaterThan : Cond.instanceMethod yX3_greaterThan ∈ gw := tb_in (List.mem_of_getElem? (i := 378) (by decide +kernel)) rfl
theorem ks_X3_greaterThan : Cond.selects RX3 yX3_greaterThan yX3_greaterThan ∈ gw := tb_sel (List.mem_of_getElem? (i := 17) (by decide +kernel)) rfl
theorem kx_X3_takeAmounts : Cond.code yX3_takeAmounts cX3_takeAmounts 9 (some .boolean) ∈ gw := tb_in (List.mem_of_getElem? (i := 406) (by decide +kernel)) rfl
theorem kd_X3_takeAmounts : yX3_takeAmounts.cls ≠ "java/lang/invoke/MethodHandle" ∧ yX3_takeAmounts.cls ≠ "java/lang/invoke/VarHandle" ∧ (parseMethodDescriptor yX3_takeAmounts.desc).map (fun d => d.parameters.length) = some 5 := by decide +kernel
theorem ki_X3_takeAmounts : Cond.instanceMethod yX3_takeAmounts ∈ gw := tb_in (List.mem_of_getElem? (i := 405) (by decide +kernel)) rfl
theorem ks_X3_takeAmounts : Cond.selects RX3 yX3_takeAmounts yX3_takeAmounts ∈ gw := tb_sel (List.mem_of_getElem? (i := 19) (by decide +kernel)) rfl
theorem kx_X3_ringsOfAmounts : Cond.code yX3_ringsOfAmounts cX3_ringsOfAmounts 4 (some .int) ∈ gw := tb_in (List.mem_of_getElem? (i := 414) (by decide +kernel)) rfl
theorem kd_X3_ringsOfAmounts : yX3_ringsOfAmounts.cls ≠ "java/lang/invoke/MethodHandle" ∧ yX3_ringsOfAmounts.cls ≠ "java/lang/invoke/VarHandle" ∧ (parseMethodDescriptor yX3_ringsOfAmounts.desc).map (fun d => d.parameters.length) = some 0 := by decide +kernel
theorem ki_X3_ringsOfAmounts : Cond.instanceMethod yX3_ringsOfAmounts ∈ gw := tb_in (List.mem_of_getElem? (i := 413) (by decide +kernel)) rfl
theorem ks_X3_ringsOfAmounts : Cond.selects RX3 yX3_ringsOfAmounts yX3_ringsOfAmounts ∈ gw := tb_sel (List.mem_of_getElem? (i := 21) (by decide +kernel)) rfl
theorem kx_X3_allDivisible : Cond.code yX3_allDivisible cX3_allDivisible 3 (some .boolean) ∈ gw := tb_in (List.mem_of_getElem? (i := 418) (by decide +kernel)) rfl
theorem kd_X3_allDivisible : yX3_allDivisible.cls ≠ "java/lang/invoke/MethodHandle" ∧ yX3_allDivisible.cls ≠ "java/lang/invoke/VarHandle" ∧ (parseMethodDescriptor yX3_allDivisible.desc).map (fun d => d.parameters.length) = some 1 := by decide +kernel
theorem ki_X3_allDivisible : Cond.instanceMethod yX3_allDivisible ∈ gw := tb_in (List.mem_of_getElem? (i := 417) (by decide +kernel)) rfl
theorem ks_X3_allDivisible : Cond.selects RX3 yX3_allDivisible yX3_allDivisible ∈ gw := tb_sel (List.mem_of_getElem? (i := 22) (by decide +kernel)) rfl
theorem kx_X3_arrangements : Cond.code yX3_arrangements cX3_arrangements 7 (some .long) ∈ gw := tb_in (List.mem_of_getElem? (i := 422) (by decide +kernel)) rfl
theorem kd_X3_arrangements : yX3_arrangements.cls ≠ "java/lang/invoke/MethodHandle" ∧ yX3_arrangements.cls ≠ "java/lang/invoke/VarHandle" ∧ (parseMethodDescriptor yX3_arrangements.desc).map (fun d => d.parameters.length) = some 1 := by decide +kernel
theorem ki_X3_arrangements : Cond.instanceMethod yX3_arrangements ∈ gw := tb_in (List.mem_of_getElem? (i := 421) (by decide +kernel)) rfl
theorem ks_X3_arrangements : Cond.selects RX3 yX3_arrangements yX3_arrangements ∈ gw := tb_sel (List.mem_of_getElem? (i := 23) (by decide +kernel)) rfl
theorem kx_X4_init : Cond.code yX4_init cX4_init 2 none ∈ gw := tb_in (List.mem_of_getElem? (i := 151) (by decide +kernel)) rfl
theorem kd_X4_init : yX4_init.cls ≠ "java/lang/invoke/MethodHandle" ∧ yX4_init.cls ≠ "java/lang/invoke/VarHandle" ∧ (parseMethodDescriptor yX4_init.desc).map (fun d => d.parameters.length) = some 1 := by decide +kernel
theorem ki_X4_init : Cond.instanceMethod yX4_init ∈ gw := tb_in (List.mem_of_getElem? (i := 150) (by decide +kernel)) rfl
theorem kx_X4_drop : Cond.code yX4_drop cX4_drop 1 none ∈ gw := tb_in (List.mem_of_getElem? (i := 288) (by decide +kernel)) rfl
theorem kd_X4_drop : yX4_drop.cls ≠ "java/lang/invoke/MethodHandle" ∧ yX4_drop.cls ≠ "java/lang/invoke/VarHandle" ∧ (parseMethodDescriptor yX4_drop.desc).map (fun d => d.parameters.length) = some 0 := by decide +kernel
theorem ki_X4_drop : Cond.instanceMethod yX4_drop ∈ gw := tb_in (List.mem_of_getElem? (i := 287) (by decide +kernel)) rfl
theorem ks_X4_drop : Cond.selects RX4 yX4_drop yX4_drop ∈ gw := tb_sel (List.mem_of_getElem? (i := 3) (by decide +kernel)) rfl
theorem kx_X4_isThere : Cond.code yX4_isThere cX4_isThere 1 (some .boolean) ∈ gw := tb_in (List.mem_of_getElem? (i := 599) (by decide +kernel)) rfl
theorem kd_X4_isThere : yX4_isThere.cls ≠ "java/lang/invoke/MethodHandle" ∧ yX4_isThere.cls ≠ "java/lang/invoke/VarHandle" ∧ (parseMethodDescriptor yX4_isThere.desc).map (fun d => d.parameters.length) = some 0 := by decide +kernel
theorem ki_X4_isThere : Cond.instanceMethod yX4_isThere ∈ gw := tb_in (List.mem_of_getElem? (i := 598) (by decide +kernel)) rfl
theorem ks_X4_isThere : Cond.selects RX4 yX4_isThere yX4_isThere ∈ gw := tb_sel (List.mem_of_getElem? (i := 53) (by decide +kernel)) rfl
theorem kx_X4_isPlace : Cond.code yX4_isPlace cX4_isPlace 2 (some .boolean) ∈ gw := tb_in (List.mem_of_getElem? (i := 595) (by decide +kernel)) rfl
theorem kd_X4_isPlace : yX4_isPlace.cls ≠ "java/lang/invoke/MethodHandle" ∧ yX4_isPlace.cls ≠ "java/lang/invoke/VarHandle" ∧ (parseMethodDescriptor yX4_isPlace.desc).map (fun d => d.parameters.length) = some 1 := by decide +kernel
theorem ki_X4_isPlace : Cond.instanceMethod yX4_isPlace ∈ gw := tb_in (List.mem_of_getElem? (i := 594) (by decide +kernel)) rfl
theorem ks_X4_isPlace : Cond.selects RX4 yX4_isPlace yX4_isPlace ∈ gw := tb_sel (List.mem_of_getElem? (i := 52) (by decide +kernel)) rfl
theorem kx_X4_becomeLeast : Cond.code yX4_becomeLeast cX4_becomeLeast 5 none ∈ gw := tb_in (List.mem_of_getElem? (i := 561) (by decide +kernel)) rfl
theorem kd_X4_becomeLeast : yX4_becomeLeast.cls ≠ "java/lang/invoke/MethodHandle" ∧ yX4_becomeLeast.cls ≠ "java/lang/invoke/VarHandle" ∧ (parseMethodDescriptor yX4_becomeLeast.desc).map (fun d => d.parameters.length) = some 0 := by decide +kernel
theorem ki_X4_becomeLeast : Cond.instanceMethod yX4_becomeLeast ∈ gw := tb_in (List.mem_of_getElem? (i := 560) (by decide +kernel)) rfl
theorem ks_X4_becomeLeast : Cond.selects RX4 yX4_becomeLeast yX4_becomeLeast ∈ gw := tb_sel (List.mem_of_getElem? (i := 46) (by decide +kernel)) rfl
theorem kx_X4_nextRow : Cond.code yX4_nextRow cX4_nextRow 3 (some .int) ∈ gw := tb_in (List.mem_of_getElem? (i := 566) (by decide +kernel)) rfl
theorem kd_X4_nextRow : yX4_nextRow.cls ≠ "java/lang/invoke/MethodHandle" ∧ yX4_nextRow.cls ≠ "java/lang/invoke/VarHandle" ∧ (parseMethodDescriptor yX4_nextRow.desc).map (fun d => d.parameters.length) = some 1 := by decide +kernel
theorem ki_X4_nextRow : Cond.instanceMethod yX4_nextRow ∈ gw := tb_in (List.mem_of_getElem? (i := 565) (by decide +kernel)) rfl
theorem ks_X4_nextRow : Cond.selects RX4 yX4_nextRow yX4_nextRow ∈ gw := tb_sel (List.mem_of_getElem? (i := 47) (by decide +kernel)) rfl
theorem kx_X4_findPlaces : Cond.code yX4_findPlaces cX4_findPlaces 4 none ∈ gw := tb_in (List.mem_of_getElem? (i := 570) (by decide +kernel)) rfl
theorem kd_X4_findPlaces : yX4_findPlaces.cls ≠ "java/lang/invoke/MethodHandle" ∧ yX4_findPlaces.cls ≠ "java/lang/invoke/VarHandle" ∧ (parseMethodDescriptor yX4_findPlaces.desc).map (fun d => d.parameters.length) = some 0 := by decide +kernel
theorem ki_X4_findPlaces : Cond.instanceMethod yX4_findPlaces ∈ gw := tb_in (List.mem_of_getElem? (i := 569) (by decide +kernel)) rfl
theorem ks_X4_findPlaces : Cond.selects RX4 yX4_findPlaces yX4_findPlaces ∈ gw := tb_sel (List.mem_of_getElem? (i := 48) (by decide +kernel)) rfl
theorem kx_X4_becomeGreedy : Cond.code yX4_becomeGreedy cX4_becomeGreedy 4 none ∈ gw := tb_in (List.mem_of_getElem? (i := 574) (by decide +kernel)) rfl
theorem kd_X4_becomeGreedy : yX4_becomeGreedy.cls ≠ "java/lang/invoke/MethodHandle" ∧ yX4_becomeGreedy.cls ≠ "java/lang/invoke/VarHandle" ∧ (parseMethodDescriptor yX4_becomeGreedy.desc).map (fun d => d.parameters.length) = some 0 := by decide +kernel
theorem ki_X4_becomeGreedy : Cond.instanceMethod yX4_becomeGreedy ∈ gw := tb_in (List.mem_of_getElem? (i := 573) (by decide +kernel)) rfl
theorem ks_X4_becomeGreedy : Cond.selects RX4 yX4_becomeGreedy yX4_becomeGreedy ∈ gw := tb_sel (List.mem_of_getElem? (i := 49) (by decide +kernel)) rfl
theorem kx_X4_greatestNew : Cond.code yX4_greatestNew cX4_greatestNew 3 (some .int) ∈ gw := tb_in (List.mem_of_getElem? (i := 582) (by decide +kernel)) rfl
theorem kd_X4_greatestNew : yX4_greatestNew.cls ≠ "java/lang/invoke/MethodHandle" ∧ yX4_greatestNew.cls ≠ "java/lang/invoke/VarHandle" ∧ (parseMethodDescriptor yX4_greatestNew.desc).map (fun d => d.parameters.length) = some 1 := by decide +kernel
theorem ki_X4_greatestNew : Cond.instanceMethod yX4_greatestNew ∈ gw := tb_in (List.mem_of_getElem? (i := 581) (by decide +kernel)) rfl
theorem ks_X4_greatestNew : Cond.selects RX4 yX4_greatestNew yX4_greatestNew ∈ gw := tb_sel (List.mem_of_getElem? (i := 50) (by decide +kernel)) rfl
theorem kx_X4_becomeCycle : Cond.code yX4_becomeCycle cX4_becomeCycle 4 none ∈ gw := tb_in (List.mem_of_getElem? (i := 587) (by decide +kernel)) rfl
theorem kd_X4_becomeCycle : yX4_becomeCycle.cls ≠ "java/lang/invoke/MethodHandle" ∧ yX4_becomeCycle.cls ≠ "java/lang/invoke/VarHandle" ∧ (parseMethodDescriptor yX4_becomeCycle.desc).map (fun d => d.parameters.length) = some 1 := by decide +kernel
theorem ki_X4_becomeCycle : Cond.instanceMethod yX4_becomeCycle ∈ gw := tb_in (List.mem_of_getElem? (i := 586) (by decide +kernel)) rfl
theorem ks_X4_becomeCycle : Cond.selects RX4 yX4_becomeCycle yX4_becomeCycle ∈ gw := tb_sel (List.mem_of_getElem? (i := 51) (by decide +kernel)) rfl
theorem kx_X4_writeLetters : Cond.code yX4_writeLetters cX4_writeLetters 7 none ∈ gw := tb_in (List.mem_of_getElem? (i := 675) (by decide +kernel)) rfl
theorem kd_X4_writeLetters : yX4_writeLetters.cls ≠ "java/lang/invoke/MethodHandle" ∧ yX4_writeLetters.cls ≠ "java/lang/invoke/VarHandle" ∧ (parseMethodDescriptor yX4_writeLetters.desc).map (fun d => d.parameters.length) = some 4 := by decide +kernel
theorem ki_X4_writeLetters : Cond.instanceMethod yX4_writeLetters ∈ gw := tb_in (List.mem_of_getElem? (i := 674) (by decide +kernel)) rfl
theorem ks_X4_writeLetters : Cond.selects RX4 yX4_writeLetters yX4_writeLetters ∈ gw := tb_sel (List.mem_of_getElem? (i := 60) (by decide +kernel)) rfl
theorem kx_X4_countMatches : Cond.code yX4_countMatches cX4_countMatches 14 (some .int) ∈ gw := tb_in (List.mem_of_getElem? (i := 683) (by decide +kernel)) rfl
theorem kd_X4_countMatches : yX4_countMatches.cls ≠ "java/lang/invoke/MethodHandle" ∧ yX4_countMatches.cls ≠ "java/lang/invoke/VarHandle" ∧ (parseMethodDescriptor yX4_countMatches.desc).map (fun d => d.parameters.length) = some 4 := by decide +kernel
theorem ki_X4_countMatches : Cond.instanceMethod yX4_countMatches ∈ gw := tb_in (List.mem_of_getElem? (i := 682) (by decide +kernel)) rfl
theorem ks_X4_countMatches : Cond.selects RX4 yX4_countMatches yX4_countMatches ∈ gw := tb_sel (List.mem_of_getElem? (i := 61) (by decide +kernel)) rfl
theorem kx_X4_noteSlips : Cond.code yX4_noteSlips cX4_noteSlips 7 none ∈ gw := tb_in (List.mem_of_getElem? (i := 687) (by decide +kernel)) rfl
theorem kd_X4_noteSlips : yX4_noteSlips.cls ≠ "java/lang/invoke/MethodHandle" ∧ yX4_noteSlips.cls ≠ "java/lang/invoke/VarHandle" ∧ (parseMethodDescriptor yX4_noteSlips.desc).map (fun d => d.parameters.length) = some 3 := by decide +kernel
theorem ki_X4_noteSlips : Cond.instanceMethod yX4_noteSlips ∈ gw := tb_in (List.mem_of_getElem? (i := 686) (by decide +kernel)) rfl
theorem ks_X4_noteSlips : Cond.selects RX4 yX4_noteSlips yX4_noteSlips ∈ gw := tb_sel (List.mem_of_getElem? (i := 62) (by decide +kernel)) rfl
theorem kx_X4_noteFirstPlaces : Cond.code yX4_noteFirstPlaces cX4_noteFirstPlaces 4 (some .int) ∈ gw := tb_in (List.mem_of_getElem? (i := 695) (by decide +kernel)) rfl
theorem kd_X4_noteFirstPlaces : yX4_noteFirstPlaces.cls ≠ "java/lang/invoke/MethodHandle" ∧ yX4_noteFirstPlaces.cls ≠ "java/lang/invoke/VarHandle" ∧ (parseMethodDescriptor yX4_noteFirstPlaces.desc).map (fun d => d.parameters.length) = some 1 := by decide +kernel
theorem ki_X4_noteFirstPlaces : Cond.instanceMethod yX4_noteFirstPlaces ∈ gw := tb_in (List.mem_of_getElem? (i := 694) (by decide +kernel)) rfl
theorem ks_X4_noteFirstPlaces : Cond.selects RX4 yX4_noteFirstPlaces yX4_noteFirstPlaces ∈ gw := tb_sel (List.mem_of_getElem? (i := 63) (by decide +kernel)) rfl
theorem kx_X5_init : Cond.code yX5_init cX5_init 2 none ∈ gw := tb_in (List.mem_of_getElem? (i := 189) (by decide +kernel)) rfl
theorem kd_X5_init : yX5_init.cls ≠ "java/lang/invoke/MethodHandle" ∧ yX5_init.cls ≠ "java/lang/invoke/VarHandle" ∧ (parseMethodDescriptor yX5_init.desc).map (fun d => d.parameters.length) = some 1 := by decide +kernel
theorem ki_X5_init : Cond.instanceMethod yX5_init ∈ gw := tb_in (List.mem_of_getElem? (i := 188) (by decide +kernel)) rfl
theorem kx_X5_isLost : Cond.code yX5_isLost cX5_isLost 1 (some .boolean) ∈ gw := tb_in (List.mem_of_getElem? (i := 636) (by decide +kernel)) rfl
theorem kd_X5_isLost : yX5_isLost.cls ≠ "java/lang/invoke/MethodHandle" ∧ yX5_isLost.cls ≠ "java/lang/invoke/VarHandle" ∧ (parseMethodDescriptor yX5_isLost.desc).map (fun d => d.parameters.length) = some 0 := by decide +kernel
theorem ki_X5_isLost : Cond.instanceMethod yX5_isLost ∈ gw := tb_in (List.mem_of_getElem? (i := 635) (by decide +kernel)) rfl
theorem ks_X5_isLost : Cond.selects RX5 yX5_isLost yX5_isLost ∈ gw := tb_sel (List.mem_of_getElem? (i := 56) (by decide +kernel)) rfl
theorem kx_X5_begin : Cond.code yX5_begin cX5_begin 3 none ∈ gw := tb_in (List.mem_of_getElem? (i := 627) (by decide +kernel)) rfl
theorem kd_X5_begin : yX5_begin.cls ≠ "java/lang/invoke/MethodHandle" ∧ yX5_begin.cls ≠ "java/lang/invoke/VarHandle" ∧ (parseMethodDescriptor yX5_begin.desc).map (fun d => d.parameters.length) = some 2 := by decide +kernel
theorem ki_X5_begin : Cond.instanceMethod yX5_begin ∈ gw := tb_in (List.mem_of_getElem? (i := 626) (by decide +kernel)) rfl
theorem ks_X5_begin : Cond.selects RX5 yX5_begin yX5_begin ∈ gw := tb_sel (List.mem_of_getElem? (i := 55) (by decide +kernel)) rfl
theorem kx_X5_drop : Cond.code yX5_drop cX5_drop 1 (some .int) ∈ gw := tb_in (List.mem_of_getElem? (i := 640) (by decide +kernel)) rfl
theorem kd_X5_drop : yX5_drop.cls ≠ "java/lang/invoke/MethodHandle" ∧ yX5_drop.cls ≠ "java/lang/invoke/VarHandle" ∧ (parseMethodDescriptor yX5_drop.desc).map (fun d => d.parameters.length) = some 0 := by decide +kernel
theorem ki_X5_drop : Cond.instanceMethod yX5_drop ∈ gw := tb_in (List.mem_of_getElem? (i := 639) (by decide +kernel)) rfl
theorem ks_X5_drop : Cond.selects RX5 yX5_drop yX5_drop ∈ gw := tb_sel (List.mem_of_getElem? (i := 57) (by decide +kernel)) rfl
theorem kx_X5_hasItems : Cond.code yX5_hasItems cX5_hasItems 3 (some .boolean) ∈ gw := tb_in (List.mem_of_getElem? (i := 651) (by decide +kernel)) rfl
theorem kd_X5_hasItems : yX5_hasItems.cls ≠ "java/lang/invoke/MethodHandle" ∧ yX5_hasItems.cls ≠ "java/lang/invoke/VarHandle" ∧ (parseMethodDescriptor yX5_hasItems.desc).map (fun d => d.parameters.length) = some 2 := by decide +kernel
theorem ki_X5_hasItems : Cond.instanceMethod yX5_hasItems ∈ gw := tb_in (List.mem_of_getElem? (i := 650) (by decide +kernel)) rfl
theorem ks_X5_hasItems : Cond.selects RX5 yX5_hasItems yX5_hasItems ∈ gw := tb_sel (List.mem_of_getElem? (i := 58) (by decide +kernel)) rfl
theorem kx_X5_fitted : Cond.code yX5_fitted cX5_fitted 2 (some .int) ∈ gw := tb_in (List.mem_of_getElem? (i := 655) (by decide +kernel)) rfl
theorem kd_X5_fitted : yX5_fitted.cls ≠ "java/lang/invoke/MethodHandle" ∧ yX5_fitted.cls ≠ "java/lang/invoke/VarHandle" ∧ (parseMethodDescriptor yX5_fitted.desc).map (fun d => d.parameters.length) = some 1 := by decide +kernel
theorem ki_X5_fitted : Cond.instanceMethod yX5_fitted ∈ gw := tb_in (List.mem_of_getElem? (i := 654) (by decide +kernel)) rfl
theorem ks_X5_fitted : Cond.selects RX5 yX5_fitted yX5_fitted ∈ gw := tb_sel (List.mem_of_getElem? (i := 59) (by decide +kernel)) rfl
theorem kx_X5_hasBlanks : Cond.code yX5_hasBlanks cX5_hasBlanks 2 (some .boolean) ∈ gw := tb_in (List.mem_of_getElem? (i := 713) (by decide +kernel)) rfl
theorem kd_X5_hasBlanks : yX5_hasBlanks.cls ≠ "java/lang/invoke/MethodHandle" ∧ yX5_hasBlanks.cls ≠ "java/lang/invoke/VarHandle" ∧ (parseMethodDescriptor yX5_hasBlanks.desc).map (fun d => d.parameters.length) = some 0 := by decide +kernel
theorem ki_X5_hasBlanks : Cond.instanceMethod yX5_hasBlanks ∈ gw := tb_in (List.mem_of_getElem? (i := 712) (by decide +kernel)) rfl
theorem ks_X5_hasBlanks : Cond.selects RX5 yX5_hasBlanks yX5_hasBlanks ∈ gw := tb_sel (List.mem_of_getElem? (i := 64) (by decide +kernel)) rfl
theorem kx_X5_firstRepeated : Cond.code yX5_firstRepeated cX5_firstRepeated 3 (some .int) ∈ gw := tb_in (List.mem_of_getElem? (i := 718) (by decide +kernel)) rfl
theorem kd_X5_firstRepeated : yX5_firstRepeated.cls ≠ "java/lang/invoke/MethodHandle" ∧ yX5_firstRepeated.cls ≠ "java/lang/invoke/VarHandle" ∧ (parseMethodDescriptor yX5_firstRepeated.desc).map (fun d => d.parameters.length) = some 0 := by decide +kernel
theorem ki_X5_firstRepeated : Cond.instanceMethod yX5_firstRepeated ∈ gw := tb_in (List.mem_of_getElem? (i := 717) (by decide +kernel)) rfl
theorem ks_X5_firstRepeated : Cond.selects RX5 yX5_firstRepeated yX5_firstRepeated ∈ gw := tb_sel (List.mem_of_getElem? (i := 65) (by decide +kernel)) rfl
theorem kx_X5_wordAt : Cond.code yX5_wordAt cX5_wordAt 5 (some .int) ∈ gw := tb_in (List.mem_of_getElem? (i := 722) (by decide +kernel)) rfl
theorem kd_X5_wordAt : yX5_wordAt.cls ≠ "java/lang/invoke/MethodHandle" ∧ yX5_wordAt.cls ≠ "java/lang/invoke/VarHandle" ∧ (parseMethodDescriptor yX5_wordAt.desc).map (fun d => d.parameters.length) = some 1 := by decide +kernel
theorem ki_X5_wordAt : Cond.instanceMethod yX5_wordAt ∈ gw := tb_in (List.mem_of_getElem? (i := 721) (by decide +kernel)) rfl
theorem ks_X5_wordAt : Cond.selects RX5 yX5_wordAt yX5_wordAt ∈ gw := tb_sel (List.mem_of_getElem? (i := 66) (by decide +kernel)) rfl
theorem kx_X6_init : Cond.code yX6_init cX6_init 1 none ∈ gw := tb_in (List.mem_of_getElem? (i := 26) (by decide +kernel)) rfl
theorem kd_X6_init : yX6_init.cls ≠ "java/lang/invoke/MethodHandle" ∧ yX6_init.cls ≠ "java/lang/invoke/VarHandle" ∧ (parseMethodDescriptor yX6_init.desc).map (fun d => d.parameters.length) = some 0 := by decide +kernel
theorem ki_X6_init : Cond.instanceMethod yX6_init ∈ gw := tb_in (List.mem_of_getElem? (i := 25) (by decide +kernel)) rfl
theorem kx_X6_howMany : Cond.code yX6_howMany cX6_howMany 4 (some .int) ∈ gw := tb_in (List.mem_of_getElem? (i := 282) (by decide +kernel)) rfl
theorem kd_X6_howMany : yX6_howMany.cls ≠ "java/lang/invoke/MethodHandle" ∧ yX6_howMany.cls ≠ "java/lang/invoke/VarHandle" ∧ (parseMethodDescriptor yX6_howMany.desc).map (fun d => d.parameters.length) = some 2 := by decide +kernel
theorem kt_X6_howMany : Cond.static yX6_howMany ∈ gw := tb_in (List.mem_of_getElem? (i := 281) (by decide +kernel)) rfl
theorem kx_X6_become : Cond.code yX6_become cX6_become 4 none ∈ gw := tb_in (List.mem_of_getElem? (i := 31) (by decide +kernel)) rfl
theorem kd_X6_become : yX6_become.cls ≠ "java/lang/invoke/MethodHandle" ∧ yX6_become.cls ≠ "java/lang/invoke/VarHandle" ∧ (parseMethodDescriptor yX6_become.desc).map (fun d => d.parameters.length) = some 2 := by decide +kernel
theorem ki_X6_become : Cond.instanceMethod yX6_become ∈ gw := tb_in (List.mem_of_getElem? (i := 30) (by decide +kernel)) rfl
theorem ks_X6_become : Cond.selects RX6 yX6_become yX6_become ∈ gw := tb_sel (List.mem_of_getElem? (i := 0) (by decide +kernel)) rfl
theorem kx_X6_has : Cond.code yX6_has cX6_has 2 (some .boolean) ∈ gw := tb_in (List.mem_of_getElem? (i := 296) (by decide +kernel)) rfl
theorem kd_X6_has : yX6_has.cls ≠ "java/lang/invoke/MethodHandle" ∧ yX6_has.cls ≠ "java/lang/invoke/VarHandle" ∧ (parseMethodDescriptor yX6_has.desc).map (fun d => d.parameters.length) = some 1 := by decide +kernel
theorem ki_X6_has : Cond.instanceMethod yX6_has ∈ gw := tb_in (List.mem_of_getElem? (i := 295) (by decide +kernel)) rfl
theorem ks_X6_has : Cond.selects RX6 yX6_has yX6_has ∈ gw := tb_sel (List.mem_of_getElem? (i := 4) (by decide +kernel)) rfl
theorem kx_X6_isLetter : Cond.code yX6_isLetter cX6_isLetter 2 (some .boolean) ∈ gw := tb_in (List.mem_of_getElem? (i := 410) (by decide +kernel)) rfl
theorem kd_X6_isLetter : yX6_isLetter.cls ≠ "java/lang/invoke/MethodHandle" ∧ yX6_isLetter.cls ≠ "java/lang/invoke/VarHandle" ∧ (parseMethodDescriptor yX6_isLetter.desc).map (fun d => d.parameters.length) = some 1 := by decide +kernel
theorem ki_X6_isLetter : Cond.instanceMethod yX6_isLetter ∈ gw := tb_in (List.mem_of_getElem? (i := 409) (by decide +kernel)) rfl
theorem ks_X6_isLetter : Cond.selects RX6 yX6_isLetter yX6_isLetter ∈ gw := tb_sel (List.mem_of_getElem? (i := 20) (by decide +kernel)) rfl
theorem kx_X6_differInFirst : Cond.code yX6_differInFirst cX6_differInFirst 3 (some .boolean) ∈ gw := tb_in (List.mem_of_getElem? (i := 471) (by decide +kernel)) rfl
theorem kd_X6_differInFirst : yX6_differInFirst.cls ≠ "java/lang/invoke/MethodHandle" ∧ yX6_differInFirst.cls ≠ "java/lang/invoke/VarHandle" ∧ (parseMethodDescriptor yX6_differInFirst.desc).map (fun d => d.parameters.length) = some 2 := by decide +kernel
theorem ki_X6_differInFirst : Cond.instanceMethod yX6_differInFirst ∈ gw := tb_in (List.mem_of_getElem? (i := 470) (by decide +kernel)) rfl
theorem ks_X6_differInFirst : Cond.selects RX6 yX6_differInFirst yX6_differInFirst ∈ gw := tb_sel (List.mem_of_getElem? (i := 30) (by decide +kernel)) rfl
theorem kx_X6_turned : Cond.code yX6_turned cX6_turned 5 (some .int) ∈ gw := tb_in (List.mem_of_getElem? (i := 300) (by decide +kernel)) rfl
theorem kd_X6_turned : yX6_turned.cls ≠ "java/lang/invoke/MethodHandle" ∧ yX6_turned.cls ≠ "java/lang/invoke/VarHandle" ∧ (parseMethodDescriptor yX6_turned.desc).map (fun d => d.parameters.length) = some 2 := by decide +kernel
theorem ki_X6_turned : Cond.instanceMethod yX6_turned ∈ gw := tb_in (List.mem_of_getElem? (i := 299) (by decide +kernel)) rfl
theorem ks_X6_turned : Cond.selects RX6 yX6_turned yX6_turned ∈ gw := tb_sel (List.mem_of_getElem? (i := 5) (by decide +kernel)) rfl
theorem kx_X6_turnedOnce : Cond.code yX6_turnedOnce cX6_turnedOnce 2 (some .int) ∈ gw := tb_in (List.mem_of_getElem? (i := 312) (by decide +kernel)) rfl
theorem kd_X6_turnedOnce : yX6_turnedOnce.cls ≠ "java/lang/invoke/MethodHandle" ∧ yX6_turnedOnce.cls ≠ "java/lang/invoke/VarHandle" ∧ (parseMethodDescriptor yX6_turnedOnce.desc).map (fun d => d.parameters.length) = some 1 := by decide +kernel
theorem ki_X6_turnedOnce : Cond.instanceMethod yX6_turnedOnce ∈ gw := tb_in (List.mem_of_getElem? (i := 311) (by decide +kernel)) rfl
theorem ks_X6_turnedOnce : Cond.selects RX6 yX6_turnedOnce yX6_turnedOnce ∈ gw := tb_sel (List.mem_of_getElem? (i := 7) (by decide +kernel)) rfl
theorem kx_X6_leastOf : Cond.code yX6_leastOf cX6_leastOf 5 (some .int) ∈ gw := tb_in (List.mem_of_getElem? (i := 308) (by decide +kernel)) rfl
theorem kd_X6_leastOf : yX6_leastOf.cls ≠ "java/lang/invoke/MethodHandle" ∧ yX6_leastOf.cls ≠ "java/lang/invoke/VarHandle" ∧ (parseMethodDescriptor yX6_leastOf.desc).map (fun d => d.parameters.length) = some 1 := by decide +kernel
theorem ki_X6_leastOf : Cond.instanceMethod yX6_leastOf ∈ gw := tb_in (List.mem_of_getElem? (i := 307) (by decide +kernel)) rfl
theorem ks_X6_leastOf : Cond.selects RX6 yX6_leastOf yX6_leastOf ∈ gw := tb_sel (List.mem_of_getElem? (i := 6) (by decide +kernel)) rfl
theorem kx_X6_stepsToLeast : Cond.code yX6_stepsToLeast cX6_stepsToLeast 6 (some .int) ∈ gw := tb_in (List.mem_of_getElem? (i := 323) (by decide +kernel)) rfl
theorem kd_X6_stepsToLeast : yX6_stepsToLeast.cls ≠ "java/lang/invoke/MethodHandle" ∧ yX6_stepsToLeast.cls ≠ "java/lang/invoke/VarHandle" ∧ (parseMethodDescriptor yX6_stepsToLeast.desc).map (fun d => d.parameters.length) = some 1 := by decide +kernel
theorem ki_X6_stepsToLeast : Cond.instanceMethod yX6_stepsToLeast ∈ gw := tb_in (List.mem_of_getElem? (i := 322) (by decide +kernel)) rfl
theorem ks_X6_stepsToLeast : Cond.selects RX6 yX6_stepsToLeast yX6_stepsToLeast ∈ gw := tb_sel (List.mem_of_getElem? (i := 8) (by decide +kernel)) rfl
theorem kx_X6_ringSize : Cond.code yX6_ringSize cX6_ringSize 4 (some .int) ∈ gw := tb_in (List.mem_of_getElem? (i := 331) (by decide +kernel)) rfl
theorem kd_X6_ringSize : yX6_ringSize.cls ≠ "java/lang/invoke/MethodHandle" ∧ yX6_ringSize.cls ≠ "java/lang/invoke/VarHandle" ∧ (parseMethodDescriptor yX6_ringSize.desc).map (fun d => d.parameters.length) = some 1 := by decide +kernel
theorem ki_X6_ringSize : Cond.instanceMethod yX6_ringSize ∈ gw := tb_in (List.mem_of_getElem? (i := 330) (by decide +kernel)) rfl
theorem ks_X6_ringSize : Cond.selects RX6 yX6_ringSize yX6_ringSize ∈ gw := tb_sel (List.mem_of_getElem? (i := 9) (by decide +kernel)) rfl
theorem kx_X6_backward : Cond.code yX6_backward cX6_backward 5 (some .int) ∈ gw := tb_in (List.mem_of_getElem? (i := 339) (by decide +kernel)) rfl
theorem kd_X6_backward : yX6_backward.cls ≠ "java/lang/invoke/MethodHandle" ∧ yX6_backward.cls ≠ "java/lang/invoke/VarHandle" ∧ (parseMethodDescriptor yX6_backward.desc).map (fun d => d.parameters.length) = some 1 := by decide +kernel
theorem ki_X6_backward : Cond.instanceMethod yX6_backward ∈ gw := tb_in (List.mem_of_getElem? (i := 338) (by decide +kernel)) rfl
theorem ks_X6_backward : Cond.selects RX6 yX6_backward yX6_backward ∈ gw := tb_sel (List.mem_of_getElem? (i := 10) (by decide +kernel)) rfl
theorem kx_X7_init : Cond.code yX7_init cX7_init 2 none ∈ gw := tb_in (List.mem_of_getElem? (i := 18) (by decide +kernel)) rfl
theorem kd_X7_init : yX7_init.cls ≠ "java/lang/invoke/MethodHandle" ∧ yX7_init.cls ≠ "java/lang/invoke/VarHandle" ∧ (parseMethodDescriptor yX7_init.desc).map (fun d => d.parameters.length) = some 0 := by decide +kernel
theorem ki_X7_init : Cond.instanceMethod yX7_init ∈ gw := tb_in (List.mem_of_getElem? (i := 17) (by decide +kernel)) rfl
theorem kx_X7_wheel : Cond.code yX7_wheel cX7_wheel 4 (some .int) ∈ gw := tb_in (List.mem_of_getElem? (i := 279) (by decide +kernel)) rfl
theorem kd_X7_wheel : yX7_wheel.cls ≠ "java/lang/invoke/MethodHandle" ∧ yX7_wheel.cls ≠ "java/lang/invoke/VarHandle" ∧ (parseMethodDescriptor yX7_wheel.desc).map (fun d => d.parameters.length) = some 2 := by decide +kernel
theorem ki_X7_wheel : Cond.instanceMethod yX7_wheel ∈ gw := tb_in (List.mem_of_getElem? (i := 277) (by decide +kernel)) rfl
theorem ks_X7_wheel : Cond.selects RX7 yX7_wheel yX7_wheel ∈ gw := tb_in (List.mem_of_getElem? (i := 278) (by decide +kernel)) rfl
theorem kx_X7_turn : Cond.code yX7_turn cX7_turn 3 (some .int) ∈ gw := tb_in (List.mem_of_getElem? (i := 292) (by decide +kernel)) rfl
theorem kd_X7_turn : yX7_turn.cls ≠ "java/lang/invoke/MethodHandle" ∧ yX7_turn.cls ≠ "java/lang/invoke/VarHandle" ∧ (parseMethodDescriptor yX7_turn.desc).map (fun d => d.parameters.length) = some 2 := by decide +kernel
theorem ki_X7_turn : Cond.instanceMethod yX7_turn ∈ gw := tb_in (List.mem_of_getElem? (i := 290) (by decide +kernel)) rfl
theorem ks_X7_turn : Cond.selects RX7 yX7_turn yX7_turn ∈ gw := tb_in (List.mem_of_getElem? (i := 291) (by decide +kernel)) rfl
theorem kx_X7_least : Cond.code yX7_least cX7_least 2 (some .int) ∈ gw := tb_in (List.mem_of_getElem? (i := 304) (by decide +kernel)) rfl
theorem kd_X7_least : yX7_least.cls ≠ "java/lang/invoke/MethodHandle" ∧ yX7_least.cls ≠ "java/lang/invoke/VarHandle" ∧ (parseMethodDescriptor yX7_least.desc).map (fun d => d.parameters.length) = some 1 := by decide +kernel
theorem ki_X7_least : Cond.instanceMethod yX7_least ∈ gw := tb_in (List.mem_of_getElem? (i := 302) (by decide +kernel)) rfl
theorem ks_X7_least : Cond.selects RX7 yX7_least yX7_least ∈ gw := tb_in (List.mem_of_getElem? (i := 303) (by decide +kernel)) rfl
theorem kx_X7_steps : Cond.code yX7_steps cX7_steps 2 (some .int) ∈ gw := tb_in (List.mem_of_getElem? (i := 319) (by decide +kernel)) rfl
theorem kd_X7_steps : yX7_steps.cls ≠ "java/lang/invoke/MethodHandle" ∧ yX7_steps.cls ≠ "java/lang/invoke/VarHandle" ∧ (parseMethodDescriptor yX7_steps.desc).map (fun d => d.parameters.length) = some 1 := by decide +kernel
theorem ki_X7_steps : Cond.instanceMethod yX7_steps ∈ gw := tb_in (List.mem_of_getElem? (i := 317) (by decide +kernel)) rfl
theorem ks_X7_steps : Cond.selects RX7 yX7_steps yX7_steps ∈ gw := tb_in (List.mem_of_getElem? (i := 318) (by decide +kernel)) rfl
theorem kx_X7_size : Cond.code yX7_size cX7_size 2 (some .int) ∈ gw := tb_in (List.mem_of_getElem? (i := 327) (by decide +kernel)) rfl
theorem kd_X7_size : yX7_size.cls ≠ "java/lang/invoke/MethodHandle" ∧ yX7_size.cls ≠ "java/lang/invoke/VarHandle" ∧ (parseMethodDescriptor yX7_size.desc).map (fun d => d.parameters.length) = some 1 := by decide +kernel
theorem ki_X7_size : Cond.instanceMethod yX7_size ∈ gw := tb_in (List.mem_of_getElem? (i := 325) (by decide +kernel)) rfl
theorem ks_X7_size : Cond.selects RX7 yX7_size yX7_size ∈ gw := tb_in (List.mem_of_getElem? (i := 326) (by decide +kernel)) rfl
theorem kx_X7_even : Cond.code yX7_even cX7_even 3 (some .int) ∈ gw := tb_in (List.mem_of_getElem? (i := 335) (by decide +kernel)) rfl
theorem kd_X7_even : yX7_even.cls ≠ "java/lang/invoke/MethodHandle" ∧ yX7_even.cls ≠ "java/lang/invoke/VarHandle" ∧ (parseMethodDescriptor yX7_even.desc).map (fun d => d.parameters.length) = some 1 := by decide +kernel
theorem ki_X7_even : Cond.instanceMethod yX7_even ∈ gw := tb_in (List.mem_of_getElem? (i := 333) (by decide +kernel)) rfl
theorem ks_X7_even : Cond.selects RX7 yX7_even yX7_even ∈ gw := tb_in (List.mem_of_getElem? (i := 334) (by decide +kernel)) rfl
theorem kx_X7_rings : Cond.code yX7_rings cX7_rings 1 (some .int) ∈ gw := tb_in (List.mem_of_getElem? (i := 343) (by decide +kernel)) rfl
theorem kd_X7_rings : yX7_rings.cls ≠ "java/lang/invoke/MethodHandle" ∧ yX7_rings.cls ≠ "java/lang/invoke/VarHandle" ∧ (parseMethodDescriptor yX7_rings.desc).map (fun d => d.parameters.length) = some 0 := by decide +kernel
theorem ki_X7_rings : Cond.instanceMethod yX7_rings ∈ gw := tb_in (List.mem_of_getElem? (i := 341) (by decide +kernel)) rfl
theorem ks_X7_rings : Cond.selects RX7 yX7_rings yX7_rings ∈ gw := tb_in (List.mem_of_getElem? (i := 342) (by decide +kernel)) rfl
theorem kx_X7_ringOf : Cond.code yX7_ringOf cX7_ringOf 2 (some .int) ∈ gw := tb_in (List.mem_of_getElem? (i := 383) (by decide +kernel)) rfl
theorem kd_X7_ringOf : yX7_ringOf.cls ≠ "java/lang/invoke/MethodHandle" ∧ yX7_ringOf.cls ≠ "java/lang/invoke/VarHandle" ∧ (parseMethodDescriptor yX7_ringOf.desc).map (fun d => d.parameters.length) = some 1 := by decide +kernel
theorem ki_X7_ringOf : Cond.instanceMethod yX7_ringOf ∈ gw := tb_in (List.mem_of_getElem? (i := 381) (by decide +kernel)) rfl
theorem ks_X7_ringOf : Cond.selects RX7 yX7_ringOf yX7_ringOf ∈ gw := tb_in (List.mem_of_getElem? (i := 382) (by decide +kernel)) rfl
theorem kx_X7_ring : Cond.code yX7_ring cX7_ring 2 (some .int) ∈ gw := tb_in (List.mem_of_getElem? (i := 387) (by decide +kernel)) rfl
theorem kd_X7_ring : yX7_ring.cls ≠ "java/lang/invoke/MethodHandle" ∧ yX7_ring.cls ≠ "java/lang/invoke/VarHandle" ∧ (parseMethodDescriptor yX7_ring.desc).map (fun d => d.parameters.length) = some 1 := by decide +kernel
theorem ki_X7_ring : Cond.instanceMethod yX7_ring ∈ gw := tb_in (List.mem_of_getElem? (i := 385) (by decide +kernel)) rfl
theorem ks_X7_ring : Cond.selects RX7 yX7_ring yX7_ring ∈ gw := tb_in (List.mem_of_getElem? (i := 386) (by decide +kernel)) rfl
theorem kx_X7_below : Cond.code yX7_below cX7_below 2 (some .int) ∈ gw := tb_in (List.mem_of_getElem? (i := 397) (by decide +kernel)) rfl
theorem kd_X7_below : yX7_below.cls ≠ "java/lang/invoke/MethodHandle" ∧ yX7_below.cls ≠ "java/lang/invoke/VarHandle" ∧ (parseMethodDescriptor yX7_below.desc).map (fun d => d.parameters.length) = some 1 := by decide +kernel
theorem ki_X7_below : Cond.instanceMethod yX7_below ∈ gw := tb_in (List.mem_of_getElem? (i := 395) (by decide +kernel)) rfl
theorem ks_X7_below : Cond.selects RX7 yX7_below yX7_below ∈ gw := tb_in (List.mem_of_getElem? (i := 396) (by decide +kernel)) rfl
theorem kx_X7_content : Cond.code yX7_content cX7_content 6 (some .int) ∈ gw := tb_in (List.mem_of_getElem? (i := 402) (by decide +kernel)) rfl
theorem kd_X7_content : yX7_content.cls ≠ "java/lang/invoke/MethodHandle" ∧ yX7_content.cls ≠ "java/lang/invoke/VarHandle" ∧ (parseMethodDescriptor yX7_content.desc).map (fun d => d.parameters.length) = some 5 := by decide +kernel
theorem ki_X7_content : Cond.instanceMethod yX7_content ∈ gw := tb_in (List.mem_of_getElem? (i := 400) (by decide +kernel)) rfl
theorem ks_X7_content : Cond.selects RX7 yX7_content yX7_content ∈ gw := tb_in (List.mem_of_getElem? (i := 401) (by decide +kernel)) rfl
theorem kx_X7_factor : Cond.code yX7_factor cX7_factor 3 (some .int) ∈ gw := tb_in (List.mem_of_getElem? (i := 426) (by decide +kernel)) rfl
theorem kd_X7_factor : yX7_factor.cls ≠ "java/lang/invoke/MethodHandle" ∧ yX7_factor.cls ≠ "java/lang/invoke/VarHandle" ∧ (parseMethodDescriptor yX7_factor.desc).map (fun d => d.parameters.length) = some 2 := by decide +kernel
theorem ki_X7_factor : Cond.instanceMethod yX7_factor ∈ gw := tb_in (List.mem_of_getElem? (i := 424) (by decide +kernel)) rfl
theorem ks_X7_factor : Cond.selects RX7 yX7_factor yX7_factor ∈ gw := tb_in (List.mem_of_getElem? (i := 425) (by decide +kernel)) rfl
theorem kx_X7_sum : Cond.code yX7_sum cX7_sum 2 (some .int) ∈ gw := tb_in (List.mem_of_getElem? (i := 435) (by decide +kernel)) rfl
theorem kd_X7_sum : yX7_sum.cls ≠ "java/lang/invoke/MethodHandle" ∧ yX7_sum.cls ≠ "java/lang/invoke/VarHandle" ∧ (parseMethodDescriptor yX7_sum.desc).map (fun d => d.parameters.length) = some 1 := by decide +kernel
theorem ki_X7_sum : Cond.instanceMethod yX7_sum ∈ gw := tb_in (List.mem_of_getElem? (i := 433) (by decide +kernel)) rfl
theorem ks_X7_sum : Cond.selects RX7 yX7_sum yX7_sum ∈ gw := tb_in (List.mem_of_getElem? (i := 434) (by decide +kernel)) rfl
theorem kx_X7_go : Cond.code yX7_go cX7_go 2 (some .int) ∈ gw := tb_in (List.mem_of_getElem? (i := 443) (by decide +kernel)) rfl
theorem kd_X7_go : yX7_go.cls ≠ "java/lang/invoke/MethodHandle" ∧ yX7_go.cls ≠ "java/lang/invoke/VarHandle" ∧ (parseMethodDescriptor yX7_go.desc).map (fun d => d.parameters.length) = some 1 := by decide +kernel
theorem ki_X7_go : Cond.instanceMethod yX7_go ∈ gw := tb_in (List.mem_of_getElem? (i := 441) (by decide +kernel)) rfl
theorem ks_X7_go : Cond.selects RX7 yX7_go yX7_go ∈ gw := tb_in (List.mem_of_getElem? (i := 442) (by decide +kernel)) rfl
theorem kx_X7_right : Cond.code yX7_right cX7_right 1 (some .int) ∈ gw := tb_in (List.mem_of_getElem? (i := 459) (by decide +kernel)) rfl
theorem kd_X7_right : yX7_right.cls ≠ "java/lang/invoke/MethodHandle" ∧ yX7_right.cls ≠ "java/lang/invoke/VarHandle" ∧ (parseMethodDescriptor yX7_right.desc).map (fun d => d.parameters.length) = some 0 := by decide +kernel
theorem ki_X7_right : Cond.instanceMethod yX7_right ∈ gw := tb_in (List.mem_of_getElem? (i := 457) (by decide +kernel)) rfl
theorem ks_X7_right : Cond.selects RX7 yX7_right yX7_right ∈ gw := tb_in (List.mem_of_getElem? (i := 458) (by decide +kernel)) rfl
theorem kx_X7_exchange : Cond.code yX7_exchange cX7_exchange 3 (some .int) ∈ gw := tb_in (List.mem_of_getElem? (i := 467) (by decide +kernel)) rfl
theorem kd_X7_exchange : yX7_exchange.cls ≠ "java/lang/invoke/MethodHandle" ∧ yX7_exchange.cls ≠ "java/lang/invoke/VarHandle" ∧ (parseMethodDescriptor yX7_exchange.desc).map (fun d => d.parameters.length) = some 2 := by decide +kernel
theorem ki_X7_exchange : Cond.instanceMethod yX7_exchange ∈ gw := tb_in (List.mem_of_getElem? (i := 465) (by decide +kernel)) rfl
theorem ks_X7_exchange : Cond.selects RX7 yX7_exchange yX7_exchange ∈ gw := tb_in (List.mem_of_getElem? (i := 466) (by decide +kernel)) rfl
theorem kx_X7_back : Cond.code yX7_back cX7_back 1 (some .int) ∈ gw := tb_in (List.mem_of_getElem? (i := 512) (by decide +kernel)) rfl
theorem kd_X7_back : yX7_back.cls ≠ "java/lang/invoke/MethodHandle" ∧ yX7_back.cls ≠ "java/lang/invoke/VarHandle" ∧ (parseMethodDescriptor yX7_back.desc).map (fun d => d.parameters.length) = some 0 := by decide +kernel
theorem ki_X7_back : Cond.instanceMethod yX7_back ∈ gw := tb_in (List.mem_of_getElem? (i := 510) (by decide +kernel)) rfl
theorem ks_X7_back : Cond.selects RX7 yX7_back yX7_back ∈ gw := tb_in (List.mem_of_getElem? (i := 511) (by decide +kernel)) rfl
theorem kx_X7_cycles : Cond.code yX7_cycles cX7_cycles 1 (some .int) ∈ gw := tb_in (List.mem_of_getElem? (i := 520) (by decide +kernel)) rfl
theorem kd_X7_cycles : yX7_cycles.cls ≠ "java/lang/invoke/MethodHandle" ∧ yX7_cycles.cls ≠ "java/lang/invoke/VarHandle" ∧ (parseMethodDescriptor yX7_cycles.desc).map (fun d => d.parameters.length) = some 0 := by decide +kernel
theorem ki_X7_cycles : Cond.instanceMethod yX7_cycles ∈ gw := tb_in (List.mem_of_getElem? (i := 518) (by decide +kernel)) rfl
theorem ks_X7_cycles : Cond.selects RX7 yX7_cycles yX7_cycles ∈ gw := tb_in (List.mem_of_getElem? (i := 519) (by decide +kernel)) rfl
theorem kx_X7_cycleOf : Cond.code yX7_cycleOf cX7_cycleOf 2 (some .int) ∈ gw := tb_in (List.mem_of_getElem? (i := 525) (by decide +kernel)) rfl
theorem kd_X7_cycleOf : yX7_cycleOf.cls ≠ "java/lang/invoke/MethodHandle" ∧ yX7_cycleOf.cls ≠ "java/lang/invoke/VarHandle" ∧ (parseMethodDescriptor yX7_cycleOf.desc).map (fun d => d.parameters.length) = some 1 := by decide +kernel
theorem ki_X7_cycleOf : Cond.instanceMethod yX7_cycleOf ∈ gw := tb_in (List.mem_of_getElem? (i := 523) (by decide +kernel)) rfl
theorem ks_X7_cycleOf : Cond.selects RX7 yX7_cycleOf yX7_cycleOf ∈ gw := tb_in (List.mem_of_getElem? (i := 524) (by decide +kernel)) rfl
theorem kx_X7_cycle : Cond.code yX7_cycle cX7_cycle 3 (some .int) ∈ gw := tb_in (List.mem_of_getElem? (i := 533) (by decide +kernel)) rfl
theorem kd_X7_cycle : yX7_cycle.cls ≠ "java/lang/invoke/MethodHandle" ∧ yX7_cycle.cls ≠ "java/lang/invoke/VarHandle" ∧ (parseMethodDescriptor yX7_cycle.desc).map (fun d => d.parameters.length) = some 2 := by decide +kernel
theorem ki_X7_cycle : Cond.instanceMethod yX7_cycle ∈ gw := tb_in (List.mem_of_getElem? (i := 531) (by decide +kernel)) rfl
theorem ks_X7_cycle : Cond.selects RX7 yX7_cycle yX7_cycle ∈ gw := tb_in (List.mem_of_getElem? (i := 532) (by decide +kernel)) rfl
theorem kx_X7_join : Cond.code yX7_join cX7_join 1 (some .int) ∈ gw := tb_in (List.mem_of_getElem? (i := 545) (by decide +kernel)) rfl
theorem kd_X7_join : yX7_join.cls ≠ "java/lang/invoke/MethodHandle" ∧ yX7_join.cls ≠ "java/lang/invoke/VarHandle" ∧ (parseMethodDescriptor yX7_join.desc).map (fun d => d.parameters.length) = some 0 := by decide +kernel
theorem ki_X7_join : Cond.instanceMethod yX7_join ∈ gw := tb_in (List.mem_of_getElem? (i := 543) (by decide +kernel)) rfl
theorem ks_X7_join : Cond.selects RX7 yX7_join yX7_join ∈ gw := tb_in (List.mem_of_getElem? (i := 544) (by decide +kernel)) rfl
theorem kx_X7_round : Cond.code yX7_round cX7_round 2 (some .int) ∈ gw := tb_in (List.mem_of_getElem? (i := 557) (by decide +kernel)) rfl
theorem kd_X7_round : yX7_round.cls ≠ "java/lang/invoke/MethodHandle" ∧ yX7_round.cls ≠ "java/lang/invoke/VarHandle" ∧ (parseMethodDescriptor yX7_round.desc).map (fun d => d.parameters.length) = some 1 := by decide +kernel
theorem ki_X7_round : Cond.instanceMethod yX7_round ∈ gw := tb_in (List.mem_of_getElem? (i := 555) (by decide +kernel)) rfl
theorem ks_X7_round : Cond.selects RX7 yX7_round yX7_round ∈ gw := tb_in (List.mem_of_getElem? (i := 556) (by decide +kernel)) rfl
theorem kx_X7_letter : Cond.code yX7_letter cX7_letter 2 (some .int) ∈ gw := tb_in (List.mem_of_getElem? (i := 591) (by decide +kernel)) rfl
theorem kd_X7_letter : yX7_letter.cls ≠ "java/lang/invoke/MethodHandle" ∧ yX7_letter.cls ≠ "java/lang/invoke/VarHandle" ∧ (parseMethodDescriptor yX7_letter.desc).map (fun d => d.parameters.length) = some 1 := by decide +kernel
theorem ki_X7_letter : Cond.instanceMethod yX7_letter ∈ gw := tb_in (List.mem_of_getElem? (i := 589) (by decide +kernel)) rfl
theorem ks_X7_letter : Cond.selects RX7 yX7_letter yX7_letter ∈ gw := tb_in (List.mem_of_getElem? (i := 590) (by decide +kernel)) rfl
theorem kx_X7_place : Cond.code yX7_place cX7_place 2 (some .int) ∈ gw := tb_in (List.mem_of_getElem? (i := 604) (by decide +kernel)) rfl
theorem kd_X7_place : yX7_place.cls ≠ "java/lang/invoke/MethodHandle" ∧ yX7_place.cls ≠ "java/lang/invoke/VarHandle" ∧ (parseMethodDescriptor yX7_place.desc).map (fun d => d.parameters.length) = some 1 := by decide +kernel
theorem ki_X7_place : Cond.instanceMethod yX7_place ∈ gw := tb_in (List.mem_of_getElem? (i := 602) (by decide +kernel)) rfl
theorem ks_X7_place : Cond.selects RX7 yX7_place yX7_place ∈ gw := tb_in (List.mem_of_getElem? (i := 603) (by decide +kernel)) rfl
theorem kx_X7_way : Cond.code yX7_way cX7_way 3 (some .int) ∈ gw := tb_in (List.mem_of_getElem? (i := 609) (by decide +kernel)) rfl
theorem kd_X7_way : yX7_way.cls ≠ "java/lang/invoke/MethodHandle" ∧ yX7_way.cls ≠ "java/lang/invoke/VarHandle" ∧ (parseMethodDescriptor yX7_way.desc).map (fun d => d.parameters.length) = some 2 := by decide +kernel
theorem ki_X7_way : Cond.instanceMethod yX7_way ∈ gw := tb_in (List.mem_of_getElem? (i := 607) (by decide +kernel)) rfl
theorem ks_X7_way : Cond.selects RX7 yX7_way yX7_way ∈ gw := tb_in (List.mem_of_getElem? (i := 608) (by decide +kernel)) rfl
theorem kx_X7_tape : Cond.code yX7_tape cX7_tape 4 (some .int) ∈ gw := tb_in (List.mem_of_getElem? (i := 613) (by decide +kernel)) rfl
theorem kd_X7_tape : yX7_tape.cls ≠ "java/lang/invoke/MethodHandle" ∧ yX7_tape.cls ≠ "java/lang/invoke/VarHandle" ∧ (parseMethodDescriptor yX7_tape.desc).map (fun d => d.parameters.length) = some 3 := by decide +kernel
theorem ki_X7_tape : Cond.instanceMethod yX7_tape ∈ gw := tb_in (List.mem_of_getElem? (i := 611) (by decide +kernel)) rfl
theorem ks_X7_tape : Cond.selects RX7 yX7_tape yX7_tape ∈ gw := tb_in (List.mem_of_getElem? (i := 612) (by decide +kernel)) rfl
theorem kx_X7_lose : Cond.code yX7_lose cX7_lose 2 (some .int) ∈ gw := tb_in (List.mem_of_getElem? (i := 632) (by decide +kernel)) rfl
theorem kd_X7_lose : yX7_lose.cls ≠ "java/lang/invoke/MethodHandle" ∧ yX7_lose.cls ≠ "java/lang/invoke/VarHandle" ∧ (parseMethodDescriptor yX7_lose.desc).map (fun d => d.parameters.length) = some 1 := by decide +kernel
theorem ki_X7_lose : Cond.instanceMethod yX7_lose ∈ gw := tb_in (List.mem_of_getElem? (i := 630) (by decide +kernel)) rfl
theorem ks_X7_lose : Cond.selects RX7 yX7_lose yX7_lose ∈ gw := tb_in (List.mem_of_getElem? (i := 631) (by decide +kernel)) rfl
theorem kx_X7_put : Cond.code yX7_put cX7_put 6 (some .int) ∈ gw := tb_in (List.mem_of_getElem? (i := 644) (by decide +kernel)) rfl
theorem kd_X7_put : yX7_put.cls ≠ "java/lang/invoke/MethodHandle" ∧ yX7_put.cls ≠ "java/lang/invoke/VarHandle" ∧ (parseMethodDescriptor yX7_put.desc).map (fun d => d.parameters.length) = some 4 := by decide +kernel
theorem ki_X7_put : Cond.instanceMethod yX7_put ∈ gw := tb_in (List.mem_of_getElem? (i := 642) (by decide +kernel)) rfl
theorem ks_X7_put : Cond.selects RX7 yX7_put yX7_put ∈ gw := tb_in (List.mem_of_getElem? (i := 643) (by decide +kernel)) rfl
theorem kx_X7_get : Cond.code yX7_get cX7_get 5 (some .int) ∈ gw := tb_in (List.mem_of_getElem? (i := 659) (by decide +kernel)) rfl
theorem kd_X7_get : yX7_get.cls ≠ "java/lang/invoke/MethodHandle" ∧ yX7_get.cls ≠ "java/lang/invoke/VarHandle" ∧ (parseMethodDescriptor yX7_get.desc).map (fun d => d.parameters.length) = some 3 := by decide +kernel
theorem ki_X7_get : Cond.instanceMethod yX7_get ∈ gw := tb_in (List.mem_of_getElem? (i := 657) (by decide +kernel)) rfl
theorem ks_X7_get : Cond.selects RX7 yX7_get yX7_get ∈ gw := tb_in (List.mem_of_getElem? (i := 658) (by decide +kernel)) rfl
theorem kx_X7_copy : Cond.code yX7_copy cX7_copy 8 (some .int) ∈ gw := tb_in (List.mem_of_getElem? (i := 664) (by decide +kernel)) rfl
theorem kd_X7_copy : yX7_copy.cls ≠ "java/lang/invoke/MethodHandle" ∧ yX7_copy.cls ≠ "java/lang/invoke/VarHandle" ∧ (parseMethodDescriptor yX7_copy.desc).map (fun d => d.parameters.length) = some 5 := by decide +kernel
theorem ki_X7_copy : Cond.instanceMethod yX7_copy ∈ gw := tb_in (List.mem_of_getElem? (i := 662) (by decide +kernel)) rfl
theorem ks_X7_copy : Cond.selects RX7 yX7_copy yX7_copy ∈ gw := tb_in (List.mem_of_getElem? (i := 663) (by decide +kernel)) rfl
theorem kx_X7_print : Cond.code yX7_print cX7_print 5 (some .int) ∈ gw := tb_in (List.mem_of_getElem? (i := 671) (by decide +kernel)) rfl
theorem kd_X7_print : yX7_print.cls ≠ "java/lang/invoke/MethodHandle" ∧ yX7_print.cls ≠ "java/lang/invoke/VarHandle" ∧ (parseMethodDescriptor yX7_print.desc).map (fun d => d.parameters.length) = some 4 := by decide +kernel
theorem ki_X7_print : Cond.instanceMethod yX7_print ∈ gw := tb_in (List.mem_of_getElem? (i := 669) (by decide +kernel)) rfl
theorem ks_X7_print : Cond.selects RX7 yX7_print yX7_print ∈ gw := tb_in (List.mem_of_getElem? (i := 670) (by decide +kernel)) rfl
theorem kx_X7_find : Cond.code yX7_find cX7_find 6 (some .int) ∈ gw := tb_in (List.mem_of_getElem? (i := 679) (by decide +kernel)) rfl
theorem kd_X7_find : yX7_find.cls ≠ "java/lang/invoke/MethodHandle" ∧ yX7_find.cls ≠ "java/lang/invoke/VarHandle" ∧ (parseMethodDescriptor yX7_find.desc).map (fun d => d.parameters.length) = some 4 := by decide +kernel
theorem ki_X7_find : Cond.instanceMethod yX7_find ∈ gw := tb_in (List.mem_of_getElem? (i := 677) (by decide +kernel)) rfl
theorem ks_X7_find : Cond.selects RX7 yX7_find yX7_find ∈ gw := tb_in (List.mem_of_getElem? (i := 678) (by decide +kernel)) rfl
theorem kx_X7_found : Cond.code yX7_found cX7_found 1 (some .int) ∈ gw := tb_in (List.mem_of_getElem? (i := 705) (by decide +kernel)) rfl
theorem kd_X7_found : yX7_found.cls ≠ "java/lang/invoke/MethodHandle" ∧ yX7_found.cls ≠ "java/lang/invoke/VarHandle" ∧ (parseMethodDescriptor yX7_found.desc).map (fun d => d.parameters.length) = some 0 := by decide +kernel
theorem ki_X7_found : Cond.instanceMethod yX7_found ∈ gw := tb_in (List.mem_of_getElem? (i := 703) (by decide +kernel)) rfl
theorem ks_X7_found : Cond.selects RX7 yX7_found yX7_found ∈ gw := tb_in (List.mem_of_getElem? (i := 704) (by decide +kernel)) rfl
theorem kx_X7_twice : Cond.code yX7_twice cX7_twice 3 (some .int) ∈ gw := tb_in (List.mem_of_getElem? (i := 709) (by decide +kernel)) rfl
theorem kd_X7_twice : yX7_twice.cls ≠ "java/lang/invoke/MethodHandle" ∧ yX7_twice.cls ≠ "java/lang/invoke/VarHandle" ∧ (parseMethodDescriptor yX7_twice.desc).map (fun d => d.parameters.length) = some 1 := by decide +kernel
theorem ki_X7_twice : Cond.instanceMethod yX7_twice ∈ gw := tb_in (List.mem_of_getElem? (i := 707) (by decide +kernel)) rfl
theorem ks_X7_twice : Cond.selects RX7 yX7_twice yX7_twice ∈ gw := tb_in (List.mem_of_getElem? (i := 708) (by decide +kernel)) rfl
theorem kx_X7_parts : Cond.code yX7_parts cX7_parts 3 (some .int) ∈ gw := tb_in (List.mem_of_getElem? (i := 726) (by decide +kernel)) rfl
theorem kd_X7_parts : yX7_parts.cls ≠ "java/lang/invoke/MethodHandle" ∧ yX7_parts.cls ≠ "java/lang/invoke/VarHandle" ∧ (parseMethodDescriptor yX7_parts.desc).map (fun d => d.parameters.length) = some 1 := by decide +kernel
theorem ki_X7_parts : Cond.instanceMethod yX7_parts ∈ gw := tb_in (List.mem_of_getElem? (i := 724) (by decide +kernel)) rfl
theorem ks_X7_parts : Cond.selects RX7 yX7_parts yX7_parts ∈ gw := tb_in (List.mem_of_getElem? (i := 725) (by decide +kernel)) rfl
theorem kx_X7_part : Cond.code yX7_part cX7_part 2 (some .int) ∈ gw := tb_in (List.mem_of_getElem? (i := 734) (by decide +kernel)) rfl
theorem kd_X7_part : yX7_part.cls ≠ "java/lang/invoke/MethodHandle" ∧ yX7_part.cls ≠ "java/lang/invoke/VarHandle" ∧ (parseMethodDescriptor yX7_part.desc).map (fun d => d.parameters.length) = some 1 := by decide +kernel
theorem ki_X7_part : Cond.instanceMethod yX7_part ∈ gw := tb_in (List.mem_of_getElem? (i := 732) (by decide +kernel)) rfl
theorem ks_X7_part : Cond.selects RX7 yX7_part yX7_part ∈ gw := tb_in (List.mem_of_getElem? (i := 733) (by decide +kernel)) rfl
theorem kx_X7_recurrence : Cond.code yX7_recurrence cX7_recurrence 3 (some .int) ∈ gw := tb_in (List.mem_of_getElem? (i := 738) (by decide +kernel)) rfl
theorem kd_X7_recurrence : yX7_recurrence.cls ≠ "java/lang/invoke/MethodHandle" ∧ yX7_recurrence.cls ≠ "java/lang/invoke/VarHandle" ∧ (parseMethodDescriptor yX7_recurrence.desc).map (fun d => d.parameters.length) = some 1 := by decide +kernel
theorem ki_X7_recurrence : Cond.instanceMethod yX7_recurrence ∈ gw := tb_in (List.mem_of_getElem? (i := 736) (by decide +kernel)) rfl
theorem ks_X7_recurrence : Cond.selects RX7 yX7_recurrence yX7_recurrence ∈ gw := tb_in (List.mem_of_getElem? (i := 737) (by decide +kernel)) rfl
theorem kx_X7_coefficient : Cond.code yX7_coefficient cX7_coefficient 2 (some .int) ∈ gw := tb_in (List.mem_of_getElem? (i := 768) (by decide +kernel)) rfl
theorem kd_X7_coefficient : yX7_coefficient.cls ≠ "java/lang/invoke/MethodHandle" ∧ yX7_coefficient.cls ≠ "java/lang/invoke/VarHandle" ∧ (parseMethodDescriptor yX7_coefficient.desc).map (fun d => d.parameters.length) = some 1 := by decide +kernel
theorem ki_X7_coefficient : Cond.instanceMethod yX7_coefficient ∈ gw := tb_in (List.mem_of_getElem? (i := 766) (by decide +kernel)) rfl
theorem ks_X7_coefficient : Cond.selects RX7 yX7_coefficient yX7_coefficient ∈ gw := tb_in (List.mem_of_getElem? (i := 767) (by decide +kernel)) rfl
theorem kx_X7_count : Cond.code yX7_count cX7_count 2 (some .int) ∈ gw := tb_in (List.mem_of_getElem? (i := 776) (by decide +kernel)) rfl
theorem kd_X7_count : yX7_count.cls ≠ "java/lang/invoke/MethodHandle" ∧ yX7_count.cls ≠ "java/lang/invoke/VarHandle" ∧ (parseMethodDescriptor yX7_count.desc).map (fun d => d.parameters.length) = some 1 := by decide +kernel
theorem ki_X7_count : Cond.instanceMethod yX7_count ∈ gw := tb_in (List.mem_of_getElem? (i := 774) (by decide +kernel)) rfl
theorem ks_X7_count : Cond.selects RX7 yX7_count yX7_count ∈ gw := tb_in (List.mem_of_getElem? (i := 775) (by decide +kernel)) rfl
theorem kx_X7_digest : Cond.code yX7_digest cX7_digest 5 (some .long) ∈ gw := tb_in (List.mem_of_getElem? (i := 780) (by decide +kernel)) rfl
theorem kd_X7_digest : yX7_digest.cls ≠ "java/lang/invoke/MethodHandle" ∧ yX7_digest.cls ≠ "java/lang/invoke/VarHandle" ∧ (parseMethodDescriptor yX7_digest.desc).map (fun d => d.parameters.length) = some 0 := by decide +kernel
theorem ki_X7_digest : Cond.instanceMethod yX7_digest ∈ gw := tb_in (List.mem_of_getElem? (i := 778) (by decide +kernel)) rfl
theorem ks_X7_digest : Cond.selects RX7 yX7_digest yX7_digest ∈ gw := tb_in (List.mem_of_getElem? (i := 779) (by decide +kernel)) rfl
theorem kx_X7_isTape : Cond.code yX7_isTape cX7_isTape 1 (some .boolean) ∈ gw := tb_in (List.mem_of_getElem? (i := 616) (by decide +kernel)) rfl
theorem kd_X7_isTape : yX7_isTape.cls ≠ "java/lang/invoke/MethodHandle" ∧ yX7_isTape.cls ≠ "java/lang/invoke/VarHandle" ∧ (parseMethodDescriptor yX7_isTape.desc).map (fun d => d.parameters.length) = some 1 := by decide +kernel
theorem kt_X7_isTape : Cond.static yX7_isTape ∈ gw := tb_in (List.mem_of_getElem? (i := 615) (by decide +kernel)) rfl
theorem kx_X7_isForm : Cond.code yX7_isForm cX7_isForm 1 (some .boolean) ∈ gw := tb_in (List.mem_of_getElem? (i := 619) (by decide +kernel)) rfl
theorem kd_X7_isForm : yX7_isForm.cls ≠ "java/lang/invoke/MethodHandle" ∧ yX7_isForm.cls ≠ "java/lang/invoke/VarHandle" ∧ (parseMethodDescriptor yX7_isForm.desc).map (fun d => d.parameters.length) = some 1 := by decide +kernel
theorem kt_X7_isForm : Cond.static yX7_isForm ∈ gw := tb_in (List.mem_of_getElem? (i := 618) (by decide +kernel)) rfl
theorem kx_X7_finding : Cond.code yX7_finding cX7_finding 2 (some .int) ∈ gw := tb_in (List.mem_of_getElem? (i := 623) (by decide +kernel)) rfl
theorem kd_X7_finding : yX7_finding.cls ≠ "java/lang/invoke/MethodHandle" ∧ yX7_finding.cls ≠ "java/lang/invoke/VarHandle" ∧ (parseMethodDescriptor yX7_finding.desc).map (fun d => d.parameters.length) = some 1 := by decide +kernel
theorem ki_X7_finding : Cond.instanceMethod yX7_finding ∈ gw := tb_in (List.mem_of_getElem? (i := 622) (by decide +kernel)) rfl
theorem ks_X7_finding : Cond.selects RX7 yX7_finding yX7_finding ∈ gw := tb_sel (List.mem_of_getElem? (i := 54) (by decide +kernel)) rfl
theorem kx_X7_faultOfItem : Cond.code yX7_faultOfItem cX7_faultOfItem 3 (some .int) ∈ gw := tb_in (List.mem_of_getElem? (i := 647) (by decide +kernel)) rfl
theorem kd_X7_faultOfItem : yX7_faultOfItem.cls ≠ "java/lang/invoke/MethodHandle" ∧ yX7_faultOfItem.cls ≠ "java/lang/invoke/VarHandle" ∧ (parseMethodDescriptor yX7_faultOfItem.desc).map (fun d => d.parameters.length) = some 3 := by decide +kernel
theorem kt_X7_faultOfItem : Cond.static yX7_faultOfItem ∈ gw := tb_in (List.mem_of_getElem? (i := 646) (by decide +kernel)) rfl
theorem kx_X8_init : Cond.code yX8_init cX8_init 2 none ∈ gw := tb_in (List.mem_of_getElem? (i := 788) (by decide +kernel)) rfl
theorem kd_X8_init : yX8_init.cls ≠ "java/lang/invoke/MethodHandle" ∧ yX8_init.cls ≠ "java/lang/invoke/VarHandle" ∧ (parseMethodDescriptor yX8_init.desc).map (fun d => d.parameters.length) = some 0 := by decide +kernel
theorem ki_X8_init : Cond.instanceMethod yX8_init ∈ gw := tb_in (List.mem_of_getElem? (i := 787) (by decide +kernel)) rfl
theorem kx_X8_in : Cond.code yX8_in cX8_in 6 (some .boolean) ∈ gw := tb_in (List.mem_of_getElem? (i := 799) (by decide +kernel)) rfl
theorem kd_X8_in : yX8_in.cls ≠ "java/lang/invoke/MethodHandle" ∧ yX8_in.cls ≠ "java/lang/invoke/VarHandle" ∧ (parseMethodDescriptor yX8_in.desc).map (fun d => d.parameters.length) = some 3 := by decide +kernel
theorem kt_X8_in : Cond.static yX8_in ∈ gw := tb_in (List.mem_of_getElem? (i := 798) (by decide +kernel)) rfl
theorem kx_X8_wheel : Cond.code yX8_wheel cX8_wheel 5 (some .int) ∈ gw := tb_in (List.mem_of_getElem? (i := 794) (by decide +kernel)) rfl
theorem kd_X8_wheel : yX8_wheel.cls ≠ "java/lang/invoke/MethodHandle" ∧ yX8_wheel.cls ≠ "java/lang/invoke/VarHandle" ∧ (parseMethodDescriptor yX8_wheel.desc).map (fun d => d.parameters.length) = some 2 := by decide +kernel
theorem ki_X8_wheel : Cond.instanceMethod yX8_wheel ∈ gw := tb_in (List.mem_of_getElem? (i := 792) (by decide +kernel)) rfl
theorem ks_X8_wheel : Cond.selects RX8 yX8_wheel yX8_wheel ∈ gw := tb_in (List.mem_of_getElem? (i := 793) (by decide +kernel)) rfl
theorem kx_X8_isWord : Cond.code yX8_isWord cX8_isWord 2 (some .boolean) ∈ gw := tb_in (List.mem_of_getElem? (i := 922) (by decide +kernel)) rfl
theorem kd_X8_isWord : yX8_isWord.cls ≠ "java/lang/invoke/MethodHandle" ∧ yX8_isWord.cls ≠ "java/lang/invoke/VarHandle" ∧ (parseMethodDescriptor yX8_isWord.desc).map (fun d => d.parameters.length) = some 1 := by decide +kernel
theorem ki_X8_isWord : Cond.instanceMethod yX8_isWord ∈ gw := tb_in (List.mem_of_getElem? (i := 921) (by decide +kernel)) rfl
theorem ks_X8_isWord : Cond.selects RX8 yX8_isWord yX8_isWord ∈ gw := tb_sel (List.mem_of_getElem? (i := 78) (by decide +kernel)) rfl
theorem kx_X8_next : Cond.code yX8_next cX8_next 3 (some .int) ∈ gw := tb_in (List.mem_of_getElem? (i := 808) (by decide +kernel)) rfl
theorem kd_X8_next : yX8_next.cls ≠ "java/lang/invoke/MethodHandle" ∧ yX8_next.cls ≠ "java/lang/invoke/VarHandle" ∧ (parseMethodDescriptor yX8_next.desc).map (fun d => d.parameters.length) = some 1 := by decide +kernel
theorem ki_X8_next : Cond.instanceMethod yX8_next ∈ gw := tb_in (List.mem_of_getElem? (i := 807) (by decide +kernel)) rfl
theorem ks_X8_next : Cond.selects RX8 yX8_next yX8_next ∈ gw := tb_sel (List.mem_of_getElem? (i := 76) (by decide +kernel)) rfl
theorem kx_X8_leastOf : Cond.code yX8_leastOf cX8_leastOf 4 (some .int) ∈ gw := tb_in (List.mem_of_getElem? (i := 804) (by decide +kernel)) rfl
theorem kd_X8_leastOf : yX8_leastOf.cls ≠ "java/lang/invoke/MethodHandle" ∧ yX8_leastOf.cls ≠ "java/lang/invoke/VarHandle" ∧ (parseMethodDescriptor yX8_leastOf.desc).map (fun d => d.parameters.length) = some 1 := by decide +kernel
theorem ki_X8_leastOf : Cond.instanceMethod yX8_leastOf ∈ gw := tb_in (List.mem_of_getElem? (i := 803) (by decide +kernel)) rfl
theorem ks_X8_leastOf : Cond.selects RX8 yX8_leastOf yX8_leastOf ∈ gw := tb_sel (List.mem_of_getElem? (i := 75) (by decide +kernel)) rfl
theorem kx_X8_turn : Cond.code yX8_turn cX8_turn 5 (some .int) ∈ gw := tb_in (List.mem_of_getElem? (i := 918) (by decide +kernel)) rfl
theorem kd_X8_turn : yX8_turn.cls ≠ "java/lang/invoke/MethodHandle" ∧ yX8_turn.cls ≠ "java/lang/invoke/VarHandle" ∧ (parseMethodDescriptor yX8_turn.desc).map (fun d => d.parameters.length) = some 2 := by decide +kernel
theorem ki_X8_turn : Cond.instanceMethod yX8_turn ∈ gw := tb_in (List.mem_of_getElem? (i := 916) (by decide +kernel)) rfl
theorem ks_X8_turn : Cond.selects RX8 yX8_turn yX8_turn ∈ gw := tb_in (List.mem_of_getElem? (i := 917) (by decide +kernel)) rfl
theorem kx_X8_least : Cond.code yX8_least cX8_least 2 (some .int) ∈ gw := tb_in (List.mem_of_getElem? (i := 927) (by decide +kernel)) rfl
theorem kd_X8_least : yX8_least.cls ≠ "java/lang/invoke/MethodHandle" ∧ yX8_least.cls ≠ "java/lang/invoke/VarHandle" ∧ (parseMethodDescriptor yX8_least.desc).map (fun d => d.parameters.length) = some 1 := by decide +kernel
theorem ki_X8_least : Cond.instanceMethod yX8_least ∈ gw := tb_in (List.mem_of_getElem? (i := 925) (by decide +kernel)) rfl
theorem ks_X8_least : Cond.selects RX8 yX8_least yX8_least ∈ gw := tb_in (List.mem_of_getElem? (i := 926) (by decide +kernel)) rfl
theorem kx_X8_steps : Cond.code yX8_steps cX8_steps 4 (some .int) ∈ gw := tb_in (List.mem_of_getElem? (i := 931) (by decide +kernel)) rfl
theorem kd_X8_steps : yX8_steps.cls ≠ "java/lang/invoke/MethodHandle" ∧ yX8_steps.cls ≠ "java/lang/invoke/VarHandle" ∧ (parseMethodDescriptor yX8_steps.desc).map (fun d => d.parameters.length) = some 1 := by decide +kernel
theorem ki_X8_steps : Cond.instanceMethod yX8_steps ∈ gw := tb_in (List.mem_of_getElem? (i := 929) (by decide +kernel)) rfl
theorem ks_X8_steps : Cond.selects RX8 yX8_steps yX8_steps ∈ gw := tb_in (List.mem_of_getElem? (i := 930) (by decide +kernel)) rfl
theorem kx_X8_sizeOf : Cond.code yX8_sizeOf cX8_sizeOf 4 (some .int) ∈ gw := tb_in (List.mem_of_getElem? (i := 939) (by decide +kernel)) rfl
theorem kd_X8_sizeOf : yX8_sizeOf.cls ≠ "java/lang/invoke/MethodHandle" ∧ yX8_sizeOf.cls ≠ "java/lang/invoke/VarHandle" ∧ (parseMethodDescriptor yX8_sizeOf.desc).map (fun d => d.parameters.length) = some 1 := by decide +kernel
theorem ki_X8_sizeOf : Cond.instanceMethod yX8_sizeOf ∈ gw := tb_in (List.mem_of_getElem? (i := 938) (by decide +kernel)) rfl
theorem ks_X8_sizeOf : Cond.selects RX8 yX8_sizeOf yX8_sizeOf ∈ gw := tb_sel (List.mem_of_getElem? (i := 79) (by decide +kernel)) rfl
theorem kx_X8_size : Cond.code yX8_size cX8_size 2 (some .int) ∈ gw := tb_in (List.mem_of_getElem? (i := 935) (by decide +kernel)) rfl
theorem kd_X8_size : yX8_size.cls ≠ "java/lang/invoke/MethodHandle" ∧ yX8_size.cls ≠ "java/lang/invoke/VarHandle" ∧ (parseMethodDescriptor yX8_size.desc).map (fun d => d.parameters.length) = some 1 := by decide +kernel
theorem ki_X8_size : Cond.instanceMethod yX8_size ∈ gw := tb_in (List.mem_of_getElem? (i := 933) (by decide +kernel)) rfl
theorem ks_X8_size : Cond.selects RX8 yX8_size yX8_size ∈ gw := tb_in (List.mem_of_getElem? (i := 934) (by decide +kernel)) rfl
theorem kx_X8_even : Cond.code yX8_even cX8_even 5 (some .int) ∈ gw := tb_in (List.mem_of_getElem? (i := 943) (by decide +kernel)) rfl
theorem kd_X8_even : yX8_even.cls ≠ "java/lang/invoke/MethodHandle" ∧ yX8_even.cls ≠ "java/lang/invoke/VarHandle" ∧ (parseMethodDescriptor yX8_even.desc).map (fun d => d.parameters.length) = some 1 := by decide +kernel
theorem ki_X8_even : Cond.instanceMethod yX8_even ∈ gw := tb_in (List.mem_of_getElem? (i := 941) (by decide +kernel)) rfl
theorem ks_X8_even : Cond.selects RX8 yX8_even yX8_even ∈ gw := tb_in (List.mem_of_getElem? (i := 942) (by decide +kernel)) rfl
theorem kx_X8_rings : Cond.code yX8_rings cX8_rings 3 (some .int) ∈ gw := tb_in (List.mem_of_getElem? (i := 947) (by decide +kernel)) rfl
theorem kd_X8_rings : yX8_rings.cls ≠ "java/lang/invoke/MethodHandle" ∧ yX8_rings.cls ≠ "java/lang/invoke/VarHandle" ∧ (parseMethodDescriptor yX8_rings.desc).map (fun d => d.parameters.length) = some 0 := by decide +kernel
theorem ki_X8_rings : Cond.instanceMethod yX8_rings ∈ gw := tb_in (List.mem_of_getElem? (i := 945) (by decide +kernel)) rfl
theorem ks_X8_rings : Cond.selects RX8 yX8_rings yX8_rings ∈ gw := tb_in (List.mem_of_getElem? (i := 946) (by decide +kernel)) rfl
theorem kx_X8_ringOf : Cond.code yX8_ringOf cX8_ringOf 4 (some .int) ∈ gw := tb_in (List.mem_of_getElem? (i := 951) (by decide +kernel)) rfl
theorem kd_X8_ringOf : yX8_ringOf.cls ≠ "java/lang/invoke/MethodHandle" ∧ yX8_ringOf.cls ≠ "java/lang/invoke/VarHandle" ∧ (parseMethodDescriptor yX8_ringOf.desc).map (fun d => d.parameters.length) = some 1 := by decide +kernel
theorem ki_X8_ringOf : Cond.instanceMethod yX8_ringOf ∈ gw := tb_in (List.mem_of_getElem? (i := 949) (by decide +kernel)) rfl
theorem ks_X8_ringOf : Cond.selects RX8 yX8_ringOf yX8_ringOf ∈ gw := tb_in (List.mem_of_getElem? (i := 950) (by decide +kernel)) rfl
theorem kx_X8_ring : Cond.code yX8_ring cX8_ring 4 (some .int) ∈ gw := tb_in (List.mem_of_getElem? (i := 955) (by decide +kernel)) rfl
theorem kd_X8_ring : yX8_ring.cls ≠ "java/lang/invoke/MethodHandle" ∧ yX8_ring.cls ≠ "java/lang/invoke/VarHandle" ∧ (parseMethodDescriptor yX8_ring.desc).map (fun d => d.parameters.length) = some 1 := by decide +kernel
theorem ki_X8_ring : Cond.instanceMethod yX8_ring ∈ gw := tb_in (List.mem_of_getElem? (i := 953) (by decide +kernel)) rfl
theorem ks_X8_ring : Cond.selects RX8 yX8_ring yX8_ring ∈ gw := tb_in (List.mem_of_getElem? (i := 954) (by decide +kernel)) rfl
theorem kx_X8_below : Cond.code yX8_below cX8_below 4 (some .int) ∈ gw := tb_in (List.mem_of_getElem? (i := 959) (by decide +kernel)) rfl
theorem kd_X8_below : yX8_below.cls ≠ "java/lang/invoke/MethodHandle" ∧ yX8_below.cls ≠ "java/lang/invoke/VarHandle" ∧ (parseMethodDescriptor yX8_below.desc).map (fun d => d.parameters.length) = some 1 := by decide +kernel
theorem ki_X8_below : Cond.instanceMethod yX8_below ∈ gw := tb_in (List.mem_of_getElem? (i := 957) (by decide +kernel)) rfl
theorem ks_X8_below : Cond.selects RX8 yX8_below yX8_below ∈ gw := tb_in (List.mem_of_getElem? (i := 958) (by decide +kernel)) rfl
theorem kx_X8_content : Cond.code yX8_content cX8_content 11 (some .int) ∈ gw := tb_in (List.mem_of_getElem? (i := 963) (by decide +kernel)) rfl
theorem kd_X8_content : yX8_content.cls ≠ "java/lang/invoke/MethodHandle" ∧ yX8_content.cls ≠ "java/lang/invoke/VarHandle" ∧ (parseMethodDescriptor yX8_content.desc).map (fun d => d.parameters.length) = some 5 := by decide +kernel
theorem ki_X8_content : Cond.instanceMethod yX8_content ∈ gw := tb_in (List.mem_of_getElem? (i := 961) (by decide +kernel)) rfl
theorem ks_X8_content : Cond.selects RX8 yX8_content yX8_content ∈ gw := tb_in (List.mem_of_getElem? (i := 962) (by decide +kernel)) rfl
theorem kx_X8_hasWanted : Cond.code yX8_hasWanted cX8_hasWanted 5 (some .boolean) ∈ gw := tb_in (List.mem_of_getElem? (i := 967) (by decide +kernel)) rfl
theorem kd_X8_hasWanted : yX8_hasWanted.cls ≠ "java/lang/invoke/MethodHandle" ∧ yX8_hasWanted.cls ≠ "java/lang/invoke/VarHandle" ∧ (parseMethodDescriptor yX8_hasWanted.desc).map (fun d => d.parameters.length) = some 1 := by decide +kernel
theorem ki_X8_hasWanted : Cond.instanceMethod yX8_hasWanted ∈ gw := tb_in (List.mem_of_getElem? (i := 966) (by decide +kernel)) rfl
theorem ks_X8_hasWanted : Cond.selects RX8 yX8_hasWanted yX8_hasWanted ∈ gw := tb_sel (List.mem_of_getElem? (i := 80) (by decide +kernel)) rfl
theorem kx_X8_lead : Cond.code yX8_lead cX8_lead 6 none ∈ gw := tb_in (List.mem_of_getElem? (i := 812) (by decide +kernel)) rfl
theorem kd_X8_lead : yX8_lead.cls ≠ "java/lang/invoke/MethodHandle" ∧ yX8_lead.cls ≠ "java/lang/invoke/VarHandle" ∧ (parseMethodDescriptor yX8_lead.desc).map (fun d => d.parameters.length) = some 0 := by decide +kernel
theorem ki_X8_lead : Cond.instanceMethod yX8_lead ∈ gw := tb_in (List.mem_of_getElem? (i := 811) (by decide +kernel)) rfl
theorem ks_X8_lead : Cond.selects RX8 yX8_lead yX8_lead ∈ gw := tb_sel (List.mem_of_getElem? (i := 77) (by decide +kernel)) rfl
theorem kx_X8_factor : Cond.code yX8_factor cX8_factor 4 (some .int) ∈ gw := tb_in (List.mem_of_getElem? (i := 971) (by decide +kernel)) rfl
theorem kd_X8_factor : yX8_factor.cls ≠ "java/lang/invoke/MethodHandle" ∧ yX8_factor.cls ≠ "java/lang/invoke/VarHandle" ∧ (parseMethodDescriptor yX8_factor.desc).map (fun d => d.parameters.length) = some 2 := by decide +kernel
theorem ki_X8_factor : Cond.instanceMethod yX8_factor ∈ gw := tb_in (List.mem_of_getElem? (i := 969) (by decide +kernel)) rfl
theorem ks_X8_factor : Cond.selects RX8 yX8_factor yX8_factor ∈ gw := tb_in (List.mem_of_getElem? (i := 970) (by decide +kernel)) rfl
theorem kx_X8_sum : Cond.code yX8_sum cX8_sum 3 (some .int) ∈ gw := tb_in (List.mem_of_getElem? (i := 975) (by decide +kernel)) rfl
theorem kd_X8_sum : yX8_sum.cls ≠ "java/lang/invoke/MethodHandle" ∧ yX8_sum.cls ≠ "java/lang/invoke/VarHandle" ∧ (parseMethodDescriptor yX8_sum.desc).map (fun d => d.parameters.length) = some 1 := by decide +kernel
theorem ki_X8_sum : Cond.instanceMethod yX8_sum ∈ gw := tb_in (List.mem_of_getElem? (i := 973) (by decide +kernel)) rfl
theorem ks_X8_sum : Cond.selects RX8 yX8_sum yX8_sum ∈ gw := tb_in (List.mem_of_getElem? (i := 974) (by decide +kernel)) rfl
theorem kx_X8_go : Cond.code yX8_go cX8_go 2 (some .int) ∈ gw := tb_in (List.mem_of_getElem? (i := 979) (by decide +kernel)) rfl
theorem kd_X8_go : yX8_go.cls ≠ "java/lang/invoke/MethodHandle" ∧ yX8_go.cls ≠ "java/lang/invoke/VarHandle" ∧ (parseMethodDescriptor yX8_go.desc).map (fun d => d.parameters.length) = some 1 := by decide +kernel
theorem ki_X8_go : Cond.instanceMethod yX8_go ∈ gw := tb_in (List.mem_of_getElem? (i := 977) (by decide +kernel)) rfl
theorem ks_X8_go : Cond.selects RX8 yX8_go yX8_go ∈ gw := tb_in (List.mem_of_getElem? (i := 978) (by decide +kernel)) rfl
theorem kx_X8_isRight : Cond.code yX8_isRight cX8_isRight 3 (some .boolean) ∈ gw := tb_in (List.mem_of_getElem? (i := 987) (by decide +kernel)) rfl
theorem kd_X8_isRight : yX8_isRight.cls ≠ "java/lang/invoke/MethodHandle" ∧ yX8_isRight.cls ≠ "java/lang/invoke/VarHandle" ∧ (parseMethodDescriptor yX8_isRight.desc).map (fun d => d.parameters.length) = some 0 := by decide +kernel
theorem ki_X8_isRight : Cond.instanceMethod yX8_isRight ∈ gw := tb_in (List.mem_of_getElem? (i := 986) (by decide +kernel)) rfl
theorem ks_X8_isRight : Cond.selects RX8 yX8_isRight yX8_isRight ∈ gw := tb_sel (List.mem_of_getElem? (i := 81) (by decide +kernel)) rfl
theorem kx_X8_right : Cond.code yX8_right cX8_right 1 (some .int) ∈ gw := tb_in (List.mem_of_getElem? (i := 983) (by decide +kernel)) rfl
theorem kd_X8_right : yX8_right.cls ≠ "java/lang/invoke/MethodHandle" ∧ yX8_right.cls ≠ "java/lang/invoke/VarHandle" ∧ (parseMethodDescriptor yX8_right.desc).map (fun d => d.parameters.length) = some 0 := by decide +kernel
theorem ki_X8_right : Cond.instanceMethod yX8_right ∈ gw := tb_in (List.mem_of_getElem? (i := 981) (by decide +kernel)) rfl
theorem ks_X8_right : Cond.selects RX8 yX8_right yX8_right ∈ gw := tb_in (List.mem_of_getElem? (i := 982) (by decide +kernel)) rfl
theorem kx_X8_findCycles : Cond.code yX8_findCycles cX8_findCycles 3 none ∈ gw := tb_in (List.mem_of_getElem? (i := 999) (by decide +kernel)) rfl
theorem kd_X8_findCycles : yX8_findCycles.cls ≠ "java/lang/invoke/MethodHandle" ∧ yX8_findCycles.cls ≠ "java/lang/invoke/VarHandle" ∧ (parseMethodDescriptor yX8_findCycles.desc).map (fun d => d.parameters.length) = some 0 := by decide +kernel
theorem ki_X8_findCycles : Cond.instanceMethod yX8_findCycles ∈ gw := tb_in (List.mem_of_getElem? (i := 998) (by decide +kernel)) rfl
theorem ks_X8_findCycles : Cond.selects RX8 yX8_findCycles yX8_findCycles ∈ gw := tb_sel (List.mem_of_getElem? (i := 83) (by decide +kernel)) rfl
theorem kx_X8_swap : Cond.code yX8_swap cX8_swap 4 none ∈ gw := tb_in (List.mem_of_getElem? (i := 995) (by decide +kernel)) rfl
theorem kd_X8_swap : yX8_swap.cls ≠ "java/lang/invoke/MethodHandle" ∧ yX8_swap.cls ≠ "java/lang/invoke/VarHandle" ∧ (parseMethodDescriptor yX8_swap.desc).map (fun d => d.parameters.length) = some 2 := by decide +kernel
theorem ki_X8_swap : Cond.instanceMethod yX8_swap ∈ gw := tb_in (List.mem_of_getElem? (i := 994) (by decide +kernel)) rfl
theorem ks_X8_swap : Cond.selects RX8 yX8_swap yX8_swap ∈ gw := tb_sel (List.mem_of_getElem? (i := 82) (by decide +kernel)) rfl
theorem kx_X8_exchange : Cond.code yX8_exchange cX8_exchange 3 (some .int) ∈ gw := tb_in (List.mem_of_getElem? (i := 991) (by decide +kernel)) rfl
theorem kd_X8_exchange : yX8_exchange.cls ≠ "java/lang/invoke/MethodHandle" ∧ yX8_exchange.cls ≠ "java/lang/invoke/VarHandle" ∧ (parseMethodDescriptor yX8_exchange.desc).map (fun d => d.parameters.length) = some 2 := by decide +kernel
theorem ki_X8_exchange : Cond.instanceMethod yX8_exchange ∈ gw := tb_in (List.mem_of_getElem? (i := 989) (by decide +kernel)) rfl
theorem ks_X8_exchange : Cond.selects RX8 yX8_exchange yX8_exchange ∈ gw := tb_in (List.mem_of_getElem? (i := 990) (by decide +kernel)) rfl
theorem kx_X8_back : Cond.code yX8_back cX8_back 1 (some .int) ∈ gw := tb_in (List.mem_of_getElem? (i := 1003) (by decide +kernel)) rfl
theorem kd_X8_back : yX8_back.cls ≠ "java/lang/invoke/MethodHandle" ∧ yX8_back.cls ≠ "java/lang/invoke/VarHandle" ∧ (parseMethodDescriptor yX8_back.desc).map (fun d => d.parameters.length) = some 0 := by decide +kernel
theorem ki_X8_back : Cond.instanceMethod yX8_back ∈ gw := tb_in (List.mem_of_getElem? (i := 1001) (by decide +kernel)) rfl
theorem ks_X8_back : Cond.selects RX8 yX8_back yX8_back ∈ gw := tb_in (List.mem_of_getElem? (i := 1002) (by decide +kernel)) rfl
theorem kx_X8_cycles : Cond.code yX8_cycles cX8_cycles 1 (some .int) ∈ gw := tb_in (List.mem_of_getElem? (i := 1007) (by decide +kernel)) rfl
theorem kd_X8_cycles : yX8_cycles.cls ≠ "java/lang/invoke/MethodHandle" ∧ yX8_cycles.cls ≠ "java/lang/invoke/VarHandle" ∧ (parseMethodDescriptor yX8_cycles.desc).map (fun d => d.parameters.length) = some 0 := by decide +kernel
theorem ki_X8_cycles : Cond.instanceMethod yX8_cycles ∈ gw := tb_in (List.mem_of_getElem? (i := 1005) (by decide +kernel)) rfl
theorem ks_X8_cycles : Cond.selects RX8 yX8_cycles yX8_cycles ∈ gw := tb_in (List.mem_of_getElem? (i := 1006) (by decide +kernel)) rfl
theorem kx_X8_cycleOf : Cond.code yX8_cycleOf cX8_cycleOf 2 (some .int) ∈ gw := tb_in (List.mem_of_getElem? (i := 1011) (by decide +kernel)) rfl
theorem kd_X8_cycleOf : yX8_cycleOf.cls ≠ "java/lang/invoke/MethodHandle" ∧ yX8_cycleOf.cls ≠ "java/lang/invoke/VarHandle" ∧ (parseMethodDescriptor yX8_cycleOf.desc).map (fun d => d.parameters.length) = some 1 := by decide +kernel
theorem ki_X8_cycleOf : Cond.instanceMethod yX8_cycleOf ∈ gw := tb_in (List.mem_of_getElem? (i := 1009) (by decide +kernel)) rfl
theorem ks_X8_cycleOf : Cond.selects RX8 yX8_cycleOf yX8_cycleOf ∈ gw := tb_in (List.mem_of_getElem? (i := 1010) (by decide +kernel)) rfl
theorem kx_X8_cycle : Cond.code yX8_cycle cX8_cycle 6 (some .int) ∈ gw := tb_in (List.mem_of_getElem? (i := 1015) (by decide +kernel)) rfl
theorem kd_X8_cycle : yX8_cycle.cls ≠ "java/lang/invoke/MethodHandle" ∧ yX8_cycle.cls ≠ "java/lang/invoke/VarHandle" ∧ (parseMethodDescriptor yX8_cycle.desc).map (fun d => d.parameters.length) = some 2 := by decide +kernel
theorem ki_X8_cycle : Cond.instanceMethod yX8_cycle ∈ gw := tb_in (List.mem_of_getElem? (i := 1013) (by decide +kernel)) rfl
theorem ks_X8_cycle : Cond.selects RX8 yX8_cycle yX8_cycle ∈ gw := tb_in (List.mem_of_getElem? (i := 1014) (by decide +kernel)) rfl
theorem kx_X8_groupOf : Cond.code yX8_groupOf cX8_groupOf 3 (some .int) ∈ gw := tb_in (List.mem_of_getElem? (i := 1027) (by decide +kernel)) rfl
theorem kd_X8_groupOf : yX8_groupOf.cls ≠ "java/lang/invoke/MethodHandle" ∧ yX8_groupOf.cls ≠ "java/lang/invoke/VarHandle" ∧ (parseMethodDescriptor yX8_groupOf.desc).map (fun d => d.parameters.length) = some 1 := by decide +kernel
theorem ki_X8_groupOf : Cond.instanceMethod yX8_groupOf ∈ gw := tb_in (List.mem_of_getElem? (i := 1026) (by decide +kernel)) rfl
theorem ks_X8_groupOf : Cond.selects RX8 yX8_groupOf yX8_groupOf ∈ gw := tb_sel (List.mem_of_getElem? (i := 85) (by decide +kernel)) rfl
theorem kx_X8_joins : Cond.code yX8_joins cX8_joins 7 (some .int) ∈ gw := tb_in (List.mem_of_getElem? (i := 1023) (by decide +kernel)) rfl
theorem kd_X8_joins : yX8_joins.cls ≠ "java/lang/invoke/MethodHandle" ∧ yX8_joins.cls ≠ "java/lang/invoke/VarHandle" ∧ (parseMethodDescriptor yX8_joins.desc).map (fun d => d.parameters.length) = some 1 := by decide +kernel
theorem ki_X8_joins : Cond.instanceMethod yX8_joins ∈ gw := tb_in (List.mem_of_getElem? (i := 1022) (by decide +kernel)) rfl
theorem ks_X8_joins : Cond.selects RX8 yX8_joins yX8_joins ∈ gw := tb_sel (List.mem_of_getElem? (i := 84) (by decide +kernel)) rfl
theorem kx_X8_join : Cond.code yX8_join cX8_join 1 (some .int) ∈ gw := tb_in (List.mem_of_getElem? (i := 1019) (by decide +kernel)) rfl
theorem kd_X8_join : yX8_join.cls ≠ "java/lang/invoke/MethodHandle" ∧ yX8_join.cls ≠ "java/lang/invoke/VarHandle" ∧ (parseMethodDescriptor yX8_join.desc).map (fun d => d.parameters.length) = some 0 := by decide +kernel
theorem ki_X8_join : Cond.instanceMethod yX8_join ∈ gw := tb_in (List.mem_of_getElem? (i := 1017) (by decide +kernel)) rfl
theorem ks_X8_join : Cond.selects RX8 yX8_join yX8_join ∈ gw := tb_in (List.mem_of_getElem? (i := 1018) (by decide +kernel)) rfl
theorem kx_X8_leastRound : Cond.code yX8_leastRound cX8_leastRound 6 none ∈ gw := tb_in (List.mem_of_getElem? (i := 1035) (by decide +kernel)) rfl
theorem kd_X8_leastRound : yX8_leastRound.cls ≠ "java/lang/invoke/MethodHandle" ∧ yX8_leastRound.cls ≠ "java/lang/invoke/VarHandle" ∧ (parseMethodDescriptor yX8_leastRound.desc).map (fun d => d.parameters.length) = some 0 := by decide +kernel
theorem ki_X8_leastRound : Cond.instanceMethod yX8_leastRound ∈ gw := tb_in (List.mem_of_getElem? (i := 1034) (by decide +kernel)) rfl
theorem ks_X8_leastRound : Cond.selects RX8 yX8_leastRound yX8_leastRound ∈ gw := tb_sel (List.mem_of_getElem? (i := 86) (by decide +kernel)) rfl
theorem kx_X8_greedyRound : Cond.code yX8_greedyRound cX8_greedyRound 5 none ∈ gw := tb_in (List.mem_of_getElem? (i := 1039) (by decide +kernel)) rfl
theorem kd_X8_greedyRound : yX8_greedyRound.cls ≠ "java/lang/invoke/MethodHandle" ∧ yX8_greedyRound.cls ≠ "java/lang/invoke/VarHandle" ∧ (parseMethodDescriptor yX8_greedyRound.desc).map (fun d => d.parameters.length) = some 0 := by decide +kernel
theorem ki_X8_greedyRound : Cond.instanceMethod yX8_greedyRound ∈ gw := tb_in (List.mem_of_getElem? (i := 1038) (by decide +kernel)) rfl
theorem ks_X8_greedyRound : Cond.selects RX8 yX8_greedyRound yX8_greedyRound ∈ gw := tb_sel (List.mem_of_getElem? (i := 87) (by decide +kernel)) rfl
theorem kx_X8_round : Cond.code yX8_round cX8_round 5 (some .int) ∈ gw := tb_in (List.mem_of_getElem? (i := 1031) (by decide +kernel)) rfl
theorem kd_X8_round : yX8_round.cls ≠ "java/lang/invoke/MethodHandle" ∧ yX8_round.cls ≠ "java/lang/invoke/VarHandle" ∧ (parseMethodDescriptor yX8_round.desc).map (fun d => d.parameters.length) = some 1 := by decide +kernel
theorem ki_X8_round : Cond.instanceMethod yX8_round ∈ gw := tb_in (List.mem_of_getElem? (i := 1029) (by decide +kernel)) rfl
theorem ks_X8_round : Cond.selects RX8 yX8_round yX8_round ∈ gw := tb_in (List.mem_of_getElem? (i := 1030) (by decide +kernel)) rfl
theorem kx_X8_letter : Cond.code yX8_letter cX8_letter 2 (some .int) ∈ gw := tb_in (List.mem_of_getElem? (i := 1043) (by decide +kernel)) rfl
theorem kd_X8_letter : yX8_letter.cls ≠ "java/lang/invoke/MethodHandle" ∧ yX8_letter.cls ≠ "java/lang/invoke/VarHandle" ∧ (parseMethodDescriptor yX8_letter.desc).map (fun d => d.parameters.length) = some 1 := by decide +kernel
theorem ki_X8_letter : Cond.instanceMethod yX8_letter ∈ gw := tb_in (List.mem_of_getElem? (i := 1041) (by decide +kernel)) rfl
theorem ks_X8_letter : Cond.selects RX8 yX8_letter yX8_letter ∈ gw := tb_in (List.mem_of_getElem? (i := 1042) (by decide +kernel)) rfl
theorem kx_X8_place : Cond.code yX8_place cX8_place 2 (some .int) ∈ gw := tb_in (List.mem_of_getElem? (i := 1047) (by decide +kernel)) rfl
theorem kd_X8_place : yX8_place.cls ≠ "java/lang/invoke/MethodHandle" ∧ yX8_place.cls ≠ "java/lang/invoke/VarHandle" ∧ (parseMethodDescriptor yX8_place.desc).map (fun d => d.parameters.length) = some 1 := by decide +kernel
theorem ki_X8_place : Cond.instanceMethod yX8_place ∈ gw := tb_in (List.mem_of_getElem? (i := 1045) (by decide +kernel)) rfl
theorem ks_X8_place : Cond.selects RX8 yX8_place yX8_place ∈ gw := tb_in (List.mem_of_getElem? (i := 1046) (by decide +kernel)) rfl
theorem kx_X8_way : Cond.code yX8_way cX8_way 3 (some .int) ∈ gw := tb_in (List.mem_of_getElem? (i := 1051) (by decide +kernel)) rfl
theorem kd_X8_way : yX8_way.cls ≠ "java/lang/invoke/MethodHandle" ∧ yX8_way.cls ≠ "java/lang/invoke/VarHandle" ∧ (parseMethodDescriptor yX8_way.desc).map (fun d => d.parameters.length) = some 2 := by decide +kernel
theorem ki_X8_way : Cond.instanceMethod yX8_way ∈ gw := tb_in (List.mem_of_getElem? (i := 1049) (by decide +kernel)) rfl
theorem ks_X8_way : Cond.selects RX8 yX8_way yX8_way ∈ gw := tb_in (List.mem_of_getElem? (i := 1050) (by decide +kernel)) rfl
theorem kx_X8_met : Cond.code yX8_met cX8_met 2 (some .int) ∈ gw := tb_in (List.mem_of_getElem? (i := 1063) (by decide +kernel)) rfl
theorem kd_X8_met : yX8_met.cls ≠ "java/lang/invoke/MethodHandle" ∧ yX8_met.cls ≠ "java/lang/invoke/VarHandle" ∧ (parseMethodDescriptor yX8_met.desc).map (fun d => d.parameters.length) = some 1 := by decide +kernel
theorem ki_X8_met : Cond.instanceMethod yX8_met ∈ gw := tb_in (List.mem_of_getElem? (i := 1062) (by decide +kernel)) rfl
theorem ks_X8_met : Cond.selects RX8 yX8_met yX8_met ∈ gw := tb_sel (List.mem_of_getElem? (i := 88) (by decide +kernel)) rfl
theorem kx_X8_isTape : Cond.code yX8_isTape cX8_isTape 1 (some .boolean) ∈ gw := tb_in (List.mem_of_getElem? (i := 1058) (by decide +kernel)) rfl
theorem kd_X8_isTape : yX8_isTape.cls ≠ "java/lang/invoke/MethodHandle" ∧ yX8_isTape.cls ≠ "java/lang/invoke/VarHandle" ∧ (parseMethodDescriptor yX8_isTape.desc).map (fun d => d.parameters.length) = some 1 := by decide +kernel
theorem kt_X8_isTape : Cond.static yX8_isTape ∈ gw := tb_in (List.mem_of_getElem? (i := 1057) (by decide +kernel)) rfl
theorem kx_X8_tape : Cond.code yX8_tape cX8_tape 5 (some .int) ∈ gw := tb_in (List.mem_of_getElem? (i := 1055) (by decide +kernel)) rfl
theorem kd_X8_tape : yX8_tape.cls ≠ "java/lang/invoke/MethodHandle" ∧ yX8_tape.cls ≠ "java/lang/invoke/VarHandle" ∧ (parseMethodDescriptor yX8_tape.desc).map (fun d => d.parameters.length) = some 3 := by decide +kernel
theorem ki_X8_tape : Cond.instanceMethod yX8_tape ∈ gw := tb_in (List.mem_of_getElem? (i := 1053) (by decide +kernel)) rfl
theorem ks_X8_tape : Cond.selects RX8 yX8_tape yX8_tape ∈ gw := tb_in (List.mem_of_getElem? (i := 1054) (by decide +kernel)) rfl
theorem kx_X8_lose : Cond.code yX8_lose cX8_lose 2 (some .int) ∈ gw := tb_in (List.mem_of_getElem? (i := 1067) (by decide +kernel)) rfl
theorem kd_X8_lose : yX8_lose.cls ≠ "java/lang/invoke/MethodHandle" ∧ yX8_lose.cls ≠ "java/lang/invoke/VarHandle" ∧ (parseMethodDescriptor yX8_lose.desc).map (fun d => d.parameters.length) = some 1 := by decide +kernel
theorem ki_X8_lose : Cond.instanceMethod yX8_lose ∈ gw := tb_in (List.mem_of_getElem? (i := 1065) (by decide +kernel)) rfl
theorem ks_X8_lose : Cond.selects RX8 yX8_lose yX8_lose ∈ gw := tb_in (List.mem_of_getElem? (i := 1066) (by decide +kernel)) rfl
theorem kx_X8_lacks : Cond.code yX8_lacks cX8_lacks 4 (some .int) ∈ gw := tb_in (List.mem_of_getElem? (i := 1075) (by decide +kernel)) rfl
theorem kd_X8_lacks : yX8_lacks.cls ≠ "java/lang/invoke/MethodHandle" ∧ yX8_lacks.cls ≠ "java/lang/invoke/VarHandle" ∧ (parseMethodDescriptor yX8_lacks.desc).map (fun d => d.parameters.length) = some 3 := by decide +kernel
theorem ki_X8_lacks : Cond.instanceMethod yX8_lacks ∈ gw := tb_in (List.mem_of_getElem? (i := 1074) (by decide +kernel)) rfl
theorem ks_X8_lacks : Cond.selects RX8 yX8_lacks yX8_lacks ∈ gw := tb_sel (List.mem_of_getElem? (i := 89) (by decide +kernel)) rfl
theorem kx_X8_put : Cond.code yX8_put cX8_put 6 (some .int) ∈ gw := tb_in (List.mem_of_getElem? (i := 1071) (by decide +kernel)) rfl
theorem kd_X8_put : yX8_put.cls ≠ "java/lang/invoke/MethodHandle" ∧ yX8_put.cls ≠ "java/lang/invoke/VarHandle" ∧ (parseMethodDescriptor yX8_put.desc).map (fun d => d.parameters.length) = some 4 := by decide +kernel
theorem ki_X8_put : Cond.instanceMethod yX8_put ∈ gw := tb_in (List.mem_of_getElem? (i := 1069) (by decide +kernel)) rfl
theorem ks_X8_put : Cond.selects RX8 yX8_put yX8_put ∈ gw := tb_in (List.mem_of_getElem? (i := 1070) (by decide +kernel)) rfl
theorem kx_X8_get : Cond.code yX8_get cX8_get 4 (some .int) ∈ gw := tb_in (List.mem_of_getElem? (i := 1080) (by decide +kernel)) rfl
theorem kd_X8_get : yX8_get.cls ≠ "java/lang/invoke/MethodHandle" ∧ yX8_get.cls ≠ "java/lang/invoke/VarHandle" ∧ (parseMethodDescriptor yX8_get.desc).map (fun d => d.parameters.length) = some 3 := by decide +kernel
theorem ki_X8_get : Cond.instanceMethod yX8_get ∈ gw := tb_in (List.mem_of_getElem? (i := 1078) (by decide +kernel)) rfl
theorem ks_X8_get : Cond.selects RX8 yX8_get yX8_get ∈ gw := tb_in (List.mem_of_getElem? (i := 1079) (by decide +kernel)) rfl
theorem kx_X8_isWithin : Cond.code yX8_isWithin cX8_isWithin 4 (some .boolean) ∈ gw := tb_in (List.mem_of_getElem? (i := 1089) (by decide +kernel)) rfl
theorem kd_X8_isWithin : yX8_isWithin.cls ≠ "java/lang/invoke/MethodHandle" ∧ yX8_isWithin.cls ≠ "java/lang/invoke/VarHandle" ∧ (parseMethodDescriptor yX8_isWithin.desc).map (fun d => d.parameters.length) = some 3 := by decide +kernel
theorem ki_X8_isWithin : Cond.instanceMethod yX8_isWithin ∈ gw := tb_in (List.mem_of_getElem? (i := 1088) (by decide +kernel)) rfl
theorem ks_X8_isWithin : Cond.selects RX8 yX8_isWithin yX8_isWithin ∈ gw := tb_sel (List.mem_of_getElem? (i := 90) (by decide +kernel)) rfl
theorem kx_X8_copy : Cond.code yX8_copy cX8_copy 7 (some .int) ∈ gw := tb_in (List.mem_of_getElem? (i := 1085) (by decide +kernel)) rfl
theorem kd_X8_copy : yX8_copy.cls ≠ "java/lang/invoke/MethodHandle" ∧ yX8_copy.cls ≠ "java/lang/invoke/VarHandle" ∧ (parseMethodDescriptor yX8_copy.desc).map (fun d => d.parameters.length) = some 5 := by decide +kernel
theorem ki_X8_copy : Cond.instanceMethod yX8_copy ∈ gw := tb_in (List.mem_of_getElem? (i := 1083) (by decide +kernel)) rfl
theorem ks_X8_copy : Cond.selects RX8 yX8_copy yX8_copy ∈ gw := tb_in (List.mem_of_getElem? (i := 1084) (by decide +kernel)) rfl
theorem kx_X8_print : Cond.code yX8_print cX8_print 6 (some .int) ∈ gw := tb_in (List.mem_of_getElem? (i := 1093) (by decide +kernel)) rfl
theorem kd_X8_print : yX8_print.cls ≠ "java/lang/invoke/MethodHandle" ∧ yX8_print.cls ≠ "java/lang/invoke/VarHandle" ∧ (parseMethodDescriptor yX8_print.desc).map (fun d => d.parameters.length) = some 4 := by decide +kernel
theorem ki_X8_print : Cond.instanceMethod yX8_print ∈ gw := tb_in (List.mem_of_getElem? (i := 1091) (by decide +kernel)) rfl
theorem ks_X8_print : Cond.selects RX8 yX8_print yX8_print ∈ gw := tb_in (List.mem_of_getElem? (i := 1092) (by decide +kernel)) rfl
theorem kx_X8_find : Cond.code yX8_find cX8_find 10 (some .int) ∈ gw := tb_in (List.mem_of_getElem? (i := 1097) (by decide +kernel)) rfl
theorem kd_X8_find : yX8_find.cls ≠ "java/lang/invoke/MethodHandle" ∧ yX8_find.cls ≠ "java/lang/invoke/VarHandle" ∧ (parseMethodDescriptor yX8_find.desc).map (fun d => d.parameters.length) = some 4 := by decide +kernel
theorem ki_X8_find : Cond.instanceMethod yX8_find ∈ gw := tb_in (List.mem_of_getElem? (i := 1095) (by decide +kernel)) rfl
theorem ks_X8_find : Cond.selects RX8 yX8_find yX8_find ∈ gw := tb_in (List.mem_of_getElem? (i := 1096) (by decide +kernel)) rfl
theorem kx_X8_found : Cond.code yX8_found cX8_found 1 (some .int) ∈ gw := tb_in (List.mem_of_getElem? (i := 1102) (by decide +kernel)) rfl
theorem kd_X8_found : yX8_found.cls ≠ "java/lang/invoke/MethodHandle" ∧ yX8_found.cls ≠ "java/lang/invoke/VarHandle" ∧ (parseMethodDescriptor yX8_found.desc).map (fun d => d.parameters.length) = some 0 := by decide +kernel
theorem ki_X8_found : Cond.instanceMethod yX8_found ∈ gw := tb_in (List.mem_of_getElem? (i := 1100) (by decide +kernel)) rfl
theorem ks_X8_found : Cond.selects RX8 yX8_found yX8_found ∈ gw := tb_in (List.mem_of_getElem? (i := 1101) (by decide +kernel)) rfl
theorem kx_X8_noLetters : Cond.code yX8_noLetters cX8_noLetters 4 (some .int) ∈ gw := tb_in (List.mem_of_getElem? (i := 1110) (by decide +kernel)) rfl
theorem kd_X8_noLetters : yX8_noLetters.cls ≠ "java/lang/invoke/MethodHandle" ∧ yX8_noLetters.cls ≠ "java/lang/invoke/VarHandle" ∧ (parseMethodDescriptor yX8_noLetters.desc).map (fun d => d.parameters.length) = some 1 := by decide +kernel
theorem ki_X8_noLetters : Cond.instanceMethod yX8_noLetters ∈ gw := tb_in (List.mem_of_getElem? (i := 1109) (by decide +kernel)) rfl
theorem ks_X8_noLetters : Cond.selects RX8 yX8_noLetters yX8_noLetters ∈ gw := tb_sel (List.mem_of_getElem? (i := 91) (by decide +kernel)) rfl
theorem kx_X8_twice : Cond.code yX8_twice cX8_twice 7 (some .int) ∈ gw := tb_in (List.mem_of_getElem? (i := 1106) (by decide +kernel)) rfl
theorem kd_X8_twice : yX8_twice.cls ≠ "java/lang/invoke/MethodHandle" ∧ yX8_twice.cls ≠ "java/lang/invoke/VarHandle" ∧ (parseMethodDescriptor yX8_twice.desc).map (fun d => d.parameters.length) = some 1 := by decide +kernel
theorem ki_X8_twice : Cond.instanceMethod yX8_twice ∈ gw := tb_in (List.mem_of_getElem? (i := 1104) (by decide +kernel)) rfl
theorem ks_X8_twice : Cond.selects RX8 yX8_twice yX8_twice ∈ gw := tb_in (List.mem_of_getElem? (i := 1105) (by decide +kernel)) rfl
theorem kx_X8_parts : Cond.code yX8_parts cX8_parts 8 (some .int) ∈ gw := tb_in (List.mem_of_getElem? (i := 1114) (by decide +kernel)) rfl
theorem kd_X8_parts : yX8_parts.cls ≠ "java/lang/invoke/MethodHandle" ∧ yX8_parts.cls ≠ "java/lang/invoke/VarHandle" ∧ (parseMethodDescriptor yX8_parts.desc).map (fun d => d.parameters.length) = some 1 := by decide +kernel
theorem ki_X8_parts : Cond.instanceMethod yX8_parts ∈ gw := tb_in (List.mem_of_getElem? (i := 1112) (by decide +kernel)) rfl
theorem ks_X8_parts : Cond.selects RX8 yX8_parts yX8_parts ∈ gw := tb_in (List.mem_of_getElem? (i := 1113) (by decide +kernel)) rfl
theorem kx_X8_part : Cond.code yX8_part cX8_part 2 (some .int) ∈ gw := tb_in (List.mem_of_getElem? (i := 1118) (by decide +kernel)) rfl
theorem kd_X8_part : yX8_part.cls ≠ "java/lang/invoke/MethodHandle" ∧ yX8_part.cls ≠ "java/lang/invoke/VarHandle" ∧ (parseMethodDescriptor yX8_part.desc).map (fun d => d.parameters.length) = some 1 := by decide +kernel
theorem ki_X8_part : Cond.instanceMethod yX8_part ∈ gw := tb_in (List.mem_of_getElem? (i := 1116) (by decide +kernel)) rfl
theorem ks_X8_part : Cond.selects RX8 yX8_part yX8_part ∈ gw := tb_in (List.mem_of_getElem? (i := 1117) (by decide +kernel)) rfl
theorem kx_X8_inverse : Cond.code yX8_inverse cX8_inverse 3 (some .int) ∈ gw := tb_in (List.mem_of_getElem? (i := 1130) (by decide +kernel)) rfl
theorem kd_X8_inverse : yX8_inverse.cls ≠ "java/lang/invoke/MethodHandle" ∧ yX8_inverse.cls ≠ "java/lang/invoke/VarHandle" ∧ (parseMethodDescriptor yX8_inverse.desc).map (fun d => d.parameters.length) = some 1 := by decide +kernel
theorem ki_X8_inverse : Cond.instanceMethod yX8_inverse ∈ gw := tb_in (List.mem_of_getElem? (i := 1129) (by decide +kernel)) rfl
theorem ks_X8_inverse : Cond.selects RX8 yX8_inverse yX8_inverse ∈ gw := tb_sel (List.mem_of_getElem? (i := 93) (by decide +kernel)) rfl
theorem kx_X8_leastLength : Cond.code yX8_leastLength cX8_leastLength 10 (some .int) ∈ gw := tb_in (List.mem_of_getElem? (i := 1126) (by decide +kernel)) rfl
theorem kd_X8_leastLength : yX8_leastLength.cls ≠ "java/lang/invoke/MethodHandle" ∧ yX8_leastLength.cls ≠ "java/lang/invoke/VarHandle" ∧ (parseMethodDescriptor yX8_leastLength.desc).map (fun d => d.parameters.length) = some 1 := by decide +kernel
theorem ki_X8_leastLength : Cond.instanceMethod yX8_leastLength ∈ gw := tb_in (List.mem_of_getElem? (i := 1125) (by decide +kernel)) rfl
theorem ks_X8_leastLength : Cond.selects RX8 yX8_leastLength yX8_leastLength ∈ gw := tb_sel (List.mem_of_getElem? (i := 92) (by decide +kernel)) rfl
theorem kx_X8_solve : Cond.code yX8_solve cX8_solve 13 none ∈ gw := tb_in (List.mem_of_getElem? (i := 1134) (by decide +kernel)) rfl
theorem kd_X8_solve : yX8_solve.cls ≠ "java/lang/invoke/MethodHandle" ∧ yX8_solve.cls ≠ "java/lang/invoke/VarHandle" ∧ (parseMethodDescriptor yX8_solve.desc).map (fun d => d.parameters.length) = some 2 := by decide +kernel
theorem ki_X8_solve : Cond.instanceMethod yX8_solve ∈ gw := tb_in (List.mem_of_getElem? (i := 1133) (by decide +kernel)) rfl
theorem ks_X8_solve : Cond.selects RX8 yX8_solve yX8_solve ∈ gw := tb_sel (List.mem_of_getElem? (i := 94) (by decide +kernel)) rfl
theorem kx_X8_recurrence : Cond.code yX8_recurrence cX8_recurrence 2 (some .int) ∈ gw := tb_in (List.mem_of_getElem? (i := 1122) (by decide +kernel)) rfl
theorem kd_X8_recurrence : yX8_recurrence.cls ≠ "java/lang/invoke/MethodHandle" ∧ yX8_recurrence.cls ≠ "java/lang/invoke/VarHandle" ∧ (parseMethodDescriptor yX8_recurrence.desc).map (fun d => d.parameters.length) = some 1 := by decide +kernel
theorem ki_X8_recurrence : Cond.instanceMethod yX8_recurrence ∈ gw := tb_in (List.mem_of_getElem? (i := 1120) (by decide +kernel)) rfl
theorem ks_X8_recurrence : Cond.selects RX8 yX8_recurrence yX8_recurrence ∈ gw := tb_in (List.mem_of_getElem? (i := 1121) (by decide +kernel)) rfl
theorem kx_X8_coefficient : Cond.code yX8_coefficient cX8_coefficient 2 (some .int) ∈ gw := tb_in (List.mem_of_getElem? (i := 1138) (by decide +kernel)) rfl
theorem kd_X8_coefficient : yX8_coefficient.cls ≠ "java/lang/invoke/MethodHandle" ∧ yX8_coefficient.cls ≠ "java/lang/invoke/VarHandle" ∧ (parseMethodDescriptor yX8_coefficient.desc).map (fun d => d.parameters.length) = some 1 := by decide +kernel
theorem ki_X8_coefficient : Cond.instanceMethod yX8_coefficient ∈ gw := tb_in (List.mem_of_getElem? (i := 1136) (by decide +kernel)) rfl
theorem ks_X8_coefficient : Cond.selects RX8 yX8_coefficient yX8_coefficient ∈ gw := tb_in (List.mem_of_getElem? (i := 1137) (by decide +kernel)) rfl
theorem kx_X8_count : Cond.code yX8_count cX8_count 2 (some .int) ∈ gw := tb_in (List.mem_of_getElem? (i := 1142) (by decide +kernel)) rfl
theorem kd_X8_count : yX8_count.cls ≠ "java/lang/invoke/MethodHandle" ∧ yX8_count.cls ≠ "java/lang/invoke/VarHandle" ∧ (parseMethodDescriptor yX8_count.desc).map (fun d => d.parameters.length) = some 1 := by decide +kernel
theorem ki_X8_count : Cond.instanceMethod yX8_count ∈ gw := tb_in (List.mem_of_getElem? (i := 1140) (by decide +kernel)) rfl
theorem ks_X8_count : Cond.selects RX8 yX8_count yX8_count ∈ gw := tb_in (List.mem_of_getElem? (i := 1141) (by decide +kernel)) rfl
theorem kx_X8_digest : Cond.code yX8_digest cX8_digest 4 (some .long) ∈ gw := tb_in (List.mem_of_getElem? (i := 1146) (by decide +kernel)) rfl
theorem kd_X8_digest : yX8_digest.cls ≠ "java/lang/invoke/MethodHandle" ∧ yX8_digest.cls ≠ "java/lang/invoke/VarHandle" ∧ (parseMethodDescriptor yX8_digest.desc).map (fun d => d.parameters.length) = some 0 := by decide +kernel
theorem ki_X8_digest : Cond.instanceMethod yX8_digest ∈ gw := tb_in (List.mem_of_getElem? (i := 1144) (by decide +kernel)) rfl
theorem ks_X8_digest : Cond.selects RX8 yX8_digest yX8_digest ∈ gw := tb_in (List.mem_of_getElem? (i := 1145) (by decide +kernel)) rfl
theorem kx_J13_bitCount_95d88 : Cond.code yJ13_bitCount_95d88 cJ13_bitCount_95d88 2 (some .int) ∈ gw := tb_in (List.mem_of_getElem? (i := 698) (by decide +kernel)) rfl
theorem kd_J13_bitCount_95d88 : yJ13_bitCount_95d88.cls ≠ "java/lang/invoke/MethodHandle" ∧ yJ13_bitCount_95d88.cls ≠ "java/lang/invoke/VarHandle" ∧ (parseMethodDescriptor yJ13_bitCount_95d88.desc).map (fun d => d.parameters.length) = some 1 := by decide +kernel
theorem kt_J13_bitCount_95d88 : Cond.static yJ13_bitCount_95d88 ∈ gw := tb_in (List.mem_of_getElem? (i := 697) (by decide +kernel)) rfl
theorem kx_J9_min_7cf53 : Cond.code yJ9_min_7cf53 cJ9_min_7cf53 2 (some .int) ∈ gw := tb_in (List.mem_of_getElem? (i := 315) (by decide +kernel)) rfl
theorem kd_J9_min_7cf53 : yJ9_min_7cf53.cls ≠ "java/lang/invoke/MethodHandle" ∧ yJ9_min_7cf53.cls ≠ "java/lang/invoke/VarHandle" ∧ (parseMethodDescriptor yJ9_min_7cf53.desc).map (fun d => d.parameters.length) = some 2 := by decide +kernel
theorem kt_J9_min_7cf53 : Cond.static yJ9_min_7cf53 ∈ gw := tb_in (List.mem_of_getElem? (i := 314) (by decide +kernel)) rfl
theorem kx_J7_rangeCheck_23922 : Cond.code yJ7_rangeCheck_23922 cJ7_rangeCheck_23922 3 none ∈ gw := tb_in (List.mem_of_getElem? (i := 371) (by decide +kernel)) rfl
theorem kd_J7_rangeCheck_23922 : yJ7_rangeCheck_23922.cls ≠ "java/lang/invoke/MethodHandle" ∧ yJ7_rangeCheck_23922.cls ≠ "java/lang/invoke/VarHandle" ∧ (parseMethodDescriptor yJ7_rangeCheck_23922.desc).map (fun d => d.parameters.length) = some 3 := by decide +kernel
theorem kt_J7_rangeCheck_23922 : Cond.static yJ7_rangeCheck_23922 ∈ gw := tb_in (List.mem_of_getElem? (i := 370) (by decide +kernel)) rfl
theorem kx_J7_fill_d0a16 : Cond.code yJ7_fill_d0a16 cJ7_fill_d0a16 5 none ∈ gw := tb_in (List.mem_of_getElem? (i := 690) (by decide +kernel)) rfl
theorem kd_J7_fill_d0a16 : yJ7_fill_d0a16.cls ≠ "java/lang/invoke/MethodHandle" ∧ yJ7_fill_d0a16.cls ≠ "java/lang/invoke/VarHandle" ∧ (parseMethodDescriptor yJ7_fill_d0a16.desc).map (fun d => d.parameters.length) = some 2 := by decide +kernel
theorem kt_J7_fill_d0a16 : Cond.static yJ7_fill_d0a16 ∈ gw := tb_in (List.mem_of_getElem? (i := 689) (by decide +kernel)) rfl
theorem kx_J7_fill_53178 : Cond.code yJ7_fill_53178 cJ7_fill_53178 4 none ∈ gw := tb_in (List.mem_of_getElem? (i := 98) (by decide +kernel)) rfl
theorem kd_J7_fill_53178 : yJ7_fill_53178.cls ≠ "java/lang/invoke/MethodHandle" ∧ yJ7_fill_53178.cls ≠ "java/lang/invoke/VarHandle" ∧ (parseMethodDescriptor yJ7_fill_53178.desc).map (fun d => d.parameters.length) = some 2 := by decide +kernel
theorem kt_J7_fill_53178 : Cond.static yJ7_fill_53178 ∈ gw := tb_in (List.mem_of_getElem? (i := 97) (by decide +kernel)) rfl
theorem kx_J7_fill_fda19 : Cond.code yJ7_fill_fda19 cJ7_fill_fda19 5 none ∈ gw := tb_in (List.mem_of_getElem? (i := 368) (by decide +kernel)) rfl
theorem kd_J7_fill_fda19 : yJ7_fill_fda19.cls ≠ "java/lang/invoke/MethodHandle" ∧ yJ7_fill_fda19.cls ≠ "java/lang/invoke/VarHandle" ∧ (parseMethodDescriptor yJ7_fill_fda19.desc).map (fun d => d.parameters.length) = some 4 := by decide +kernel
theorem kt_J7_fill_fda19 : Cond.static yJ7_fill_fda19 ∈ gw := tb_in (List.mem_of_getElem? (i := 367) (by decide +kernel)) rfl
theorem kx_J7_fill_eb02e : Cond.code yJ7_fill_eb02e cJ7_fill_eb02e 5 none ∈ gw := tb_in (List.mem_of_getElem? (i := 578) (by decide +kernel)) rfl
theorem kd_J7_fill_eb02e : yJ7_fill_eb02e.cls ≠ "java/lang/invoke/MethodHandle" ∧ yJ7_fill_eb02e.cls ≠ "java/lang/invoke/VarHandle" ∧ (parseMethodDescriptor yJ7_fill_eb02e.desc).map (fun d => d.parameters.length) = some 4 := by decide +kernel
theorem kt_J7_fill_eb02e : Cond.static yJ7_fill_eb02e ∈ gw := tb_in (List.mem_of_getElem? (i := 577) (by decide +kernel)) rfl
