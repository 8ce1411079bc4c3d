/-! the methods: record, and the words that a call of it wants -/
abbrev mX0_init : my := (yX0_init, cX0_init, 1, none)
theorem kx_X0_init : Cond.code mX0_init.1 mX0_init.2.1 mX0_init.2.2.1 mX0_init.2.2.2 ∈ gw := tb_in (List.mem_of_getElem? (i := 214) (by decide +kernel)) rfl
theorem cw_X0_init {y : my} {index d2 : Nat} : Cw y mX0_init index 0 d2 := ⟨kx_X0_init, tb_in (List.mem_of_getElem? (i := 8) (by decide +kernel)) rfl, by decide +kernel, by decide⟩
theorem ki_X0_init : Cond.instanceMethod yX0_init ∈ gw := tb_in (List.mem_of_getElem? (i := 213) (by decide +kernel)) rfl
abbrev mX0_divide : my := (yX0_divide, cX0_divide, 9, (some .int))
theorem kx_X0_divide : Cond.code mX0_divide.1 mX0_divide.2.1 mX0_divide.2.2.1 mX0_divide.2.2.2 ∈ gw := tb_in (List.mem_of_getElem? (i := 730) (by decide +kernel)) rfl
theorem cw_X0_divide {y : my} {index d2 : Nat} : Cw y mX0_divide index 2 d2 := ⟨kx_X0_divide, tb_in (List.mem_of_getElem? (i := 8) (by decide +kernel)) rfl, by decide +kernel, by decide⟩
theorem ki_X0_divide : Cond.instanceMethod yX0_divide ∈ gw := tb_in (List.mem_of_getElem? (i := 729) (by decide +kernel)) rfl
theorem ks_X0_divide : Cond.selects RX0 yX0_divide yX0_divide ∈ gw := tb_sel (List.mem_of_getElem? (i := 67) (by decide +kernel)) rfl
abbrev mX1_init : my := (yX1_init, cX1_init, 1, none)
theorem kx_X1_init : Cond.code mX1_init.1 mX1_init.2.1 mX1_init.2.2.1 mX1_init.2.2.2 ∈ gw := tb_in (List.mem_of_getElem? (i := 229) (by decide +kernel)) rfl
theorem cw_X1_init {y : my} {index d2 : Nat} : Cw y mX1_init index 0 d2 := ⟨kx_X1_init, tb_in (List.mem_of_getElem? (i := 9) (by decide +kernel)) rfl, by decide +kernel, by decide⟩
theorem ki_X1_init : Cond.instanceMethod yX1_init ∈ gw := tb_in (List.mem_of_getElem? (i := 228) (by decide +kernel)) rfl
abbrev mX1_coefficientAt : my := (yX1_coefficientAt, cX1_coefficientAt, 2, (some .int))
theorem kx_X1_coefficientAt : Cond.code mX1_coefficientAt.1 mX1_coefficientAt.2.1 mX1_coefficientAt.2.2.1 mX1_coefficientAt.2.2.2 ∈ gw := tb_in (List.mem_of_getElem? (i := 772) (by decide +kernel)) rfl
theorem cw_X1_coefficientAt {y : my} {index d2 : Nat} : Cw y mX1_coefficientAt index 1 d2 := ⟨kx_X1_coefficientAt, tb_in (List.mem_of_getElem? (i := 9) (by decide +kernel)) rfl, by decide +kernel, by decide⟩
theorem ki_X1_coefficientAt : Cond.instanceMethod yX1_coefficientAt ∈ gw := tb_in (List.mem_of_getElem? (i := 771) (by decide +kernel)) rfl
theorem ks_X1_coefficientAt : Cond.selects RX1 yX1_coefficientAt yX1_coefficientAt ∈ gw := tb_sel (List.mem_of_getElem? (i := 74) (by decide +kernel)) rfl
abbrev mX1_learn : my := (yX1_learn, cX1_learn, 9, (some .int))
theorem kx_X1_learn : Cond.code mX1_learn.1 mX1_learn.2.1 mX1_learn.2.2.1 mX1_learn.2.2.2 ∈ gw := tb_in (List.mem_of_getElem? (i := 742) (by decide +kernel)) rfl
theorem cw_X1_learn {y : my} {index d2 : Nat} : Cw y mX1_learn index 3 d2 := ⟨kx_X1_learn, tb_in (List.mem_of_getElem? (i := 9) (by decide +kernel)) rfl, by decide +kernel, by decide⟩
theorem ki_X1_learn : Cond.instanceMethod yX1_learn ∈ gw := tb_in (List.mem_of_getElem? (i := 741) (by decide +kernel)) rfl
theorem ks_X1_learn : Cond.selects RX1 yX1_learn yX1_learn ∈ gw := tb_sel (List.mem_of_getElem? (i := 68) (by decide +kernel)) rfl
abbrev mX1_gapAt : my := (yX1_gapAt, cX1_gapAt, 5, (some .int))
theorem kx_X1_gapAt : Cond.code mX1_gapAt.1 mX1_gapAt.2.1 mX1_gapAt.2.2.1 mX1_gapAt.2.2.2 ∈ gw := tb_in (List.mem_of_getElem? (i := 747) (by decide +kernel)) rfl
theorem cw_X1_gapAt {y : my} {index d2 : Nat} : Cw y mX1_gapAt index 2 d2 := ⟨kx_X1_gapAt, tb_in (List.mem_of_getElem? (i := 9) (by decide +kernel)) rfl, by decide +kernel, by decide⟩
theorem ki_X1_gapAt : Cond.instanceMethod yX1_gapAt ∈ gw := tb_in (List.mem_of_getElem? (i := 746) (by decide +kernel)) rfl
theorem ks_X1_gapAt : Cond.selects RX1 yX1_gapAt yX1_gapAt ∈ gw := tb_sel (List.mem_of_getElem? (i := 69) (by decide +kernel)) rfl
abbrev mX1_inverse : my := (yX1_inverse, cX1_inverse, 3, (some .int))
theorem kx_X1_inverse : Cond.code mX1_inverse.1 mX1_inverse.2.1 mX1_inverse.2.2.1 mX1_inverse.2.2.2 ∈ gw := tb_in (List.mem_of_getElem? (i := 751) (by decide +kernel)) rfl
theorem cw_X1_inverse {y : my} {index d2 : Nat} : Cw y mX1_inverse index 1 d2 := ⟨kx_X1_inverse, tb_in (List.mem_of_getElem? (i := 9) (by decide +kernel)) rfl, by decide +kernel, by decide⟩
theorem ki_X1_inverse : Cond.instanceMethod yX1_inverse ∈ gw := tb_in (List.mem_of_getElem? (i := 750) (by decide +kernel)) rfl
theorem ks_X1_inverse : Cond.selects RX1 yX1_inverse yX1_inverse ∈ gw := tb_sel (List.mem_of_getElem? (i := 70) (by decide +kernel)) rfl
abbrev mX1_lengthen : my := (yX1_lengthen, cX1_lengthen, 4, none)
theorem kx_X1_lengthen : Cond.code mX1_lengthen.1 mX1_lengthen.2.1 mX1_lengthen.2.2.1 mX1_lengthen.2.2.2 ∈ gw := tb_in (List.mem_of_getElem? (i := 755) (by decide +kernel)) rfl
theorem cw_X1_lengthen {y : my} {index d2 : Nat} : Cw y mX1_lengthen index 3 d2 := ⟨kx_X1_lengthen, tb_in (List.mem_of_getElem? (i := 9) (by decide +kernel)) rfl, by decide +kernel, by decide⟩
theorem ki_X1_lengthen : Cond.instanceMethod yX1_lengthen ∈ gw := tb_in (List.mem_of_getElem? (i := 754) (by decide +kernel)) rfl
theorem ks_X1_lengthen : Cond.selects RX1 yX1_lengthen yX1_lengthen ∈ gw := tb_sel (List.mem_of_getElem? (i := 71) (by decide +kernel)) rfl
abbrev mX1_subtractEarlier : my := (yX1_subtractEarlier, cX1_subtractEarlier, 4, none)
theorem kx_X1_subtractEarlier : Cond.code mX1_subtractEarlier.1 mX1_subtractEarlier.2.1 mX1_subtractEarlier.2.2.1 mX1_subtractEarlier.2.2.2 ∈ gw := tb_in (List.mem_of_getElem? (i := 760) (by decide +kernel)) rfl
theorem cw_X1_subtractEarlier {y : my} {index d2 : Nat} : Cw y mX1_subtractEarlier index 2 d2 := ⟨kx_X1_subtractEarlier, tb_in (List.mem_of_getElem? (i := 9) (by decide +kernel)) rfl, by decide +kernel, by decide⟩
theorem ki_X1_subtractEarlier : Cond.instanceMethod yX1_subtractEarlier ∈ gw := tb_in (List.mem_of_getElem? (i := 759) (by decide +kernel)) rfl
theorem ks_X1_subtractEarlier : Cond.selects RX1 yX1_subtractEarlier yX1_subtractEarlier ∈ gw := tb_sel (List.mem_of_getElem? (i := 72) (by decide +kernel)) rfl
abbrev mX1_lowerNumbers : my := (yX1_lowerNumbers, cX1_lowerNumbers, 4, none)
theorem kx_X1_lowerNumbers : Cond.code mX1_lowerNumbers.1 mX1_lowerNumbers.2.1 mX1_lowerNumbers.2.2.1 mX1_lowerNumbers.2.2.2 ∈ gw := tb_in (List.mem_of_getElem? (i := 764) (by decide +kernel)) rfl
theorem cw_X1_lowerNumbers {y : my} {index d2 : Nat} : Cw y mX1_lowerNumbers index 2 d2 := ⟨kx_X1_lowerNumbers, tb_in (List.mem_of_getElem? (i := 9) (by decide +kernel)) rfl, by decide +kernel, by decide⟩
theorem ki_X1_lowerNumbers : Cond.instanceMethod yX1_lowerNumbers ∈ gw := tb_in (List.mem_of_getElem? (i := 763) (by decide +kernel)) rfl
theorem ks_X1_lowerNumbers : Cond.selects RX1 yX1_lowerNumbers yX1_lowerNumbers ∈ gw := tb_sel (List.mem_of_getElem? (i := 73) (by decide +kernel)) rfl
abbrev mX2_init : my := (yX2_init, cX2_init, 2, none)
theorem kx_X2_init : Cond.code mX2_init.1 mX2_init.2.1 mX2_init.2.2.1 mX2_init.2.2.2 ∈ gw := tb_in (List.mem_of_getElem? (i := 90) (by decide +kernel)) rfl
theorem cw_X2_init {y : my} {index d2 : Nat} : Cw y mX2_init index 1 d2 := ⟨kx_X2_init, tb_in (List.mem_of_getElem? (i := 4) (by decide +kernel)) rfl, by decide +kernel, by decide⟩
theorem ki_X2_init : Cond.instanceMethod yX2_init ∈ gw := tb_in (List.mem_of_getElem? (i := 89) (by decide +kernel)) rfl
abbrev mX2_becomeTurning : my := (yX2_becomeTurning, cX2_becomeTurning, 1, none)
theorem kx_X2_becomeTurning : Cond.code mX2_becomeTurning.1 mX2_becomeTurning.2.1 mX2_becomeTurning.2.2.1 mX2_becomeTurning.2.2.2 ∈ gw := tb_in (List.mem_of_getElem? (i := 95) (by decide +kernel)) rfl
theorem cw_X2_becomeTurning {y : my} {index d2 : Nat} : Cw y mX2_becomeTurning index 0 d2 := ⟨kx_X2_becomeTurning, tb_in (List.mem_of_getElem? (i := 4) (by decide +kernel)) rfl, by decide +kernel, by decide⟩
theorem ki_X2_becomeTurning : Cond.instanceMethod yX2_becomeTurning ∈ gw := tb_in (List.mem_of_getElem? (i := 94) (by decide +kernel)) rfl
theorem ks_X2_becomeTurning : Cond.selects RX2 yX2_becomeTurning yX2_becomeTurning ∈ gw := tb_sel (List.mem_of_getElem? (i := 1) (by decide +kernel)) rfl
abbrev mX2_changeFactor : my := (yX2_changeFactor, cX2_changeFactor, 4, (some .int))
theorem kx_X2_changeFactor : Cond.code mX2_changeFactor.1 mX2_changeFactor.2.1 mX2_changeFactor.2.2.1 mX2_changeFactor.2.2.2 ∈ gw := tb_in (List.mem_of_getElem? (i := 431) (by decide +kernel)) rfl
theorem cw_X2_changeFactor {y : my} {index d2 : Nat} : Cw y mX2_changeFactor index 2 d2 := ⟨kx_X2_changeFactor, tb_in (List.mem_of_getElem? (i := 4) (by decide +kernel)) rfl, by decide +kernel, by decide⟩
theorem ki_X2_changeFactor : Cond.instanceMethod yX2_changeFactor ∈ gw := tb_in (List.mem_of_getElem? (i := 430) (by decide +kernel)) rfl
theorem ks_X2_changeFactor : Cond.selects RX2 yX2_changeFactor yX2_changeFactor ∈ gw := tb_sel (List.mem_of_getElem? (i := 24) (by decide +kernel)) rfl
abbrev mX2_changeSum : my := (yX2_changeSum, cX2_changeSum, 3, (some .int))
theorem kx_X2_changeSum : Cond.code mX2_changeSum.1 mX2_changeSum.2.1 mX2_changeSum.2.2.1 mX2_changeSum.2.2.2 ∈ gw := tb_in (List.mem_of_getElem? (i := 439) (by decide +kernel)) rfl
theorem cw_X2_changeSum {y : my} {index d2 : Nat} : Cw y mX2_changeSum index 1 d2 := ⟨kx_X2_changeSum, tb_in (List.mem_of_getElem? (i := 4) (by decide +kernel)) rfl, by decide +kernel, by decide⟩
theorem ki_X2_changeSum : Cond.instanceMethod yX2_changeSum ∈ gw := tb_in (List.mem_of_getElem? (i := 438) (by decide +kernel)) rfl
theorem ks_X2_changeSum : Cond.selects RX2 yX2_changeSum yX2_changeSum ∈ gw := tb_sel (List.mem_of_getElem? (i := 25) (by decide +kernel)) rfl
abbrev mX2_forgetExchanges : my := (yX2_forgetExchanges, cX2_forgetExchanges, 1, none)
theorem kx_X2_forgetExchanges : Cond.code mX2_forgetExchanges.1 mX2_forgetExchanges.2.1 mX2_forgetExchanges.2.2.1 mX2_forgetExchanges.2.2.2 ∈ gw := tb_in (List.mem_of_getElem? (i := 102) (by decide +kernel)) rfl
theorem cw_X2_forgetExchanges {y : my} {index d2 : Nat} : Cw y mX2_forgetExchanges index 0 d2 := ⟨kx_X2_forgetExchanges, tb_in (List.mem_of_getElem? (i := 4) (by decide +kernel)) rfl, by decide +kernel, by decide⟩
theorem ki_X2_forgetExchanges : Cond.instanceMethod yX2_forgetExchanges ∈ gw := tb_in (List.mem_of_getElem? (i := 101) (by decide +kernel)) rfl
theorem ks_X2_forgetExchanges : Cond.selects RX2 yX2_forgetExchanges yX2_forgetExchanges ∈ gw := tb_sel (List.mem_of_getElem? (i := 2) (by decide +kernel)) rfl
abbrev mX2_isRight : my := (yX2_isRight, cX2_isRight, 2, (some .boolean))
theorem kx_X2_isRight : Cond.code mX2_isRight.1 mX2_isRight.2.1 mX2_isRight.2.2.1 mX2_isRight.2.2.2 ∈ gw := tb_in (List.mem_of_getElem? (i := 463) (by decide +kernel)) rfl
theorem cw_X2_isRight {y : my} {index d2 : Nat} : Cw y mX2_isRight index 0 d2 := ⟨kx_X2_isRight, tb_in (List.mem_of_getElem? (i := 4) (by decide +kernel)) rfl, by decide +kernel, by decide⟩
theorem ki_X2_isRight : Cond.instanceMethod yX2_isRight ∈ gw := tb_in (List.mem_of_getElem? (i := 462) (by decide +kernel)) rfl
theorem ks_X2_isRight : Cond.selects RX2 yX2_isRight yX2_isRight ∈ gw := tb_sel (List.mem_of_getElem? (i := 29) (by decide +kernel)) rfl
abbrev mX2_isFull : my := (yX2_isFull, cX2_isFull, 1, (some .boolean))
theorem kx_X2_isFull : Cond.code mX2_isFull.1 mX2_isFull.2.1 mX2_isFull.2.2.1 mX2_isFull.2.2.2 ∈ gw := tb_in (List.mem_of_getElem? (i := 475) (by decide +kernel)) rfl
theorem cw_X2_isFull {y : my} {index d2 : Nat} : Cw y mX2_isFull index 0 d2 := ⟨kx_X2_isFull, tb_in (List.mem_of_getElem? (i := 4) (by decide +kernel)) rfl, by decide +kernel, by decide⟩
theorem ki_X2_isFull : Cond.instanceMethod yX2_isFull ∈ gw := tb_in (List.mem_of_getElem? (i := 474) (by decide +kernel)) rfl
theorem ks_X2_isFull : Cond.selects RX2 yX2_isFull yX2_isFull ∈ gw := tb_sel (List.mem_of_getElem? (i := 31) (by decide +kernel)) rfl
abbrev mX2_leadOf : my := (yX2_leadOf, cX2_leadOf, 2, (some .int))
theorem kx_X2_leadOf : Cond.code mX2_leadOf.1 mX2_leadOf.2.1 mX2_leadOf.2.2.1 mX2_leadOf.2.2.2 ∈ gw := tb_in (List.mem_of_getElem? (i := 447) (by decide +kernel)) rfl
theorem cw_X2_leadOf {y : my} {index d2 : Nat} : Cw y mX2_leadOf index 1 d2 := ⟨kx_X2_leadOf, tb_in (List.mem_of_getElem? (i := 4) (by decide +kernel)) rfl, by decide +kernel, by decide⟩
theorem ki_X2_leadOf : Cond.instanceMethod yX2_leadOf ∈ gw := tb_in (List.mem_of_getElem? (i := 446) (by decide +kernel)) rfl
theorem ks_X2_leadOf : Cond.selects RX2 yX2_leadOf yX2_leadOf ∈ gw := tb_sel (List.mem_of_getElem? (i := 26) (by decide +kernel)) rfl
abbrev mX2_leads : my := (yX2_leads, cX2_leads, 2, (some (.array .int)))
theorem kx_X2_leads : Cond.code mX2_leads.1 mX2_leads.2.1 mX2_leads.2.2.1 mX2_leads.2.2.2 ∈ gw := tb_in (List.mem_of_getElem? (i := 451) (by decide +kernel)) rfl
theorem cw_X2_leads {y : my} {index d2 : Nat} : Cw y mX2_leads index 0 d2 := ⟨kx_X2_leads, tb_in (List.mem_of_getElem? (i := 4) (by decide +kernel)) rfl, by decide +kernel, by decide⟩
theorem ki_X2_leads : Cond.instanceMethod yX2_leads ∈ gw := tb_in (List.mem_of_getElem? (i := 450) (by decide +kernel)) rfl
theorem ks_X2_leads : Cond.selects RX2 yX2_leads yX2_leads ∈ gw := tb_sel (List.mem_of_getElem? (i := 27) (by decide +kernel)) rfl
abbrev mX2_fillComing : my := (yX2_fillComing, cX2_fillComing, 6, none)
theorem kx_X2_fillComing : Cond.code mX2_fillComing.1 mX2_fillComing.2.1 mX2_fillComing.2.2.1 mX2_fillComing.2.2.2 ∈ gw := tb_in (List.mem_of_getElem? (i := 455) (by decide +kernel)) rfl
theorem cw_X2_fillComing {y : my} {index d2 : Nat} : Cw y mX2_fillComing index 0 d2 := ⟨kx_X2_fillComing, tb_in (List.mem_of_getElem? (i := 4) (by decide +kernel)) rfl, by decide +kernel, by decide⟩
theorem ki_X2_fillComing : Cond.instanceMethod yX2_fillComing ∈ gw := tb_in (List.mem_of_getElem? (i := 454) (by decide +kernel)) rfl
theorem ks_X2_fillComing : Cond.selects RX2 yX2_fillComing yX2_fillComing ∈ gw := tb_sel (List.mem_of_getElem? (i := 28) (by decide +kernel)) rfl
abbrev mX2_numberCycles : my := (yX2_numberCycles, cX2_numberCycles, 2, none)
theorem kx_X2_numberCycles : Cond.code mX2_numberCycles.1 mX2_numberCycles.2.1 mX2_numberCycles.2.2.1 mX2_numberCycles.2.2.2 ∈ gw := tb_in (List.mem_of_getElem? (i := 491) (by decide +kernel)) rfl
theorem cw_X2_numberCycles {y : my} {index d2 : Nat} : Cw y mX2_numberCycles index 0 d2 := ⟨kx_X2_numberCycles, tb_in (List.mem_of_getElem? (i := 4) (by decide +kernel)) rfl, by decide +kernel, by decide⟩
theorem ki_X2_numberCycles : Cond.instanceMethod yX2_numberCycles ∈ gw := tb_in (List.mem_of_getElem? (i := 490) (by decide +kernel)) rfl
theorem ks_X2_numberCycles : Cond.selects RX2 yX2_numberCycles yX2_numberCycles ∈ gw := tb_sel (List.mem_of_getElem? (i := 35) (by decide +kernel)) rfl
abbrev mX2_markCycle : my := (yX2_markCycle, cX2_markCycle, 5, none)
theorem kx_X2_markCycle : Cond.code mX2_markCycle.1 mX2_markCycle.2.1 mX2_markCycle.2.2.1 mX2_markCycle.2.2.2 ∈ gw := tb_in (List.mem_of_getElem? (i := 496) (by decide +kernel)) rfl
theorem cw_X2_markCycle {y : my} {index d2 : Nat} : Cw y mX2_markCycle index 2 d2 := ⟨kx_X2_markCycle, tb_in (List.mem_of_getElem? (i := 4) (by decide +kernel)) rfl, by decide +kernel, by decide⟩
theorem ki_X2_markCycle : Cond.instanceMethod yX2_markCycle ∈ gw := tb_in (List.mem_of_getElem? (i := 495) (by decide +kernel)) rfl
theorem ks_X2_markCycle : Cond.selects RX2 yX2_markCycle yX2_markCycle ∈ gw := tb_sel (List.mem_of_getElem? (i := 36) (by decide +kernel)) rfl
abbrev mX2_howManyCycles : my := (yX2_howManyCycles, cX2_howManyCycles, 1, (some .int))
theorem kx_X2_howManyCycles : Cond.code mX2_howManyCycles.1 mX2_howManyCycles.2.1 mX2_howManyCycles.2.2.1 mX2_howManyCycles.2.2.2 ∈ gw := tb_in (List.mem_of_getElem? (i := 487) (by decide +kernel)) rfl
theorem cw_X2_howManyCycles {y : my} {index d2 : Nat} : Cw y mX2_howManyCycles index 0 d2 := ⟨kx_X2_howManyCycles, tb_in (List.mem_of_getElem? (i := 4) (by decide +kernel)) rfl, by decide +kernel, by decide⟩
theorem ki_X2_howManyCycles : Cond.instanceMethod yX2_howManyCycles ∈ gw := tb_in (List.mem_of_getElem? (i := 486) (by decide +kernel)) rfl
theorem ks_X2_howManyCycles : Cond.selects RX2 yX2_howManyCycles yX2_howManyCycles ∈ gw := tb_sel (List.mem_of_getElem? (i := 34) (by decide +kernel)) rfl
abbrev mX2_numberOfCycle : my := (yX2_numberOfCycle, cX2_numberOfCycle, 2, (some .int))
theorem kx_X2_numberOfCycle : Cond.code mX2_numberOfCycle.1 mX2_numberOfCycle.2.1 mX2_numberOfCycle.2.2.1 mX2_numberOfCycle.2.2.2 ∈ gw := tb_in (List.mem_of_getElem? (i := 529) (by decide +kernel)) rfl
theorem cw_X2_numberOfCycle {y : my} {index d2 : Nat} : Cw y mX2_numberOfCycle index 1 d2 := ⟨kx_X2_numberOfCycle, tb_in (List.mem_of_getElem? (i := 4) (by decide +kernel)) rfl, by decide +kernel, by decide⟩
theorem ki_X2_numberOfCycle : Cond.instanceMethod yX2_numberOfCycle ∈ gw := tb_in (List.mem_of_getElem? (i := 528) (by decide +kernel)) rfl
theorem ks_X2_numberOfCycle : Cond.selects RX2 yX2_numberOfCycle yX2_numberOfCycle ∈ gw := tb_sel (List.mem_of_getElem? (i := 41) (by decide +kernel)) rfl
abbrev mX2_leastOfCycle : my := (yX2_leastOfCycle, cX2_leastOfCycle, 2, (some .int))
theorem kx_X2_leastOfCycle : Cond.code mX2_leastOfCycle.1 mX2_leastOfCycle.2.1 mX2_leastOfCycle.2.2.1 mX2_leastOfCycle.2.2.2 ∈ gw := tb_in (List.mem_of_getElem? (i := 537) (by decide +kernel)) rfl
theorem cw_X2_leastOfCycle {y : my} {index d2 : Nat} : Cw y mX2_leastOfCycle index 1 d2 := ⟨kx_X2_leastOfCycle, tb_in (List.mem_of_getElem? (i := 4) (by decide +kernel)) rfl, by decide +kernel, by decide⟩
theorem ki_X2_leastOfCycle : Cond.instanceMethod yX2_leastOfCycle ∈ gw := tb_in (List.mem_of_getElem? (i := 536) (by decide +kernel)) rfl
theorem ks_X2_leastOfCycle : Cond.selects RX2 yX2_leastOfCycle yX2_leastOfCycle ∈ gw := tb_sel (List.mem_of_getElem? (i := 42) (by decide +kernel)) rfl
abbrev mX2_wordsOfCycle : my := (yX2_wordsOfCycle, cX2_wordsOfCycle, 5, (some .int))
theorem kx_X2_wordsOfCycle : Cond.code mX2_wordsOfCycle.1 mX2_wordsOfCycle.2.1 mX2_wordsOfCycle.2.2.1 mX2_wordsOfCycle.2.2.2 ∈ gw := tb_in (List.mem_of_getElem? (i := 541) (by decide +kernel)) rfl
theorem cw_X2_wordsOfCycle {y : my} {index d2 : Nat} : Cw y mX2_wordsOfCycle index 1 d2 := ⟨kx_X2_wordsOfCycle, tb_in (List.mem_of_getElem? (i := 4) (by decide +kernel)) rfl, by decide +kernel, by decide⟩
theorem ki_X2_wordsOfCycle : Cond.instanceMethod yX2_wordsOfCycle ∈ gw := tb_in (List.mem_of_getElem? (i := 540) (by decide +kernel)) rfl
theorem ks_X2_wordsOfCycle : Cond.selects RX2 yX2_wordsOfCycle yX2_wordsOfCycle ∈ gw := tb_sel (List.mem_of_getElem? (i := 43) (by decide +kernel)) rfl
abbrev mX2_makeExchange : my := (yX2_makeExchange, cX2_makeExchange, 3, (some .int))
theorem kx_X2_makeExchange : Cond.code mX2_makeExchange.1 mX2_makeExchange.2.1 mX2_makeExchange.2.2.1 mX2_makeExchange.2.2.2 ∈ gw := tb_in (List.mem_of_getElem? (i := 479) (by decide +kernel)) rfl
theorem cw_X2_makeExchange {y : my} {index d2 : Nat} : Cw y mX2_makeExchange index 2 d2 := ⟨kx_X2_makeExchange, tb_in (List.mem_of_getElem? (i := 4) (by decide +kernel)) rfl, by decide +kernel, by decide⟩
theorem ki_X2_makeExchange : Cond.instanceMethod yX2_makeExchange ∈ gw := tb_in (List.mem_of_getElem? (i := 478) (by decide +kernel)) rfl
theorem ks_X2_makeExchange : Cond.selects RX2 yX2_makeExchange yX2_makeExchange ∈ gw := tb_sel (List.mem_of_getElem? (i := 32) (by decide +kernel)) rfl
abbrev mX2_takeBack : my := (yX2_takeBack, cX2_takeBack, 1, (some .int))
theorem kx_X2_takeBack : Cond.code mX2_takeBack.1 mX2_takeBack.2.1 mX2_takeBack.2.2.1 mX2_takeBack.2.2.2 ∈ gw := tb_in (List.mem_of_getElem? (i := 516) (by decide +kernel)) rfl
theorem cw_X2_takeBack {y : my} {index d2 : Nat} : Cw y mX2_takeBack index 0 d2 := ⟨kx_X2_takeBack, tb_in (List.mem_of_getElem? (i := 4) (by decide +kernel)) rfl, by decide +kernel, by decide⟩
theorem ki_X2_takeBack : Cond.instanceMethod yX2_takeBack ∈ gw := tb_in (List.mem_of_getElem? (i := 515) (by decide +kernel)) rfl
theorem ks_X2_takeBack : Cond.selects RX2 yX2_takeBack yX2_takeBack ∈ gw := tb_sel (List.mem_of_getElem? (i := 40) (by decide +kernel)) rfl
abbrev mX2_noteExchange : my := (yX2_noteExchange, cX2_noteExchange, 3, none)
theorem kx_X2_noteExchange : Cond.code mX2_noteExchange.1 mX2_noteExchange.2.1 mX2_noteExchange.2.2.1 mX2_noteExchange.2.2.2 ∈ gw := tb_in (List.mem_of_getElem? (i := 508) (by decide +kernel)) rfl
theorem cw_X2_noteExchange {y : my} {index d2 : Nat} : Cw y mX2_noteExchange index 2 d2 := ⟨kx_X2_noteExchange, tb_in (List.mem_of_getElem? (i := 4) (by decide +kernel)) rfl, by decide +kernel, by decide⟩
theorem ki_X2_noteExchange : Cond.instanceMethod yX2_noteExchange ∈ gw := tb_in (List.mem_of_getElem? (i := 507) (by decide +kernel)) rfl
theorem ks_X2_noteExchange : Cond.selects RX2 yX2_noteExchange yX2_noteExchange ∈ gw := tb_sel (List.mem_of_getElem? (i := 39) (by decide +kernel)) rfl
abbrev mX2_swapLeads : my := (yX2_swapLeads, cX2_swapLeads, 4, none)
theorem kx_X2_swapLeads : Cond.code mX2_swapLeads.1 mX2_swapLeads.2.1 mX2_swapLeads.2.2.1 mX2_swapLeads.2.2.2 ∈ gw := tb_in (List.mem_of_getElem? (i := 504) (by decide +kernel)) rfl
theorem cw_X2_swapLeads {y : my} {index d2 : Nat} : Cw y mX2_swapLeads index 2 d2 := ⟨kx_X2_swapLeads, tb_in (List.mem_of_getElem? (i := 4) (by decide +kernel)) rfl, by decide +kernel, by decide⟩
theorem ki_X2_swapLeads : Cond.instanceMethod yX2_swapLeads ∈ gw := tb_in (List.mem_of_getElem? (i := 503) (by decide +kernel)) rfl
theorem ks_X2_swapLeads : Cond.selects RX2 yX2_swapLeads yX2_swapLeads ∈ gw := tb_sel (List.mem_of_getElem? (i := 38) (by decide +kernel)) rfl
abbrev mX2_countBehindExchange : my := (yX2_countBehindExchange, cX2_countBehindExchange, 4, (some .int))
theorem kx_X2_countBehindExchange : Cond.code mX2_countBehindExchange.1 mX2_countBehindExchange.2.1 mX2_countBehindExchange.2.2.1 mX2_countBehindExchange.2.2.2 ∈ gw := tb_in (List.mem_of_getElem? (i := 483) (by decide +kernel)) rfl
theorem cw_X2_countBehindExchange {y : my} {index d2 : Nat} : Cw y mX2_countBehindExchange index 2 d2 := ⟨kx_X2_countBehindExchange, tb_in (List.mem_of_getElem? (i := 4) (by decide +kernel)) rfl, by decide +kernel, by decide⟩
theorem ki_X2_countBehindExchange : Cond.instanceMethod yX2_countBehindExchange ∈ gw := tb_in (List.mem_of_getElem? (i := 482) (by decide +kernel)) rfl
theorem ks_X2_countBehindExchange : Cond.selects RX2 yX2_countBehindExchange yX2_countBehindExchange ∈ gw := tb_sel (List.mem_of_getElem? (i := 33) (by decide +kernel)) rfl
abbrev mX2_inOneCycle : my := (yX2_inOneCycle, cX2_inOneCycle, 5, (some .boolean))
theorem kx_X2_inOneCycle : Cond.code mX2_inOneCycle.1 mX2_inOneCycle.2.1 mX2_inOneCycle.2.2.1 mX2_inOneCycle.2.2.2 ∈ gw := tb_in (List.mem_of_getElem? (i := 500) (by decide +kernel)) rfl
theorem cw_X2_inOneCycle {y : my} {index d2 : Nat} : Cw y mX2_inOneCycle index 2 d2 := ⟨kx_X2_inOneCycle, tb_in (List.mem_of_getElem? (i := 4) (by decide +kernel)) rfl, by decide +kernel, by decide⟩
theorem ki_X2_inOneCycle : Cond.instanceMethod yX2_inOneCycle ∈ gw := tb_in (List.mem_of_getElem? (i := 499) (by decide +kernel)) rfl
theorem ks_X2_inOneCycle : Cond.selects RX2 yX2_inOneCycle yX2_inOneCycle ∈ gw := tb_sel (List.mem_of_getElem? (i := 37) (by decide +kernel)) rfl
abbrev mX2_joinCycles : my := (yX2_joinCycles, cX2_joinCycles, 4, (some .int))
theorem kx_X2_joinCycles : Cond.code mX2_joinCycles.1 mX2_joinCycles.2.1 mX2_joinCycles.2.2.1 mX2_joinCycles.2.2.2 ∈ gw := tb_in (List.mem_of_getElem? (i := 549) (by decide +kernel)) rfl
theorem cw_X2_joinCycles {y : my} {index d2 : Nat} : Cw y mX2_joinCycles index 0 d2 := ⟨kx_X2_joinCycles, tb_in (List.mem_of_getElem? (i := 4) (by decide +kernel)) rfl, by decide +kernel, by decide⟩
theorem ki_X2_joinCycles : Cond.instanceMethod yX2_joinCycles ∈ gw := tb_in (List.mem_of_getElem? (i := 548) (by decide +kernel)) rfl
theorem ks_X2_joinCycles : Cond.selects RX2 yX2_joinCycles yX2_joinCycles ∈ gw := tb_sel (List.mem_of_getElem? (i := 44) (by decide +kernel)) rfl
abbrev mX2_joinAt : my := (yX2_joinAt, cX2_joinAt, 6, (some .boolean))
theorem kx_X2_joinAt : Cond.code mX2_joinAt.1 mX2_joinAt.2.1 mX2_joinAt.2.2.1 mX2_joinAt.2.2.2 ∈ gw := tb_in (List.mem_of_getElem? (i := 553) (by decide +kernel)) rfl
theorem cw_X2_joinAt {y : my} {index d2 : Nat} : Cw y mX2_joinAt index 2 d2 := ⟨kx_X2_joinAt, tb_in (List.mem_of_getElem? (i := 4) (by decide +kernel)) rfl, by decide +kernel, by decide⟩
theorem ki_X2_joinAt : Cond.instanceMethod yX2_joinAt ∈ gw := tb_in (List.mem_of_getElem? (i := 552) (by decide +kernel)) rfl
theorem ks_X2_joinAt : Cond.selects RX2 yX2_joinAt yX2_joinAt ∈ gw := tb_sel (List.mem_of_getElem? (i := 45) (by decide +kernel)) rfl
abbrev mX3_init : my := (yX3_init, cX3_init, 2, none)
theorem kx_X3_init : Cond.code mX3_init.1 mX3_init.2.1 mX3_init.2.2.1 mX3_init.2.2.2 ∈ gw := tb_in (List.mem_of_getElem? (i := 71) (by decide +kernel)) rfl
theorem cw_X3_init {y : my} {index d2 : Nat} : Cw y mX3_init index 1 d2 := ⟨kx_X3_init, tb_in (List.mem_of_getElem? (i := 3) (by decide +kernel)) rfl, by decide +kernel, by decide⟩
theorem ki_X3_init : Cond.instanceMethod yX3_init ∈ gw := tb_in (List.mem_of_getElem? (i := 70) (by decide +kernel)) rfl
abbrev mX3_ringsUpTo : my := (yX3_ringsUpTo, cX3_ringsUpTo, 4, (some .int))
theorem kx_X3_ringsUpTo : Cond.code mX3_ringsUpTo.1 mX3_ringsUpTo.2.1 mX3_ringsUpTo.2.2.1 mX3_ringsUpTo.2.2.2 ∈ gw := tb_in (List.mem_of_getElem? (i := 347) (by decide +kernel)) rfl
theorem cw_X3_ringsUpTo {y : my} {index d2 : Nat} : Cw y mX3_ringsUpTo index 1 d2 := ⟨kx_X3_ringsUpTo, tb_in (List.mem_of_getElem? (i := 3) (by decide +kernel)) rfl, by decide +kernel, by decide⟩
theorem ki_X3_ringsUpTo : Cond.instanceMethod yX3_ringsUpTo ∈ gw := tb_in (List.mem_of_getElem? (i := 346) (by decide +kernel)) rfl
theorem ks_X3_ringsUpTo : Cond.selects RX3 yX3_ringsUpTo yX3_ringsUpTo ∈ gw := tb_sel (List.mem_of_getElem? (i := 11) (by decide +kernel)) rfl
abbrev mX3_greatestRepeated : my := (yX3_greatestRepeated, cX3_greatestRepeated, 6, (some .int))
theorem kx_X3_greatestRepeated : Cond.code mX3_greatestRepeated.1 mX3_greatestRepeated.2.1 mX3_greatestRepeated.2.2.1 mX3_greatestRepeated.2.2.2 ∈ gw := tb_in (List.mem_of_getElem? (i := 353) (by decide +kernel)) rfl
theorem cw_X3_greatestRepeated {y : my} {index d2 : Nat} : Cw y mX3_greatestRepeated index 2 d2 := ⟨kx_X3_greatestRepeated, tb_in (List.mem_of_getElem? (i := 3) (by decide +kernel)) rfl, by decide +kernel, by decide⟩
theorem ki_X3_greatestRepeated : Cond.instanceMethod yX3_greatestRepeated ∈ gw := tb_in (List.mem_of_getElem? (i := 352) (by decide +kernel)) rfl
theorem ks_X3_greatestRepeated : Cond.selects RX3 yX3_greatestRepeated yX3_greatestRepeated ∈ gw := tb_sel (List.mem_of_getElem? (i := 12) (by decide +kernel)) rfl
abbrev mX3_leastOfRing : my := (yX3_leastOfRing, cX3_leastOfRing, 6, (some .int))
theorem kx_X3_leastOfRing : Cond.code mX3_leastOfRing.1 mX3_leastOfRing.2.1 mX3_leastOfRing.2.2.1 mX3_leastOfRing.2.2.2 ∈ gw := tb_in (List.mem_of_getElem? (i := 392) (by decide +kernel)) rfl
theorem cw_X3_leastOfRing {y : my} {index d2 : Nat} : Cw y mX3_leastOfRing index 1 d2 := ⟨kx_X3_leastOfRing, tb_in (List.mem_of_getElem? (i := 3) (by decide +kernel)) rfl, by decide +kernel, by decide⟩
theorem ki_X3_leastOfRing : Cond.instanceMethod yX3_leastOfRing ∈ gw := tb_in (List.mem_of_getElem? (i := 391) (by decide +kernel)) rfl
theorem ks_X3_leastOfRing : Cond.selects RX3 yX3_leastOfRing yX3_leastOfRing ∈ gw := tb_sel (List.mem_of_getElem? (i := 18) (by decide +kernel)) rfl
abbrev mX3_wordsUpTo : my := (yX3_wordsUpTo, cX3_wordsUpTo, 5, (some .int))
theorem kx_X3_wordsUpTo : Cond.code mX3_wordsUpTo.1 mX3_wordsUpTo.2.1 mX3_wordsUpTo.2.2.1 mX3_wordsUpTo.2.2.2 ∈ gw := tb_in (List.mem_of_getElem? (i := 357) (by decide +kernel)) rfl
theorem cw_X3_wordsUpTo {y : my} {index d2 : Nat} : Cw y mX3_wordsUpTo index 2 d2 := ⟨kx_X3_wordsUpTo, tb_in (List.mem_of_getElem? (i := 3) (by decide +kernel)) rfl, by decide +kernel, by decide⟩
theorem ki_X3_wordsUpTo : Cond.instanceMethod yX3_wordsUpTo ∈ gw := tb_in (List.mem_of_getElem? (i := 356) (by decide +kernel)) rfl
theorem ks_X3_wordsUpTo : Cond.selects RX3 yX3_wordsUpTo yX3_wordsUpTo ∈ gw := tb_sel (List.mem_of_getElem? (i := 13) (by decide +kernel)) rfl
abbrev mX3_lowerToBeginning : my := (yX3_lowerToBeginning, cX3_lowerToBeginning, 5, none)
theorem kx_X3_lowerToBeginning : Cond.code mX3_lowerToBeginning.1 mX3_lowerToBeginning.2.1 mX3_lowerToBeginning.2.2.1 mX3_lowerToBeginning.2.2.2 ∈ gw := tb_in (List.mem_of_getElem? (i := 361) (by decide +kernel)) rfl
theorem cw_X3_lowerToBeginning {y : my} {index d2 : Nat} : Cw y mX3_lowerToBeginning index 1 d2 := ⟨kx_X3_lowerToBeginning, tb_in (List.mem_of_getElem? (i := 3) (by decide +kernel)) rfl, by decide +kernel, by decide⟩
theorem ki_X3_lowerToBeginning : Cond.instanceMethod yX3_lowerToBeginning ∈ gw := tb_in (List.mem_of_getElem? (i := 360) (by decide +kernel)) rfl
theorem ks_X3_lowerToBeginning : Cond.selects RX3 yX3_lowerToBeginning yX3_lowerToBeginning ∈ gw := tb_sel (List.mem_of_getElem? (i := 14) (by decide +kernel)) rfl
abbrev mX3_firstFault : my := (yX3_firstFault, cX3_firstFault, 4, (some .int))
theorem kx_X3_firstFault : Cond.code mX3_firstFault.1 mX3_firstFault.2.1 mX3_firstFault.2.2.1 mX3_firstFault.2.2.2 ∈ gw := tb_in (List.mem_of_getElem? (i := 365) (by decide +kernel)) rfl
theorem cw_X3_firstFault {y : my} {index d2 : Nat} : Cw y mX3_firstFault index 1 d2 := ⟨kx_X3_firstFault, tb_in (List.mem_of_getElem? (i := 3) (by decide +kernel)) rfl, by decide +kernel, by decide⟩
theorem ki_X3_firstFault : Cond.instanceMethod yX3_firstFault ∈ gw := tb_in (List.mem_of_getElem? (i := 364) (by decide +kernel)) rfl
theorem ks_X3_firstFault : Cond.selects RX3 yX3_firstFault yX3_firstFault ∈ gw := tb_sel (List.mem_of_getElem? (i := 15) (by decide +kernel)) rfl
abbrev mX3_wordsAboveRow : my := (yX3_wordsAboveRow, cX3_wordsAboveRow, 5, (some .int))
theorem kx_X3_wordsAboveRow : Cond.code mX3_wordsAboveRow.1 mX3_wordsAboveRow.2.1 mX3_wordsAboveRow.2.2.1 mX3_wordsAboveRow.2.2.2 ∈ gw := tb_in (List.mem_of_getElem? (i := 375) (by decide +kernel)) rfl
theorem cw_X3_wordsAboveRow {y : my} {index d2 : Nat} : Cw y mX3_wordsAboveRow index 1 d2 := ⟨kx_X3_wordsAboveRow, tb_in (List.mem_of_getElem? (i := 3) (by decide +kernel)) rfl, by decide +kernel, by decide⟩
theorem ki_X3_wordsAboveRow : Cond.instanceMethod yX3_wordsAboveRow ∈ gw := tb_in (List.mem_of_getElem? (i := 374) (by decide +kernel)) rfl
theorem ks_X3_wordsAboveRow : Cond.selects RX3 yX3_wordsAboveRow yX3_wordsAboveRow ∈ gw := tb_sel (List.mem_of_getElem? (i := 16) (by decide +kernel)) rfl
abbrev mX3_greaterThan : my := (yX3_greaterThan, cX3_greaterThan, 2, (some .int))
theorem kx_X3_greaterThan : Cond.code mX3_greaterThan.1 mX3_greaterThan.2.1 mX3_greaterThan.2.2.1 mX3_greaterThan.2.2.2 ∈ gw := tb_in (List.mem_of_getElem? (i := 379) (by decide +kernel)) rfl
theorem cw_X3_greaterThan {y : my} {index d2 : Nat} : Cw y mX3_greaterThan index 1 d2 := ⟨kx_X3_greaterThan, tb_in (List.mem_of_getElem? (i := 3) (by decide +kernel)) rfl, by decide +kernel, by decide⟩
theorem ki_X3_greaterThan : Cond.instanceMethod yX3_greaterThan ∈ gw := tb_in (List.mem_of_getElem? (i := 378) (by decide +kernel)) rfl
theorem ks_X3_greaterThan : Cond.selects RX3 yX3_greaterThan yX3_greaterThan ∈ gw := tb_sel (List.mem_of_getElem? (i := 17) (by decide +kernel)) rfl
abbrev mX3_takeAmounts : my := (yX3_takeAmounts, cX3_takeAmounts, 9, (some .boolean))
theorem kx_X3_takeAmounts : Cond.code mX3_takeAmounts.1 mX3_takeAmounts.2.1 mX3_takeAmounts.2.2.1 mX3_takeAmounts.2.2.2 ∈ gw := tb_in (List.mem_of_getElem? (i := 406) (by decide +kernel)) rfl
theorem cw_X3_takeAmounts {y : my} {index d2 : Nat} : Cw y mX3_takeAmounts index 5 d2 := ⟨kx_X3_takeAmounts, tb_in (List.mem_of_getElem? (i := 3) (by decide +kernel)) rfl, by decide +kernel, by decide⟩
theorem ki_X3_takeAmounts : Cond.instanceMethod yX3_takeAmounts ∈ gw := tb_in (List.mem_of_getElem? (i := 405) (by decide +kernel)) rfl
theorem ks_X3_takeAmounts : Cond.selects RX3 yX3_takeAmounts yX3_takeAmounts ∈ gw := tb_sel (List.mem_of_getElem? (i := 19) (by decide +kernel)) rfl
abbrev mX3_ringsOfAmounts : my := (yX3_ringsOfAmounts, cX3_ringsOfAmounts, 4, (some .int))
theorem kx_X3_ringsOfAmounts : Cond.code mX3_ringsOfAmounts.1 mX3_ringsOfAmounts.2.1 mX3_ringsOfAmounts.2.2.1 mX3_ringsOfAmounts.2.2.2 ∈ gw := tb_in (List.mem_of_getElem? (i := 414) (by decide +kernel)) rfl
theorem cw_X3_ringsOfAmounts {y : my} {index d2 : Nat} : Cw y mX3_ringsOfAmounts index 0 d2 := ⟨kx_X3_ringsOfAmounts, tb_in (List.mem_of_getElem? (i := 3) (by decide +kernel)) rfl, by decide +kernel, by decide⟩
theorem ki_X3_ringsOfAmounts : Cond.instanceMethod yX3_ringsOfAmounts ∈ gw := tb_in (List.mem_of_getElem? (i := 413) (by decide +kernel)) rfl
theorem ks_X3_ringsOfAmounts : Cond.selects RX3 yX3_ringsOfAmounts yX3_ringsOfAmounts ∈ gw := tb_sel (List.mem_of_getElem? (i := 21) (by decide +kernel)) rfl
abbrev mX3_allDivisible : my := (yX3_allDivisible, cX3_allDivisible, 3, (some .boolean))
theorem kx_X3_allDivisible : Cond.code mX3_allDivisible.1 mX3_allDivisible.2.1 mX3_allDivisible.2.2.1 mX3_allDivisible.2.2.2 ∈ gw := tb_in (List.mem_of_getElem? (i := 418) (by decide +kernel)) rfl
theorem cw_X3_allDivisible {y : my} {index d2 : Nat} : Cw y mX3_allDivisible index 1 d2 := ⟨kx_X3_allDivisible, tb_in (List.mem_of_getElem? (i := 3) (by decide +kernel)) rfl, by decide +kernel, by decide⟩
theorem ki_X3_allDivisible : Cond.instanceMethod yX3_allDivisible ∈ gw := tb_in (List.mem_of_getElem? (i := 417) (by decide +kernel)) rfl
theorem ks_X3_allDivisible : Cond.selects RX3 yX3_allDivisible yX3_allDivisible ∈ gw := tb_sel (List.mem_of_getElem? (i := 22) (by decide +kernel)) rfl
abbrev mX3_arrangements : my := (yX3_arrangements, cX3_arrangements, 7, (some .long))
theorem kx_X3_arrangements : Cond.code mX3_arrangements.1 mX3_arrangements.2.1 mX3_arrangements.2.2.1 mX3_arrangements.2.2.2 ∈ gw := tb_in (List.mem_of_getElem? (i := 422) (by decide +kernel)) rfl
theorem cw_X3_arrangements {y : my} {index d2 : Nat} : Cw y mX3_arrangements index 1 d2 := ⟨kx_X3_arrangements, tb_in (List.mem_of_getElem? (i := 3) (by decide +kernel)) rfl, by decide +kernel, by decide⟩
theorem ki_X3_arrangements : Cond.instanceMethod yX3_arrangements ∈ gw := tb_in (List.mem_of_getElem? (i := 421) (by decide +kernel)) rfl
theorem ks_X3_arrangements : Cond.selects RX3 yX3_arrangements yX3_arrangements ∈ gw := tb_sel (List.mem_of_getElem? (i := 23) (by decide +kernel)) rfl
abbrev mX4_init : my := (yX4_init, cX4_init, 2, none)
theorem kx_X4_init : Cond.code mX4_init.1 mX4_init.2.1 mX4_init.2.2.1 mX4_init.2.2.2 ∈ gw := tb_in (List.mem_of_getElem? (i := 151) (by decide +kernel)) rfl
theorem cw_X4_init {y : my} {index d2 : Nat} : Cw y mX4_init index 1 d2 := ⟨kx_X4_init, tb_in (List.mem_of_getElem? (i := 6) (by decide +kernel)) rfl, by decide +kernel, by decide⟩
theorem ki_X4_init : Cond.instanceMethod yX4_init ∈ gw := tb_in (List.mem_of_getElem? (i := 150) (by decide +kernel)) rfl
abbrev mX4_drop : my := (yX4_drop, cX4_drop, 1, none)
theorem kx_X4_drop : Cond.code mX4_drop.1 mX4_drop.2.1 mX4_drop.2.2.1 mX4_drop.2.2.2 ∈ gw := tb_in (List.mem_of_getElem? (i := 288) (by decide +kernel)) rfl
theorem cw_X4_drop {y : my} {index d2 : Nat} : Cw y mX4_drop index 0 d2 := ⟨kx_X4_drop, tb_in (List.mem_of_getElem? (i := 6) (by decide +kernel)) rfl, by decide +kernel, by decide⟩
theorem ki_X4_drop : Cond.instanceMethod yX4_drop ∈ gw := tb_in (List.mem_of_getElem? (i := 287) (by decide +kernel)) rfl
theorem ks_X4_drop : Cond.selects RX4 yX4_drop yX4_drop ∈ gw := tb_sel (List.mem_of_getElem? (i := 3) (by decide +kernel)) rfl
abbrev mX4_isThere : my := (yX4_isThere, cX4_isThere, 1, (some .boolean))
theorem kx_X4_isThere : Cond.code mX4_isThere.1 mX4_isThere.2.1 mX4_isThere.2.2.1 mX4_isThere.2.2.2 ∈ gw := tb_in (List.mem_of_getElem? (i := 599) (by decide +kernel)) rfl
theorem cw_X4_isThere {y : my} {index d2 : Nat} : Cw y mX4_isThere index 0 d2 := ⟨kx_X4_isThere, tb_in (List.mem_of_getElem? (i := 6) (by decide +kernel)) rfl, by decide +kernel, by decide⟩
theorem ki_X4_isThere : Cond.instanceMethod yX4_isThere ∈ gw := tb_in (List.mem_of_getElem? (i := 598) (by decide +kernel)) rfl
theorem ks_X4_isThere : Cond.selects RX4 yX4_isThere yX4_isThere ∈ gw := tb_sel (List.mem_of_getElem? (i := 53) (by decide +kernel)) rfl
abbrev mX4_isPlace : my := (yX4_isPlace, cX4_isPlace, 2, (some .boolean))
theorem kx_X4_isPlace : Cond.code mX4_isPlace.1 mX4_isPlace.2.1 mX4_isPlace.2.2.1 mX4_isPlace.2.2.2 ∈ gw := tb_in (List.mem_of_getElem? (i := 595) (by decide +kernel)) rfl
theorem cw_X4_isPlace {y : my} {index d2 : Nat} : Cw y mX4_isPlace index 1 d2 := ⟨kx_X4_isPlace, tb_in (List.mem_of_getElem? (i := 6) (by decide +kernel)) rfl, by decide +kernel, by decide⟩
theorem ki_X4_isPlace : Cond.instanceMethod yX4_isPlace ∈ gw := tb_in (List.mem_of_getElem? (i := 594) (by decide +kernel)) rfl
theorem ks_X4_isPlace : Cond.selects RX4 yX4_isPlace yX4_isPlace ∈ gw := tb_sel (List.mem_of_getElem? (i := 52) (by decide +kernel)) rfl
abbrev mX4_becomeLeast : my := (yX4_becomeLeast, cX4_becomeLeast, 5, none)
theorem kx_X4_becomeLeast : Cond.code mX4_becomeLeast.1 mX4_becomeLeast.2.1 mX4_becomeLeast.2.2.1 mX4_becomeLeast.2.2.2 ∈ gw := tb_in (List.mem_of_getElem? (i := 561) (by decide +kernel)) rfl
theorem cw_X4_becomeLeast {y : my} {index d2 : Nat} : Cw y mX4_becomeLeast index 0 d2 := ⟨kx_X4_becomeLeast, tb_in (List.mem_of_getElem? (i := 6) (by decide +kernel)) rfl, by decide +kernel, by decide⟩
theorem ki_X4_becomeLeast : Cond.instanceMethod yX4_becomeLeast ∈ gw := tb_in (List.mem_of_getElem? (i := 560) (by decide +kernel)) rfl
theorem ks_X4_becomeLeast : Cond.selects RX4 yX4_becomeLeast yX4_becomeLeast ∈ gw := tb_sel (List.mem_of_getElem? (i := 46) (by decide +kernel)) rfl
abbrev mX4_nextRow : my := (yX4_nextRow, cX4_nextRow, 3, (some .int))
theorem kx_X4_nextRow : Cond.code mX4_nextRow.1 mX4_nextRow.2.1 mX4_nextRow.2.2.1 mX4_nextRow.2.2.2 ∈ gw := tb_in (List.mem_of_getElem? (i := 566) (by decide +kernel)) rfl
theorem cw_X4_nextRow {y : my} {index d2 : Nat} : Cw y mX4_nextRow index 1 d2 := ⟨kx_X4_nextRow, tb_in (List.mem_of_getElem? (i := 6) (by decide +kernel)) rfl, by decide +kernel, by decide⟩
theorem ki_X4_nextRow : Cond.instanceMethod yX4_nextRow ∈ gw := tb_in (List.mem_of_getElem? (i := 565) (by decide +kernel)) rfl
theorem ks_X4_nextRow : Cond.selects RX4 yX4_nextRow yX4_nextRow ∈ gw := tb_sel (List.mem_of_getElem? (i := 47) (by decide +kernel)) rfl
abbrev mX4_findPlaces : my := (yX4_findPlaces, cX4_findPlaces, 4, none)
theorem kx_X4_findPlaces : Cond.code mX4_findPlaces.1 mX4_findPlaces.2.1 mX4_findPlaces.2.2.1 mX4_findPlaces.2.2.2 ∈ gw := tb_in (List.mem_of_getElem? (i := 570) (by decide +kernel)) rfl
theorem cw_X4_findPlaces {y : my} {index d2 : Nat} : Cw y mX4_findPlaces index 0 d2 := ⟨kx_X4_findPlaces, tb_in (List.mem_of_getElem? (i := 6) (by decide +kernel)) rfl, by decide +kernel, by decide⟩
theorem ki_X4_findPlaces : Cond.instanceMethod yX4_findPlaces ∈ gw := tb_in (List.mem_of_getElem? (i := 569) (by decide +kernel)) rfl
theorem ks_X4_findPlaces : Cond.selects RX4 yX4_findPlaces yX4_findPlaces ∈ gw := tb_sel (List.mem_of_getElem? (i := 48) (by decide +kernel)) rfl
abbrev mX4_becomeGreedy : my := (yX4_becomeGreedy, cX4_becomeGreedy, 4, none)
theorem kx_X4_becomeGreedy : Cond.code mX4_becomeGreedy.1 mX4_becomeGreedy.2.1 mX4_becomeGreedy.2.2.1 mX4_becomeGreedy.2.2.2 ∈ gw := tb_in (List.mem_of_getElem? (i := 574) (by decide +kernel)) rfl
theorem cw_X4_becomeGreedy {y : my} {index d2 : Nat} : Cw y mX4_becomeGreedy index 0 d2 := ⟨kx_X4_becomeGreedy, tb_in (List.mem_of_getElem? (i := 6) (by decide +kernel)) rfl, by decide +kernel, by decide⟩
theorem ki_X4_becomeGreedy : Cond.instanceMethod yX4_becomeGreedy ∈ gw := tb_in (List.mem_of_getElem? (i := 573) (by decide +kernel)) rfl
theorem ks_X4_becomeGreedy : Cond.selects RX4 yX4_becomeGreedy yX4_becomeGreedy ∈ gw := tb_sel (List.mem_of_getElem? (i := 49) (by decide +kernel)) rfl
abbrev mX4_greatestNew : my := (yX4_greatestNew, cX4_greatestNew, 3, (some .int))
theorem kx_X4_greatestNew : Cond.code mX4_greatestNew.1 mX4_greatestNew.2.1 mX4_greatestNew.2.2.1 mX4_greatestNew.2.2.2 ∈ gw := tb_in (List.mem_of_getElem? (i := 582) (by decide +kernel)) rfl
theorem cw_X4_greatestNew {y : my} {index d2 : Nat} : Cw y mX4_greatestNew index 1 d2 := ⟨kx_X4_greatestNew, tb_in (List.mem_of_getElem? (i := 6) (by decide +kernel)) rfl, by decide +kernel, by decide⟩
theorem ki_X4_greatestNew : Cond.instanceMethod yX4_greatestNew ∈ gw := tb_in (List.mem_of_getElem? (i := 581) (by decide +kernel)) rfl
theorem ks_X4_greatestNew : Cond.selects RX4 yX4_greatestNew yX4_greatestNew ∈ gw := tb_sel (List.mem_of_getElem? (i := 50) (by decide +kernel)) rfl
abbrev mX4_becomeCycle : my := (yX4_becomeCycle, cX4_becomeCycle, 4, none)
theorem kx_X4_becomeCycle : Cond.code mX4_becomeCycle.1 mX4_becomeCycle.2.1 mX4_becomeCycle.2.2.1 mX4_becomeCycle.2.2.2 ∈ gw := tb_in (List.mem_of_getElem? (i := 587) (by decide +kernel)) rfl
theorem cw_X4_becomeCycle {y : my} {index d2 : Nat} : Cw y mX4_becomeCycle index 1 d2 := ⟨kx_X4_becomeCycle, tb_in (List.mem_of_getElem? (i := 6) (by decide +kernel)) rfl, by decide +kernel, by decide⟩
theorem ki_X4_becomeCycle : Cond.instanceMethod yX4_becomeCycle ∈ gw := tb_in (List.mem_of_getElem? (i := 586) (by decide +kernel)) rfl
theorem ks_X4_becomeCycle : Cond.selects RX4 yX4_becomeCycle yX4_becomeCycle ∈ gw := tb_sel (List.mem_of_getElem? (i := 51) (by decide +kernel)) rfl
abbrev mX4_writeLetters : my := (yX4_writeLetters, cX4_writeLetters, 7, none)
theorem kx_X4_writeLetters : Cond.code mX4_writeLetters.1 mX4_writeLetters.2.1 mX4_writeLetters.2.2.1 mX4_writeLetters.2.2.2 ∈ gw := tb_in (List.mem_of_getElem? (i := 675) (by decide +kernel)) rfl
theorem cw_X4_writeLetters {y : my} {index d2 : Nat} : Cw y mX4_writeLetters index 4 d2 := ⟨kx_X4_writeLetters, tb_in (List.mem_of_getElem? (i := 6) (by decide +kernel)) rfl, by decide +kernel, by decide⟩
theorem ki_X4_writeLetters : Cond.instanceMethod yX4_writeLetters ∈ gw := tb_in (List.mem_of_getElem? (i := 674) (by decide +kernel)) rfl
theorem ks_X4_writeLetters : Cond.selects RX4 yX4_writeLetters yX4_writeLetters ∈ gw := tb_sel (List.mem_of_getElem? (i := 60) (by decide +kernel)) rfl
abbrev mX4_countMatches : my := (yX4_countMatches, cX4_countMatches, 14, (some .int))
theorem kx_X4_countMatches : Cond.code mX4_countMatches.1 mX4_countMatches.2.1 mX4_countMatches.2.2.1 mX4_countMatches.2.2.2 ∈ gw := tb_in (List.mem_of_getElem? (i := 683) (by decide +kernel)) rfl
theorem cw_X4_countMatches {y : my} {index d2 : Nat} : Cw y mX4_countMatches index 4 d2 := ⟨kx_X4_countMatches, tb_in (List.mem_of_getElem? (i := 6) (by decide +kernel)) rfl, by decide +kernel, by decide⟩
theorem ki_X4_countMatches : Cond.instanceMethod yX4_countMatches ∈ gw := tb_in (List.mem_of_getElem? (i := 682) (by decide +kernel)) rfl
theorem ks_X4_countMatches : Cond.selects RX4 yX4_countMatches yX4_countMatches ∈ gw := tb_sel (List.mem_of_getElem? (i := 61) (by decide +kernel)) rfl
abbrev mX4_noteSlips : my := (yX4_noteSlips, cX4_noteSlips, 7, none)
theorem kx_X4_noteSlips : Cond.code mX4_noteSlips.1 mX4_noteSlips.2.1 mX4_noteSlips.2.2.1 mX4_noteSlips.2.2.2 ∈ gw := tb_in (List.mem_of_getElem? (i := 687) (by decide +kernel)) rfl
theorem cw_X4_noteSlips {y : my} {index d2 : Nat} : Cw y mX4_noteSlips index 3 d2 := ⟨kx_X4_noteSlips, tb_in (List.mem_of_getElem? (i := 6) (by decide +kernel)) rfl, by decide +kernel, by decide⟩
theorem ki_X4_noteSlips : Cond.instanceMethod yX4_noteSlips ∈ gw := tb_in (List.mem_of_getElem? (i := 686) (by decide +kernel)) rfl
theorem ks_X4_noteSlips : Cond.selects RX4 yX4_noteSlips yX4_noteSlips ∈ gw := tb_sel (List.mem_of_getElem? (i := 62) (by decide +kernel)) rfl
abbrev mX4_noteFirstPlaces : my := (yX4_noteFirstPlaces, cX4_noteFirstPlaces, 4, (some .int))
theorem kx_X4_noteFirstPlaces : Cond.code mX4_noteFirstPlaces.1 mX4_noteFirstPlaces.2.1 mX4_noteFirstPlaces.2.2.1 mX4_noteFirstPlaces.2.2.2 ∈ gw := tb_in (List.mem_of_getElem? (i := 695) (by decide +kernel)) rfl
theorem cw_X4_noteFirstPlaces {y : my} {index d2 : Nat} : Cw y mX4_noteFirstPlaces index 1 d2 := ⟨kx_X4_noteFirstPlaces, tb_in (List.mem_of_getElem? (i := 6) (by decide +kernel)) rfl, by decide +kernel, by decide⟩
theorem ki_X4_noteFirstPlaces : Cond.instanceMethod yX4_noteFirstPlaces ∈ gw := tb_in (List.mem_of_getElem? (i := 694) (by decide +kernel)) rfl
theorem ks_X4_noteFirstPlaces : Cond.selects RX4 yX4_noteFirstPlaces yX4_noteFirstPlaces ∈ gw := tb_sel (List.mem_of_getElem? (i := 63) (by decide +kernel)) rfl
abbrev mX5_init : my := (yX5_init, cX5_init, 2, none)
theorem kx_X5_init : Cond.code mX5_init.1 mX5_init.2.1 mX5_init.2.2.1 mX5_init.2.2.2 ∈ gw := tb_in (List.mem_of_getElem? (i := 189) (by decide +kernel)) rfl
theorem cw_X5_init {y : my} {index d2 : Nat} : Cw y mX5_init index 1 d2 := ⟨kx_X5_init, tb_in (List.mem_of_getElem? (i := 7) (by decide +kernel)) rfl, by decide +kernel, by decide⟩
theorem ki_X5_init : Cond.instanceMethod yX5_init ∈ gw := tb_in (List.mem_of_getElem? (i := 188) (by decide +kernel)) rfl
abbrev mX5_isLost : my := (yX5_isLost, cX5_isLost, 1, (some .boolean))
theorem kx_X5_isLost : Cond.code mX5_isLost.1 mX5_isLost.2.1 mX5_isLost.2.2.1 mX5_isLost.2.2.2 ∈ gw := tb_in (List.mem_of_getElem? (i := 636) (by decide +kernel)) rfl
theorem cw_X5_isLost {y : my} {index d2 : Nat} : Cw y mX5_isLost index 0 d2 := ⟨kx_X5_isLost, tb_in (List.mem_of_getElem? (i := 7) (by decide +kernel)) rfl, by decide +kernel, by decide⟩
theorem ki_X5_isLost : Cond.instanceMethod yX5_isLost ∈ gw := tb_in (List.mem_of_getElem? (i := 635) (by decide +kernel)) rfl
theorem ks_X5_isLost : Cond.selects RX5 yX5_isLost yX5_isLost ∈ gw := tb_sel (List.mem_of_getElem? (i := 56) (by decide +kernel)) rfl
abbrev mX5_begin : my := (yX5_begin, cX5_begin, 3, none)
theorem kx_X5_begin : Cond.code mX5_begin.1 mX5_begin.2.1 mX5_begin.2.2.1 mX5_begin.2.2.2 ∈ gw := tb_in (List.mem_of_getElem? (i := 627) (by decide +kernel)) rfl
theorem cw_X5_begin {y : my} {index d2 : Nat} : Cw y mX5_begin index 2 d2 := ⟨kx_X5_begin, tb_in (List.mem_of_getElem? (i := 7) (by decide +kernel)) rfl, by decide +kernel, by decide⟩
theorem ki_X5_begin : Cond.instanceMethod yX5_begin ∈ gw := tb_in (List.mem_of_getElem? (i := 626) (by decide +kernel)) rfl
theorem ks_X5_begin : Cond.selects RX5 yX5_begin yX5_begin ∈ gw := tb_sel (List.mem_of_getElem? (i := 55) (by decide +kernel)) rfl
abbrev mX5_drop : my := (yX5_drop, cX5_drop, 1, (some .int))
theorem kx_X5_drop : Cond.code mX5_drop.1 mX5_drop.2.1 mX5_drop.2.2.1 mX5_drop.2.2.2 ∈ gw := tb_in (List.mem_of_getElem? (i := 640) (by decide +kernel)) rfl
theorem cw_X5_drop {y : my} {index d2 : Nat} : Cw y mX5_drop index 0 d2 := ⟨kx_X5_drop, tb_in (List.mem_of_getElem? (i := 7) (by decide +kernel)) rfl, by decide +kernel, by decide⟩
theorem ki_X5_drop : Cond.instanceMethod yX5_drop ∈ gw := tb_in (List.mem_of_getElem? (i := 639) (by decide +kernel)) rfl
theorem ks_X5_drop : Cond.selects RX5 yX5_drop yX5_drop ∈ gw := tb_sel (List.mem_of_getElem? (i := 57) (by decide +kernel)) rfl
abbrev mX5_hasItems : my := (yX5_hasItems, cX5_hasItems, 3, (some .boolean))
theorem kx_X5_hasItems : Cond.code mX5_hasItems.1 mX5_hasItems.2.1 mX5_hasItems.2.2.1 mX5_hasItems.2.2.2 ∈ gw := tb_in (List.mem_of_getElem? (i := 651) (by decide +kernel)) rfl
theorem cw_X5_hasItems {y : my} {index d2 : Nat} : Cw y mX5_hasItems index 2 d2 := ⟨kx_X5_hasItems, tb_in (List.mem_of_getElem? (i := 7) (by decide +kernel)) rfl, by decide +kernel, by decide⟩
theorem ki_X5_hasItems : Cond.instanceMethod yX5_hasItems ∈ gw := tb_in (List.mem_of_getElem? (i := 650) (by decide +kernel)) rfl
theorem ks_X5_hasItems : Cond.selects RX5 yX5_hasItems yX5_hasItems ∈ gw := tb_sel (List.mem_of_getElem? (i := 58) (by decide +kernel)) rfl
abbrev mX5_fitted : my := (yX5_fitted, cX5_fitted, 2, (some .int))
theorem kx_X5_fitted : Cond.code mX5_fitted.1 mX5_fitted.2.1 mX5_fitted.2.2.1 mX5_fitted.2.2.2 ∈ gw := tb_in (List.mem_of_getElem? (i := 655) (by decide +kernel)) rfl
theorem cw_X5_fitted {y : my} {index d2 : Nat} : Cw y mX5_fitted index 1 d2 := ⟨kx_X5_fitted, tb_in (List.mem_of_getElem? (i := 7) (by decide +kernel)) rfl, by decide +kernel, by decide⟩
theorem ki_X5_fitted : Cond.instanceMethod yX5_fitted ∈ gw := tb_in (List.mem_of_getElem? (i := 654) (by decide +kernel)) rfl
theorem ks_X5_fitted : Cond.selects RX5 yX5_fitted yX5_fitted ∈ gw := tb_sel (List.mem_of_getElem? (i := 59) (by decide +kernel)) rfl
abbrev mX5_hasBlanks : my := (yX5_hasBlanks, cX5_hasBlanks, 2, (some .boolean))
theorem kx_X5_hasBlanks : Cond.code mX5_hasBlanks.1 mX5_hasBlanks.2.1 mX5_hasBlanks.2.2.1 mX5_hasBlanks.2.2.2 ∈ gw := tb_in (List.mem_of_getElem? (i := 713) (by decide +kernel)) rfl
theorem cw_X5_hasBlanks {y : my} {index d2 : Nat} : Cw y mX5_hasBlanks index 0 d2 := ⟨kx_X5_hasBlanks, tb_in (List.mem_of_getElem? (i := 7) (by decide +kernel)) rfl, by decide +kernel, by decide⟩
theorem ki_X5_hasBlanks : Cond.instanceMethod yX5_hasBlanks ∈ gw := tb_in (List.mem_of_getElem? (i := 712) (by decide +kernel)) rfl
theorem ks_X5_hasBlanks : Cond.selects RX5 yX5_hasBlanks yX5_hasBlanks ∈ gw := tb_sel (List.mem_of_getElem? (i := 64) (by decide +kernel)) rfl
abbrev mX5_firstRepeated : my := (yX5_firstRepeated, cX5_firstRepeated, 3, (some .int))
theorem kx_X5_firstRepeated : Cond.code mX5_firstRepeated.1 mX5_firstRepeated.2.1 mX5_firstRepeated.2.2.1 mX5_firstRepeated.2.2.2 ∈ gw := tb_in (List.mem_of_getElem? (i := 718) (by decide +kernel)) rfl
theorem cw_X5_firstRepeated {y : my} {index d2 : Nat} : Cw y mX5_firstRepeated index 0 d2 := ⟨kx_X5_firstRepeated, tb_in (List.mem_of_getElem? (i := 7) (by decide +kernel)) rfl, by decide +kernel, by decide⟩
theorem ki_X5_firstRepeated : Cond.instanceMethod yX5_firstRepeated ∈ gw := tb_in (List.mem_of_getElem? (i := 717) (by decide +kernel)) rfl
theorem ks_X5_firstRepeated : Cond.selects RX5 yX5_firstRepeated yX5_firstRepeated ∈ gw := tb_sel (List.mem_of_getElem? (i := 65) (by decide +kernel)) rfl
abbrev mX5_wordAt : my := (yX5_wordAt, cX5_wordAt, 5, (some .int))
theorem kx_X5_wordAt : Cond.code mX5_wordAt.1 mX5_wordAt.2.1 mX5_wordAt.2.2.1 mX5_wordAt.2.2.2 ∈ gw := tb_in (List.mem_of_getElem? (i := 722) (by decide +kernel)) rfl
theorem cw_X5_wordAt {y : my} {index d2 : Nat} : Cw y mX5_wordAt index 1 d2 := ⟨kx_X5_wordAt, tb_in (List.mem_of_getElem? (i := 7) (by decide +kernel)) rfl, by decide +kernel, by decide⟩
theorem ki_X5_wordAt : Cond.instanceMethod yX5_wordAt ∈ gw := tb_in (List.mem_of_getElem? (i := 721) (by decide +kernel)) rfl
theorem ks_X5_wordAt : Cond.selects RX5 yX5_wordAt yX5_wordAt ∈ gw := tb_sel (List.mem_of_getElem? (i := 66) (by decide +kernel)) rfl
abbrev mX6_init : my := (yX6_init, cX6_init, 1, none)
theorem kx_X6_init : Cond.code mX6_init.1 mX6_init.2.1 mX6_init.2.2.1 mX6_init.2.2.2 ∈ gw := tb_in (List.mem_of_getElem? (i := 26) (by decide +kernel)) rfl
theorem cw_X6_init {y : my} {index d2 : Nat} : Cw y mX6_init index 0 d2 := ⟨kx_X6_init, tb_in (List.mem_of_getElem? (i := 2) (by decide +kernel)) rfl, by decide +kernel, by decide⟩
theorem ki_X6_init : Cond.instanceMethod yX6_init ∈ gw := tb_in (List.mem_of_getElem? (i := 25) (by decide +kernel)) rfl
abbrev mX6_howMany : my := (yX6_howMany, cX6_howMany, 4, (some .int))
theorem kx_X6_howMany : Cond.code mX6_howMany.1 mX6_howMany.2.1 mX6_howMany.2.2.1 mX6_howMany.2.2.2 ∈ gw := tb_in (List.mem_of_getElem? (i := 282) (by decide +kernel)) rfl
theorem cw_X6_howMany {y : my} {index d2 : Nat} : Cw y mX6_howMany index 2 d2 := ⟨kx_X6_howMany, tb_in (List.mem_of_getElem? (i := 2) (by decide +kernel)) rfl, by decide +kernel, by decide⟩
theorem kt_X6_howMany : Cond.static yX6_howMany ∈ gw := tb_in (List.mem_of_getElem? (i := 281) (by decide +kernel)) rfl
abbrev mX6_become : my := (yX6_become, cX6_become, 4, none)
theorem kx_X6_become : Cond.code mX6_become.1 mX6_become.2.1 mX6_become.2.2.1 mX6_become.2.2.2 ∈ gw := tb_in (List.mem_of_getElem? (i := 31) (by decide +kernel)) rfl
theorem cw_X6_become {y : my} {index d2 : Nat} : Cw y mX6_become index 2 d2 := ⟨kx_X6_become, tb_in (List.mem_of_getElem? (i := 2) (by decide +kernel)) rfl, by decide +kernel, by decide⟩
theorem ki_X6_become : Cond.instanceMethod yX6_become ∈ gw := tb_in (List.mem_of_getElem? (i := 30) (by decide +kernel)) rfl
theorem ks_X6_become : Cond.selects RX6 yX6_become yX6_become ∈ gw := tb_sel (List.mem_of_getElem? (i := 0) (by decide +kernel)) rfl
abbrev mX6_has : my := (yX6_has, cX6_has, 2, (some .boolean))
theorem kx_X6_has : Cond.code mX6_has.1 mX6_has.2.1 mX6_has.2.2.1 mX6_has.2.2.2 ∈ gw := tb_in (List.mem_of_getElem? (i := 296) (by decide +kernel)) rfl
theorem cw_X6_has {y : my} {index d2 : Nat} : Cw y mX6_has index 1 d2 := ⟨kx_X6_has, tb_in (List.mem_of_getElem? (i := 2) (by decide +kernel)) rfl, by decide +kernel, by decide⟩
theorem ki_X6_has : Cond.instanceMethod yX6_has ∈ gw := tb_in (List.mem_of_getElem? (i := 295) (by decide +kernel)) rfl
theorem ks_X6_has : Cond.selects RX6 yX6_has yX6_has ∈ gw := tb_sel (List.mem_of_getElem? (i := 4) (by decide +kernel)) rfl
abbrev mX6_isLetter : my := (yX6_isLetter, cX6_isLetter, 2, (some .boolean))
theorem kx_X6_isLetter : Cond.code mX6_isLetter.1 mX6_isLetter.2.1 mX6_isLetter.2.2.1 mX6_isLetter.2.2.2 ∈ gw := tb_in (List.mem_of_getElem? (i := 410) (by decide +kernel)) rfl
theorem cw_X6_isLetter {y : my} {index d2 : Nat} : Cw y mX6_isLetter index 1 d2 := ⟨kx_X6_isLetter, tb_in (List.mem_of_getElem? (i := 2) (by decide +kernel)) rfl, by decide +kernel, by decide⟩
theorem ki_X6_isLetter : Cond.instanceMethod yX6_isLetter ∈ gw := tb_in (List.mem_of_getElem? (i := 409) (by decide +kernel)) rfl
theorem ks_X6_isLetter : Cond.selects RX6 yX6_isLetter yX6_isLetter ∈ gw := tb_sel (List.mem_of_getElem? (i := 20) (by decide +kernel)) rfl
abbrev mX6_differInFirst : my := (yX6_differInFirst, cX6_differInFirst, 3, (some .boolean))
theorem kx_X6_differInFirst : Cond.code mX6_differInFirst.1 mX6_differInFirst.2.1 mX6_differInFirst.2.2.1 mX6_differInFirst.2.2.2 ∈ gw := tb_in (List.mem_of_getElem? (i := 471) (by decide +kernel)) rfl
theorem cw_X6_differInFirst {y : my} {index d2 : Nat} : Cw y mX6_differInFirst index 2 d2 := ⟨kx_X6_differInFirst, tb_in (List.mem_of_getElem? (i := 2) (by decide +kernel)) rfl, by decide +kernel, by decide⟩
theorem ki_X6_differInFirst : Cond.instanceMethod yX6_differInFirst ∈ gw := tb_in (List.mem_of_getElem? (i := 470) (by decide +kernel)) rfl
theorem ks_X6_differInFirst : Cond.selects RX6 yX6_differInFirst yX6_differInFirst ∈ gw := tb_sel (List.mem_of_getElem? (i := 30) (by decide +kernel)) rfl
abbrev mX6_turned : my := (yX6_turned, cX6_turned, 5, (some .int))
theorem kx_X6_turned : Cond.code mX6_turned.1 mX6_turned.2.1 mX6_turned.2.2.1 mX6_turned.2.2.2 ∈ gw := tb_in (List.mem_of_getElem? (i := 300) (by decide +kernel)) rfl
theorem cw_X6_turned {y : my} {index d2 : Nat} : Cw y mX6_turned index 2 d2 := ⟨kx_X6_turned, tb_in (List.mem_of_getElem? (i := 2) (by decide +kernel)) rfl, by decide +kernel, by decide⟩
theorem ki_X6_turned : Cond.instanceMethod yX6_turned ∈ gw := tb_in (List.mem_of_getElem? (i := 299) (by decide +kernel)) rfl
theorem ks_X6_turned : Cond.selects RX6 yX6_turned yX6_turned ∈ gw := tb_sel (List.mem_of_getElem? (i := 5) (by decide +kernel)) rfl
abbrev mX6_turnedOnce : my := (yX6_turnedOnce, cX6_turnedOnce, 2, (some .int))
theorem kx_X6_turnedOnce : Cond.code mX6_turnedOnce.1 mX6_turnedOnce.2.1 mX6_turnedOnce.2.2.1 mX6_turnedOnce.2.2.2 ∈ gw := tb_in (List.mem_of_getElem? (i := 312) (by decide +kernel)) rfl
theorem cw_X6_turnedOnce {y : my} {index d2 : Nat} : Cw y mX6_turnedOnce index 1 d2 := ⟨kx_X6_turnedOnce, tb_in (List.mem_of_getElem? (i := 2) (by decide +kernel)) rfl, by decide +kernel, by decide⟩
theorem ki_X6_turnedOnce : Cond.instanceMethod yX6_turnedOnce ∈ gw := tb_in (List.mem_of_getElem? (i := 311) (by decide +kernel)) rfl
theorem ks_X6_turnedOnce : Cond.selects RX6 yX6_turnedOnce yX6_turnedOnce ∈ gw := tb_sel (List.mem_of_getElem? (i := 7) (by decide +kernel)) rfl
abbrev mX6_leastOf : my := (yX6_leastOf, cX6_leastOf, 5, (some .int))
theorem kx_X6_leastOf : Cond.code mX6_leastOf.1 mX6_leastOf.2.1 mX6_leastOf.2.2.1 mX6_leastOf.2.2.2 ∈ gw := tb_in (List.mem_of_getElem? (i := 308) (by decide +kernel)) rfl
theorem cw_X6_leastOf {y : my} {index d2 : Nat} : Cw y mX6_leastOf index 1 d2 := ⟨kx_X6_leastOf, tb_in (List.mem_of_getElem? (i := 2) (by decide +kernel)) rfl, by decide +kernel, by decide⟩
theorem ki_X6_leastOf : Cond.instanceMethod yX6_leastOf ∈ gw := tb_in (List.mem_of_getElem? (i := 307) (by decide +kernel)) rfl
theorem ks_X6_leastOf : Cond.selects RX6 yX6_leastOf yX6_leastOf ∈ gw := tb_sel (List.mem_of_getElem? (i := 6) (by decide +kernel)) rfl
abbrev mX6_stepsToLeast : my := (yX6_stepsToLeast, cX6_stepsToLeast, 6, (some .int))
theorem kx_X6_stepsToLeast : Cond.code mX6_stepsToLeast.1 mX6_stepsToLeast.2.1 mX6_stepsToLeast.2.2.1 mX6_stepsToLeast.2.2.2 ∈ gw := tb_in (List.mem_of_getElem? (i := 323) (by decide +kernel)) rfl
theorem cw_X6_stepsToLeast {y : my} {index d2 : Nat} : Cw y mX6_stepsToLeast index 1 d2 := ⟨kx_X6_stepsToLeast, tb_in (List.mem_of_getElem? (i := 2) (by decide +kernel)) rfl, by decide +kernel, by decide⟩
theorem ki_X6_stepsToLeast : Cond.instanceMethod yX6_stepsToLeast ∈ gw := tb_in (List.mem_of_getElem? (i := 322) (by decide +kernel)) rfl
theorem ks_X6_stepsToLeast : Cond.selects RX6 yX6_stepsToLeast yX6_stepsToLeast ∈ gw := tb_sel (List.mem_of_getElem? (i := 8) (by decide +kernel)) rfl
abbrev mX6_ringSize : my := (yX6_ringSize, cX6_ringSize, 4, (some .int))
theorem kx_X6_ringSize : Cond.code mX6_ringSize.1 mX6_ringSize.2.1 mX6_ringSize.2.2.1 mX6_ringSize.2.2.2 ∈ gw := tb_in (List.mem_of_getElem? (i := 331) (by decide +kernel)) rfl
theorem cw_X6_ringSize {y : my} {index d2 : Nat} : Cw y mX6_ringSize index 1 d2 := ⟨kx_X6_ringSize, tb_in (List.mem_of_getElem? (i := 2) (by decide +kernel)) rfl, by decide +kernel, by decide⟩
theorem ki_X6_ringSize : Cond.instanceMethod yX6_ringSize ∈ gw := tb_in (List.mem_of_getElem? (i := 330) (by decide +kernel)) rfl
theorem ks_X6_ringSize : Cond.selects RX6 yX6_ringSize yX6_ringSize ∈ gw := tb_sel (List.mem_of_getElem? (i := 9) (by decide +kernel)) rfl
abbrev mX6_backward : my := (yX6_backward, cX6_backward, 5, (some .int))
theorem kx_X6_backward : Cond.code mX6_backward.1 mX6_backward.2.1 mX6_backward.2.2.1 mX6_backward.2.2.2 ∈ gw := tb_in (List.mem_of_getElem? (i := 339) (by decide +kernel)) rfl
theorem cw_X6_backward {y : my} {index d2 : Nat} : Cw y mX6_backward index 1 d2 := ⟨kx_X6_backward, tb_in (List.mem_of_getElem? (i := 2) (by decide +kernel)) rfl, by decide +kernel, by decide⟩
theorem ki_X6_backward : Cond.instanceMethod yX6_backward ∈ gw := tb_in (List.mem_of_getElem? (i := 338) (by decide +kernel)) rfl
theorem ks_X6_backward : Cond.selects RX6 yX6_backward yX6_backward ∈ gw := tb_sel (List.mem_of_getElem? (i := 10) (by decide +kernel)) rfl
abbrev mX7_init : my := (yX7_init, cX7_init, 2, none)
theorem kx_X7_init : Cond.code mX7_init.1 mX7_init.2.1 mX7_init.2.2.1 mX7_init.2.2.2 ∈ gw := tb_in (List.mem_of_getElem? (i := 18) (by decide +kernel)) rfl
theorem cw_X7_init {y : my} {index d2 : Nat} : Cw y mX7_init index 0 d2 := ⟨kx_X7_init, tb_in (List.mem_of_getElem? (i := 1) (by decide +kernel)) rfl, by decide +kernel, by decide⟩
theorem ki_X7_init : Cond.instanceMethod yX7_init ∈ gw := tb_in (List.mem_of_getElem? (i := 17) (by decide +kernel)) rfl
abbrev mX7_wheel : my := (yX7_wheel, cX7_wheel, 4, (some .int))
theorem kx_X7_wheel : Cond.code mX7_wheel.1 mX7_wheel.2.1 mX7_wheel.2.2.1 mX7_wheel.2.2.2 ∈ gw := tb_in (List.mem_of_getElem? (i := 279) (by decide +kernel)) rfl
theorem cw_X7_wheel {y : my} {index d2 : Nat} : Cw y mX7_wheel index 2 d2 := ⟨kx_X7_wheel, tb_in (List.mem_of_getElem? (i := 1) (by decide +kernel)) rfl, by decide +kernel, by decide⟩
theorem ki_X7_wheel : Cond.instanceMethod yX7_wheel ∈ gw := tb_in (List.mem_of_getElem? (i := 277) (by decide +kernel)) rfl
theorem ks_X7_wheel : Cond.selects RX7 yX7_wheel yX7_wheel ∈ gw := tb_in (List.mem_of_getElem? (i := 278) (by decide +kernel)) rfl
abbrev mX7_turn : my := (yX7_turn, cX7_turn, 3, (some .int))
theorem kx_X7_turn : Cond.code mX7_turn.1 mX7_turn.2.1 mX7_turn.2.2.1 mX7_turn.2.2.2 ∈ gw := tb_in (List.mem_of_getElem? (i := 292) (by decide +kernel)) rfl
theorem cw_X7_turn {y : my} {index d2 : Nat} : Cw y mX7_turn index 2 d2 := ⟨kx_X7_turn, tb_in (List.mem_of_getElem? (i := 1) (by decide +kernel)) rfl, by decide +kernel, by decide⟩
theorem ki_X7_turn : Cond.instanceMethod yX7_turn ∈ gw := tb_in (List.mem_of_getElem? (i := 290) (by decide +kernel)) rfl
theorem ks_X7_turn : Cond.selects RX7 yX7_turn yX7_turn ∈ gw := tb_in (List.mem_of_getElem? (i := 291) (by decide +kernel)) rfl
abbrev mX7_least : my := (yX7_least, cX7_least, 2, (some .int))
theorem kx_X7_least : Cond.code mX7_least.1 mX7_least.2.1 mX7_least.2.2.1 mX7_least.2.2.2 ∈ gw := tb_in (List.mem_of_getElem? (i := 304) (by decide +kernel)) rfl
theorem cw_X7_least {y : my} {index d2 : Nat} : Cw y mX7_least index 1 d2 := ⟨kx_X7_least, tb_in (List.mem_of_getElem? (i := 1) (by decide +kernel)) rfl, by decide +kernel, by decide⟩
theorem ki_X7_least : Cond.instanceMethod yX7_least ∈ gw := tb_in (List.mem_of_getElem? (i := 302) (by decide +kernel)) rfl
theorem ks_X7_least : Cond.selects RX7 yX7_least yX7_least ∈ gw := tb_in (List.mem_of_getElem? (i := 303) (by decide +kernel)) rfl
abbrev mX7_steps : my := (yX7_steps, cX7_steps, 2, (some .int))
theorem kx_X7_steps : Cond.code mX7_steps.1 mX7_steps.2.1 mX7_steps.2.2.1 mX7_steps.2.2.2 ∈ gw := tb_in (List.mem_of_getElem? (i := 319) (by decide +kernel)) rfl
theorem cw_X7_steps {y : my} {index d2 : Nat} : Cw y mX7_steps index 1 d2 := ⟨kx_X7_steps, tb_in (List.mem_of_getElem? (i := 1) (by decide +kernel)) rfl, by decide +kernel, by decide⟩
theorem ki_X7_steps : Cond.instanceMethod yX7_steps ∈ gw := tb_in (List.mem_of_getElem? (i := 317) (by decide +kernel)) rfl
theorem ks_X7_steps : Cond.selects RX7 yX7_steps yX7_steps ∈ gw := tb_in (List.mem_of_getElem? (i := 318) (by decide +kernel)) rfl
abbrev mX7_size : my := (yX7_size, cX7_size, 2, (some .int))
theorem kx_X7_size : Cond.code mX7_size.1 mX7_size.2.1 mX7_size.2.2.1 mX7_size.2.2.2 ∈ gw := tb_in (List.mem_of_getElem? (i := 327) (by decide +kernel)) rfl
theorem cw_X7_size {y : my} {index d2 : Nat} : Cw y mX7_size index 1 d2 := ⟨kx_X7_size, tb_in (List.mem_of_getElem? (i := 1) (by decide +kernel)) rfl, by decide +kernel, by decide⟩
theorem ki_X7_size : Cond.instanceMethod yX7_size ∈ gw := tb_in (List.mem_of_getElem? (i := 325) (by decide +kernel)) rfl
theorem ks_X7_size : Cond.selects RX7 yX7_size yX7_size ∈ gw := tb_in (List.mem_of_getElem? (i := 326) (by decide +kernel)) rfl
abbrev mX7_even : my := (yX7_even, cX7_even, 3, (some .int))
theorem kx_X7_even : Cond.code mX7_even.1 mX7_even.2.1 mX7_even.2.2.1 mX7_even.2.2.2 ∈ gw := tb_in (List.mem_of_getElem? (i := 335) (by decide +kernel)) rfl
theorem cw_X7_even {y : my} {index d2 : Nat} : Cw y mX7_even index 1 d2 := ⟨kx_X7_even, tb_in (List.mem_of_getElem? (i := 1) (by decide +kernel)) rfl, by decide +kernel, by decide⟩
theorem ki_X7_even : Cond.instanceMethod yX7_even ∈ gw := tb_in (List.mem_of_getElem? (i := 333) (by decide +kernel)) rfl
theorem ks_X7_even : Cond.selects RX7 yX7_even yX7_even ∈ gw := tb_in (List.mem_of_getElem? (i := 334) (by decide +kernel)) rfl
abbrev mX7_rings : my := (yX7_rings, cX7_rings, 1, (some .int))
theorem kx_X7_rings : Cond.code mX7_rings.1 mX7_rings.2.1 mX7_rings.2.2.1 mX7_rings.2.2.2 ∈ gw := tb_in (List.mem_of_getElem? (i := 343) (by decide +kernel)) rfl
theorem cw_X7_rings {y : my} {index d2 : Nat} : Cw y mX7_rings index 0 d2 := ⟨kx_X7_rings, tb_in (List.mem_of_getElem? (i := 1) (by decide +kernel)) rfl, by decide +kernel, by decide⟩
theorem ki_X7_rings : Cond.instanceMethod yX7_rings ∈ gw := tb_in (List.mem_of_getElem? (i := 341) (by decide +kernel)) rfl
theorem ks_X7_rings : Cond.selects RX7 yX7_rings yX7_rings ∈ gw := tb_in (List.mem_of_getElem? (i := 342) (by decide +kernel)) rfl
abbrev mX7_ringOf : my := (yX7_ringOf, cX7_ringOf, 2, (some .int))
theorem kx_X7_ringOf : Cond.code mX7_ringOf.1 mX7_ringOf.2.1 mX7_ringOf.2.2.1 mX7_ringOf.2.2.2 ∈ gw := tb_in (List.mem_of_getElem? (i := 383) (by decide +kernel)) rfl
theorem cw_X7_ringOf {y : my} {index d2 : Nat} : Cw y mX7_ringOf index 1 d2 := ⟨kx_X7_ringOf, tb_in (List.mem_of_getElem? (i := 1) (by decide +kernel)) rfl, by decide +kernel, by decide⟩
theorem ki_X7_ringOf : Cond.instanceMethod yX7_ringOf ∈ gw := tb_in (List.mem_of_getElem? (i := 381) (by decide +kernel)) rfl
theorem ks_X7_ringOf : Cond.selects RX7 yX7_ringOf yX7_ringOf ∈ gw := tb_in (List.mem_of_getElem? (i := 382) (by decide +kernel)) rfl
abbrev mX7_ring : my := (yX7_ring, cX7_ring, 2, (some .int))
theorem kx_X7_ring : Cond.code mX7_ring.1 mX7_ring.2.1 mX7_ring.2.2.1 mX7_ring.2.2.2 ∈ gw := tb_in (List.mem_of_getElem? (i := 387) (by decide +kernel)) rfl
theorem cw_X7_ring {y : my} {index d2 : Nat} : Cw y mX7_ring index 1 d2 := ⟨kx_X7_ring, tb_in (List.mem_of_getElem? (i := 1) (by decide +kernel)) rfl, by decide +kernel, by decide⟩
theorem ki_X7_ring : Cond.instanceMethod yX7_ring ∈ gw := tb_in (List.mem_of_getElem? (i := 385) (by decide +kernel)) rfl
theorem ks_X7_ring : Cond.selects RX7 yX7_ring yX7_ring ∈ gw := tb_in (List.mem_of_getElem? (i := 386) (by decide +kernel)) rfl
abbrev mX7_below : my := (yX7_below, cX7_below, 2, (some .int))
theorem kx_X7_below : Cond.code mX7_below.1 mX7_below.2.1 mX7_below.2.2.1 mX7_below.2.2.2 ∈ gw := tb_in (List.mem_of_getElem? (i := 397) (by decide +kernel)) rfl
theorem cw_X7_below {y : my} {index d2 : Nat} : Cw y mX7_below index 1 d2 := ⟨kx_X7_below, tb_in (List.mem_of_getElem? (i := 1) (by decide +kernel)) rfl, by decide +kernel, by decide⟩
theorem ki_X7_below : Cond.instanceMethod yX7_below ∈ gw := tb_in (List.mem_of_getElem? (i := 395) (by decide +kernel)) rfl
theorem ks_X7_below : Cond.selects RX7 yX7_below yX7_below ∈ gw := tb_in (List.mem_of_getElem? (i := 396) (by decide +kernel)) rfl
abbrev mX7_content : my := (yX7_content, cX7_content, 6, (some .int))
theorem kx_X7_content : Cond.code mX7_content.1 mX7_content.2.1 mX7_content.2.2.1 mX7_content.2.2.2 ∈ gw := tb_in (List.mem_of_getElem? (i := 402) (by decide +kernel)) rfl
theorem cw_X7_content {y : my} {index d2 : Nat} : Cw y mX7_content index 5 d2 := ⟨kx_X7_content, tb_in (List.mem_of_getElem? (i := 1) (by decide +kernel)) rfl, by decide +kernel, by decide⟩
theorem ki_X7_content : Cond.instanceMethod yX7_content ∈ gw := tb_in (List.mem_of_getElem? (i := 400) (by decide +kernel)) rfl
theorem ks_X7_content : Cond.selects RX7 yX7_content yX7_content ∈ gw := tb_in (List.mem_of_getElem? (i := 401) (by decide +kernel)) rfl
abbrev mX7_factor : my := (yX7_factor, cX7_factor, 3, (some .int))
theorem kx_X7_factor : Cond.code mX7_factor.1 mX7_factor.2.1 mX7_factor.2.2.1 mX7_factor.2.2.2 ∈ gw := tb_in (List.mem_of_getElem? (i := 426) (by decide +kernel)) rfl
theorem cw_X7_factor {y : my} {index d2 : Nat} : Cw y mX7_factor index 2 d2 := ⟨kx_X7_factor, tb_in (List.mem_of_getElem? (i := 1) (by decide +kernel)) rfl, by decide +kernel, by decide⟩
theorem ki_X7_factor : Cond.instanceMethod yX7_factor ∈ gw := tb_in (List.mem_of_getElem? (i := 424) (by decide +kernel)) rfl
theorem ks_X7_factor : Cond.selects RX7 yX7_factor yX7_factor ∈ gw := tb_in (List.mem_of_getElem? (i := 425) (by decide +kernel)) rfl
abbrev mX7_sum : my := (yX7_sum, cX7_sum, 2, (some .int))
theorem kx_X7_sum : Cond.code mX7_sum.1 mX7_sum.2.1 mX7_sum.2.2.1 mX7_sum.2.2.2 ∈ gw := tb_in (List.mem_of_getElem? (i := 435) (by decide +kernel)) rfl
theorem cw_X7_sum {y : my} {index d2 : Nat} : Cw y mX7_sum index 1 d2 := ⟨kx_X7_sum, tb_in (List.mem_of_getElem? (i := 1) (by decide +kernel)) rfl, by decide +kernel, by decide⟩
theorem ki_X7_sum : Cond.instanceMethod yX7_sum ∈ gw := tb_in (List.mem_of_getElem? (i := 433) (by decide +kernel)) rfl
theorem ks_X7_sum : Cond.selects RX7 yX7_sum yX7_sum ∈ gw := tb_in (List.mem_of_getElem? (i := 434) (by decide +kernel)) rfl
abbrev mX7_go : my := (yX7_go, cX7_go, 2, (some .int))
theorem kx_X7_go : Cond.code mX7_go.1 mX7_go.2.1 mX7_go.2.2.1 mX7_go.2.2.2 ∈ gw := tb_in (List.mem_of_getElem? (i := 443) (by decide +kernel)) rfl
theorem cw_X7_go {y : my} {index d2 : Nat} : Cw y mX7_go index 1 d2 := ⟨kx_X7_go, tb_in (List.mem_of_getElem? (i := 1) (by decide +kernel)) rfl, by decide +kernel, by decide⟩
theorem ki_X7_go : Cond.instanceMethod yX7_go ∈ gw := tb_in (List.mem_of_getElem? (i := 441) (by decide +kernel)) rfl
theorem ks_X7_go : Cond.selects RX7 yX7_go yX7_go ∈ gw := tb_in (List.mem_of_getElem? (i := 442) (by decide +kernel)) rfl
abbrev mX7_right : my := (yX7_right, cX7_right, 1, (some .int))
theorem kx_X7_right : Cond.code mX7_right.1 mX7_right.2.1 mX7_right.2.2.1 mX7_right.2.2.2 ∈ gw := tb_in (List.mem_of_getElem? (i := 459) (by decide +kernel)) rfl
theorem cw_X7_right {y : my} {index d2 : Nat} : Cw y mX7_right index 0 d2 := ⟨kx_X7_right, tb_in (List.mem_of_getElem? (i := 1) (by decide +kernel)) rfl, by decide +kernel, by decide⟩
theorem ki_X7_right : Cond.instanceMethod yX7_right ∈ gw := tb_in (List.mem_of_getElem? (i := 457) (by decide +kernel)) rfl
theorem ks_X7_right : Cond.selects RX7 yX7_right yX7_right ∈ gw := tb_in (List.mem_of_getElem? (i := 458) (by decide +kernel)) rfl
abbrev mX7_exchange : my := (yX7_exchange, cX7_exchange, 3, (some .int))
theorem kx_X7_exchange : Cond.code mX7_exchange.1 mX7_exchange.2.1 mX7_exchange.2.2.1 mX7_exchange.2.2.2 ∈ gw := tb_in (List.mem_of_getElem? (i := 467) (by decide +kernel)) rfl
theorem cw_X7_exchange {y : my} {index d2 : Nat} : Cw y mX7_exchange index 2 d2 := ⟨kx_X7_exchange, tb_in (List.mem_of_getElem? (i := 1) (by decide +kernel)) rfl, by decide +kernel, by decide⟩
theorem ki_X7_exchange : Cond.instanceMethod yX7_exchange ∈ gw := tb_in (List.mem_of_getElem? (i := 465) (by decide +kernel)) rfl
theorem ks_X7_exchange : Cond.selects RX7 yX7_exchange yX7_exchange ∈ gw := tb_in (List.mem_of_getElem? (i := 466) (by decide +kernel)) rfl
abbrev mX7_back : my := (yX7_back, cX7_back, 1, (some .int))
theorem kx_X7_back : Cond.code mX7_back.1 mX7_back.2.1 mX7_back.2.2.1 mX7_back.2.2.2 ∈ gw := tb_in (List.mem_of_getElem? (i := 512) (by decide +kernel)) rfl
theorem cw_X7_back {y : my} {index d2 : Nat} : Cw y mX7_back index 0 d2 := ⟨kx_X7_back, tb_in (List.mem_of_getElem? (i := 1) (by decide +kernel)) rfl, by decide +kernel, by decide⟩
theorem ki_X7_back : Cond.instanceMethod yX7_back ∈ gw := tb_in (List.mem_of_getElem? (i := 510) (by decide +kernel)) rfl
theorem ks_X7_back : Cond.selects RX7 yX7_back yX7_back ∈ gw := tb_in (List.mem_of_getElem? (i := 511) (by decide +kernel)) rfl
abbrev mX7_cycles : my := (yX7_cycles, cX7_cycles, 1, (some .int))
theorem kx_X7_cycles : Cond.code mX7_cycles.1 mX7_cycles.2.1 mX7_cycles.2.2.1 mX7_cycles.2.2.2 ∈ gw := tb_in (List.mem_of_getElem? (i := 520) (by decide +kernel)) rfl
theorem cw_X7_cycles {y : my} {index d2 : Nat} : Cw y mX7_cycles index 0 d2 := ⟨kx_X7_cycles, tb_in (List.mem_of_getElem? (i := 1) (by decide +kernel)) rfl, by decide +kernel, by decide⟩
theorem ki_X7_cycles : Cond.instanceMethod yX7_cycles ∈ gw := tb_in (List.mem_of_getElem? (i := 518) (by decide +kernel)) rfl
theorem ks_X7_cycles : Cond.selects RX7 yX7_cycles yX7_cycles ∈ gw := tb_in (List.mem_of_getElem? (i := 519) (by decide +kernel)) rfl
abbrev mX7_cycleOf : my := (yX7_cycleOf, cX7_cycleOf, 2, (some .int))
theorem kx_X7_cycleOf : Cond.code mX7_cycleOf.1 mX7_cycleOf.2.1 mX7_cycleOf.2.2.1 mX7_cycleOf.2.2.2 ∈ gw := tb_in (List.mem_of_getElem? (i := 525) (by decide +kernel)) rfl
theorem cw_X7_cycleOf {y : my} {index d2 : Nat} : Cw y mX7_cycleOf index 1 d2 := ⟨kx_X7_cycleOf, tb_in (List.mem_of_getElem? (i := 1) (by decide +kernel)) rfl, by decide +kernel, by decide⟩
theorem ki_X7_cycleOf : Cond.instanceMethod yX7_cycleOf ∈ gw := tb_in (List.mem_of_getElem? (i := 523) (by decide +kernel)) rfl
theorem ks_X7_cycleOf : Cond.selects RX7 yX7_cycleOf yX7_cycleOf ∈ gw := tb_in (List.mem_of_getElem? (i := 524) (by decide +kernel)) rfl
abbrev mX7_cycle : my := (yX7_cycle, cX7_cycle, 3, (some .int))
theorem kx_X7_cycle : Cond.code mX7_cycle.1 mX7_cycle.2.1 mX7_cycle.2.2.1 mX7_cycle.2.2.2 ∈ gw := tb_in (List.mem_of_getElem? (i := 533) (by decide +kernel)) rfl
theorem cw_X7_cycle {y : my} {index d2 : Nat} : Cw y mX7_cycle index 2 d2 := ⟨kx_X7_cycle, tb_in (List.mem_of_getElem? (i := 1) (by decide +kernel)) rfl, by decide +kernel, by decide⟩
theorem ki_X7_cycle : Cond.instanceMethod yX7_cycle ∈ gw := tb_in (List.mem_of_getElem? (i := 531) (by decide +kernel)) rfl
theorem ks_X7_cycle : Cond.selects RX7 yX7_cycle yX7_cycle ∈ gw := tb_in (List.mem_of_getElem? (i := 532) (by decide +kernel)) rfl
abbrev mX7_join : my := (yX7_join, cX7_join, 1, (some .int))
theorem kx_X7_join : Cond.code mX7_join.1 mX7_join.2.1 mX7_join.2.2.1 mX7_join.2.2.2 ∈ gw := tb_in (List.mem_of_getElem? (i := 545) (by decide +kernel)) rfl
theorem cw_X7_join {y : my} {index d2 : Nat} : Cw y mX7_join index 0 d2 := ⟨kx_X7_join, tb_in (List.mem_of_getElem? (i := 1) (by decide +kernel)) rfl, by decide +kernel, by decide⟩
theorem ki_X7_join : Cond.instanceMethod yX7_join ∈ gw := tb_in (List.mem_of_getElem? (i := 543) (by decide +kernel)) rfl
theorem ks_X7_join : Cond.selects RX7 yX7_join yX7_join ∈ gw := tb_in (List.mem_of_getElem? (i := 544) (by decide +kernel)) rfl
abbrev mX7_round : my := (yX7_round, cX7_round, 2, (some .int))
theorem kx_X7_round : Cond.code mX7_round.1 mX7_round.2.1 mX7_round.2.2.1 mX7_round.2.2.2 ∈ gw := tb_in (List.mem_of_getElem? (i := 557) (by decide +kernel)) rfl
theorem cw_X7_round {y : my} {index d2 : Nat} : Cw y mX7_round index 1 d2 := ⟨kx_X7_round, tb_in (List.mem_of_getElem? (i := 1) (by decide +kernel)) rfl, by decide +kernel, by decide⟩
theorem ki_X7_round : Cond.instanceMethod yX7_round ∈ gw := tb_in (List.mem_of_getElem? (i := 555) (by decide +kernel)) rfl
theorem ks_X7_round : Cond.selects RX7 yX7_round yX7_round ∈ gw := tb_in (List.mem_of_getElem? (i := 556) (by decide +kernel)) rfl
abbrev mX7_letter : my := (yX7_letter, cX7_letter, 2, (some .int))
theorem kx_X7_letter : Cond.code mX7_letter.1 mX7_letter.2.1 mX7_letter.2.2.1 mX7_letter.2.2.2 ∈ gw := tb_in (List.mem_of_getElem? (i := 591) (by decide +kernel)) rfl
theorem cw_X7_letter {y : my} {index d2 : Nat} : Cw y mX7_letter index 1 d2 := ⟨kx_X7_letter, tb_in (List.mem_of_getElem? (i := 1) (by decide +kernel)) rfl, by decide +kernel, by decide⟩
theorem ki_X7_letter : Cond.instanceMethod yX7_letter ∈ gw := tb_in (List.mem_of_getElem? (i := 589) (by decide +kernel)) rfl
theorem ks_X7_letter : Cond.selects RX7 yX7_letter yX7_letter ∈ gw := tb_in (List.mem_of_getElem? (i := 590) (by decide +kernel)) rfl
abbrev mX7_place : my := (yX7_place, cX7_place, 2, (some .int))
theorem kx_X7_place : Cond.code mX7_place.1 mX7_place.2.1 mX7_place.2.2.1 mX7_place.2.2.2 ∈ gw := tb_in (List.mem_of_getElem? (i := 604) (by decide +kernel)) rfl
theorem cw_X7_place {y : my} {index d2 : Nat} : Cw y mX7_place index 1 d2 := ⟨kx_X7_place, tb_in (List.mem_of_getElem? (i := 1) (by decide +kernel)) rfl, by decide +kernel, by decide⟩
theorem ki_X7_place : Cond.instanceMethod yX7_place ∈ gw := tb_in (List.mem_of_getElem? (i := 602) (by decide +kernel)) rfl
theorem ks_X7_place : Cond.selects RX7 yX7_place yX7_place ∈ gw := tb_in (List.mem_of_getElem? (i := 603) (by decide +kernel)) rfl
abbrev mX7_way : my := (yX7_way, cX7_way, 3, (some .int))
theorem kx_X7_way : Cond.code mX7_way.1 mX7_way.2.1 mX7_way.2.2.1 mX7_way.2.2.2 ∈ gw := tb_in (List.mem_of_getElem? (i := 609) (by decide +kernel)) rfl
theorem cw_X7_way {y : my} {index d2 : Nat} : Cw y mX7_way index 2 d2 := ⟨kx_X7_way, tb_in (List.mem_of_getElem? (i := 1) (by decide +kernel)) rfl, by decide +kernel, by decide⟩
theorem ki_X7_way : Cond.instanceMethod yX7_way ∈ gw := tb_in (List.mem_of_getElem? (i := 607) (by decide +kernel)) rfl
theorem ks_X7_way : Cond.selects RX7 yX7_way yX7_way ∈ gw := tb_in (List.mem_of_getElem? (i := 608) (by decide +kernel)) rfl
abbrev mX7_tape : my := (yX7_tape, cX7_tape, 4, (some .int))
theorem kx_X7_tape : Cond.code mX7_tape.1 mX7_tape.2.1 mX7_tape.2.2.1 mX7_tape.2.2.2 ∈ gw := tb_in (List.mem_of_getElem? (i := 613) (by decide +kernel)) rfl
theorem cw_X7_tape {y : my} {index d2 : Nat} : Cw y mX7_tape index 3 d2 := ⟨kx_X7_tape, tb_in (List.mem_of_getElem? (i := 1) (by decide +kernel)) rfl, by decide +kernel, by decide⟩
theorem ki_X7_tape : Cond.instanceMethod yX7_tape ∈ gw := tb_in (List.mem_of_getElem? (i := 611) (by decide +kernel)) rfl
theorem ks_X7_tape : Cond.selects RX7 yX7_tape yX7_tape ∈ gw := tb_in (List.mem_of_getElem? (i := 612) (by decide +kernel)) rfl
abbrev mX7_lose : my := (yX7_lose, cX7_lose, 2, (some .int))
theorem kx_X7_lose : Cond.code mX7_lose.1 mX7_lose.2.1 mX7_lose.2.2.1 mX7_lose.2.2.2 ∈ gw := tb_in (List.mem_of_getElem? (i := 632) (by decide +kernel)) rfl
theorem cw_X7_lose {y : my} {index d2 : Nat} : Cw y mX7_lose index 1 d2 := ⟨kx_X7_lose, tb_in (List.mem_of_getElem? (i := 1) (by decide +kernel)) rfl, by decide +kernel, by decide⟩
theorem ki_X7_lose : Cond.instanceMethod yX7_lose ∈ gw := tb_in (List.mem_of_getElem? (i := 630) (by decide +kernel)) rfl
theorem ks_X7_lose : Cond.selects RX7 yX7_lose yX7_lose ∈ gw := tb_in (List.mem_of_getElem? (i := 631) (by decide +kernel)) rfl
abbrev mX7_put : my := (yX7_put, cX7_put, 6, (some .int))
theorem kx_X7_put : Cond.code mX7_put.1 mX7_put.2.1 mX7_put.2.2.1 mX7_put.2.2.2 ∈ gw := tb_in (List.mem_of_getElem? (i := 644) (by decide +kernel)) rfl
theorem cw_X7_put {y : my} {index d2 : Nat} : Cw y mX7_put index 4 d2 := ⟨kx_X7_put, tb_in (List.mem_of_getElem? (i := 1) (by decide +kernel)) rfl, by decide +kernel, by decide⟩
theorem ki_X7_put : Cond.instanceMethod yX7_put ∈ gw := tb_in (List.mem_of_getElem? (i := 642) (by decide +kernel)) rfl
theorem ks_X7_put : Cond.selects RX7 yX7_put yX7_put ∈ gw := tb_in (List.mem_of_getElem? (i := 643) (by decide +kernel)) rfl
abbrev mX7_get : my := (yX7_get, cX7_get, 5, (some .int))
theorem kx_X7_get : Cond.code mX7_get.1 mX7_get.2.1 mX7_get.2.2.1 mX7_get.2.2.2 ∈ gw := tb_in (List.mem_of_getElem? (i := 659) (by decide +kernel)) rfl
theorem cw_X7_get {y : my} {index d2 : Nat} : Cw y mX7_get index 3 d2 := ⟨kx_X7_get, tb_in (List.mem_of_getElem? (i := 1) (by decide +kernel)) rfl, by decide +kernel, by decide⟩
theorem ki_X7_get : Cond.instanceMethod yX7_get ∈ gw := tb_in (List.mem_of_getElem? (i := 657) (by decide +kernel)) rfl
theorem ks_X7_get : Cond.selects RX7 yX7_get yX7_get ∈ gw := tb_in (List.mem_of_getElem? (i := 658) (by decide +kernel)) rfl
abbrev mX7_copy : my := (yX7_copy, cX7_copy, 8, (some .int))
theorem kx_X7_copy : Cond.code mX7_copy.1 mX7_copy.2.1 mX7_copy.2.2.1 mX7_copy.2.2.2 ∈ gw := tb_in (List.mem_of_getElem? (i := 664) (by decide +kernel)) rfl
theorem cw_X7_copy {y : my} {index d2 : Nat} : Cw y mX7_copy index 5 d2 := ⟨kx_X7_copy, tb_in (List.mem_of_getElem? (i := 1) (by decide +kernel)) rfl, by decide +kernel, by decide⟩
theorem ki_X7_copy : Cond.instanceMethod yX7_copy ∈ gw := tb_in (List.mem_of_getElem? (i := 662) (by decide +kernel)) rfl
theorem ks_X7_copy : Cond.selects RX7 yX7_copy yX7_copy ∈ gw := tb_in (List.mem_of_getElem? (i := 663) (by decide +kernel)) rfl
abbrev mX7_print : my := (yX7_print, cX7_print, 5, (some .int))
theorem kx_X7_print : Cond.code mX7_print.1 mX7_print.2.1 mX7_print.2.2.1 mX7_print.2.2.2 ∈ gw := tb_in (List.mem_of_getElem? (i := 671) (by decide +kernel)) rfl
theorem cw_X7_print {y : my} {index d2 : Nat} : Cw y mX7_print index 4 d2 := ⟨kx_X7_print, tb_in (List.mem_of_getElem? (i := 1) (by decide +kernel)) rfl, by decide +kernel, by decide⟩
theorem ki_X7_print : Cond.instanceMethod yX7_print ∈ gw := tb_in (List.mem_of_getElem? (i := 669) (by decide +kernel)) rfl
theorem ks_X7_print : Cond.selects RX7 yX7_print yX7_print ∈ gw := tb_in (List.mem_of_getElem? (i := 670) (by decide +kernel)) rfl
abbrev mX7_find : my := (yX7_find, cX7_find, 6, (some .int))
theorem kx_X7_find : Cond.code mX7_find.1 mX7_find.2.1 mX7_find.2.2.1 mX7_find.2.2.2 ∈ gw := tb_in (List.mem_of_getElem? (i := 679) (by decide +kernel)) rfl
theorem cw_X7_find {y : my} {index d2 : Nat} : Cw y mX7_find index 4 d2 := ⟨kx_X7_find, tb_in (List.mem_of_getElem? (i := 1) (by decide +kernel)) rfl, by decide +kernel, by decide⟩
theorem ki_X7_find : Cond.instanceMethod yX7_find ∈ gw := tb_in (List.mem_of_getElem? (i := 677) (by decide +kernel)) rfl
theorem ks_X7_find : Cond.selects RX7 yX7_find yX7_find ∈ gw := tb_in (List.mem_of_getElem? (i := 678) (by decide +kernel)) rfl
abbrev mX7_found : my := (yX7_found, cX7_found, 1, (some .int))
theorem kx_X7_found : Cond.code mX7_found.1 mX7_found.2.1 mX7_found.2.2.1 mX7_found.2.2.2 ∈ gw := tb_in (List.mem_of_getElem? (i := 705) (by decide +kernel)) rfl
theorem cw_X7_found {y : my} {index d2 : Nat} : Cw y mX7_found index 0 d2 := ⟨kx_X7_found, tb_in (List.mem_of_getElem? (i := 1) (by decide +kernel)) rfl, by decide +kernel, by decide⟩
theorem ki_X7_found : Cond.instanceMethod yX7_found ∈ gw := tb_in (List.mem_of_getElem? (i := 703) (by decide +kernel)) rfl
theorem ks_X7_found : Cond.selects RX7 yX7_found yX7_found ∈ gw := tb_in (List.mem_of_getElem? (i := 704) (by decide +kernel)) rfl
abbrev mX7_twice : my := (yX7_twice, cX7_twice, 3, (some .int))
theorem kx_X7_twice : Cond.code mX7_twice.1 mX7_twice.2.1 mX7_twice.2.2.1 mX7_twice.2.2.2 ∈ gw := tb_in (List.mem_of_getElem? (i := 709) (by decide +kernel)) rfl
theorem cw_X7_twice {y : my} {index d2 : Nat} : Cw y mX7_twice index 1 d2 := ⟨kx_X7_twice, tb_in (List.mem_of_getElem? (i := 1) (by decide +kernel)) rfl, by decide +kernel, by decide⟩
theorem ki_X7_twice : Cond.instanceMethod yX7_twice ∈ gw := tb_in (List.mem_of_getElem? (i := 707) (by decide +kernel)) rfl
theorem ks_X7_twice : Cond.selects RX7 yX7_twice yX7_twice ∈ gw := tb_in (List.mem_of_getElem? (i := 708) (by decide +kernel)) rfl
abbrev mX7_parts : my := (yX7_parts, cX7_parts, 3, (some .int))
theorem kx_X7_parts : Cond.code mX7_parts.1 mX7_parts.2.1 mX7_parts.2.2.1 mX7_parts.2.2.2 ∈ gw := tb_in (List.mem_of_getElem? (i := 726) (by decide +kernel)) rfl
theorem cw_X7_parts {y : my} {index d2 : Nat} : Cw y mX7_parts index 1 d2 := ⟨kx_X7_parts, tb_in (List.mem_of_getElem? (i := 1) (by decide +kernel)) rfl, by decide +kernel, by decide⟩
theorem ki_X7_parts : Cond.instanceMethod yX7_parts ∈ gw := tb_in (List.mem_of_getElem? (i := 724) (by decide +kernel)) rfl
theorem ks_X7_parts : Cond.selects RX7 yX7_parts yX7_parts ∈ gw := tb_in (List.mem_of_getElem? (i := 725) (by decide +kernel)) rfl
abbrev mX7_part : my := (yX7_part, cX7_part, 2, (some .int))
theorem kx_X7_part : Cond.code mX7_part.1 mX7_part.2.1 mX7_part.2.2.1 mX7_part.2.2.2 ∈ gw := tb_in (List.mem_of_getElem? (i := 734) (by decide +kernel)) rfl
theorem cw_X7_part {y : my} {index d2 : Nat} : Cw y mX7_part index 1 d2 := ⟨kx_X7_part, tb_in (List.mem_of_getElem? (i := 1) (by decide +kernel)) rfl, by decide +kernel, by decide⟩
theorem ki_X7_part : Cond.instanceMethod yX7_part ∈ gw := tb_in (List.mem_of_getElem? (i := 732) (by decide +kernel)) rfl
theorem ks_X7_part : Cond.selects RX7 yX7_part yX7_part ∈ gw := tb_in (List.mem_of_getElem? (i := 733) (by decide +kernel)) rfl
abbrev mX7_recurrence : my := (yX7_recurrence, cX7_recurrence, 3, (some .int))
theorem kx_X7_recurrence : Cond.code mX7_recurrence.1 mX7_recurrence.2.1 mX7_recurrence.2.2.1 mX7_recurrence.2.2.2 ∈ gw := tb_in (List.mem_of_getElem? (i := 738) (by decide +kernel)) rfl
theorem cw_X7_recurrence {y : my} {index d2 : Nat} : Cw y mX7_recurrence index 1 d2 := ⟨kx_X7_recurrence, tb_in (List.mem_of_getElem? (i := 1) (by decide +kernel)) rfl, by decide +kernel, by decide⟩
theorem ki_X7_recurrence : Cond.instanceMethod yX7_recurrence ∈ gw := tb_in (List.mem_of_getElem? (i := 736) (by decide +kernel)) rfl
theorem ks_X7_recurrence : Cond.selects RX7 yX7_recurrence yX7_recurrence ∈ gw := tb_in (List.mem_of_getElem? (i := 737) (by decide +kernel)) rfl
abbrev mX7_coefficient : my := (yX7_coefficient, cX7_coefficient, 2, (some .int))
theorem kx_X7_coefficient : Cond.code mX7_coefficient.1 mX7_coefficient.2.1 mX7_coefficient.2.2.1 mX7_coefficient.2.2.2 ∈ gw := tb_in (List.mem_of_getElem? (i := 768) (by decide +kernel)) rfl
theorem cw_X7_coefficient {y : my} {index d2 : Nat} : Cw y mX7_coefficient index 1 d2 := ⟨kx_X7_coefficient, tb_in (List.mem_of_getElem? (i := 1) (by decide +kernel)) rfl, by decide +kernel, by decide⟩
theorem ki_X7_coefficient : Cond.instanceMethod yX7_coefficient ∈ gw := tb_in (List.mem_of_getElem? (i := 766) (by decide +kernel)) rfl
theorem ks_X7_coefficient : Cond.selects RX7 yX7_coefficient yX7_coefficient ∈ gw := tb_in (List.mem_of_getElem? (i := 767) (by decide +kernel)) rfl
abbrev mX7_count : my := (yX7_count, cX7_count, 2, (some .int))
theorem kx_X7_count : Cond.code mX7_count.1 mX7_count.2.1 mX7_count.2.2.1 mX7_count.2.2.2 ∈ gw := tb_in (List.mem_of_getElem? (i := 776) (by decide +kernel)) rfl
theorem cw_X7_count {y : my} {index d2 : Nat} : Cw y mX7_count index 1 d2 := ⟨kx_X7_count, tb_in (List.mem_of_getElem? (i := 1) (by decide +kernel)) rfl, by decide +kernel, by decide⟩
theorem ki_X7_count : Cond.instanceMethod yX7_count ∈ gw := tb_in (List.mem_of_getElem? (i := 774) (by decide +kernel)) rfl
theorem ks_X7_count : Cond.selects RX7 yX7_count yX7_count ∈ gw := tb_in (List.mem_of_getElem? (i := 775) (by decide +kernel)) rfl
abbrev mX7_digest : my := (yX7_digest, cX7_digest, 5, (some .long))
theorem kx_X7_digest : Cond.code mX7_digest.1 mX7_digest.2.1 mX7_digest.2.2.1 mX7_digest.2.2.2 ∈ gw := tb_in (List.mem_of_getElem? (i := 780) (by decide +kernel)) rfl
theorem cw_X7_digest {y : my} {index d2 : Nat} : Cw y mX7_digest index 0 d2 := ⟨kx_X7_digest, tb_in (List.mem_of_getElem? (i := 1) (by decide +kernel)) rfl, by decide +kernel, by decide⟩
theorem ki_X7_digest : Cond.instanceMethod yX7_digest ∈ gw := tb_in (List.mem_of_getElem? (i := 778) (by decide +kernel)) rfl
theorem ks_X7_digest : Cond.selects RX7 yX7_digest yX7_digest ∈ gw := tb_in (List.mem_of_getElem? (i := 779) (by decide +kernel)) rfl
abbrev mX7_isTape : my := (yX7_isTape, cX7_isTape, 1, (some .boolean))
theorem kx_X7_isTape : Cond.code mX7_isTape.1 mX7_isTape.2.1 mX7_isTape.2.2.1 mX7_isTape.2.2.2 ∈ gw := tb_in (List.mem_of_getElem? (i := 616) (by decide +kernel)) rfl
theorem cw_X7_isTape {y : my} {index d2 : Nat} : Cw y mX7_isTape index 1 d2 := ⟨kx_X7_isTape, tb_in (List.mem_of_getElem? (i := 1) (by decide +kernel)) rfl, by decide +kernel, by decide⟩
theorem kt_X7_isTape : Cond.static yX7_isTape ∈ gw := tb_in (List.mem_of_getElem? (i := 615) (by decide +kernel)) rfl
abbrev mX7_isForm : my := (yX7_isForm, cX7_isForm, 1, (some .boolean))
theorem kx_X7_isForm : Cond.code mX7_isForm.1 mX7_isForm.2.1 mX7_isForm.2.2.1 mX7_isForm.2.2.2 ∈ gw := tb_in (List.mem_of_getElem? (i := 619) (by decide +kernel)) rfl
theorem cw_X7_isForm {y : my} {index d2 : Nat} : Cw y mX7_isForm index 1 d2 := ⟨kx_X7_isForm, tb_in (List.mem_of_getElem? (i := 1) (by decide +kernel)) rfl, by decide +kernel, by decide⟩
theorem kt_X7_isForm : Cond.static yX7_isForm ∈ gw := tb_in (List.mem_of_getElem? (i := 618) (by decide +kernel)) rfl
abbrev mX7_finding : my := (yX7_finding, cX7_finding, 2, (some .int))
theorem kx_X7_finding : Cond.code mX7_finding.1 mX7_finding.2.1 mX7_finding.2.2.1 mX7_finding.2.2.2 ∈ gw := tb_in (List.mem_of_getElem? (i := 623) (by decide +kernel)) rfl
theorem cw_X7_finding {y : my} {index d2 : Nat} : Cw y mX7_finding index 1 d2 := ⟨kx_X7_finding, tb_in (List.mem_of_getElem? (i := 1) (by decide +kernel)) rfl, by decide +kernel, by decide⟩
theorem ki_X7_finding : Cond.instanceMethod yX7_finding ∈ gw := tb_in (List.mem_of_getElem? (i := 622) (by decide +kernel)) rfl
theorem ks_X7_finding : Cond.selects RX7 yX7_finding yX7_finding ∈ gw := tb_sel (List.mem_of_getElem? (i := 54) (by decide +kernel)) rfl
abbrev mX7_faultOfItem : my := (yX7_faultOfItem, cX7_faultOfItem, 3, (some .int))
theorem kx_X7_faultOfItem : Cond.code mX7_faultOfItem.1 mX7_faultOfItem.2.1 mX7_faultOfItem.2.2.1 mX7_faultOfItem.2.2.2 ∈ gw := tb_in (List.mem_of_getElem? (i := 647) (by decide +kernel)) rfl
theorem cw_X7_faultOfItem {y : my} {index d2 : Nat} : Cw y mX7_faultOfItem index 3 d2 := ⟨kx_X7_faultOfItem, tb_in (List.mem_of_getElem? (i := 1) (by decide +kernel)) rfl, by decide +kernel, by decide⟩
theorem kt_X7_faultOfItem : Cond.static yX7_faultOfItem ∈ gw := tb_in (List.mem_of_getElem? (i := 646) (by decide +kernel)) rfl
abbrev mX8_init : my := (yX8_init, cX8_init, 2, none)
theorem kx_X8_init : Cond.code mX8_init.1 mX8_init.2.1 mX8_init.2.2.1 mX8_init.2.2.2 ∈ gw := tb_in (List.mem_of_getElem? (i := 788) (by decide +kernel)) rfl
theorem cw_X8_init {y : my} {index d2 : Nat} : Cw y mX8_init index 0 d2 := ⟨kx_X8_init, tb_in (List.mem_of_getElem? (i := 10) (by decide +kernel)) rfl, by decide +kernel, by decide⟩
theorem ki_X8_init : Cond.instanceMethod yX8_init ∈ gw := tb_in (List.mem_of_getElem? (i := 787) (by decide +kernel)) rfl
abbrev mX8_in : my := (yX8_in, cX8_in, 6, (some .boolean))
theorem kx_X8_in : Cond.code mX8_in.1 mX8_in.2.1 mX8_in.2.2.1 mX8_in.2.2.2 ∈ gw := tb_in (List.mem_of_getElem? (i := 799) (by decide +kernel)) rfl
theorem cw_X8_in {y : my} {index d2 : Nat} : Cw y mX8_in index 3 d2 := ⟨kx_X8_in, tb_in (List.mem_of_getElem? (i := 10) (by decide +kernel)) rfl, by decide +kernel, by decide⟩
theorem kt_X8_in : Cond.static yX8_in ∈ gw := tb_in (List.mem_of_getElem? (i := 798) (by decide +kernel)) rfl
abbrev mX8_wheel : my := (yX8_wheel, cX8_wheel, 5, (some .int))
theorem kx_X8_wheel : Cond.code mX8_wheel.1 mX8_wheel.2.1 mX8_wheel.2.2.1 mX8_wheel.2.2.2 ∈ gw := tb_in (List.mem_of_getElem? (i := 794) (by decide +kernel)) rfl
theorem cw_X8_wheel {y : my} {index d2 : Nat} : Cw y mX8_wheel index 2 d2 := ⟨kx_X8_wheel, tb_in (List.mem_of_getElem? (i := 10) (by decide +kernel)) rfl, by decide +kernel, by decide⟩
theorem ki_X8_wheel : Cond.instanceMethod yX8_wheel ∈ gw := tb_in (List.mem_of_getElem? (i := 792) (by decide +kernel)) rfl
theorem ks_X8_wheel : Cond.selects RX8 yX8_wheel yX8_wheel ∈ gw := tb_in (List.mem_of_getElem? (i := 793) (by decide +kernel)) rfl
abbrev mX8_isWord : my := (yX8_isWord, cX8_isWord, 2, (some .boolean))
theorem kx_X8_isWord : Cond.code mX8_isWord.1 mX8_isWord.2.1 mX8_isWord.2.2.1 mX8_isWord.2.2.2 ∈ gw := tb_in (List.mem_of_getElem? (i := 922) (by decide +kernel)) rfl
theorem cw_X8_isWord {y : my} {index d2 : Nat} : Cw y mX8_isWord index 1 d2 := ⟨kx_X8_isWord, tb_in (List.mem_of_getElem? (i := 10) (by decide +kernel)) rfl, by decide +kernel, by decide⟩
theorem ki_X8_isWord : Cond.instanceMethod yX8_isWord ∈ gw := tb_in (List.mem_of_getElem? (i := 921) (by decide +kernel)) rfl
theorem ks_X8_isWord : Cond.selects RX8 yX8_isWord yX8_isWord ∈ gw := tb_sel (List.mem_of_getElem? (i := 78) (by decide +kernel)) rfl
abbrev mX8_next : my := (yX8_next, cX8_next, 3, (some .int))
theorem kx_X8_next : Cond.code mX8_next.1 mX8_next.2.1 mX8_next.2.2.1 mX8_next.2.2.2 ∈ gw := tb_in (List.mem_of_getElem? (i := 808) (by decide +kernel)) rfl
theorem cw_X8_next {y : my} {index d2 : Nat} : Cw y mX8_next index 1 d2 := ⟨kx_X8_next, tb_in (List.mem_of_getElem? (i := 10) (by decide +kernel)) rfl, by decide +kernel, by decide⟩
theorem ki_X8_next : Cond.instanceMethod yX8_next ∈ gw := tb_in (List.mem_of_getElem? (i := 807) (by decide +kernel)) rfl
theorem ks_X8_next : Cond.selects RX8 yX8_next yX8_next ∈ gw := tb_sel (List.mem_of_getElem? (i := 76) (by decide +kernel)) rfl
abbrev mX8_leastOf : my := (yX8_leastOf, cX8_leastOf, 4, (some .int))
theorem kx_X8_leastOf : Cond.code mX8_leastOf.1 mX8_leastOf.2.1 mX8_leastOf.2.2.1 mX8_leastOf.2.2.2 ∈ gw := tb_in (List.mem_of_getElem? (i := 804) (by decide +kernel)) rfl
theorem cw_X8_leastOf {y : my} {index d2 : Nat} : Cw y mX8_leastOf index 1 d2 := ⟨kx_X8_leastOf, tb_in (List.mem_of_getElem? (i := 10) (by decide +kernel)) rfl, by decide +kernel, by decide⟩
theorem ki_X8_leastOf : Cond.instanceMethod yX8_leastOf ∈ gw := tb_in (List.mem_of_getElem? (i := 803) (by decide +kernel)) rfl
theorem ks_X8_leastOf : Cond.selects RX8 yX8_leastOf yX8_leastOf ∈ gw := tb_sel (List.mem_of_getElem? (i := 75) (by decide +kernel)) rfl
abbrev mX8_turn : my := (yX8_turn, cX8_turn, 5, (some .int))
theorem kx_X8_turn : Cond.code mX8_turn.1 mX8_turn.2.1 mX8_turn.2.2.1 mX8_turn.2.2.2 ∈ gw := tb_in (List.mem_of_getElem? (i := 918) (by decide +kernel)) rfl
theorem cw_X8_turn {y : my} {index d2 : Nat} : Cw y mX8_turn index 2 d2 := ⟨kx_X8_turn, tb_in (List.mem_of_getElem? (i := 10) (by decide +kernel)) rfl, by decide +kernel, by decide⟩
theorem ki_X8_turn : Cond.instanceMethod yX8_turn ∈ gw := tb_in (List.mem_of_getElem? (i := 916) (by decide +kernel)) rfl
theorem ks_X8_turn : Cond.selects RX8 yX8_turn yX8_turn ∈ gw := tb_in (List.mem_of_getElem? (i := 917) (by decide +kernel)) rfl
abbrev mX8_least : my := (yX8_least, cX8_least, 2, (some .int))
theorem kx_X8_least : Cond.code mX8_least.1 mX8_least.2.1 mX8_least.2.2.1 mX8_least.2.2.2 ∈ gw := tb_in (List.mem_of_getElem? (i := 927) (by decide +kernel)) rfl
theorem cw_X8_least {y : my} {index d2 : Nat} : Cw y mX8_least index 1 d2 := ⟨kx_X8_least, tb_in (List.mem_of_getElem? (i := 10) (by decide +kernel)) rfl, by decide +kernel, by decide⟩
theorem ki_X8_least : Cond.instanceMethod yX8_least ∈ gw := tb_in (List.mem_of_getElem? (i := 925) (by decide +kernel)) rfl
theorem ks_X8_least : Cond.selects RX8 yX8_least yX8_least ∈ gw := tb_in (List.mem_of_getElem? (i := 926) (by decide +kernel)) rfl
abbrev mX8_steps : my := (yX8_steps, cX8_steps, 4, (some .int))
theorem kx_X8_steps : Cond.code mX8_steps.1 mX8_steps.2.1 mX8_steps.2.2.1 mX8_steps.2.2.2 ∈ gw := tb_in (List.mem_of_getElem? (i := 931) (by decide +kernel)) rfl
theorem cw_X8_steps {y : my} {index d2 : Nat} : Cw y mX8_steps index 1 d2 := ⟨kx_X8_steps, tb_in (List.mem_of_getElem? (i := 10) (by decide +kernel)) rfl, by decide +kernel, by decide⟩
theorem ki_X8_steps : Cond.instanceMethod yX8_steps ∈ gw := tb_in (List.mem_of_getElem? (i := 929) (by decide +kernel)) rfl
theorem ks_X8_steps : Cond.selects RX8 yX8_steps yX8_steps ∈ gw := tb_in (List.mem_of_getElem? (i := 930) (by decide +kernel)) rfl
abbrev mX8_sizeOf : my := (yX8_sizeOf, cX8_sizeOf, 4, (some .int))
theorem kx_X8_sizeOf : Cond.code mX8_sizeOf.1 mX8_sizeOf.2.1 mX8_sizeOf.2.2.1 mX8_sizeOf.2.2.2 ∈ gw := tb_in (List.mem_of_getElem? (i := 939) (by decide +kernel)) rfl
theorem cw_X8_sizeOf {y : my} {index d2 : Nat} : Cw y mX8_sizeOf index 1 d2 := ⟨kx_X8_sizeOf, tb_in (List.mem_of_getElem? (i := 10) (by decide +kernel)) rfl, by decide +kernel, by decide⟩
theorem ki_X8_sizeOf : Cond.instanceMethod yX8_sizeOf ∈ gw := tb_in (List.mem_of_getElem? (i := 938) (by decide +kernel)) rfl
theorem ks_X8_sizeOf : Cond.selects RX8 yX8_sizeOf yX8_sizeOf ∈ gw := tb_sel (List.mem_of_getElem? (i := 79) (by decide +kernel)) rfl
abbrev mX8_size : my := (yX8_size, cX8_size, 2, (some .int))
theorem kx_X8_size : Cond.code mX8_size.1 mX8_size.2.1 mX8_size.2.2.1 mX8_size.2.2.2 ∈ gw := tb_in (List.mem_of_getElem? (i := 935) (by decide +kernel)) rfl
theorem cw_X8_size {y : my} {index d2 : Nat} : Cw y mX8_size index 1 d2 := ⟨kx_X8_size, tb_in (List.mem_of_getElem? (i := 10) (by decide +kernel)) rfl, by decide +kernel, by decide⟩
theorem ki_X8_size : Cond.instanceMethod yX8_size ∈ gw := tb_in (List.mem_of_getElem? (i := 933) (by decide +kernel)) rfl
theorem ks_X8_size : Cond.selects RX8 yX8_size yX8_size ∈ gw := tb_in (List.mem_of_getElem? (i := 934) (by decide +kernel)) rfl
abbrev mX8_even : my := (yX8_even, cX8_even, 5, (some .int))
theorem kx_X8_even : Cond.code mX8_even.1 mX8_even.2.1 mX8_even.2.2.1 mX8_even.2.2.2 ∈ gw := tb_in (List.mem_of_getElem? (i := 943) (by decide +kernel)) rfl
theorem cw_X8_even {y : my} {index d2 : Nat} : Cw y mX8_even index 1 d2 := ⟨kx_X8_even, tb_in (List.mem_of_getElem? (i := 10) (by decide +kernel)) rfl, by decide +kernel, by decide⟩
theorem ki_X8_even : Cond.instanceMethod yX8_even ∈ gw := tb_in (List.mem_of_getElem? (i := 941) (by decide +kernel)) rfl
theorem ks_X8_even : Cond.selects RX8 yX8_even yX8_even ∈ gw := tb_in (List.mem_of_getElem? (i := 942) (by decide +kernel)) rfl
abbrev mX8_rings : my := (yX8_rings, cX8_rings, 3, (some .int))
theorem kx_X8_rings : Cond.code mX8_rings.1 mX8_rings.2.1 mX8_rings.2.2.1 mX8_rings.2.2.2 ∈ gw := tb_in (List.mem_of_getElem? (i := 947) (by decide +kernel)) rfl
theorem cw_X8_rings {y : my} {index d2 : Nat} : Cw y mX8_rings index 0 d2 := ⟨kx_X8_rings, tb_in (List.mem_of_getElem? (i := 10) (by decide +kernel)) rfl, by decide +kernel, by decide⟩
theorem ki_X8_rings : Cond.instanceMethod yX8_rings ∈ gw := tb_in (List.mem_of_getElem? (i := 945) (by decide +kernel)) rfl
theorem ks_X8_rings : Cond.selects RX8 yX8_rings yX8_rings ∈ gw := tb_in (List.mem_of_getElem? (i := 946) (by decide +kernel)) rfl
abbrev mX8_ringOf : my := (yX8_ringOf, cX8_ringOf, 4, (some .int))
theorem kx_X8_ringOf : Cond.code mX8_ringOf.1 mX8_ringOf.2.1 mX8_ringOf.2.2.1 mX8_ringOf.2.2.2 ∈ gw := tb_in (List.mem_of_getElem? (i := 951) (by decide +kernel)) rfl
theorem cw_X8_ringOf {y : my} {index d2 : Nat} : Cw y mX8_ringOf index 1 d2 := ⟨kx_X8_ringOf, tb_in (List.mem_of_getElem? (i := 10) (by decide +kernel)) rfl, by decide +kernel, by decide⟩
theorem ki_X8_ringOf : Cond.instanceMethod yX8_ringOf ∈ gw := tb_in (List.mem_of_getElem? (i := 949) (by decide +kernel)) rfl
theorem ks_X8_ringOf : Cond.selects RX8 yX8_ringOf yX8_ringOf ∈ gw := tb_in (List.mem_of_getElem? (i := 950) (by decide +kernel)) rfl
abbrev mX8_ring : my := (yX8_ring, cX8_ring, 4, (some .int))
theorem kx_X8_ring : Cond.code mX8_ring.1 mX8_ring.2.1 mX8_ring.2.2.1 mX8_ring.2.2.2 ∈ gw := tb_in (List.mem_of_getElem? (i := 955) (by decide +kernel)) rfl
theorem cw_X8_ring {y : my} {index d2 : Nat} : Cw y mX8_ring index 1 d2 := ⟨kx_X8_ring, tb_in (List.mem_of_getElem? (i := 10) (by decide +kernel)) rfl, by decide +kernel, by decide⟩
theorem ki_X8_ring : Cond.instanceMethod yX8_ring ∈ gw := tb_in (List.mem_of_getElem? (i := 953) (by decide +kernel)) rfl
theorem ks_X8_ring : Cond.selects RX8 yX8_ring yX8_ring ∈ gw := tb_in (List.mem_of_getElem? (i := 954) (by decide +kernel)) rfl
abbrev mX8_below : my := (yX8_below, cX8_below, 4, (some .int))
theorem kx_X8_below : Cond.code mX8_below.1 mX8_below.2.1 mX8_below.2.2.1 mX8_below.2.2.2 ∈ gw := tb_in (List.mem_of_getElem? (i := 959) (by decide +kernel)) rfl
theorem cw_X8_below {y : my} {index d2 : Nat} : Cw y mX8_below index 1 d2 := ⟨kx_X8_below, tb_in (List.mem_of_getElem? (i := 10) (by decide +kernel)) rfl, by decide +kernel, by decide⟩
theorem ki_X8_below : Cond.instanceMethod yX8_below ∈ gw := tb_in (List.mem_of_getElem? (i := 957) (by decide +kernel)) rfl
theorem ks_X8_below : Cond.selects RX8 yX8_below yX8_below ∈ gw := tb_in (List.mem_of_getElem? (i := 958) (by decide +kernel)) rfl
abbrev mX8_content : my := (yX8_content, cX8_content, 11, (some .int))
theorem kx_X8_content : Cond.code mX8_content.1 mX8_content.2.1 mX8_content.2.2.1 mX8_content.2.2.2 ∈ gw := tb_in (List.mem_of_getElem? (i := 963) (by decide +kernel)) rfl
theorem cw_X8_content {y : my} {index d2 : Nat} : Cw y mX8_content index 5 d2 := ⟨kx_X8_content, tb_in (List.mem_of_getElem? (i := 10) (by decide +kernel)) rfl, by decide +kernel, by decide⟩
theorem ki_X8_content : Cond.instanceMethod yX8_content ∈ gw := tb_in (List.mem_of_getElem? (i := 961) (by decide +kernel)) rfl
theorem ks_X8_content : Cond.selects RX8 yX8_content yX8_content ∈ gw := tb_in (List.mem_of_getElem? (i := 962) (by decide +kernel)) rfl
abbrev mX8_hasWanted : my := (yX8_hasWanted, cX8_hasWanted, 5, (some .boolean))
theorem kx_X8_hasWanted : Cond.code mX8_hasWanted.1 mX8_hasWanted.2.1 mX8_hasWanted.2.2.1 mX8_hasWanted.2.2.2 ∈ gw := tb_in (List.mem_of_getElem? (i := 967) (by decide +kernel)) rfl
theorem cw_X8_hasWanted {y : my} {index d2 : Nat} : Cw y mX8_hasWanted index 1 d2 := ⟨kx_X8_hasWanted, tb_in (List.mem_of_getElem? (i := 10) (by decide +kernel)) rfl, by decide +kernel, by decide⟩
theorem ki_X8_hasWanted : Cond.instanceMethod yX8_hasWanted ∈ gw := tb_in (List.mem_of_getElem? (i := 966) (by decide +kernel)) rfl
theorem ks_X8_hasWanted : Cond.selects RX8 yX8_hasWanted yX8_hasWanted ∈ gw := tb_sel (List.mem_of_getElem? (i := 80) (by decide +kernel)) rfl
abbrev mX8_lead : my := (yX8_lead, cX8_lead, 6, none)
theorem kx_X8_lead : Cond.code mX8_lead.1 mX8_lead.2.1 mX8_lead.2.2.1 mX8_lead.2.2.2 ∈ gw := tb_in (List.mem_of_getElem? (i := 812) (by decide +kernel)) rfl
theorem cw_X8_lead {y : my} {index d2 : Nat} : Cw y mX8_lead index 0 d2 := ⟨kx_X8_lead, tb_in (List.mem_of_getElem? (i := 10) (by decide +kernel)) rfl, by decide +kernel, by decide⟩
theorem ki_X8_lead : Cond.instanceMethod yX8_lead ∈ gw := tb_in (List.mem_of_getElem? (i := 811) (by decide +kernel)) rfl
theorem ks_X8_lead : Cond.selects RX8 yX8_lead yX8_lead ∈ gw := tb_sel (List.mem_of_getElem? (i := 77) (by decide +kernel)) rfl
abbrev mX8_factor : my := (yX8_factor, cX8_factor, 4, (some .int))
theorem kx_X8_factor : Cond.code mX8_factor.1 mX8_factor.2.1 mX8_factor.2.2.1 mX8_factor.2.2.2 ∈ gw := tb_in (List.mem_of_getElem? (i := 971) (by decide +kernel)) rfl
theorem cw_X8_factor {y : my} {index d2 : Nat} : Cw y mX8_factor index 2 d2 := ⟨kx_X8_factor, tb_in (List.mem_of_getElem? (i := 10) (by decide +kernel)) rfl, by decide +kernel, by decide⟩
theorem ki_X8_factor : Cond.instanceMethod yX8_factor ∈ gw := tb_in (List.mem_of_getElem? (i := 969) (by decide +kernel)) rfl
theorem ks_X8_factor : Cond.selects RX8 yX8_factor yX8_factor ∈ gw := tb_in (List.mem_of_getElem? (i := 970) (by decide +kernel)) rfl
abbrev mX8_sum : my := (yX8_sum, cX8_sum, 3, (some .int))
theorem kx_X8_sum : Cond.code mX8_sum.1 mX8_sum.2.1 mX8_sum.2.2.1 mX8_sum.2.2.2 ∈ gw := tb_in (List.mem_of_getElem? (i := 975) (by decide +kernel)) rfl
theorem cw_X8_sum {y : my} {index d2 : Nat} : Cw y mX8_sum index 1 d2 := ⟨kx_X8_sum, tb_in (List.mem_of_getElem? (i := 10) (by decide +kernel)) rfl, by decide +kernel, by decide⟩
theorem ki_X8_sum : Cond.instanceMethod yX8_sum ∈ gw := tb_in (List.mem_of_getElem? (i := 973) (by decide +kernel)) rfl
theorem ks_X8_sum : Cond.selects RX8 yX8_sum yX8_sum ∈ gw := tb_in (List.mem_of_getElem? (i := 974) (by decide +kernel)) rfl
abbrev mX8_go : my := (yX8_go, cX8_go, 2, (some .int))
theorem kx_X8_go : Cond.code mX8_go.1 mX8_go.2.1 mX8_go.2.2.1 mX8_go.2.2.2 ∈ gw := tb_in (List.mem_of_getElem? (i := 979) (by decide +kernel)) rfl
theorem cw_X8_go {y : my} {index d2 : Nat} : Cw y mX8_go index 1 d2 := ⟨kx_X8_go, tb_in (List.mem_of_getElem? (i := 10) (by decide +kernel)) rfl, by decide +kernel, by decide⟩
theorem ki_X8_go : Cond.instanceMethod yX8_go ∈ gw := tb_in (List.mem_of_getElem? (i := 977) (by decide +kernel)) rfl
theorem ks_X8_go : Cond.selects RX8 yX8_go yX8_go ∈ gw := tb_in (List.mem_of_getElem? (i := 978) (by decide +kernel)) rfl
abbrev mX8_isRight : my := (yX8_isRight, cX8_isRight, 3, (some .boolean))
theorem kx_X8_isRight : Cond.code mX8_isRight.1 mX8_isRight.2.1 mX8_isRight.2.2.1 mX8_isRight.2.2.2 ∈ gw := tb_in (List.mem_of_getElem? (i := 987) (by decide +kernel)) rfl
theorem cw_X8_isRight {y : my} {index d2 : Nat} : Cw y mX8_isRight index 0 d2 := ⟨kx_X8_isRight, tb_in (List.mem_of_getElem? (i := 10) (by decide +kernel)) rfl, by decide +kernel, by decide⟩
theorem ki_X8_isRight : Cond.instanceMethod yX8_isRight ∈ gw := tb_in (List.mem_of_getElem? (i := 986) (by decide +kernel)) rfl
theorem ks_X8_isRight : Cond.selects RX8 yX8_isRight yX8_isRight ∈ gw := tb_sel (List.mem_of_getElem? (i := 81) (by decide +kernel)) rfl
abbrev mX8_right : my := (yX8_right, cX8_right, 1, (some .int))
theorem kx_X8_right : Cond.code mX8_right.1 mX8_right.2.1 mX8_right.2.2.1 mX8_right.2.2.2 ∈ gw := tb_in (List.mem_of_getElem? (i := 983) (by decide +kernel)) rfl
theorem cw_X8_right {y : my} {index d2 : Nat} : Cw y mX8_right index 0 d2 := ⟨kx_X8_right, tb_in (List.mem_of_getElem? (i := 10) (by decide +kernel)) rfl, by decide +kernel, by decide⟩
theorem ki_X8_right : Cond.instanceMethod yX8_right ∈ gw := tb_in (List.mem_of_getElem? (i := 981) (by decide +kernel)) rfl
theorem ks_X8_right : Cond.selects RX8 yX8_right yX8_right ∈ gw := tb_in (List.mem_of_getElem? (i := 982) (by decide +kernel)) rfl
abbrev mX8_findCycles : my := (yX8_findCycles, cX8_findCycles, 3, none)
theorem kx_X8_findCycles : Cond.code mX8_findCycles.1 mX8_findCycles.2.1 mX8_findCycles.2.2.1 mX8_findCycles.2.2.2 ∈ gw := tb_in (List.mem_of_getElem? (i := 999) (by decide +kernel)) rfl
theorem cw_X8_findCycles {y : my} {index d2 : Nat} : Cw y mX8_findCycles index 0 d2 := ⟨kx_X8_findCycles, tb_in (List.mem_of_getElem? (i := 10) (by decide +kernel)) rfl, by decide +kernel, by decide⟩
theorem ki_X8_findCycles : Cond.instanceMethod yX8_findCycles ∈ gw := tb_in (List.mem_of_getElem? (i := 998) (by decide +kernel)) rfl
theorem ks_X8_findCycles : Cond.selects RX8 yX8_findCycles yX8_findCycles ∈ gw := tb_sel (List.mem_of_getElem? (i := 83) (by decide +kernel)) rfl
abbrev mX8_swap : my := (yX8_swap, cX8_swap, 4, none)
theorem kx_X8_swap : Cond.code mX8_swap.1 mX8_swap.2.1 mX8_swap.2.2.1 mX8_swap.2.2.2 ∈ gw := tb_in (List.mem_of_getElem? (i := 995) (by decide +kernel)) rfl
theorem cw_X8_swap {y : my} {index d2 : Nat} : Cw y mX8_swap index 2 d2 := ⟨kx_X8_swap, tb_in (List.mem_of_getElem? (i := 10) (by decide +kernel)) rfl, by decide +kernel, by decide⟩
theorem ki_X8_swap : Cond.instanceMethod yX8_swap ∈ gw := tb_in (List.mem_of_getElem? (i := 994) (by decide +kernel)) rfl
theorem ks_X8_swap : Cond.selects RX8 yX8_swap yX8_swap ∈ gw := tb_sel (List.mem_of_getElem? (i := 82) (by decide +kernel)) rfl
abbrev mX8_exchange : my := (yX8_exchange, cX8_exchange, 3, (some .int))
theorem kx_X8_exchange : Cond.code mX8_exchange.1 mX8_exchange.2.1 mX8_exchange.2.2.1 mX8_exchange.2.2.2 ∈ gw := tb_in (List.mem_of_getElem? (i := 991) (by decide +kernel)) rfl
theorem cw_X8_exchange {y : my} {index d2 : Nat} : Cw y mX8_exchange index 2 d2 := ⟨kx_X8_exchange, tb_in (List.mem_of_getElem? (i := 10) (by decide +kernel)) rfl, by decide +kernel, by decide⟩
theorem ki_X8_exchange : Cond.instanceMethod yX8_exchange ∈ gw := tb_in (List.mem_of_getElem? (i := 989) (by decide +kernel)) rfl
theorem ks_X8_exchange : Cond.selects RX8 yX8_exchange yX8_exchange ∈ gw := tb_in (List.mem_of_getElem? (i := 990) (by decide +kernel)) rfl
abbrev mX8_back : my := (yX8_back, cX8_back, 1, (some .int))
theorem kx_X8_back : Cond.code mX8_back.1 mX8_back.2.1 mX8_back.2.2.1 mX8_back.2.2.2 ∈ gw := tb_in (List.mem_of_getElem? (i := 1003) (by decide +kernel)) rfl
theorem cw_X8_back {y : my} {index d2 : Nat} : Cw y mX8_back index 0 d2 := ⟨kx_X8_back, tb_in (List.mem_of_getElem? (i := 10) (by decide +kernel)) rfl, by decide +kernel, by decide⟩
theorem ki_X8_back : Cond.instanceMethod yX8_back ∈ gw := tb_in (List.mem_of_getElem? (i := 1001) (by decide +kernel)) rfl
theorem ks_X8_back : Cond.selects RX8 yX8_back yX8_back ∈ gw := tb_in (List.mem_of_getElem? (i := 1002) (by decide +kernel)) rfl
abbrev mX8_cycles : my := (yX8_cycles, cX8_cycles, 1, (some .int))
theorem kx_X8_cycles : Cond.code mX8_cycles.1 mX8_cycles.2.1 mX8_cycles.2.2.1 mX8_cycles.2.2.2 ∈ gw := tb_in (List.mem_of_getElem? (i := 1007) (by decide +kernel)) rfl
theorem cw_X8_cycles {y : my} {index d2 : Nat} : Cw y mX8_cycles index 0 d2 := ⟨kx_X8_cycles, tb_in (List.mem_of_getElem? (i := 10) (by decide +kernel)) rfl, by decide +kernel, by decide⟩
theorem ki_X8_cycles : Cond.instanceMethod yX8_cycles ∈ gw := tb_in (List.mem_of_getElem? (i := 1005) (by decide +kernel)) rfl
theorem ks_X8_cycles : Cond.selects RX8 yX8_cycles yX8_cycles ∈ gw := tb_in (List.mem_of_getElem? (i := 1006) (by decide +kernel)) rfl
abbrev mX8_cycleOf : my := (yX8_cycleOf, cX8_cycleOf, 2, (some .int))
theorem kx_X8_cycleOf : Cond.code mX8_cycleOf.1 mX8_cycleOf.2.1 mX8_cycleOf.2.2.1 mX8_cycleOf.2.2.2 ∈ gw := tb_in (List.mem_of_getElem? (i := 1011) (by decide +kernel)) rfl
theorem cw_X8_cycleOf {y : my} {index d2 : Nat} : Cw y mX8_cycleOf index 1 d2 := ⟨kx_X8_cycleOf, tb_in (List.mem_of_getElem? (i := 10) (by decide +kernel)) rfl, by decide +kernel, by decide⟩
theorem ki_X8_cycleOf : Cond.instanceMethod yX8_cycleOf ∈ gw := tb_in (List.mem_of_getElem? (i := 1009) (by decide +kernel)) rfl
theorem ks_X8_cycleOf : Cond.selects RX8 yX8_cycleOf yX8_cycleOf ∈ gw := tb_in (List.mem_of_getElem? (i := 1010) (by decide +kernel)) rfl
abbrev mX8_cycle : my := (yX8_cycle, cX8_cycle, 6, (some .int))
theorem kx_X8_cycle : Cond.code mX8_cycle.1 mX8_cycle.2.1 mX8_cycle.2.2.1 mX8_cycle.2.2.2 ∈ gw := tb_in (List.mem_of_getElem? (i := 1015) (by decide +kernel)) rfl
theorem cw_X8_cycle {y : my} {index d2 : Nat} : Cw y mX8_cycle index 2 d2 := ⟨kx_X8_cycle, tb_in (List.mem_of_getElem? (i := 10) (by decide +kernel)) rfl, by decide +kernel, by decide⟩
theorem ki_X8_cycle : Cond.instanceMethod yX8_cycle ∈ gw := tb_in (List.mem_of_getElem? (i := 1013) (by decide +kernel)) rfl
theorem ks_X8_cycle : Cond.selects RX8 yX8_cycle yX8_cycle ∈ gw := tb_in (List.mem_of_getElem? (i := 1014) (by decide +kernel)) rfl
abbrev mX8_groupOf : my := (yX8_groupOf, cX8_groupOf, 3, (some .int))
theorem kx_X8_groupOf : Cond.code mX8_groupOf.1 mX8_groupOf.2.1 mX8_groupOf.2.2.1 mX8_groupOf.2.2.2 ∈ gw := tb_in (List.mem_of_getElem? (i := 1027) (by decide +kernel)) rfl
theorem cw_X8_groupOf {y : my} {index d2 : Nat} : Cw y mX8_groupOf index 1 d2 := ⟨kx_X8_groupOf, tb_in (List.mem_of_getElem? (i := 10) (by decide +kernel)) rfl, by decide +kernel, by decide⟩
theorem ki_X8_groupOf : Cond.instanceMethod yX8_groupOf ∈ gw := tb_in (List.mem_of_getElem? (i := 1026) (by decide +kernel)) rfl
theorem ks_X8_groupOf : Cond.selects RX8 yX8_groupOf yX8_groupOf ∈ gw := tb_sel (List.mem_of_getElem? (i := 85) (by decide +kernel)) rfl
abbrev mX8_joins : my := (yX8_joins, cX8_joins, 7, (some .int))
theorem kx_X8_joins : Cond.code mX8_joins.1 mX8_joins.2.1 mX8_joins.2.2.1 mX8_joins.2.2.2 ∈ gw := tb_in (List.mem_of_getElem? (i := 1023) (by decide +kernel)) rfl
theorem cw_X8_joins {y : my} {index d2 : Nat} : Cw y mX8_joins index 1 d2 := ⟨kx_X8_joins, tb_in (List.mem_of_getElem? (i := 10) (by decide +kernel)) rfl, by decide +kernel, by decide⟩
theorem ki_X8_joins : Cond.instanceMethod yX8_joins ∈ gw := tb_in (List.mem_of_getElem? (i := 1022) (by decide +kernel)) rfl
theorem ks_X8_joins : Cond.selects RX8 yX8_joins yX8_joins ∈ gw := tb_sel (List.mem_of_getElem? (i := 84) (by decide +kernel)) rfl
abbrev mX8_join : my := (yX8_join, cX8_join, 1, (some .int))
theorem kx_X8_join : Cond.code mX8_join.1 mX8_join.2.1 mX8_join.2.2.1 mX8_join.2.2.2 ∈ gw := tb_in (List.mem_of_getElem? (i := 1019) (by decide +kernel)) rfl
theorem cw_X8_join {y : my} {index d2 : Nat} : Cw y mX8_join index 0 d2 := ⟨kx_X8_join, tb_in (List.mem_of_getElem? (i := 10) (by decide +kernel)) rfl, by decide +kernel, by decide⟩
theorem ki_X8_join : Cond.instanceMethod yX8_join ∈ gw := tb_in (List.mem_of_getElem? (i := 1017) (by decide +kernel)) rfl
theorem ks_X8_join : Cond.selects RX8 yX8_join yX8_join ∈ gw := tb_in (List.mem_of_getElem? (i := 1018) (by decide +kernel)) rfl
abbrev mX8_leastRound : my := (yX8_leastRound, cX8_leastRound, 6, none)
theorem kx_X8_leastRound : Cond.code mX8_leastRound.1 mX8_leastRound.2.1 mX8_leastRound.2.2.1 mX8_leastRound.2.2.2 ∈ gw := tb_in (List.mem_of_getElem? (i := 1035) (by decide +kernel)) rfl
theorem cw_X8_leastRound {y : my} {index d2 : Nat} : Cw y mX8_leastRound index 0 d2 := ⟨kx_X8_leastRound, tb_in (List.mem_of_getElem? (i := 10) (by decide +kernel)) rfl, by decide +kernel, by decide⟩
theorem ki_X8_leastRound : Cond.instanceMethod yX8_leastRound ∈ gw := tb_in (List.mem_of_getElem? (i := 1034) (by decide +kernel)) rfl
theorem ks_X8_leastRound : Cond.selects RX8 yX8_leastRound yX8_leastRound ∈ gw := tb_sel (List.mem_of_getElem? (i := 86) (by decide +kernel)) rfl
abbrev mX8_greedyRound : my := (yX8_greedyRound, cX8_greedyRound, 5, none)
theorem kx_X8_greedyRound : Cond.code mX8_greedyRound.1 mX8_greedyRound.2.1 mX8_greedyRound.2.2.1 mX8_greedyRound.2.2.2 ∈ gw := tb_in (List.mem_of_getElem? (i := 1039) (by decide +kernel)) rfl
theorem cw_X8_greedyRound {y : my} {index d2 : Nat} : Cw y mX8_greedyRound index 0 d2 := ⟨kx_X8_greedyRound, tb_in (List.mem_of_getElem? (i := 10) (by decide +kernel)) rfl, by decide +kernel, by decide⟩
theorem ki_X8_greedyRound : Cond.instanceMethod yX8_greedyRound ∈ gw := tb_in (List.mem_of_getElem? (i := 1038) (by decide +kernel)) rfl
theorem ks_X8_greedyRound : Cond.selects RX8 yX8_greedyRound yX8_greedyRound ∈ gw := tb_sel (List.mem_of_getElem? (i := 87) (by decide +kernel)) rfl
abbrev mX8_round : my := (yX8_round, cX8_round, 5, (some .int))
theorem kx_X8_round : Cond.code mX8_round.1 mX8_round.2.1 mX8_round.2.2.1 mX8_round.2.2.2 ∈ gw := tb_in (List.mem_of_getElem? (i := 1031) (by decide +kernel)) rfl
theorem cw_X8_round {y : my} {index d2 : Nat} : Cw y mX8_round index 1 d2 := ⟨kx_X8_round, tb_in (List.mem_of_getElem? (i := 10) (by decide +kernel)) rfl, by decide +kernel, by decide⟩
theorem ki_X8_round : Cond.instanceMethod yX8_round ∈ gw := tb_in (List.mem_of_getElem? (i := 1029) (by decide +kernel)) rfl
theorem ks_X8_round : Cond.selects RX8 yX8_round yX8_round ∈ gw := tb_in (List.mem_of_getElem? (i := 1030) (by decide +kernel)) rfl
abbrev mX8_letter : my := (yX8_letter, cX8_letter, 2, (some .int))
theorem kx_X8_letter : Cond.code mX8_letter.1 mX8_letter.2.1 mX8_letter.2.2.1 mX8_letter.2.2.2 ∈ gw := tb_in (List.mem_of_getElem? (i := 1043) (by decide +kernel)) rfl
theorem cw_X8_letter {y : my} {index d2 : Nat} : Cw y mX8_letter index 1 d2 := ⟨kx_X8_letter, tb_in (List.mem_of_getElem? (i := 10) (by decide +kernel)) rfl, by decide +kernel, by decide⟩
theorem ki_X8_letter : Cond.instanceMethod yX8_letter ∈ gw := tb_in (List.mem_of_getElem? (i := 1041) (by decide +kernel)) rfl
theorem ks_X8_letter : Cond.selects RX8 yX8_letter yX8_letter ∈ gw := tb_in (List.mem_of_getElem? (i := 1042) (by decide +kernel)) rfl
abbrev mX8_place : my := (yX8_place, cX8_place, 2, (some .int))
theorem kx_X8_place : Cond.code mX8_place.1 mX8_place.2.1 mX8_place.2.2.1 mX8_place.2.2.2 ∈ gw := tb_in (List.mem_of_getElem? (i := 1047) (by decide +kernel)) rfl
theorem cw_X8_place {y : my} {index d2 : Nat} : Cw y mX8_place index 1 d2 := ⟨kx_X8_place, tb_in (List.mem_of_getElem? (i := 10) (by decide +kernel)) rfl, by decide +kernel, by decide⟩
theorem ki_X8_place : Cond.instanceMethod yX8_place ∈ gw := tb_in (List.mem_of_getElem? (i := 1045) (by decide +kernel)) rfl
theorem ks_X8_place : Cond.selects RX8 yX8_place yX8_place ∈ gw := tb_in (List.mem_of_getElem? (i := 1046) (by decide +kernel)) rfl
abbrev mX8_way : my := (yX8_way, cX8_way, 3, (some .int))
theorem kx_X8_way : Cond.code mX8_way.1 mX8_way.2.1 mX8_way.2.2.1 mX8_way.2.2.2 ∈ gw := tb_in (List.mem_of_getElem? (i := 1051) (by decide +kernel)) rfl
theorem cw_X8_way {y : my} {index d2 : Nat} : Cw y mX8_way index 2 d2 := ⟨kx_X8_way, tb_in (List.mem_of_getElem? (i := 10) (by decide +kernel)) rfl, by decide +kernel, by decide⟩
theorem ki_X8_way : Cond.instanceMethod yX8_way ∈ gw := tb_in (List.mem_of_getElem? (i := 1049) (by decide +kernel)) rfl
theorem ks_X8_way : Cond.selects RX8 yX8_way yX8_way ∈ gw := tb_in (List.mem_of_getElem? (i := 1050) (by decide +kernel)) rfl
abbrev mX8_met : my := (yX8_met, cX8_met, 2, (some .int))
theorem kx_X8_met : Cond.code mX8_met.1 mX8_met.2.1 mX8_met.2.2.1 mX8_met.2.2.2 ∈ gw := tb_in (List.mem_of_getElem? (i := 1063) (by decide +kernel)) rfl
theorem cw_X8_met {y : my} {index d2 : Nat} : Cw y mX8_met index 1 d2 := ⟨kx_X8_met, tb_in (List.mem_of_getElem? (i := 10) (by decide +kernel)) rfl, by decide +kernel, by decide⟩
theorem ki_X8_met : Cond.instanceMethod yX8_met ∈ gw := tb_in (List.mem_of_getElem? (i := 1062) (by decide +kernel)) rfl
theorem ks_X8_met : Cond.selects RX8 yX8_met yX8_met ∈ gw := tb_sel (List.mem_of_getElem? (i := 88) (by decide +kernel)) rfl
abbrev mX8_isTape : my := (yX8_isTape, cX8_isTape, 1, (some .boolean))
theorem kx_X8_isTape : Cond.code mX8_isTape.1 mX8_isTape.2.1 mX8_isTape.2.2.1 mX8_isTape.2.2.2 ∈ gw := tb_in (List.mem_of_getElem? (i := 1058) (by decide +kernel)) rfl
theorem cw_X8_isTape {y : my} {index d2 : Nat} : Cw y mX8_isTape index 1 d2 := ⟨kx_X8_isTape, tb_in (List.mem_of_getElem? (i := 10) (by decide +kernel)) rfl, by decide +kernel, by decide⟩
theorem kt_X8_isTape : Cond.static yX8_isTape ∈ gw := tb_in (List.mem_of_getElem? (i := 1057) (by decide +kernel)) rfl
abbrev mX8_tape : my := (yX8_tape, cX8_tape, 5, (some .int))
theorem kx_X8_tape : Cond.code mX8_tape.1 mX8_tape.2.1 mX8_tape.2.2.1 mX8_tape.2.2.2 ∈ gw := tb_in (List.mem_of_getElem? (i := 1055) (by decide +kernel)) rfl
theorem cw_X8_tape {y : my} {index d2 : Nat} : Cw y mX8_tape index 3 d2 := ⟨kx_X8_tape, tb_in (List.mem_of_getElem? (i := 10) (by decide +kernel)) rfl, by decide +kernel, by decide⟩
theorem ki_X8_tape : Cond.instanceMethod yX8_tape ∈ gw := tb_in (List.mem_of_getElem? (i := 1053) (by decide +kernel)) rfl
theorem ks_X8_tape : Cond.selects RX8 yX8_tape yX8_tape ∈ gw := tb_in (List.mem_of_getElem? (i := 1054) (by decide +kernel)) rfl
abbrev mX8_lose : my := (yX8_lose, cX8_lose, 2, (some .int))
theorem kx_X8_lose : Cond.code mX8_lose.1 mX8_lose.2.1 mX8_lose.2.2.1 mX8_lose.2.2.2 ∈ gw := tb_in (List.mem_of_getElem? (i := 1067) (by decide +kernel)) rfl
theorem cw_X8_lose {y : my} {index d2 : Nat} : Cw y mX8_lose index 1 d2 := ⟨kx_X8_lose, tb_in (List.mem_of_getElem? (i := 10) (by decide +kernel)) rfl, by decide +kernel, by decide⟩
theorem ki_X8_lose : Cond.instanceMethod yX8_lose ∈ gw := tb_in (List.mem_of_getElem? (i := 1065) (by decide +kernel)) rfl
theorem ks_X8_lose : Cond.selects RX8 yX8_lose yX8_lose ∈ gw := tb_in (List.mem_of_getElem? (i := 1066) (by decide +kernel)) rfl
abbrev mX8_lacks : my := (yX8_lacks, cX8_lacks, 4, (some .int))
theorem kx_X8_lacks : Cond.code mX8_lacks.1 mX8_lacks.2.1 mX8_lacks.2.2.1 mX8_lacks.2.2.2 ∈ gw := tb_in (List.mem_of_getElem? (i := 1075) (by decide +kernel)) rfl
theorem cw_X8_lacks {y : my} {index d2 : Nat} : Cw y mX8_lacks index 3 d2 := ⟨kx_X8_lacks, tb_in (List.mem_of_getElem? (i := 10) (by decide +kernel)) rfl, by decide +kernel, by decide⟩
theorem ki_X8_lacks : Cond.instanceMethod yX8_lacks ∈ gw := tb_in (List.mem_of_getElem? (i := 1074) (by decide +kernel)) rfl
theorem ks_X8_lacks : Cond.selects RX8 yX8_lacks yX8_lacks ∈ gw := tb_sel (List.mem_of_getElem? (i := 89) (by decide +kernel)) rfl
abbrev mX8_put : my := (yX8_put, cX8_put, 6, (some .int))
theorem kx_X8_put : Cond.code mX8_put.1 mX8_put.2.1 mX8_put.2.2.1 mX8_put.2.2.2 ∈ gw := tb_in (List.mem_of_getElem? (i := 1071) (by decide +kernel)) rfl
theorem cw_X8_put {y : my} {index d2 : Nat} : Cw y mX8_put index 4 d2 := ⟨kx_X8_put, tb_in (List.mem_of_getElem? (i := 10) (by decide +kernel)) rfl, by decide +kernel, by decide⟩
theorem ki_X8_put : Cond.instanceMethod yX8_put ∈ gw := tb_in (List.mem_of_getElem? (i := 1069) (by decide +kernel)) rfl
theorem ks_X8_put : Cond.selects RX8 yX8_put yX8_put ∈ gw := tb_in (List.mem_of_getElem? (i := 1070) (by decide +kernel)) rfl
abbrev mX8_get : my := (yX8_get, cX8_get, 4, (some .int))
theorem kx_X8_get : Cond.code mX8_get.1 mX8_get.2.1 mX8_get.2.2.1 mX8_get.2.2.2 ∈ gw := tb_in (List.mem_of_getElem? (i := 1080) (by decide +kernel)) rfl
theorem cw_X8_get {y : my} {index d2 : Nat} : Cw y mX8_get index 3 d2 := ⟨kx_X8_get, tb_in (List.mem_of_getElem? (i := 10) (by decide +kernel)) rfl, by decide +kernel, by decide⟩
theorem ki_X8_get : Cond.instanceMethod yX8_get ∈ gw := tb_in (List.mem_of_getElem? (i := 1078) (by decide +kernel)) rfl
theorem ks_X8_get : Cond.selects RX8 yX8_get yX8_get ∈ gw := tb_in (List.mem_of_getElem? (i := 1079) (by decide +kernel)) rfl
abbrev mX8_isWithin : my := (yX8_isWithin, cX8_isWithin, 4, (some .boolean))
theorem kx_X8_isWithin : Cond.code mX8_isWithin.1 mX8_isWithin.2.1 mX8_isWithin.2.2.1 mX8_isWithin.2.2.2 ∈ gw := tb_in (List.mem_of_getElem? (i := 1089) (by decide +kernel)) rfl
theorem cw_X8_isWithin {y : my} {index d2 : Nat} : Cw y mX8_isWithin index 3 d2 := ⟨kx_X8_isWithin, tb_in (List.mem_of_getElem? (i := 10) (by decide +kernel)) rfl, by decide +kernel, by decide⟩
theorem ki_X8_isWithin : Cond.instanceMethod yX8_isWithin ∈ gw := tb_in (List.mem_of_getElem? (i := 1088) (by decide +kernel)) rfl
theorem ks_X8_isWithin : Cond.selects RX8 yX8_isWithin yX8_isWithin ∈ gw := tb_sel (List.mem_of_getElem? (i := 90) (by decide +kernel)) rfl
abbrev mX8_copy : my := (yX8_copy, cX8_copy, 7, (some .int))
theorem kx_X8_copy : Cond.code mX8_copy.1 mX8_copy.2.1 mX8_copy.2.2.1 mX8_copy.2.2.2 ∈ gw := tb_in (List.mem_of_getElem? (i := 1085) (by decide +kernel)) rfl
theorem cw_X8_copy {y : my} {index d2 : Nat} : Cw y mX8_copy index 5 d2 := ⟨kx_X8_copy, tb_in (List.mem_of_getElem? (i := 10) (by decide +kernel)) rfl, by decide +kernel, by decide⟩
theorem ki_X8_copy : Cond.instanceMethod yX8_copy ∈ gw := tb_in (List.mem_of_getElem? (i := 1083) (by decide +kernel)) rfl
theorem ks_X8_copy : Cond.selects RX8 yX8_copy yX8_copy ∈ gw := tb_in (List.mem_of_getElem? (i := 1084) (by decide +kernel)) rfl
abbrev mX8_print : my := (yX8_print, cX8_print, 6, (some .int))
theorem kx_X8_print : Cond.code mX8_print.1 mX8_print.2.1 mX8_print.2.2.1 mX8_print.2.2.2 ∈ gw := tb_in (List.mem_of_getElem? (i := 1093) (by decide +kernel)) rfl
theorem cw_X8_print {y : my} {index d2 : Nat} : Cw y mX8_print index 4 d2 := ⟨kx_X8_print, tb_in (List.mem_of_getElem? (i := 10) (by decide +kernel)) rfl, by decide +kernel, by decide⟩
theorem ki_X8_print : Cond.instanceMethod yX8_print ∈ gw := tb_in (List.mem_of_getElem? (i := 1091) (by decide +kernel)) rfl
theorem ks_X8_print : Cond.selects RX8 yX8_print yX8_print ∈ gw := tb_in (List.mem_of_getElem? (i := 1092) (by decide +kernel)) rfl
abbrev mX8_find : my := (yX8_find, cX8_find, 10, (some .int))
theorem kx_X8_find : Cond.code mX8_find.1 mX8_find.2.1 mX8_find.2.2.1 mX8_find.2.2.2 ∈ gw := tb_in (List.mem_of_getElem? (i := 1097) (by decide +kernel)) rfl
theorem cw_X8_find {y : my} {index d2 : Nat} : Cw y mX8_find index 4 d2 := ⟨kx_X8_find, tb_in (List.mem_of_getElem? (i := 10) (by decide +kernel)) rfl, by decide +kernel, by decide⟩
theorem ki_X8_find : Cond.instanceMethod yX8_find ∈ gw := tb_in (List.mem_of_getElem? (i := 1095) (by decide +kernel)) rfl
theorem ks_X8_find : Cond.selects RX8 yX8_find yX8_find ∈ gw := tb_in (List.mem_of_getElem? (i := 1096) (by decide +kernel)) rfl
abbrev mX8_found : my := (yX8_found, cX8_found, 1, (some .int))
theorem kx_X8_found : Cond.code mX8_found.1 mX8_found.2.1 mX8_found.2.2.1 mX8_found.2.2.2 ∈ gw := tb_in (List.mem_of_getElem? (i := 1102) (by decide +kernel)) rfl
theorem cw_X8_found {y : my} {index d2 : Nat} : Cw y mX8_found index 0 d2 := ⟨kx_X8_found, tb_in (List.mem_of_getElem? (i := 10) (by decide +kernel)) rfl, by decide +kernel, by decide⟩
theorem ki_X8_found : Cond.instanceMethod yX8_found ∈ gw := tb_in (List.mem_of_getElem? (i := 1100) (by decide +kernel)) rfl
theorem ks_X8_found : Cond.selects RX8 yX8_found yX8_found ∈ gw := tb_in (List.mem_of_getElem? (i := 1101) (by decide +kernel)) rfl
abbrev mX8_noLetters : my := (yX8_noLetters, cX8_noLetters, 4, (some .int))
theorem kx_X8_noLetters : Cond.code mX8_noLetters.1 mX8_noLetters.2.1 mX8_noLetters.2.2.1 mX8_noLetters.2.2.2 ∈ gw := tb_in (List.mem_of_getElem? (i := 1110) (by decide +kernel)) rfl
theorem cw_X8_noLetters {y : my} {index d2 : Nat} : Cw y mX8_noLetters index 1 d2 := ⟨kx_X8_noLetters, tb_in (List.mem_of_getElem? (i := 10) (by decide +kernel)) rfl, by decide +kernel, by decide⟩
theorem ki_X8_noLetters : Cond.instanceMethod yX8_noLetters ∈ gw := tb_in (List.mem_of_getElem? (i := 1109) (by decide +kernel)) rfl
theorem ks_X8_noLetters : Cond.selects RX8 yX8_noLetters yX8_noLetters ∈ gw := tb_sel (List.mem_of_getElem? (i := 91) (by decide +kernel)) rfl
abbrev mX8_twice : my := (yX8_twice, cX8_twice, 7, (some .int))
theorem kx_X8_twice : Cond.code mX8_twice.1 mX8_twice.2.1 mX8_twice.2.2.1 mX8_twice.2.2.2 ∈ gw := tb_in (List.mem_of_getElem? (i := 1106) (by decide +kernel)) rfl
theorem cw_X8_twice {y : my} {index d2 : Nat} : Cw y mX8_twice index 1 d2 := ⟨kx_X8_twice, tb_in (List.mem_of_getElem? (i := 10) (by decide +kernel)) rfl, by decide +kernel, by decide⟩
theorem ki_X8_twice : Cond.instanceMethod yX8_twice ∈ gw := tb_in (List.mem_of_getElem? (i := 1104) (by decide +kernel)) rfl
theorem ks_X8_twice : Cond.selects RX8 yX8_twice yX8_twice ∈ gw := tb_in (List.mem_of_getElem? (i := 1105) (by decide +kernel)) rfl
abbrev mX8_parts : my := (yX8_parts, cX8_parts, 8, (some .int))
theorem kx_X8_parts : Cond.code mX8_parts.1 mX8_parts.2.1 mX8_parts.2.2.1 mX8_parts.2.2.2 ∈ gw := tb_in (List.mem_of_getElem? (i := 1114) (by decide +kernel)) rfl
theorem cw_X8_parts {y : my} {index d2 : Nat} : Cw y mX8_parts index 1 d2 := ⟨kx_X8_parts, tb_in (List.mem_of_getElem? (i := 10) (by decide +kernel)) rfl, by decide +kernel, by decide⟩
theorem ki_X8_parts : Cond.instanceMethod yX8_parts ∈ gw := tb_in (List.mem_of_getElem? (i := 1112) (by decide +kernel)) rfl
theorem ks_X8_parts : Cond.selects RX8 yX8_parts yX8_parts ∈ gw := tb_in (List.mem_of_getElem? (i := 1113) (by decide +kernel)) rfl
abbrev mX8_part : my := (yX8_part, cX8_part, 2, (some .int))
theorem kx_X8_part : Cond.code mX8_part.1 mX8_part.2.1 mX8_part.2.2.1 mX8_part.2.2.2 ∈ gw := tb_in (List.mem_of_getElem? (i := 1118) (by decide +kernel)) rfl
theorem cw_X8_part {y : my} {index d2 : Nat} : Cw y mX8_part index 1 d2 := ⟨kx_X8_part, tb_in (List.mem_of_getElem? (i := 10) (by decide +kernel)) rfl, by decide +kernel, by decide⟩
theorem ki_X8_part : Cond.instanceMethod yX8_part ∈ gw := tb_in (List.mem_of_getElem? (i := 1116) (by decide +kernel)) rfl
theorem ks_X8_part : Cond.selects RX8 yX8_part yX8_part ∈ gw := tb_in (List.mem_of_getElem? (i := 1117) (by decide +kernel)) rfl
abbrev mX8_inverse : my := (yX8_inverse, cX8_inverse, 3, (some .int))
theorem kx_X8_inverse : Cond.code mX8_inverse.1 mX8_inverse.2.1 mX8_inverse.2.2.1 mX8_inverse.2.2.2 ∈ gw := tb_in (List.mem_of_getElem? (i := 1130) (by decide +kernel)) rfl
theorem cw_X8_inverse {y : my} {index d2 : Nat} : Cw y mX8_inverse index 1 d2 := ⟨kx_X8_inverse, tb_in (List.mem_of_getElem? (i := 10) (by decide +kernel)) rfl, by decide +kernel, by decide⟩
theorem ki_X8_inverse : Cond.instanceMethod yX8_inverse ∈ gw := tb_in (List.mem_of_getElem? (i := 1129) (by decide +kernel)) rfl
theorem ks_X8_inverse : Cond.selects RX8 yX8_inverse yX8_inverse ∈ gw := tb_sel (List.mem_of_getElem? (i := 93) (by decide +kernel)) rfl
abbrev mX8_leastLength : my := (yX8_leastLength, cX8_leastLength, 10, (some .int))
theorem kx_X8_leastLength : Cond.code mX8_leastLength.1 mX8_leastLength.2.1 mX8_leastLength.2.2.1 mX8_leastLength.2.2.2 ∈ gw := tb_in (List.mem_of_getElem? (i := 1126) (by decide +kernel)) rfl
theorem cw_X8_leastLength {y : my} {index d2 : Nat} : Cw y mX8_leastLength index 1 d2 := ⟨kx_X8_leastLength, tb_in (List.mem_of_getElem? (i := 10) (by decide +kernel)) rfl, by decide +kernel, by decide⟩
theorem ki_X8_leastLength : Cond.instanceMethod yX8_leastLength ∈ gw := tb_in (List.mem_of_getElem? (i := 1125) (by decide +kernel)) rfl
theorem ks_X8_leastLength : Cond.selects RX8 yX8_leastLength yX8_leastLength ∈ gw := tb_sel (List.mem_of_getElem? (i := 92) (by decide +kernel)) rfl
abbrev mX8_solve : my := (yX8_solve, cX8_solve, 13, none)
theorem kx_X8_solve : Cond.code mX8_solve.1 mX8_solve.2.1 mX8_solve.2.2.1 mX8_solve.2.2.2 ∈ gw := tb_in (List.mem_of_getElem? (i := 1134) (by decide +kernel)) rfl
theorem cw_X8_solve {y : my} {index d2 : Nat} : Cw y mX8_solve index 2 d2 := ⟨kx_X8_solve, tb_in (List.mem_of_getElem? (i := 10) (by decide +kernel)) rfl, by decide +kernel, by decide⟩
theorem ki_X8_solve : Cond.instanceMethod yX8_solve ∈ gw := tb_in (List.mem_of_getElem? (i := 1133) (by decide +kernel)) rfl
theorem ks_X8_solve : Cond.selects RX8 yX8_solve yX8_solve ∈ gw := tb_sel (List.mem_of_getElem? (i := 94) (by decide +kernel)) rfl
abbrev mX8_recurrence : my := (yX8_recurrence, cX8_recurrence, 2, (some .int))
theorem kx_X8_recurrence : Cond.code mX8_recurrence.1 mX8_recurrence.2.1 mX8_recurrence.2.2.1 mX8_recurrence.2.2.2 ∈ gw := tb_in (List.mem_of_getElem? (i := 1122) (by decide +kernel)) rfl
theorem cw_X8_recurrence {y : my} {index d2 : Nat} : Cw y mX8_recurrence index 1 d2 := ⟨kx_X8_recurrence, tb_in (List.mem_of_getElem? (i := 10) (by decide +kernel)) rfl, by decide +kernel, by decide⟩
theorem ki_X8_recurrence : Cond.instanceMethod yX8_recurrence ∈ gw := tb_in (List.mem_of_getElem? (i := 1120) (by decide +kernel)) rfl
theorem ks_X8_recurrence : Cond.selects RX8 yX8_recurrence yX8_recurrence ∈ gw := tb_in (List.mem_of_getElem? (i := 1121) (by decide +kernel)) rfl
abbrev mX8_coefficient : my := (yX8_coefficient, cX8_coefficient, 2, (some .int))
theorem kx_X8_coefficient : Cond.code mX8_coefficient.1 mX8_coefficient.2.1 mX8_coefficient.2.2.1 mX8_coefficient.2.2.2 ∈ gw := tb_in (List.mem_of_getElem? (i := 1138) (by decide +kernel)) rfl
theorem cw_X8_coefficient {y : my} {index d2 : Nat} : Cw y mX8_coefficient index 1 d2 := ⟨kx_X8_coefficient, tb_in (List.mem_of_getElem? (i := 10) (by decide +kernel)) rfl, by decide +kernel, by decide⟩
theorem ki_X8_coefficient : Cond.instanceMethod yX8_coefficient ∈ gw := tb_in (List.mem_of_getElem? (i := 1136) (by decide +kernel)) rfl
theorem ks_X8_coefficient : Cond.selects RX8 yX8_coefficient yX8_coefficient ∈ gw := tb_in (List.mem_of_getElem? (i := 1137) (by decide +kernel)) rfl
abbrev mX8_count : my := (yX8_count, cX8_count, 2, (some .int))
theorem kx_X8_count : Cond.code mX8_count.1 mX8_count.2.1 mX8_count.2.2.1 mX8_count.2.2.2 ∈ gw := tb_in (List.mem_of_getElem? (i := 1142) (by decide +kernel)) rfl
theorem cw_X8_count {y : my} {index d2 : Nat} : Cw y mX8_count index 1 d2 := ⟨kx_X8_count, tb_in (List.mem_of_getElem? (i := 10) (by decide +kernel)) rfl, by decide +kernel, by decide⟩
theorem ki_X8_count : Cond.instanceMethod yX8_count ∈ gw := tb_in (List.mem_of_getElem? (i := 1140) (by decide +kernel)) rfl
theorem ks_X8_count : Cond.selects RX8 yX8_count yX8_count ∈ gw := tb_in (List.mem_of_getElem? (i := 1141) (by decide +kernel)) rfl
abbrev mX8_digest : my := (yX8_digest, cX8_digest, 4, (some .long))
theorem kx_X8_digest : Cond.code mX8_digest.1 mX8_digest.2.1 mX8_digest.2.2.1 mX8_digest.2.2.2 ∈ gw := tb_in (List.mem_of_getElem? (i := 1146) (by decide +kernel)) rfl
theorem cw_X8_digest {y : my} {index d2 : Nat} : Cw y mX8_digest index 0 d2 := ⟨kx_X8_digest, tb_in (List.mem_of_getElem? (i := 10) (by decide +kernel)) rfl, by decide +kernel, by decide⟩
theorem ki_X8_digest : Cond.instanceMethod yX8_digest ∈ gw := tb_in (List.mem_of_getElem? (i := 1144) (by decide +kernel)) rfl
theorem ks_X8_digest : Cond.selects RX8 yX8_digest yX8_digest ∈ gw := tb_in (List.mem_of_getElem? (i := 1145) (by decide +kernel)) rfl
abbrev mJ13_bitCount_95d88 : my := (yJ13_bitCount_95d88, cJ13_bitCount_95d88, 2, (some .int))
theorem kx_J13_bitCount_95d88 : Cond.code mJ13_bitCount_95d88.1 mJ13_bitCount_95d88.2.1 mJ13_bitCount_95d88.2.2.1 mJ13_bitCount_95d88.2.2.2 ∈ gw := tb_in (List.mem_of_getElem? (i := 698) (by decide +kernel)) rfl
theorem cw_J13_bitCount_95d88 {y : my} {index d2 : Nat} : Cw y mJ13_bitCount_95d88 index 1 d2 := ⟨kx_J13_bitCount_95d88, tb_in (List.mem_of_getElem? (i := 13) (by decide +kernel)) rfl, by decide +kernel, by decide⟩
theorem kt_J13_bitCount_95d88 : Cond.static yJ13_bitCount_95d88 ∈ gw := tb_in (List.mem_of_getElem? (i := 697) (by decide +kernel)) rfl
abbrev mJ9_min_7cf53 : my := (yJ9_min_7cf53, cJ9_min_7cf53, 2, (some .int))
theorem kx_J9_min_7cf53 : Cond.code mJ9_min_7cf53.1 mJ9_min_7cf53.2.1 mJ9_min_7cf53.2.2.1 mJ9_min_7cf53.2.2.2 ∈ gw := tb_in (List.mem_of_getElem? (i := 315) (by decide +kernel)) rfl
theorem cw_J9_min_7cf53 {y : my} {index d2 : Nat} : Cw y mJ9_min_7cf53 index 2 d2 := ⟨kx_J9_min_7cf53, tb_in (List.mem_of_getElem? (i := 11) (by decide +kernel)) rfl, by decide +kernel, by decide⟩
theorem kt_J9_min_7cf53 : Cond.static yJ9_min_7cf53 ∈ gw := tb_in (List.mem_of_getElem? (i := 314) (by decide +kernel)) rfl
abbrev mJ7_rangeCheck_23922 : my := (yJ7_rangeCheck_23922, cJ7_rangeCheck_23922, 3, none)
theorem kx_J7_rangeCheck_23922 : Cond.code mJ7_rangeCheck_23922.1 mJ7_rangeCheck_23922.2.1 mJ7_rangeCheck_23922.2.2.1 mJ7_rangeCheck_23922.2.2.2 ∈ gw := tb_in (List.mem_of_getElem? (i := 371) (by decide +kernel)) rfl
theorem cw_J7_rangeCheck_23922 {y : my} {index d2 : Nat} : Cw y mJ7_rangeCheck_23922 index 3 d2 := ⟨kx_J7_rangeCheck_23922, tb_in (List.mem_of_getElem? (i := 5) (by decide +kernel)) rfl, by decide +kernel, by decide⟩
theorem kt_J7_rangeCheck_23922 : Cond.static yJ7_rangeCheck_23922 ∈ gw := tb_in (List.mem_of_getElem? (i := 370) (by decide +kernel)) rfl
abbrev mJ7_fill_d0a16 : my := (yJ7_fill_d0a16, cJ7_fill_d0a16, 5, none)
theorem kx_J7_fill_d0a16 : Cond.code mJ7_fill_d0a16.1 mJ7_fill_d0a16.2.1 mJ7_fill_d0a16.2.2.1 mJ7_fill_d0a16.2.2.2 ∈ gw := tb_in (List.mem_of_getElem? (i := 690) (by decide +kernel)) rfl
theorem cw_J7_fill_d0a16 {y : my} {index d2 : Nat} : Cw y mJ7_fill_d0a16 index 2 d2 := ⟨kx_J7_fill_d0a16, tb_in (List.mem_of_getElem? (i := 5) (by decide +kernel)) rfl, by decide +kernel, by decide⟩
theorem kt_J7_fill_d0a16 : Cond.static yJ7_fill_d0a16 ∈ gw := tb_in (List.mem_of_getElem? (i := 689) (by decide +kernel)) rfl
abbrev mJ7_fill_53178 : my := (yJ7_fill_53178, cJ7_fill_53178, 4, none)
theorem kx_J7_fill_53178 : Cond.code mJ7_fill_53178.1 mJ7_fill_53178.2.1 mJ7_fill_53178.2.2.1 mJ7_fill_53178.2.2.2 ∈ gw := tb_in (List.mem_of_getElem? (i := 98) (by decide +kernel)) rfl
theorem cw_J7_fill_53178 {y : my} {index d2 : Nat} : Cw y mJ7_fill_53178 index 2 d2 := ⟨kx_J7_fill_53178, tb_in (List.mem_of_getElem? (i := 5) (by decide +kernel)) rfl, by decide +kernel, by decide⟩
theorem kt_J7_fill_53178 : Cond.static yJ7_fill_53178 ∈ gw := tb_in (List.mem_of_getElem? (i := 97) (by decide +kernel)) rfl
abbrev mJ7_fill_fda19 : my := (yJ7_fill_fda19, cJ7_fill_fda19, 5, none)
theorem kx_J7_fill_fda19 : Cond.code mJ7_fill_fda19.1 mJ7_fill_fda19.2.1 mJ7_fill_fda19.2.2.1 mJ7_fill_fda19.2.2.2 ∈ gw := tb_in (List.mem_of_getElem? (i := 368) (by decide +kernel)) rfl
theorem cw_J7_fill_fda19 {y : my} {index d2 : Nat} : Cw y mJ7_fill_fda19 index 4 d2 := ⟨kx_J7_fill_fda19, tb_in (List.mem_of_getElem? (i := 5) (by decide +kernel)) rfl, by decide +kernel, by decide⟩
theorem kt_J7_fill_fda19 : Cond.static yJ7_fill_fda19 ∈ gw := tb_in (List.mem_of_getElem? (i := 367) (by decide +kernel)) rfl
abbrev mJ7_fill_eb02e : my := (yJ7_fill_eb02e, cJ7_fill_eb02e, 5, none)
theorem kx_J7_fill_eb02e : Cond.code mJ7_fill_eb02e.1 mJ7_fill_eb02e.2.1 mJ7_fill_eb02e.2.2.1 mJ7_fill_eb02e.2.2.2 ∈ gw := tb_in (List.mem_of_getElem? (i := 578) (by decide +kernel)) rfl
theorem cw_J7_fill_eb02e {y : my} {index d2 : Nat} : Cw y mJ7_fill_eb02e index 4 d2 := ⟨kx_J7_fill_eb02e, tb_in (List.mem_of_getElem? (i := 5) (by decide +kernel)) rfl, by decide +kernel, by decide⟩
theorem kt_J7_fill_eb02e : Cond.static yJ7_fill_eb02e ∈ gw := tb_in (List.mem_of_getElem? (i := 577) (by decide +kernel)) rfl
abbrev mL_law : my := (yL_law, cL_law, 4, (some .boolean))
