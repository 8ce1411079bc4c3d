section
-- ===== PART A: goes FIRST, ahead of the names: the tables' words, and 'selects' of the private methods out of them =====
/-- a private method of a class that the tables say can be made, by its rows of tables_1 -/
def lw_okq (q : MethodName × Nat) : Prop := (q.1.cls ≠ "java/lang/invoke/MethodHandle" ∧ q.1.cls ≠ "java/lang/invoke/VarHandle") ∧ Cond.instantiable q.1.cls q.2 ∈ tables_1 ∧ Cond.privateMethod q.1 ∈ tables_1 ∧ Cond.instanceMethod q.1 ∈ tables_1
theorem lw_p0 : lw_okq (⟨"WordWheel$Words", "become", "(II)V"⟩, 5) := ⟨⟨by decide +kernel, by decide +kernel⟩, List.mem_of_getElem? (i := 23) (by decide +kernel), List.mem_of_getElem? (i := 29) (by decide +kernel), List.mem_of_getElem? (i := 30) (by decide +kernel)⟩
theorem lw_p1 : lw_okq (⟨"WordWheel$Register", "becomeTurning", "()V"⟩, 14) := ⟨⟨by decide +kernel, by decide +kernel⟩, List.mem_of_getElem? (i := 87) (by decide +kernel), List.mem_of_getElem? (i := 93) (by decide +kernel), List.mem_of_getElem? (i := 94) (by decide +kernel)⟩
theorem lw_p2 : lw_okq (⟨"WordWheel$Register", "forgetExchanges", "()V"⟩, 14) := ⟨⟨by decide +kernel, by decide +kernel⟩, List.mem_of_getElem? (i := 87) (by decide +kernel), List.mem_of_getElem? (i := 100) (by decide +kernel), List.mem_of_getElem? (i := 101) (by decide +kernel)⟩
theorem lw_p3 : lw_okq (⟨"WordWheel$Round", "drop", "()V"⟩, 8) := ⟨⟨by decide +kernel, by decide +kernel⟩, List.mem_of_getElem? (i := 148) (by decide +kernel), List.mem_of_getElem? (i := 286) (by decide +kernel), List.mem_of_getElem? (i := 287) (by decide +kernel)⟩
theorem lw_p4 : lw_okq (⟨"WordWheel$Words", "has", "(I)Z"⟩, 5) := ⟨⟨by decide +kernel, by decide +kernel⟩, List.mem_of_getElem? (i := 23) (by decide +kernel), List.mem_of_getElem? (i := 294) (by decide +kernel), List.mem_of_getElem? (i := 295) (by decide +kernel)⟩
theorem lw_p5 : lw_okq (⟨"WordWheel$Words", "turned", "(II)I"⟩, 5) := ⟨⟨by decide +kernel, by decide +kernel⟩, List.mem_of_getElem? (i := 23) (by decide +kernel), List.mem_of_getElem? (i := 298) (by decide +kernel), List.mem_of_getElem? (i := 299) (by decide +kernel)⟩
theorem lw_p6 : lw_okq (⟨"WordWheel$Words", "leastOf", "(I)I"⟩, 5) := ⟨⟨by decide +kernel, by decide +kernel⟩, List.mem_of_getElem? (i := 23) (by decide +kernel), List.mem_of_getElem? (i := 306) (by decide +kernel), List.mem_of_getElem? (i := 307) (by decide +kernel)⟩
theorem lw_p7 : lw_okq (⟨"WordWheel$Words", "turnedOnce", "(I)I"⟩, 5) := ⟨⟨by decide +kernel, by decide +kernel⟩, List.mem_of_getElem? (i := 23) (by decide +kernel), List.mem_of_getElem? (i := 310) (by decide +kernel), List.mem_of_getElem? (i := 311) (by decide +kernel)⟩
theorem lw_p8 : lw_okq (⟨"WordWheel$Words", "stepsToLeast", "(I)I"⟩, 5) := ⟨⟨by decide +kernel, by decide +kernel⟩, List.mem_of_getElem? (i := 23) (by decide +kernel), List.mem_of_getElem? (i := 321) (by decide +kernel), List.mem_of_getElem? (i := 322) (by decide +kernel)⟩
theorem lw_p9 : lw_okq (⟨"WordWheel$Words", "ringSize", "(I)I"⟩, 5) := ⟨⟨by decide +kernel, by decide +kernel⟩, List.mem_of_getElem? (i := 23) (by decide +kernel), List.mem_of_getElem? (i := 329) (by decide +kernel), List.mem_of_getElem? (i := 330) (by decide +kernel)⟩
theorem lw_p10 : lw_okq (⟨"WordWheel$Words", "backward", "(I)I"⟩, 5) := ⟨⟨by decide +kernel, by decide +kernel⟩, List.mem_of_getElem? (i := 23) (by decide +kernel), List.mem_of_getElem? (i := 337) (by decide +kernel), List.mem_of_getElem? (i := 338) (by decide +kernel)⟩
theorem lw_p11 : lw_okq (⟨"WordWheel$RingCounter", "ringsUpTo", "(I)I"⟩, 4) := ⟨⟨by decide +kernel, by decide +kernel⟩, List.mem_of_getElem? (i := 68) (by decide +kernel), List.mem_of_getElem? (i := 345) (by decide +kernel), List.mem_of_getElem? (i := 346) (by decide +kernel)⟩
theorem lw_p12 : lw_okq (⟨"WordWheel$RingCounter", "greatestRepeated", "(II)I"⟩, 4) := ⟨⟨by decide +kernel, by decide +kernel⟩, List.mem_of_getElem? (i := 68) (by decide +kernel), List.mem_of_getElem? (i := 351) (by decide +kernel), List.mem_of_getElem? (i := 352) (by decide +kernel)⟩
theorem lw_p13 : lw_okq (⟨"WordWheel$RingCounter", "wordsUpTo", "(II)I"⟩, 4) := ⟨⟨by decide +kernel, by decide +kernel⟩, List.mem_of_getElem? (i := 68) (by decide +kernel), List.mem_of_getElem? (i := 355) (by decide +kernel), List.mem_of_getElem? (i := 356) (by decide +kernel)⟩
theorem lw_p14 : lw_okq (⟨"WordWheel$RingCounter", "lowerToBeginning", "(I)V"⟩, 4) := ⟨⟨by decide +kernel, by decide +kernel⟩, List.mem_of_getElem? (i := 68) (by decide +kernel), List.mem_of_getElem? (i := 359) (by decide +kernel), List.mem_of_getElem? (i := 360) (by decide +kernel)⟩
theorem lw_p15 : lw_okq (⟨"WordWheel$RingCounter", "firstFault", "(I)I"⟩, 4) := ⟨⟨by decide +kernel, by decide +kernel⟩, List.mem_of_getElem? (i := 68) (by decide +kernel), List.mem_of_getElem? (i := 363) (by decide +kernel), List.mem_of_getElem? (i := 364) (by decide +kernel)⟩
def lw_privs_1 : List (MethodName × Nat) := [(⟨"WordWheel$Words", "become", "(II)V"⟩, 5), (⟨"WordWheel$Register", "becomeTurning", "()V"⟩, 14), (⟨"WordWheel$Register", "forgetExchanges", "()V"⟩, 14), (⟨"WordWheel$Round", "drop", "()V"⟩, 8), (⟨"WordWheel$Words", "has", "(I)Z"⟩, 5), (⟨"WordWheel$Words", "turned", "(II)I"⟩, 5), (⟨"WordWheel$Words", "leastOf", "(I)I"⟩, 5), (⟨"WordWheel$Words", "turnedOnce", "(I)I"⟩, 5), (⟨"WordWheel$Words", "stepsToLeast", "(I)I"⟩, 5), (⟨"WordWheel$Words", "ringSize", "(I)I"⟩, 5), (⟨"WordWheel$Words", "backward", "(I)I"⟩, 5), (⟨"WordWheel$RingCounter", "ringsUpTo", "(I)I"⟩, 4), (⟨"WordWheel$RingCounter", "greatestRepeated", "(II)I"⟩, 4), (⟨"WordWheel$RingCounter", "wordsUpTo", "(II)I"⟩, 4), (⟨"WordWheel$RingCounter", "lowerToBeginning", "(I)V"⟩, 4), (⟨"WordWheel$RingCounter", "firstFault", "(I)I"⟩, 4)]
theorem lw_r1 : ∀ q ∈ lw_privs_1, lw_okq q := List.forall_mem_cons.mpr ⟨lw_p0, List.forall_mem_cons.mpr ⟨lw_p1, List.forall_mem_cons.mpr ⟨lw_p2, List.forall_mem_cons.mpr ⟨lw_p3, List.forall_mem_cons.mpr ⟨lw_p4, List.forall_mem_cons.mpr ⟨lw_p5, List.forall_mem_cons.mpr ⟨lw_p6, List.forall_mem_cons.mpr ⟨lw_p7, List.forall_mem_cons.mpr ⟨lw_p8, List.forall_mem_cons.mpr ⟨lw_p9, List.forall_mem_cons.mpr ⟨lw_p10, List.forall_mem_cons.mpr ⟨lw_p11, List.forall_mem_cons.mpr ⟨lw_p12, List.forall_mem_cons.mpr ⟨lw_p13, List.forall_mem_cons.mpr ⟨lw_p14, List.forall_mem_cons.mpr ⟨lw_p15, fun _ h => absurd h List.not_mem_nil⟩⟩⟩⟩⟩⟩⟩⟩⟩⟩⟩⟩⟩⟩⟩⟩
theorem lw_p16 : lw_okq (⟨"WordWheel$RingCounter", "wordsAboveRow", "(I)I"⟩, 4) := ⟨⟨by decide +kernel, by decide +kernel⟩, List.mem_of_getElem? (i := 68) (by decide +kernel), List.mem_of_getElem? (i := 373) (by decide +kernel), List.mem_of_getElem? (i := 374) (by decide +kernel)⟩
theorem lw_p17 : lw_okq (⟨"WordWheel$RingCounter", "greaterThan", "(I)I"⟩, 4) := ⟨⟨by decide +kernel, by decide +kernel⟩, List.mem_of_getElem? (i := 68) (by decide +kernel), List.mem_of_getElem? (i := 377) (by decide +kernel), List.mem_of_getElem? (i := 378) (by decide +kernel)⟩
theorem lw_p18 : lw_okq (⟨"WordWheel$RingCounter", "leastOfRing", "(I)I"⟩, 4) := ⟨⟨by decide +kernel, by decide +kernel⟩, List.mem_of_getElem? (i := 68) (by decide +kernel), List.mem_of_getElem? (i := 390) (by decide +kernel), List.mem_of_getElem? (i := 391) (by decide +kernel)⟩
theorem lw_p19 : lw_okq (⟨"WordWheel$RingCounter", "takeAmounts", "(IIIII)Z"⟩, 4) := ⟨⟨by decide +kernel, by decide +kernel⟩, List.mem_of_getElem? (i := 68) (by decide +kernel), List.mem_of_getElem? (i := 404) (by decide +kernel), List.mem_of_getElem? (i := 405) (by decide +kernel)⟩
theorem lw_p20 : lw_okq (⟨"WordWheel$Words", "isLetter", "(I)Z"⟩, 5) := ⟨⟨by decide +kernel, by decide +kernel⟩, List.mem_of_getElem? (i := 23) (by decide +kernel), List.mem_of_getElem? (i := 408) (by decide +kernel), List.mem_of_getElem? (i := 409) (by decide +kernel)⟩
theorem lw_p21 : lw_okq (⟨"WordWheel$RingCounter", "ringsOfAmounts", "()I"⟩, 4) := ⟨⟨by decide +kernel, by decide +kernel⟩, List.mem_of_getElem? (i := 68) (by decide +kernel), List.mem_of_getElem? (i := 412) (by decide +kernel), List.mem_of_getElem? (i := 413) (by decide +kernel)⟩
theorem lw_p22 : lw_okq (⟨"WordWheel$RingCounter", "allDivisible", "(I)Z"⟩, 4) := ⟨⟨by decide +kernel, by decide +kernel⟩, List.mem_of_getElem? (i := 68) (by decide +kernel), List.mem_of_getElem? (i := 416) (by decide +kernel), List.mem_of_getElem? (i := 417) (by decide +kernel)⟩
theorem lw_p23 : lw_okq (⟨"WordWheel$RingCounter", "arrangements", "(I)J"⟩, 4) := ⟨⟨by decide +kernel, by decide +kernel⟩, List.mem_of_getElem? (i := 68) (by decide +kernel), List.mem_of_getElem? (i := 420) (by decide +kernel), List.mem_of_getElem? (i := 421) (by decide +kernel)⟩
theorem lw_p24 : lw_okq (⟨"WordWheel$Register", "changeFactor", "(II)I"⟩, 14) := ⟨⟨by decide +kernel, by decide +kernel⟩, List.mem_of_getElem? (i := 87) (by decide +kernel), List.mem_of_getElem? (i := 429) (by decide +kernel), List.mem_of_getElem? (i := 430) (by decide +kernel)⟩
theorem lw_p25 : lw_okq (⟨"WordWheel$Register", "changeSum", "(I)I"⟩, 14) := ⟨⟨by decide +kernel, by decide +kernel⟩, List.mem_of_getElem? (i := 87) (by decide +kernel), List.mem_of_getElem? (i := 437) (by decide +kernel), List.mem_of_getElem? (i := 438) (by decide +kernel)⟩
theorem lw_p26 : lw_okq (⟨"WordWheel$Register", "leadOf", "(I)I"⟩, 14) := ⟨⟨by decide +kernel, by decide +kernel⟩, List.mem_of_getElem? (i := 87) (by decide +kernel), List.mem_of_getElem? (i := 445) (by decide +kernel), List.mem_of_getElem? (i := 446) (by decide +kernel)⟩
theorem lw_p27 : lw_okq (⟨"WordWheel$Register", "leads", "()[I"⟩, 14) := ⟨⟨by decide +kernel, by decide +kernel⟩, List.mem_of_getElem? (i := 87) (by decide +kernel), List.mem_of_getElem? (i := 449) (by decide +kernel), List.mem_of_getElem? (i := 450) (by decide +kernel)⟩
theorem lw_p28 : lw_okq (⟨"WordWheel$Register", "fillComing", "()V"⟩, 14) := ⟨⟨by decide +kernel, by decide +kernel⟩, List.mem_of_getElem? (i := 87) (by decide +kernel), List.mem_of_getElem? (i := 453) (by decide +kernel), List.mem_of_getElem? (i := 454) (by decide +kernel)⟩
theorem lw_p29 : lw_okq (⟨"WordWheel$Register", "isRight", "()Z"⟩, 14) := ⟨⟨by decide +kernel, by decide +kernel⟩, List.mem_of_getElem? (i := 87) (by decide +kernel), List.mem_of_getElem? (i := 461) (by decide +kernel), List.mem_of_getElem? (i := 462) (by decide +kernel)⟩
theorem lw_p30 : lw_okq (⟨"WordWheel$Words", "differInFirst", "(II)Z"⟩, 5) := ⟨⟨by decide +kernel, by decide +kernel⟩, List.mem_of_getElem? (i := 23) (by decide +kernel), List.mem_of_getElem? (i := 469) (by decide +kernel), List.mem_of_getElem? (i := 470) (by decide +kernel)⟩
theorem lw_p31 : lw_okq (⟨"WordWheel$Register", "isFull", "()Z"⟩, 14) := ⟨⟨by decide +kernel, by decide +kernel⟩, List.mem_of_getElem? (i := 87) (by decide +kernel), List.mem_of_getElem? (i := 473) (by decide +kernel), List.mem_of_getElem? (i := 474) (by decide +kernel)⟩
def lw_privs_2 : List (MethodName × Nat) := [(⟨"WordWheel$RingCounter", "wordsAboveRow", "(I)I"⟩, 4), (⟨"WordWheel$RingCounter", "greaterThan", "(I)I"⟩, 4), (⟨"WordWheel$RingCounter", "leastOfRing", "(I)I"⟩, 4), (⟨"WordWheel$RingCounter", "takeAmounts", "(IIIII)Z"⟩, 4), (⟨"WordWheel$Words", "isLetter", "(I)Z"⟩, 5), (⟨"WordWheel$RingCounter", "ringsOfAmounts", "()I"⟩, 4), (⟨"WordWheel$RingCounter", "allDivisible", "(I)Z"⟩, 4), (⟨"WordWheel$RingCounter", "arrangements", "(I)J"⟩, 4), (⟨"WordWheel$Register", "changeFactor", "(II)I"⟩, 14), (⟨"WordWheel$Register", "changeSum", "(I)I"⟩, 14), (⟨"WordWheel$Register", "leadOf", "(I)I"⟩, 14), (⟨"WordWheel$Register", "leads", "()[I"⟩, 14), (⟨"WordWheel$Register", "fillComing", "()V"⟩, 14), (⟨"WordWheel$Register", "isRight", "()Z"⟩, 14), (⟨"WordWheel$Words", "differInFirst", "(II)Z"⟩, 5), (⟨"WordWheel$Register", "isFull", "()Z"⟩, 14)]
theorem lw_r2 : ∀ q ∈ lw_privs_2, lw_okq q := List.forall_mem_cons.mpr ⟨lw_p16, List.forall_mem_cons.mpr ⟨lw_p17, List.forall_mem_cons.mpr ⟨lw_p18, List.forall_mem_cons.mpr ⟨lw_p19, List.forall_mem_cons.mpr ⟨lw_p20, List.forall_mem_cons.mpr ⟨lw_p21, List.forall_mem_cons.mpr ⟨lw_p22, List.forall_mem_cons.mpr ⟨lw_p23, List.forall_mem_cons.mpr ⟨lw_p24, List.forall_mem_cons.mpr ⟨lw_p25, List.forall_mem_cons.mpr ⟨lw_p26, List.forall_mem_cons.mpr ⟨lw_p27, List.forall_mem_cons.mpr ⟨lw_p28, List.forall_mem_cons.mpr ⟨lw_p29, List.forall_mem_cons.mpr ⟨lw_p30, List.forall_mem_cons.mpr ⟨lw_p31, fun _ h => absurd h List.not_mem_nil⟩⟩⟩⟩⟩⟩⟩⟩⟩⟩⟩⟩⟩⟩⟩⟩
theorem lw_p32 : lw_okq (⟨"WordWheel$Register", "makeExchange", "(II)I"⟩, 14) := ⟨⟨by decide +kernel, by decide +kernel⟩, List.mem_of_getElem? (i := 87) (by decide +kernel), List.mem_of_getElem? (i := 477) (by decide +kernel), List.mem_of_getElem? (i := 478) (by decide +kernel)⟩
theorem lw_p33 : lw_okq (⟨"WordWheel$Register", "countBehindExchange", "(II)I"⟩, 14) := ⟨⟨by decide +kernel, by decide +kernel⟩, List.mem_of_getElem? (i := 87) (by decide +kernel), List.mem_of_getElem? (i := 481) (by decide +kernel), List.mem_of_getElem? (i := 482) (by decide +kernel)⟩
theorem lw_p34 : lw_okq (⟨"WordWheel$Register", "howManyCycles", "()I"⟩, 14) := ⟨⟨by decide +kernel, by decide +kernel⟩, List.mem_of_getElem? (i := 87) (by decide +kernel), List.mem_of_getElem? (i := 485) (by decide +kernel), List.mem_of_getElem? (i := 486) (by decide +kernel)⟩
theorem lw_p35 : lw_okq (⟨"WordWheel$Register", "numberCycles", "()V"⟩, 14) := ⟨⟨by decide +kernel, by decide +kernel⟩, List.mem_of_getElem? (i := 87) (by decide +kernel), List.mem_of_getElem? (i := 489) (by decide +kernel), List.mem_of_getElem? (i := 490) (by decide +kernel)⟩
theorem lw_p36 : lw_okq (⟨"WordWheel$Register", "markCycle", "(II)V"⟩, 14) := ⟨⟨by decide +kernel, by decide +kernel⟩, List.mem_of_getElem? (i := 87) (by decide +kernel), List.mem_of_getElem? (i := 494) (by decide +kernel), List.mem_of_getElem? (i := 495) (by decide +kernel)⟩
theorem lw_p37 : lw_okq (⟨"WordWheel$Register", "inOneCycle", "(II)Z"⟩, 14) := ⟨⟨by decide +kernel, by decide +kernel⟩, List.mem_of_getElem? (i := 87) (by decide +kernel), List.mem_of_getElem? (i := 498) (by decide +kernel), List.mem_of_getElem? (i := 499) (by decide +kernel)⟩
theorem lw_p38 : lw_okq (⟨"WordWheel$Register", "swapLeads", "(II)V"⟩, 14) := ⟨⟨by decide +kernel, by decide +kernel⟩, List.mem_of_getElem? (i := 87) (by decide +kernel), List.mem_of_getElem? (i := 502) (by decide +kernel), List.mem_of_getElem? (i := 503) (by decide +kernel)⟩
theorem lw_p39 : lw_okq (⟨"WordWheel$Register", "noteExchange", "(II)V"⟩, 14) := ⟨⟨by decide +kernel, by decide +kernel⟩, List.mem_of_getElem? (i := 87) (by decide +kernel), List.mem_of_getElem? (i := 506) (by decide +kernel), List.mem_of_getElem? (i := 507) (by decide +kernel)⟩
theorem lw_p40 : lw_okq (⟨"WordWheel$Register", "takeBack", "()I"⟩, 14) := ⟨⟨by decide +kernel, by decide +kernel⟩, List.mem_of_getElem? (i := 87) (by decide +kernel), List.mem_of_getElem? (i := 514) (by decide +kernel), List.mem_of_getElem? (i := 515) (by decide +kernel)⟩
theorem lw_p41 : lw_okq (⟨"WordWheel$Register", "numberOfCycle", "(I)I"⟩, 14) := ⟨⟨by decide +kernel, by decide +kernel⟩, List.mem_of_getElem? (i := 87) (by decide +kernel), List.mem_of_getElem? (i := 527) (by decide +kernel), List.mem_of_getElem? (i := 528) (by decide +kernel)⟩
theorem lw_p42 : lw_okq (⟨"WordWheel$Register", "leastOfCycle", "(I)I"⟩, 14) := ⟨⟨by decide +kernel, by decide +kernel⟩, List.mem_of_getElem? (i := 87) (by decide +kernel), List.mem_of_getElem? (i := 535) (by decide +kernel), List.mem_of_getElem? (i := 536) (by decide +kernel)⟩
theorem lw_p43 : lw_okq (⟨"WordWheel$Register", "wordsOfCycle", "(I)I"⟩, 14) := ⟨⟨by decide +kernel, by decide +kernel⟩, List.mem_of_getElem? (i := 87) (by decide +kernel), List.mem_of_getElem? (i := 539) (by decide +kernel), List.mem_of_getElem? (i := 540) (by decide +kernel)⟩
theorem lw_p44 : lw_okq (⟨"WordWheel$Register", "joinCycles", "()I"⟩, 14) := ⟨⟨by decide +kernel, by decide +kernel⟩, List.mem_of_getElem? (i := 87) (by decide +kernel), List.mem_of_getElem? (i := 547) (by decide +kernel), List.mem_of_getElem? (i := 548) (by decide +kernel)⟩
theorem lw_p45 : lw_okq (⟨"WordWheel$Register", "joinAt", "(II)Z"⟩, 14) := ⟨⟨by decide +kernel, by decide +kernel⟩, List.mem_of_getElem? (i := 87) (by decide +kernel), List.mem_of_getElem? (i := 551) (by decide +kernel), List.mem_of_getElem? (i := 552) (by decide +kernel)⟩
theorem lw_p46 : lw_okq (⟨"WordWheel$Round", "becomeLeast", "()V"⟩, 8) := ⟨⟨by decide +kernel, by decide +kernel⟩, List.mem_of_getElem? (i := 148) (by decide +kernel), List.mem_of_getElem? (i := 559) (by decide +kernel), List.mem_of_getElem? (i := 560) (by decide +kernel)⟩
theorem lw_p47 : lw_okq (⟨"WordWheel$Round", "nextRow", "(I)I"⟩, 8) := ⟨⟨by decide +kernel, by decide +kernel⟩, List.mem_of_getElem? (i := 148) (by decide +kernel), List.mem_of_getElem? (i := 564) (by decide +kernel), List.mem_of_getElem? (i := 565) (by decide +kernel)⟩
def lw_privs_3 : List (MethodName × Nat) := [(⟨"WordWheel$Register", "makeExchange", "(II)I"⟩, 14), (⟨"WordWheel$Register", "countBehindExchange", "(II)I"⟩, 14), (⟨"WordWheel$Register", "howManyCycles", "()I"⟩, 14), (⟨"WordWheel$Register", "numberCycles", "()V"⟩, 14), (⟨"WordWheel$Register", "markCycle", "(II)V"⟩, 14), (⟨"WordWheel$Register", "inOneCycle", "(II)Z"⟩, 14), (⟨"WordWheel$Register", "swapLeads", "(II)V"⟩, 14), (⟨"WordWheel$Register", "noteExchange", "(II)V"⟩, 14), (⟨"WordWheel$Register", "takeBack", "()I"⟩, 14), (⟨"WordWheel$Register", "numberOfCycle", "(I)I"⟩, 14), (⟨"WordWheel$Register", "leastOfCycle", "(I)I"⟩, 14), (⟨"WordWheel$Register", "wordsOfCycle", "(I)I"⟩, 14), (⟨"WordWheel$Register", "joinCycles", "()I"⟩, 14), (⟨"WordWheel$Register", "joinAt", "(II)Z"⟩, 14), (⟨"WordWheel$Round", "becomeLeast", "()V"⟩, 8), (⟨"WordWheel$Round", "nextRow", "(I)I"⟩, 8)]
theorem lw_r3 : ∀ q ∈ lw_privs_3, lw_okq q := List.forall_mem_cons.mpr ⟨lw_p32, List.forall_mem_cons.mpr ⟨lw_p33, List.forall_mem_cons.mpr ⟨lw_p34, List.forall_mem_cons.mpr ⟨lw_p35, List.forall_mem_cons.mpr ⟨lw_p36, List.forall_mem_cons.mpr ⟨lw_p37, List.forall_mem_cons.mpr ⟨lw_p38, List.forall_mem_cons.mpr ⟨lw_p39, List.forall_mem_cons.mpr ⟨lw_p40, List.forall_mem_cons.mpr ⟨lw_p41, List.forall_mem_cons.mpr ⟨lw_p42, List.forall_mem_cons.mpr ⟨lw_p43, List.forall_mem_cons.mpr ⟨lw_p44, List.forall_mem_cons.mpr ⟨lw_p45, List.forall_mem_cons.mpr ⟨lw_p46, List.forall_mem_cons.mpr ⟨lw_p47, fun _ h => absurd h List.not_mem_nil⟩⟩⟩⟩⟩⟩⟩⟩⟩⟩⟩⟩⟩⟩⟩⟩
theorem lw_p48 : lw_okq (⟨"WordWheel$Round", "findPlaces", "()V"⟩, 8) := ⟨⟨by decide +kernel, by decide +kernel⟩, List.mem_of_getElem? (i := 148) (by decide +kernel), List.mem_of_getElem? (i := 568) (by decide +kernel), List.mem_of_getElem? (i := 569) (by decide +kernel)⟩
theorem lw_p49 : lw_okq (⟨"WordWheel$Round", "becomeGreedy", "()V"⟩, 8) := ⟨⟨by decide +kernel, by decide +kernel⟩, List.mem_of_getElem? (i := 148) (by decide +kernel), List.mem_of_getElem? (i := 572) (by decide +kernel), List.mem_of_getElem? (i := 573) (by decide +kernel)⟩
theorem lw_p50 : lw_okq (⟨"WordWheel$Round", "greatestNew", "(I)I"⟩, 8) := ⟨⟨by decide +kernel, by decide +kernel⟩, List.mem_of_getElem? (i := 148) (by decide +kernel), List.mem_of_getElem? (i := 580) (by decide +kernel), List.mem_of_getElem? (i := 581) (by decide +kernel)⟩
theorem lw_p51 : lw_okq (⟨"WordWheel$Round", "becomeCycle", "([I)V"⟩, 8) := ⟨⟨by decide +kernel, by decide +kernel⟩, List.mem_of_getElem? (i := 148) (by decide +kernel), List.mem_of_getElem? (i := 585) (by decide +kernel), List.mem_of_getElem? (i := 586) (by decide +kernel)⟩
theorem lw_p52 : lw_okq (⟨"WordWheel$Round", "isPlace", "(I)Z"⟩, 8) := ⟨⟨by decide +kernel, by decide +kernel⟩, List.mem_of_getElem? (i := 148) (by decide +kernel), List.mem_of_getElem? (i := 593) (by decide +kernel), List.mem_of_getElem? (i := 594) (by decide +kernel)⟩
theorem lw_p53 : lw_okq (⟨"WordWheel$Round", "isThere", "()Z"⟩, 8) := ⟨⟨by decide +kernel, by decide +kernel⟩, List.mem_of_getElem? (i := 148) (by decide +kernel), List.mem_of_getElem? (i := 597) (by decide +kernel), List.mem_of_getElem? (i := 598) (by decide +kernel)⟩
theorem lw_p54 : lw_okq (⟨"WordWheel", "finding", "(I)I"⟩, 9) := ⟨⟨by decide +kernel, by decide +kernel⟩, List.mem_of_getElem? (i := 15) (by decide +kernel), List.mem_of_getElem? (i := 621) (by decide +kernel), List.mem_of_getElem? (i := 622) (by decide +kernel)⟩
theorem lw_p55 : lw_okq (⟨"WordWheel$Tape", "begin", "(II)V"⟩, 5) := ⟨⟨by decide +kernel, by decide +kernel⟩, List.mem_of_getElem? (i := 186) (by decide +kernel), List.mem_of_getElem? (i := 625) (by decide +kernel), List.mem_of_getElem? (i := 626) (by decide +kernel)⟩
theorem lw_p56 : lw_okq (⟨"WordWheel$Tape", "isLost", "()Z"⟩, 5) := ⟨⟨by decide +kernel, by decide +kernel⟩, List.mem_of_getElem? (i := 186) (by decide +kernel), List.mem_of_getElem? (i := 634) (by decide +kernel), List.mem_of_getElem? (i := 635) (by decide +kernel)⟩
theorem lw_p57 : lw_okq (⟨"WordWheel$Tape", "drop", "()I"⟩, 5) := ⟨⟨by decide +kernel, by decide +kernel⟩, List.mem_of_getElem? (i := 186) (by decide +kernel), List.mem_of_getElem? (i := 638) (by decide +kernel), List.mem_of_getElem? (i := 639) (by decide +kernel)⟩
theorem lw_p58 : lw_okq (⟨"WordWheel$Tape", "hasItems", "(II)Z"⟩, 5) := ⟨⟨by decide +kernel, by decide +kernel⟩, List.mem_of_getElem? (i := 186) (by decide +kernel), List.mem_of_getElem? (i := 649) (by decide +kernel), List.mem_of_getElem? (i := 650) (by decide +kernel)⟩
theorem lw_p59 : lw_okq (⟨"WordWheel$Tape", "fitted", "(I)I"⟩, 5) := ⟨⟨by decide +kernel, by decide +kernel⟩, List.mem_of_getElem? (i := 186) (by decide +kernel), List.mem_of_getElem? (i := 653) (by decide +kernel), List.mem_of_getElem? (i := 654) (by decide +kernel)⟩
theorem lw_p60 : lw_okq (⟨"WordWheel$Round", "writeLetters", "(II[II)V"⟩, 8) := ⟨⟨by decide +kernel, by decide +kernel⟩, List.mem_of_getElem? (i := 148) (by decide +kernel), List.mem_of_getElem? (i := 673) (by decide +kernel), List.mem_of_getElem? (i := 674) (by decide +kernel)⟩
theorem lw_p61 : lw_okq (⟨"WordWheel$Round", "countMatches", "([IIII)I"⟩, 8) := ⟨⟨by decide +kernel, by decide +kernel⟩, List.mem_of_getElem? (i := 148) (by decide +kernel), List.mem_of_getElem? (i := 681) (by decide +kernel), List.mem_of_getElem? (i := 682) (by decide +kernel)⟩
theorem lw_p62 : lw_okq (⟨"WordWheel$Round", "noteSlips", "([III)V"⟩, 8) := ⟨⟨by decide +kernel, by decide +kernel⟩, List.mem_of_getElem? (i := 148) (by decide +kernel), List.mem_of_getElem? (i := 685) (by decide +kernel), List.mem_of_getElem? (i := 686) (by decide +kernel)⟩
theorem lw_p63 : lw_okq (⟨"WordWheel$Round", "noteFirstPlaces", "(I)I"⟩, 8) := ⟨⟨by decide +kernel, by decide +kernel⟩, List.mem_of_getElem? (i := 148) (by decide +kernel), List.mem_of_getElem? (i := 693) (by decide +kernel), List.mem_of_getElem? (i := 694) (by decide +kernel)⟩
def lw_privs_4 : List (MethodName × Nat) := [(⟨"WordWheel$Round", "findPlaces", "()V"⟩, 8), (⟨"WordWheel$Round", "becomeGreedy", "()V"⟩, 8), (⟨"WordWheel$Round", "greatestNew", "(I)I"⟩, 8), (⟨"WordWheel$Round", "becomeCycle", "([I)V"⟩, 8), (⟨"WordWheel$Round", "isPlace", "(I)Z"⟩, 8), (⟨"WordWheel$Round", "isThere", "()Z"⟩, 8), (⟨"WordWheel", "finding", "(I)I"⟩, 9), (⟨"WordWheel$Tape", "begin", "(II)V"⟩, 5), (⟨"WordWheel$Tape", "isLost", "()Z"⟩, 5), (⟨"WordWheel$Tape", "drop", "()I"⟩, 5), (⟨"WordWheel$Tape", "hasItems", "(II)Z"⟩, 5), (⟨"WordWheel$Tape", "fitted", "(I)I"⟩, 5), (⟨"WordWheel$Round", "writeLetters", "(II[II)V"⟩, 8), (⟨"WordWheel$Round", "countMatches", "([IIII)I"⟩, 8), (⟨"WordWheel$Round", "noteSlips", "([III)V"⟩, 8), (⟨"WordWheel$Round", "noteFirstPlaces", "(I)I"⟩, 8)]
theorem lw_r4 : ∀ q ∈ lw_privs_4, lw_okq q := List.forall_mem_cons.mpr ⟨lw_p48, List.forall_mem_cons.mpr ⟨lw_p49, List.forall_mem_cons.mpr ⟨lw_p50, List.forall_mem_cons.mpr ⟨lw_p51, List.forall_mem_cons.mpr ⟨lw_p52, List.forall_mem_cons.mpr ⟨lw_p53, List.forall_mem_cons.mpr ⟨lw_p54, List.forall_mem_cons.mpr ⟨lw_p55, List.forall_mem_cons.mpr ⟨lw_p56, List.forall_mem_cons.mpr ⟨lw_p57, List.forall_mem_cons.mpr ⟨lw_p58, List.forall_mem_cons.mpr ⟨lw_p59, List.forall_mem_cons.mpr ⟨lw_p60, List.forall_mem_cons.mpr ⟨lw_p61, List.forall_mem_cons.mpr ⟨lw_p62, List.forall_mem_cons.mpr ⟨lw_p63, fun _ h => absurd h List.not_mem_nil⟩⟩⟩⟩⟩⟩⟩⟩⟩⟩⟩⟩⟩⟩⟩⟩
theorem lw_p64 : lw_okq (⟨"WordWheel$Tape", "hasBlanks", "()Z"⟩, 5) := ⟨⟨by decide +kernel, by decide +kernel⟩, List.mem_of_getElem? (i := 186) (by decide +kernel), List.mem_of_getElem? (i := 711) (by decide +kernel), List.mem_of_getElem? (i := 712) (by decide +kernel)⟩
theorem lw_p65 : lw_okq (⟨"WordWheel$Tape", "firstRepeated", "()I"⟩, 5) := ⟨⟨by decide +kernel, by decide +kernel⟩, List.mem_of_getElem? (i := 186) (by decide +kernel), List.mem_of_getElem? (i := 716) (by decide +kernel), List.mem_of_getElem? (i := 717) (by decide +kernel)⟩
theorem lw_p66 : lw_okq (⟨"WordWheel$Tape", "wordAt", "(I)I"⟩, 5) := ⟨⟨by decide +kernel, by decide +kernel⟩, List.mem_of_getElem? (i := 186) (by decide +kernel), List.mem_of_getElem? (i := 720) (by decide +kernel), List.mem_of_getElem? (i := 721) (by decide +kernel)⟩
theorem lw_p67 : lw_okq (⟨"WordWheel$Parting", "divide", "([II)I"⟩, 2) := ⟨⟨by decide +kernel, by decide +kernel⟩, List.mem_of_getElem? (i := 211) (by decide +kernel), List.mem_of_getElem? (i := 728) (by decide +kernel), List.mem_of_getElem? (i := 729) (by decide +kernel)⟩
theorem lw_p68 : lw_okq (⟨"WordWheel$Recurring", "learn", "([III)I"⟩, 5) := ⟨⟨by decide +kernel, by decide +kernel⟩, List.mem_of_getElem? (i := 226) (by decide +kernel), List.mem_of_getElem? (i := 740) (by decide +kernel), List.mem_of_getElem? (i := 741) (by decide +kernel)⟩
theorem lw_p69 : lw_okq (⟨"WordWheel$Recurring", "gapAt", "([II)I"⟩, 5) := ⟨⟨by decide +kernel, by decide +kernel⟩, List.mem_of_getElem? (i := 226) (by decide +kernel), List.mem_of_getElem? (i := 745) (by decide +kernel), List.mem_of_getElem? (i := 746) (by decide +kernel)⟩
theorem lw_p70 : lw_okq (⟨"WordWheel$Recurring", "inverse", "(I)I"⟩, 5) := ⟨⟨by decide +kernel, by decide +kernel⟩, List.mem_of_getElem? (i := 226) (by decide +kernel), List.mem_of_getElem? (i := 749) (by decide +kernel), List.mem_of_getElem? (i := 750) (by decide +kernel)⟩
theorem lw_p71 : lw_okq (⟨"WordWheel$Recurring", "lengthen", "(III)V"⟩, 5) := ⟨⟨by decide +kernel, by decide +kernel⟩, List.mem_of_getElem? (i := 226) (by decide +kernel), List.mem_of_getElem? (i := 753) (by decide +kernel), List.mem_of_getElem? (i := 754) (by decide +kernel)⟩
theorem lw_p72 : lw_okq (⟨"WordWheel$Recurring", "subtractEarlier", "(II)V"⟩, 5) := ⟨⟨by decide +kernel, by decide +kernel⟩, List.mem_of_getElem? (i := 226) (by decide +kernel), List.mem_of_getElem? (i := 758) (by decide +kernel), List.mem_of_getElem? (i := 759) (by decide +kernel)⟩
theorem lw_p73 : lw_okq (⟨"WordWheel$Recurring", "lowerNumbers", "(II)V"⟩, 5) := ⟨⟨by decide +kernel, by decide +kernel⟩, List.mem_of_getElem? (i := 226) (by decide +kernel), List.mem_of_getElem? (i := 762) (by decide +kernel), List.mem_of_getElem? (i := 763) (by decide +kernel)⟩
theorem lw_p74 : lw_okq (⟨"WordWheel$Recurring", "coefficientAt", "(I)I"⟩, 5) := ⟨⟨by decide +kernel, by decide +kernel⟩, List.mem_of_getElem? (i := 226) (by decide +kernel), List.mem_of_getElem? (i := 770) (by decide +kernel), List.mem_of_getElem? (i := 771) (by decide +kernel)⟩
theorem lw_p75 : lw_okq (⟨"WordWheelModel", "leastOf", "(I)I"⟩, 33) := ⟨⟨by decide +kernel, by decide +kernel⟩, List.mem_of_getElem? (i := 785) (by decide +kernel), List.mem_of_getElem? (i := 802) (by decide +kernel), List.mem_of_getElem? (i := 803) (by decide +kernel)⟩
theorem lw_p76 : lw_okq (⟨"WordWheelModel", "next", "(I)I"⟩, 33) := ⟨⟨by decide +kernel, by decide +kernel⟩, List.mem_of_getElem? (i := 785) (by decide +kernel), List.mem_of_getElem? (i := 806) (by decide +kernel), List.mem_of_getElem? (i := 807) (by decide +kernel)⟩
theorem lw_p77 : lw_okq (⟨"WordWheelModel", "lead", "()V"⟩, 33) := ⟨⟨by decide +kernel, by decide +kernel⟩, List.mem_of_getElem? (i := 785) (by decide +kernel), List.mem_of_getElem? (i := 810) (by decide +kernel), List.mem_of_getElem? (i := 811) (by decide +kernel)⟩
theorem lw_p78 : lw_okq (⟨"WordWheelModel", "isWord", "(I)Z"⟩, 33) := ⟨⟨by decide +kernel, by decide +kernel⟩, List.mem_of_getElem? (i := 785) (by decide +kernel), List.mem_of_getElem? (i := 920) (by decide +kernel), List.mem_of_getElem? (i := 921) (by decide +kernel)⟩
theorem lw_p79 : lw_okq (⟨"WordWheelModel", "sizeOf", "(I)I"⟩, 33) := ⟨⟨by decide +kernel, by decide +kernel⟩, List.mem_of_getElem? (i := 785) (by decide +kernel), List.mem_of_getElem? (i := 937) (by decide +kernel), List.mem_of_getElem? (i := 938) (by decide +kernel)⟩
def lw_privs_5 : List (MethodName × Nat) := [(⟨"WordWheel$Tape", "hasBlanks", "()Z"⟩, 5), (⟨"WordWheel$Tape", "firstRepeated", "()I"⟩, 5), (⟨"WordWheel$Tape", "wordAt", "(I)I"⟩, 5), (⟨"WordWheel$Parting", "divide", "([II)I"⟩, 2), (⟨"WordWheel$Recurring", "learn", "([III)I"⟩, 5), (⟨"WordWheel$Recurring", "gapAt", "([II)I"⟩, 5), (⟨"WordWheel$Recurring", "inverse", "(I)I"⟩, 5), (⟨"WordWheel$Recurring", "lengthen", "(III)V"⟩, 5), (⟨"WordWheel$Recurring", "subtractEarlier", "(II)V"⟩, 5), (⟨"WordWheel$Recurring", "lowerNumbers", "(II)V"⟩, 5), (⟨"WordWheel$Recurring", "coefficientAt", "(I)I"⟩, 5), (⟨"WordWheelModel", "leastOf", "(I)I"⟩, 33), (⟨"WordWheelModel", "next", "(I)I"⟩, 33), (⟨"WordWheelModel", "lead", "()V"⟩, 33), (⟨"WordWheelModel", "isWord", "(I)Z"⟩, 33), (⟨"WordWheelModel", "sizeOf", "(I)I"⟩, 33)]
theorem lw_r5 : ∀ q ∈ lw_privs_5, lw_okq q := List.forall_mem_cons.mpr ⟨lw_p64, List.forall_mem_cons.mpr ⟨lw_p65, List.forall_mem_cons.mpr ⟨lw_p66, List.forall_mem_cons.mpr ⟨lw_p67, List.forall_mem_cons.mpr ⟨lw_p68, List.forall_mem_cons.mpr ⟨lw_p69, List.forall_mem_cons.mpr ⟨lw_p70, List.forall_mem_cons.mpr ⟨lw_p71, List.forall_mem_cons.mpr ⟨lw_p72, List.forall_mem_cons.mpr ⟨lw_p73, List.forall_mem_cons.mpr ⟨lw_p74, List.forall_mem_cons.mpr ⟨lw_p75, List.forall_mem_cons.mpr ⟨lw_p76, List.forall_mem_cons.mpr ⟨lw_p77, List.forall_mem_cons.mpr ⟨lw_p78, List.forall_mem_cons.mpr ⟨lw_p79, fun _ h => absurd h List.not_mem_nil⟩⟩⟩⟩⟩⟩⟩⟩⟩⟩⟩⟩⟩⟩⟩⟩
theorem lw_p80 : lw_okq (⟨"WordWheelModel", "hasWanted", "(I)Z"⟩, 33) := ⟨⟨by decide +kernel, by decide +kernel⟩, List.mem_of_getElem? (i := 785) (by decide +kernel), List.mem_of_getElem? (i := 965) (by decide +kernel), List.mem_of_getElem? (i := 966) (by decide +kernel)⟩
theorem lw_p81 : lw_okq (⟨"WordWheelModel", "isRight", "()Z"⟩, 33) := ⟨⟨by decide +kernel, by decide +kernel⟩, List.mem_of_getElem? (i := 785) (by decide +kernel), List.mem_of_getElem? (i := 985) (by decide +kernel), List.mem_of_getElem? (i := 986) (by decide +kernel)⟩
theorem lw_p82 : lw_okq (⟨"WordWheelModel", "swap", "(II)V"⟩, 33) := ⟨⟨by decide +kernel, by decide +kernel⟩, List.mem_of_getElem? (i := 785) (by decide +kernel), List.mem_of_getElem? (i := 993) (by decide +kernel), List.mem_of_getElem? (i := 994) (by decide +kernel)⟩
theorem lw_p83 : lw_okq (⟨"WordWheelModel", "findCycles", "()V"⟩, 33) := ⟨⟨by decide +kernel, by decide +kernel⟩, List.mem_of_getElem? (i := 785) (by decide +kernel), List.mem_of_getElem? (i := 997) (by decide +kernel), List.mem_of_getElem? (i := 998) (by decide +kernel)⟩
theorem lw_p84 : lw_okq (⟨"WordWheelModel", "joins", "(Z)I"⟩, 33) := ⟨⟨by decide +kernel, by decide +kernel⟩, List.mem_of_getElem? (i := 785) (by decide +kernel), List.mem_of_getElem? (i := 1021) (by decide +kernel), List.mem_of_getElem? (i := 1022) (by decide +kernel)⟩
theorem lw_p85 : lw_okq (⟨"WordWheelModel", "groupOf", "(I)I"⟩, 33) := ⟨⟨by decide +kernel, by decide +kernel⟩, List.mem_of_getElem? (i := 785) (by decide +kernel), List.mem_of_getElem? (i := 1025) (by decide +kernel), List.mem_of_getElem? (i := 1026) (by decide +kernel)⟩
theorem lw_p86 : lw_okq (⟨"WordWheelModel", "leastRound", "()V"⟩, 33) := ⟨⟨by decide +kernel, by decide +kernel⟩, List.mem_of_getElem? (i := 785) (by decide +kernel), List.mem_of_getElem? (i := 1033) (by decide +kernel), List.mem_of_getElem? (i := 1034) (by decide +kernel)⟩
theorem lw_p87 : lw_okq (⟨"WordWheelModel", "greedyRound", "()V"⟩, 33) := ⟨⟨by decide +kernel, by decide +kernel⟩, List.mem_of_getElem? (i := 785) (by decide +kernel), List.mem_of_getElem? (i := 1037) (by decide +kernel), List.mem_of_getElem? (i := 1038) (by decide +kernel)⟩
theorem lw_p88 : lw_okq (⟨"WordWheelModel", "met", "(I)I"⟩, 33) := ⟨⟨by decide +kernel, by decide +kernel⟩, List.mem_of_getElem? (i := 785) (by decide +kernel), List.mem_of_getElem? (i := 1061) (by decide +kernel), List.mem_of_getElem? (i := 1062) (by decide +kernel)⟩
theorem lw_p89 : lw_okq (⟨"WordWheelModel", "lacks", "(III)I"⟩, 33) := ⟨⟨by decide +kernel, by decide +kernel⟩, List.mem_of_getElem? (i := 785) (by decide +kernel), List.mem_of_getElem? (i := 1073) (by decide +kernel), List.mem_of_getElem? (i := 1074) (by decide +kernel)⟩
theorem lw_p90 : lw_okq (⟨"WordWheelModel", "isWithin", "(III)Z"⟩, 33) := ⟨⟨by decide +kernel, by decide +kernel⟩, List.mem_of_getElem? (i := 785) (by decide +kernel), List.mem_of_getElem? (i := 1087) (by decide +kernel), List.mem_of_getElem? (i := 1088) (by decide +kernel)⟩
theorem lw_p91 : lw_okq (⟨"WordWheelModel", "noLetters", "(I)I"⟩, 33) := ⟨⟨by decide +kernel, by decide +kernel⟩, List.mem_of_getElem? (i := 785) (by decide +kernel), List.mem_of_getElem? (i := 1108) (by decide +kernel), List.mem_of_getElem? (i := 1109) (by decide +kernel)⟩
theorem lw_p92 : lw_okq (⟨"WordWheelModel", "leastLength", "(I)I"⟩, 33) := ⟨⟨by decide +kernel, by decide +kernel⟩, List.mem_of_getElem? (i := 785) (by decide +kernel), List.mem_of_getElem? (i := 1124) (by decide +kernel), List.mem_of_getElem? (i := 1125) (by decide +kernel)⟩
theorem lw_p93 : lw_okq (⟨"WordWheelModel", "inverse", "(I)I"⟩, 33) := ⟨⟨by decide +kernel, by decide +kernel⟩, List.mem_of_getElem? (i := 785) (by decide +kernel), List.mem_of_getElem? (i := 1128) (by decide +kernel), List.mem_of_getElem? (i := 1129) (by decide +kernel)⟩
theorem lw_p94 : lw_okq (⟨"WordWheelModel", "solve", "(II)V"⟩, 33) := ⟨⟨by decide +kernel, by decide +kernel⟩, List.mem_of_getElem? (i := 785) (by decide +kernel), List.mem_of_getElem? (i := 1132) (by decide +kernel), List.mem_of_getElem? (i := 1133) (by decide +kernel)⟩
def lw_privs_6 : List (MethodName × Nat) := [(⟨"WordWheelModel", "hasWanted", "(I)Z"⟩, 33), (⟨"WordWheelModel", "isRight", "()Z"⟩, 33), (⟨"WordWheelModel", "swap", "(II)V"⟩, 33), (⟨"WordWheelModel", "findCycles", "()V"⟩, 33), (⟨"WordWheelModel", "joins", "(Z)I"⟩, 33), (⟨"WordWheelModel", "groupOf", "(I)I"⟩, 33), (⟨"WordWheelModel", "leastRound", "()V"⟩, 33), (⟨"WordWheelModel", "greedyRound", "()V"⟩, 33), (⟨"WordWheelModel", "met", "(I)I"⟩, 33), (⟨"WordWheelModel", "lacks", "(III)I"⟩, 33), (⟨"WordWheelModel", "isWithin", "(III)Z"⟩, 33), (⟨"WordWheelModel", "noLetters", "(I)I"⟩, 33), (⟨"WordWheelModel", "leastLength", "(I)I"⟩, 33), (⟨"WordWheelModel", "inverse", "(I)I"⟩, 33), (⟨"WordWheelModel", "solve", "(II)V"⟩, 33)]
theorem lw_r6 : ∀ q ∈ lw_privs_6, lw_okq q := List.forall_mem_cons.mpr ⟨lw_p80, List.forall_mem_cons.mpr ⟨lw_p81, List.forall_mem_cons.mpr ⟨lw_p82, List.forall_mem_cons.mpr ⟨lw_p83, List.forall_mem_cons.mpr ⟨lw_p84, List.forall_mem_cons.mpr ⟨lw_p85, List.forall_mem_cons.mpr ⟨lw_p86, List.forall_mem_cons.mpr ⟨lw_p87, List.forall_mem_cons.mpr ⟨lw_p88, List.forall_mem_cons.mpr ⟨lw_p89, List.forall_mem_cons.mpr ⟨lw_p90, List.forall_mem_cons.mpr ⟨lw_p91, List.forall_mem_cons.mpr ⟨lw_p92, List.forall_mem_cons.mpr ⟨lw_p93, List.forall_mem_cons.mpr ⟨lw_p94, fun _ h => absurd h List.not_mem_nil⟩⟩⟩⟩⟩⟩⟩⟩⟩⟩⟩⟩⟩⟩⟩
def lw_privs : List (MethodName × Nat) := lw_privs_1 ++ (lw_privs_2 ++ (lw_privs_3 ++ (lw_privs_4 ++ (lw_privs_5 ++ (lw_privs_6)))))
def lw_tbl : List Cond := k2_sels lw_privs ++ tables_1
theorem lw_privs_ok : ∀ q ∈ lw_privs, lw_okq q := by
  show ∀ q ∈ lw_privs_1 ++ (lw_privs_2 ++ (lw_privs_3 ++ (lw_privs_4 ++ (lw_privs_5 ++ (lw_privs_6))))), lw_okq q
  exact List.forall_mem_append.mpr ⟨lw_r1, List.forall_mem_append.mpr ⟨lw_r2, List.forall_mem_append.mpr ⟨lw_r3, List.forall_mem_append.mpr ⟨lw_r4, List.forall_mem_append.mpr ⟨lw_r5, lw_r6⟩⟩⟩⟩⟩
end
section
def RX0 : String := "WordWheel$Parting"
def TX0 : u_T := fun k => match k with
  | 0 => ("WordWheel$Parting", "begins", "[I", true)
  | _ => ("WordWheel$Parting", "told", "I", false)
def tyX0 : Nat → FieldType := fun k => match k with
  | 0 => .array .int
  | _ => .int
abbrev wsX00 : List Cond := u_ws RX0 TX0 2
theorem nmX0 : ∀ a, a < 2 → ∀ b, b < 2 → a ≠ b → (TX0 a).2.1 ≠ (TX0 b).2.1 := by decide +kernel
theorem tyX0_ok : ∀ k, k < 2 → parseFieldDescriptor (TX0 k).2.2.1 = some (tyX0 k) := by decide +kernel
abbrev cX0_init : ByteArray := prog_2_method_1_code
def yX0_init : MethodName := ⟨RX0, "<init>", "()V"⟩
abbrev cX0_divide : ByteArray := prog_2_method_2_code
def yX0_divide : MethodName := ⟨RX0, "divide", "([II)I"⟩
def RX1 : String := "WordWheel$Recurring"
def TX1 : u_T := fun k => match k with
  | 0 => ("WordWheel$Recurring", "now", "[I", true)
  | 1 => ("WordWheel$Recurring", "earlier", "[I", true)
  | 2 => ("WordWheel$Recurring", "spare", "[I", true)
  | 3 => ("WordWheel$Recurring", "length", "I", false)
  | _ => ("WordWheel$Recurring", "modulus", "I", false)
def tyX1 : Nat → FieldType := fun k => match k with
  | 0 => .array .int
  | 1 => .array .int
  | 2 => .array .int
  | 3 => .int
  | _ => .int
abbrev wsX10 : List Cond := u_ws RX1 TX1 5
theorem nmX1 : ∀ a, a < 5 → ∀ b, b < 5 → a ≠ b → (TX1 a).2.1 ≠ (TX1 b).2.1 := by decide +kernel
theorem tyX1_ok : ∀ k, k < 5 → parseFieldDescriptor (TX1 k).2.2.1 = some (tyX1 k) := by decide +kernel
abbrev cX1_init : ByteArray := prog_3_method_1_code
def yX1_init : MethodName := ⟨RX1, "<init>", "()V"⟩
abbrev cX1_coefficientAt : ByteArray := prog_3_method_2_code
def yX1_coefficientAt : MethodName := ⟨RX1, "coefficientAt", "(I)I"⟩
abbrev cX1_learn : ByteArray := prog_3_method_3_code
def yX1_learn : MethodName := ⟨RX1, "learn", "([III)I"⟩
abbrev cX1_gapAt : ByteArray := prog_3_method_4_code
def yX1_gapAt : MethodName := ⟨RX1, "gapAt", "([II)I"⟩
abbrev cX1_inverse : ByteArray := prog_3_method_5_code
def yX1_inverse : MethodName := ⟨RX1, "inverse", "(I)I"⟩
abbrev cX1_lengthen : ByteArray := prog_3_method_6_code
def yX1_lengthen : MethodName := ⟨RX1, "lengthen", "(III)V"⟩
abbrev cX1_subtractEarlier : ByteArray := prog_3_method_7_code
def yX1_subtractEarlier : MethodName := ⟨RX1, "subtractEarlier", "(II)V"⟩
abbrev cX1_lowerNumbers : ByteArray := prog_3_method_8_code
def yX1_lowerNumbers : MethodName := ⟨RX1, "lowerNumbers", "(II)V"⟩
def RX2 : String := "WordWheel$Register"
def TX2 : u_T := fun k => match k with
  | 0 => ("WordWheel$Register", "words", "LWordWheel$Words;", true)
  | 1 => ("WordWheel$Register", "factors", "[I", true)
  | 2 => ("WordWheel$Register", "addend", "I", false)
  | 3 => ("WordWheel$Register", "ones", "[I", true)
  | 4 => ("WordWheel$Register", "others", "[I", true)
  | 5 => ("WordWheel$Register", "exchanges", "I", false)
  | 6 => ("WordWheel$Register", "lead", "[I", true)
  | 7 => ("WordWheel$Register", "leadsStand", "Z", false)
  | 8 => ("WordWheel$Register", "cycleNumber", "[I", true)
  | 9 => ("WordWheel$Register", "leastWord", "[I", true)
  | 10 => ("WordWheel$Register", "numbersStand", "Z", false)
  | 11 => ("WordWheel$Register", "cycleCount", "I", false)
  | 12 => ("WordWheel$Register", "countStands", "Z", false)
  | _ => ("WordWheel$Register", "joined", "[I", true)
def tyX2 : Nat → FieldType := fun k => match k with
  | 0 => .object "WordWheel$Words"
  | 1 => .array .int
  | 2 => .int
  | 3 => .array .int
  | 4 => .array .int
  | 5 => .int
  | 6 => .array .int
  | 7 => .boolean
  | 8 => .array .int
  | 9 => .array .int
  | 10 => .boolean
  | 11 => .int
  | 12 => .boolean
  | _ => .array .int
abbrev wsX20 : List Cond := u_ws RX2 TX2 14
theorem nmX2 : ∀ a, a < 14 → ∀ b, b < 14 → a ≠ b → (TX2 a).2.1 ≠ (TX2 b).2.1 := by decide +kernel
theorem tyX2_ok : ∀ k, k < 14 → parseFieldDescriptor (TX2 k).2.2.1 = some (tyX2 k) := by decide +kernel
abbrev cX2_init : ByteArray := prog_4_method_1_code
def yX2_init : MethodName := ⟨RX2, "<init>", "(LWordWheel$Words;)V"⟩
abbrev cX2_becomeTurning : ByteArray := prog_4_method_2_code
def yX2_becomeTurning : MethodName := ⟨RX2, "becomeTurning", "()V"⟩
abbrev cX2_changeFactor : ByteArray := prog_4_method_3_code
def yX2_changeFactor : MethodName := ⟨RX2, "changeFactor", "(II)I"⟩
abbrev cX2_changeSum : ByteArray := prog_4_method_4_code
def yX2_changeSum : MethodName := ⟨RX2, "changeSum", "(I)I"⟩
abbrev cX2_forgetExchanges : ByteArray := prog_4_method_5_code
def yX2_forgetExchanges : MethodName := ⟨RX2, "forgetExchanges", "()V"⟩
abbrev cX2_isRight : ByteArray := prog_4_method_6_code
def yX2_isRight : MethodName := ⟨RX2, "isRight", "()Z"⟩
abbrev cX2_isFull : ByteArray := prog_4_method_7_code
def yX2_isFull : MethodName := ⟨RX2, "isFull", "()Z"⟩
abbrev cX2_leadOf : ByteArray := prog_4_method_8_code
def yX2_leadOf : MethodName := ⟨RX2, "leadOf", "(I)I"⟩
abbrev cX2_leads : ByteArray := prog_4_method_9_code
def yX2_leads : MethodName := ⟨RX2, "leads", "()[I"⟩
abbrev cX2_fillComing : ByteArray := prog_4_method_10_code
def yX2_fillComing : MethodName := ⟨RX2, "fillComing", "()V"⟩
abbrev cX2_numberCycles : ByteArray := prog_4_method_11_code
def yX2_numberCycles : MethodName := ⟨RX2, "numberCycles", "()V"⟩
abbrev cX2_markCycle : ByteArray := prog_4_method_12_code
def yX2_markCycle : MethodName := ⟨RX2, "markCycle", "(II)V"⟩
abbrev cX2_howManyCycles : ByteArray := prog_4_method_13_code
def yX2_howManyCycles : MethodName := ⟨RX2, "howManyCycles", "()I"⟩
abbrev cX2_numberOfCycle : ByteArray := prog_4_method_14_code
def yX2_numberOfCycle : MethodName := ⟨RX2, "numberOfCycle", "(I)I"⟩
abbrev cX2_leastOfCycle : ByteArray := prog_4_method_15_code
def yX2_leastOfCycle : MethodName := ⟨RX2, "leastOfCycle", "(I)I"⟩
abbrev cX2_wordsOfCycle : ByteArray := prog_4_method_16_code
def yX2_wordsOfCycle : MethodName := ⟨RX2, "wordsOfCycle", "(I)I"⟩
abbrev cX2_makeExchange : ByteArray := prog_4_method_17_code
def yX2_makeExchange : MethodName := ⟨RX2, "makeExchange", "(II)I"⟩
abbrev cX2_takeBack : ByteArray := prog_4_method_18_code
def yX2_takeBack : MethodName := ⟨RX2, "takeBack", "()I"⟩
abbrev cX2_noteExchange : ByteArray := prog_4_method_19_code
def yX2_noteExchange : MethodName := ⟨RX2, "noteExchange", "(II)V"⟩
abbrev cX2_swapLeads : ByteArray := prog_4_method_20_code
def yX2_swapLeads : MethodName := ⟨RX2, "swapLeads", "(II)V"⟩
abbrev cX2_countBehindExchange : ByteArray := prog_4_method_21_code
def yX2_countBehindExchange : MethodName := ⟨RX2, "countBehindExchange", "(II)I"⟩
abbrev cX2_inOneCycle : ByteArray := prog_4_method_22_code
def yX2_inOneCycle : MethodName := ⟨RX2, "inOneCycle", "(II)Z"⟩
abbrev cX2_joinCycles : ByteArray := prog_4_method_23_code
def yX2_joinCycles : MethodName := ⟨RX2, "joinCycles", "()I"⟩
abbrev cX2_joinAt : ByteArray := prog_4_method_24_code
def yX2_joinAt : MethodName := ⟨RX2, "joinAt", "(II)Z"⟩
def RX3 : String := "WordWheel$RingCounter"
def TX3 : u_T := fun k => match k with
  | 0 => ("WordWheel$RingCounter", "words", "LWordWheel$Words;", true)
  | 1 => ("WordWheel$RingCounter", "row", "[I", true)
  | 2 => ("WordWheel$RingCounter", "pathways", "[I", true)
  | _ => ("WordWheel$RingCounter", "amounts", "[I", true)
def tyX3 : Nat → FieldType := fun k => match k with
  | 0 => .object "WordWheel$Words"
  | 1 => .array .int
  | 2 => .array .int
  | _ => .array .int
abbrev wsX30 : List Cond := u_ws RX3 TX3 4
theorem nmX3 : ∀ a, a < 4 → ∀ b, b < 4 → a ≠ b → (TX3 a).2.1 ≠ (TX3 b).2.1 := by decide +kernel
theorem tyX3_ok : ∀ k, k < 4 → parseFieldDescriptor (TX3 k).2.2.1 = some (tyX3 k) := by decide +kernel
abbrev cX3_init : ByteArray := prog_5_method_1_code
def yX3_init : MethodName := ⟨RX3, "<init>", "(LWordWheel$Words;)V"⟩
abbrev cX3_ringsUpTo : ByteArray := prog_5_method_2_code
def yX3_ringsUpTo : MethodName := ⟨RX3, "ringsUpTo", "(I)I"⟩
abbrev cX3_greatestRepeated : ByteArray := prog_5_method_3_code
def yX3_greatestRepeated : MethodName := ⟨RX3, "greatestRepeated", "(II)I"⟩
abbrev cX3_leastOfRing : ByteArray := prog_5_method_4_code
def yX3_leastOfRing : MethodName := ⟨RX3, "leastOfRing", "(I)I"⟩
abbrev cX3_wordsUpTo : ByteArray := prog_5_method_5_code
def yX3_wordsUpTo : MethodName := ⟨RX3, "wordsUpTo", "(II)I"⟩
abbrev cX3_lowerToBeginning : ByteArray := prog_5_method_6_code
def yX3_lowerToBeginning : MethodName := ⟨RX3, "lowerToBeginning", "(I)V"⟩
abbrev cX3_firstFault : ByteArray := prog_5_method_7_code
def yX3_firstFault : MethodName := ⟨RX3, "firstFault", "(I)I"⟩
abbrev cX3_wordsAboveRow : ByteArray := prog_5_method_8_code
def yX3_wordsAboveRow : MethodName := ⟨RX3, "wordsAboveRow", "(I)I"⟩
abbrev cX3_greaterThan : ByteArray := prog_5_method_9_code
def yX3_greaterThan : MethodName := ⟨RX3, "greaterThan", "(I)I"⟩
abbrev cX3_takeAmounts : ByteArray := prog_5_method_10_code
def yX3_takeAmounts : MethodName := ⟨RX3, "takeAmounts", "(IIIII)Z"⟩
abbrev cX3_ringsOfAmounts : ByteArray := prog_5_method_11_code
def yX3_ringsOfAmounts : MethodName := ⟨RX3, "ringsOfAmounts", "()I"⟩
abbrev cX3_allDivisible : ByteArray := prog_5_method_12_code
def yX3_allDivisible : MethodName := ⟨RX3, "allDivisible", "(I)Z"⟩
abbrev cX3_arrangements : ByteArray := prog_5_method_13_code
def yX3_arrangements : MethodName := ⟨RX3, "arrangements", "(I)J"⟩
def RX4 : String := "WordWheel$Round"
def TX4 : u_T := fun k => match k with
  | 0 => ("WordWheel$Round", "words", "LWordWheel$Words;", true)
  | 1 => ("WordWheel$Round", "letters", "[B", true)
  | 2 => ("WordWheel$Round", "places", "[I", true)
  | 3 => ("WordWheel$Round", "kind", "I", false)
  | 4 => ("WordWheel$Round", "row", "[I", true)
  | 5 => ("WordWheel$Round", "slipsOf", "[J", true)
  | 6 => ("WordWheel$Round", "standsAt", "[J", true)
  | _ => ("WordWheel$Round", "firstMatch", "I", false)
def tyX4 : Nat → FieldType := fun k => match k with
  | 0 => .object "WordWheel$Words"
  | 1 => .array .byte
  | 2 => .array .int
  | 3 => .int
  | 4 => .array .int
  | 5 => .array .long
  | 6 => .array .long
  | _ => .int
abbrev wsX40 : List Cond := u_ws RX4 TX4 8
theorem nmX4 : ∀ a, a < 8 → ∀ b, b < 8 → a ≠ b → (TX4 a).2.1 ≠ (TX4 b).2.1 := by decide +kernel
theorem tyX4_ok : ∀ k, k < 8 → parseFieldDescriptor (TX4 k).2.2.1 = some (tyX4 k) := by decide +kernel
abbrev cX4_init : ByteArray := prog_6_method_1_code
def yX4_init : MethodName := ⟨RX4, "<init>", "(LWordWheel$Words;)V"⟩
abbrev cX4_drop : ByteArray := prog_6_method_2_code
def yX4_drop : MethodName := ⟨RX4, "drop", "()V"⟩
abbrev cX4_isThere : ByteArray := prog_6_method_3_code
def yX4_isThere : MethodName := ⟨RX4, "isThere", "()Z"⟩
abbrev cX4_isPlace : ByteArray := prog_6_method_4_code
def yX4_isPlace : MethodName := ⟨RX4, "isPlace", "(I)Z"⟩
abbrev cX4_becomeLeast : ByteArray := prog_6_method_5_code
def yX4_becomeLeast : MethodName := ⟨RX4, "becomeLeast", "()V"⟩
abbrev cX4_nextRow : ByteArray := prog_6_method_6_code
def yX4_nextRow : MethodName := ⟨RX4, "nextRow", "(I)I"⟩
abbrev cX4_findPlaces : ByteArray := prog_6_method_7_code
def yX4_findPlaces : MethodName := ⟨RX4, "findPlaces", "()V"⟩
abbrev cX4_becomeGreedy : ByteArray := prog_6_method_8_code
def yX4_becomeGreedy : MethodName := ⟨RX4, "becomeGreedy", "()V"⟩
abbrev cX4_greatestNew : ByteArray := prog_6_method_9_code
def yX4_greatestNew : MethodName := ⟨RX4, "greatestNew", "(I)I"⟩
abbrev cX4_becomeCycle : ByteArray := prog_6_method_10_code
def yX4_becomeCycle : MethodName := ⟨RX4, "becomeCycle", "([I)V"⟩
abbrev cX4_writeLetters : ByteArray := prog_6_method_11_code
def yX4_writeLetters : MethodName := ⟨RX4, "writeLetters", "(II[II)V"⟩
abbrev cX4_countMatches : ByteArray := prog_6_method_12_code
def yX4_countMatches : MethodName := ⟨RX4, "countMatches", "([IIII)I"⟩
abbrev cX4_noteSlips : ByteArray := prog_6_method_13_code
def yX4_noteSlips : MethodName := ⟨RX4, "noteSlips", "([III)V"⟩
abbrev cX4_noteFirstPlaces : ByteArray := prog_6_method_14_code
def yX4_noteFirstPlaces : MethodName := ⟨RX4, "noteFirstPlaces", "(I)I"⟩
def RX5 : String := "WordWheel$Tape"
def TX5 : u_T := fun k => match k with
  | 0 => ("WordWheel$Tape", "words", "LWordWheel$Words;", true)
  | 1 => ("WordWheel$Tape", "items", "[I", true)
  | 2 => ("WordWheel$Tape", "form", "I", false)
  | 3 => ("WordWheel$Tape", "length", "I", false)
  | _ => ("WordWheel$Tape", "begun", "[I", true)
def tyX5 : Nat → FieldType := fun k => match k with
  | 0 => .object "WordWheel$Words"
  | 1 => .array .int
  | 2 => .int
  | 3 => .int
  | _ => .array .int
abbrev wsX50 : List Cond := u_ws RX5 TX5 5
theorem nmX5 : ∀ a, a < 5 → ∀ b, b < 5 → a ≠ b → (TX5 a).2.1 ≠ (TX5 b).2.1 := by decide +kernel
theorem tyX5_ok : ∀ k, k < 5 → parseFieldDescriptor (TX5 k).2.2.1 = some (tyX5 k) := by decide +kernel
abbrev cX5_init : ByteArray := prog_7_method_1_code
def yX5_init : MethodName := ⟨RX5, "<init>", "(LWordWheel$Words;)V"⟩
abbrev cX5_isLost : ByteArray := prog_7_method_2_code
def yX5_isLost : MethodName := ⟨RX5, "isLost", "()Z"⟩
abbrev cX5_begin : ByteArray := prog_7_method_3_code
def yX5_begin : MethodName := ⟨RX5, "begin", "(II)V"⟩
abbrev cX5_drop : ByteArray := prog_7_method_4_code
def yX5_drop : MethodName := ⟨RX5, "drop", "()I"⟩
abbrev cX5_hasItems : ByteArray := prog_7_method_5_code
def yX5_hasItems : MethodName := ⟨RX5, "hasItems", "(II)Z"⟩
abbrev cX5_fitted : ByteArray := prog_7_method_6_code
def yX5_fitted : MethodName := ⟨RX5, "fitted", "(I)I"⟩
abbrev cX5_hasBlanks : ByteArray := prog_7_method_7_code
def yX5_hasBlanks : MethodName := ⟨RX5, "hasBlanks", "()Z"⟩
abbrev cX5_firstRepeated : ByteArray := prog_7_method_8_code
def yX5_firstRepeated : MethodName := ⟨RX5, "firstRepeated", "()I"⟩
abbrev cX5_wordAt : ByteArray := prog_7_method_9_code
def yX5_wordAt : MethodName := ⟨RX5, "wordAt", "(I)I"⟩
def RX6 : String := "WordWheel$Words"
def TX6 : u_T := fun k => match k with
  | 0 => ("WordWheel$Words", "power", "[I", true)
  | 1 => ("WordWheel$Words", "letters", "I", false)
  | 2 => ("WordWheel$Words", "length", "I", false)
  | 3 => ("WordWheel$Words", "all", "I", false)
  | _ => ("WordWheel$Words", "high", "I", false)
def tyX6 : Nat → FieldType := fun k => match k with
  | 0 => .array .int
  | 1 => .int
  | 2 => .int
  | 3 => .int
  | _ => .int
abbrev wsX60 : List Cond := u_ws RX6 TX6 5
theorem nmX6 : ∀ a, a < 5 → ∀ b, b < 5 → a ≠ b → (TX6 a).2.1 ≠ (TX6 b).2.1 := by decide +kernel
theorem tyX6_ok : ∀ k, k < 5 → parseFieldDescriptor (TX6 k).2.2.1 = some (tyX6 k) := by decide +kernel
abbrev cX6_init : ByteArray := prog_8_method_1_code
def yX6_init : MethodName := ⟨RX6, "<init>", "()V"⟩
abbrev cX6_howMany : ByteArray := prog_8_method_2_code
def yX6_howMany : MethodName := ⟨RX6, "howMany", "(II)I"⟩
abbrev cX6_become : ByteArray := prog_8_method_3_code
def yX6_become : MethodName := ⟨RX6, "become", "(II)V"⟩
abbrev cX6_has : ByteArray := prog_8_method_4_code
def yX6_has : MethodName := ⟨RX6, "has", "(I)Z"⟩
abbrev cX6_isLetter : ByteArray := prog_8_method_5_code
def yX6_isLetter : MethodName := ⟨RX6, "isLetter", "(I)Z"⟩
abbrev cX6_differInFirst : ByteArray := prog_8_method_6_code
def yX6_differInFirst : MethodName := ⟨RX6, "differInFirst", "(II)Z"⟩
abbrev cX6_turned : ByteArray := prog_8_method_7_code
def yX6_turned : MethodName := ⟨RX6, "turned", "(II)I"⟩
abbrev cX6_turnedOnce : ByteArray := prog_8_method_8_code
def yX6_turnedOnce : MethodName := ⟨RX6, "turnedOnce", "(I)I"⟩
abbrev cX6_leastOf : ByteArray := prog_8_method_9_code
def yX6_leastOf : MethodName := ⟨RX6, "leastOf", "(I)I"⟩
abbrev cX6_stepsToLeast : ByteArray := prog_8_method_10_code
def yX6_stepsToLeast : MethodName := ⟨RX6, "stepsToLeast", "(I)I"⟩
abbrev cX6_ringSize : ByteArray := prog_8_method_11_code
def yX6_ringSize : MethodName := ⟨RX6, "ringSize", "(I)I"⟩
abbrev cX6_backward : ByteArray := prog_8_method_12_code
def yX6_backward : MethodName := ⟨RX6, "backward", "(I)I"⟩
def RX7 : String := "WordWheel"
def TX7 : u_T := fun k => match k with
  | 0 => ("WordWheel", "words", "LWordWheel$Words;", true)
  | 1 => ("WordWheel", "counter", "LWordWheel$RingCounter;", true)
  | 2 => ("WordWheel", "register", "LWordWheel$Register;", true)
  | 3 => ("WordWheel", "theRound", "LWordWheel$Round;", true)
  | 4 => ("WordWheel", "tapes", "[LWordWheel$Tape;", true)
  | 5 => ("WordWheel", "parting", "LWordWheel$Parting;", true)
  | 6 => ("WordWheel", "recurring", "LWordWheel$Recurring;", true)
  | 7 => ("WordWheel", "firstFound", "I", false)
  | _ => ("WordWheel", "latestFinding", "I", false)
def tyX7 : Nat → FieldType := fun k => match k with
  | 0 => .object "WordWheel$Words"
  | 1 => .object "WordWheel$RingCounter"
  | 2 => .object "WordWheel$Register"
  | 3 => .object "WordWheel$Round"
  | 4 => .array (.object "WordWheel$Tape")
  | 5 => .object "WordWheel$Parting"
  | 6 => .object "WordWheel$Recurring"
  | 7 => .int
  | _ => .int
abbrev wsX70 : List Cond := u_ws RX7 TX7 9
theorem nmX7 : ∀ a, a < 9 → ∀ b, b < 9 → a ≠ b → (TX7 a).2.1 ≠ (TX7 b).2.1 := by decide +kernel
theorem tyX7_ok : ∀ k, k < 9 → parseFieldDescriptor (TX7 k).2.2.1 = some (tyX7 k) := by decide +kernel
abbrev cX7_init : ByteArray := prog_1_method_1_code
def yX7_init : MethodName := ⟨RX7, "<init>", "()V"⟩
abbrev cX7_wheel : ByteArray := prog_1_method_2_code
def yX7_wheel : MethodName := ⟨RX7, "wheel", "(II)I"⟩
abbrev cX7_turn : ByteArray := prog_1_method_3_code
def yX7_turn : MethodName := ⟨RX7, "turn", "(II)I"⟩
abbrev cX7_least : ByteArray := prog_1_method_4_code
def yX7_least : MethodName := ⟨RX7, "least", "(I)I"⟩
abbrev cX7_steps : ByteArray := prog_1_method_5_code
def yX7_steps : MethodName := ⟨RX7, "steps", "(I)I"⟩
abbrev cX7_size : ByteArray := prog_1_method_6_code
def yX7_size : MethodName := ⟨RX7, "size", "(I)I"⟩
abbrev cX7_even : ByteArray := prog_1_method_7_code
def yX7_even : MethodName := ⟨RX7, "even", "(I)I"⟩
abbrev cX7_rings : ByteArray := prog_1_method_8_code
def yX7_rings : MethodName := ⟨RX7, "rings", "()I"⟩
abbrev cX7_ringOf : ByteArray := prog_1_method_9_code
def yX7_ringOf : MethodName := ⟨RX7, "ringOf", "(I)I"⟩
abbrev cX7_ring : ByteArray := prog_1_method_10_code
def yX7_ring : MethodName := ⟨RX7, "ring", "(I)I"⟩
abbrev cX7_below : ByteArray := prog_1_method_11_code
def yX7_below : MethodName := ⟨RX7, "below", "(I)I"⟩
abbrev cX7_content : ByteArray := prog_1_method_12_code
def yX7_content : MethodName := ⟨RX7, "content", "(IIIII)I"⟩
abbrev cX7_factor : ByteArray := prog_1_method_13_code
def yX7_factor : MethodName := ⟨RX7, "factor", "(II)I"⟩
abbrev cX7_sum : ByteArray := prog_1_method_14_code
def yX7_sum : MethodName := ⟨RX7, "sum", "(I)I"⟩
abbrev cX7_go : ByteArray := prog_1_method_15_code
def yX7_go : MethodName := ⟨RX7, "go", "(I)I"⟩
abbrev cX7_right : ByteArray := prog_1_method_16_code
def yX7_right : MethodName := ⟨RX7, "right", "()I"⟩
abbrev cX7_exchange : ByteArray := prog_1_method_17_code
def yX7_exchange : MethodName := ⟨RX7, "exchange", "(II)I"⟩
abbrev cX7_back : ByteArray := prog_1_method_18_code
def yX7_back : MethodName := ⟨RX7, "back", "()I"⟩
abbrev cX7_cycles : ByteArray := prog_1_method_19_code
def yX7_cycles : MethodName := ⟨RX7, "cycles", "()I"⟩
abbrev cX7_cycleOf : ByteArray := prog_1_method_20_code
def yX7_cycleOf : MethodName := ⟨RX7, "cycleOf", "(I)I"⟩
abbrev cX7_cycle : ByteArray := prog_1_method_21_code
def yX7_cycle : MethodName := ⟨RX7, "cycle", "(II)I"⟩
abbrev cX7_join : ByteArray := prog_1_method_22_code
def yX7_join : MethodName := ⟨RX7, "join", "()I"⟩
abbrev cX7_round : ByteArray := prog_1_method_23_code
def yX7_round : MethodName := ⟨RX7, "round", "(I)I"⟩
abbrev cX7_letter : ByteArray := prog_1_method_24_code
def yX7_letter : MethodName := ⟨RX7, "letter", "(I)I"⟩
abbrev cX7_place : ByteArray := prog_1_method_25_code
def yX7_place : MethodName := ⟨RX7, "place", "(I)I"⟩
abbrev cX7_way : ByteArray := prog_1_method_26_code
def yX7_way : MethodName := ⟨RX7, "way", "(II)I"⟩
abbrev cX7_tape : ByteArray := prog_1_method_27_code
def yX7_tape : MethodName := ⟨RX7, "tape", "(III)I"⟩
abbrev cX7_lose : ByteArray := prog_1_method_28_code
def yX7_lose : MethodName := ⟨RX7, "lose", "(I)I"⟩
abbrev cX7_put : ByteArray := prog_1_method_29_code
def yX7_put : MethodName := ⟨RX7, "put", "(IIII)I"⟩
abbrev cX7_get : ByteArray := prog_1_method_30_code
def yX7_get : MethodName := ⟨RX7, "get", "(III)I"⟩
abbrev cX7_copy : ByteArray := prog_1_method_31_code
def yX7_copy : MethodName := ⟨RX7, "copy", "(IIIII)I"⟩
abbrev cX7_print : ByteArray := prog_1_method_32_code
def yX7_print : MethodName := ⟨RX7, "print", "(IIII)I"⟩
abbrev cX7_find : ByteArray := prog_1_method_33_code
def yX7_find : MethodName := ⟨RX7, "find", "(IIII)I"⟩
abbrev cX7_found : ByteArray := prog_1_method_34_code
def yX7_found : MethodName := ⟨RX7, "found", "()I"⟩
abbrev cX7_twice : ByteArray := prog_1_method_35_code
def yX7_twice : MethodName := ⟨RX7, "twice", "(I)I"⟩
abbrev cX7_parts : ByteArray := prog_1_method_36_code
def yX7_parts : MethodName := ⟨RX7, "parts", "(I)I"⟩
abbrev cX7_part : ByteArray := prog_1_method_37_code
def yX7_part : MethodName := ⟨RX7, "part", "(I)I"⟩
abbrev cX7_recurrence : ByteArray := prog_1_method_38_code
def yX7_recurrence : MethodName := ⟨RX7, "recurrence", "(I)I"⟩
abbrev cX7_coefficient : ByteArray := prog_1_method_39_code
def yX7_coefficient : MethodName := ⟨RX7, "coefficient", "(I)I"⟩
abbrev cX7_count : ByteArray := prog_1_method_40_code
def yX7_count : MethodName := ⟨RX7, "count", "(I)I"⟩
abbrev cX7_digest : ByteArray := prog_1_method_41_code
def yX7_digest : MethodName := ⟨RX7, "digest", "()J"⟩
abbrev cX7_isTape : ByteArray := prog_1_method_42_code
def yX7_isTape : MethodName := ⟨RX7, "isTape", "(I)Z"⟩
abbrev cX7_isForm : ByteArray := prog_1_method_43_code
def yX7_isForm : MethodName := ⟨RX7, "isForm", "(I)Z"⟩
abbrev cX7_finding : ByteArray := prog_1_method_44_code
def yX7_finding : MethodName := ⟨RX7, "finding", "(I)I"⟩
abbrev cX7_faultOfItem : ByteArray := prog_1_method_45_code
def yX7_faultOfItem : MethodName := ⟨RX7, "faultOfItem", "(LWordWheel$Tape;II)I"⟩
def RX8 : String := "WordWheelModel"
def TX8 : u_T := fun k => match k with
  | 0 => ("WordWheelModel", "k", "I", false)
  | 1 => ("WordWheelModel", "n", "I", false)
  | 2 => ("WordWheelModel", "all", "I", false)
  | 3 => ("WordWheelModel", "leasts", "[I", true)
  | 4 => ("WordWheelModel", "wanted", "[I", true)
  | 5 => ("WordWheelModel", "had", "[I", true)
  | 6 => ("WordWheelModel", "factors", "[I", true)
  | 7 => ("WordWheelModel", "sum", "I", false)
  | 8 => ("WordWheelModel", "to", "[I", true)
  | 9 => ("WordWheelModel", "exchanges", "I", false)
  | 10 => ("WordWheelModel", "one", "[I", true)
  | 11 => ("WordWheelModel", "other", "[I", true)
  | 12 => ("WordWheelModel", "seen", "[Z", true)
  | 13 => ("WordWheelModel", "number", "[I", true)
  | 14 => ("WordWheelModel", "cycleMany", "I", false)
  | 15 => ("WordWheelModel", "group", "[I", true)
  | 16 => ("WordWheelModel", "which", "I", false)
  | 17 => ("WordWheelModel", "round", "[I", true)
  | 18 => ("WordWheelModel", "placeOf", "[I", true)
  | 19 => ("WordWheelModel", "forms", "[I", true)
  | 20 => ("WordWheelModel", "sizes", "[I", true)
  | 21 => ("WordWheelModel", "items", "[I", true)
  | 22 => ("WordWheelModel", "moved", "[I", true)
  | 23 => ("WordWheelModel", "latest", "I", false)
  | 24 => ("WordWheelModel", "firstFound", "I", false)
  | 25 => ("WordWheelModel", "partMany", "I", false)
  | 26 => ("WordWheelModel", "partAt", "[I", true)
  | 27 => ("WordWheelModel", "length", "I", false)
  | 28 => ("WordWheelModel", "told", "[I", true)
  | 29 => ("WordWheelModel", "now", "[I", true)
  | 30 => ("WordWheelModel", "before", "[I", true)
  | 31 => ("WordWheelModel", "kept", "[I", true)
  | _ => ("WordWheelModel", "matrix", "[I", true)
def tyX8 : Nat → FieldType := fun k => match k with
  | 0 => .int
  | 1 => .int
  | 2 => .int
  | 3 => .array .int
  | 4 => .array .int
  | 5 => .array .int
  | 6 => .array .int
  | 7 => .int
  | 8 => .array .int
  | 9 => .int
  | 10 => .array .int
  | 11 => .array .int
  | 12 => .array .boolean
  | 13 => .array .int
  | 14 => .int
  | 15 => .array .int
  | 16 => .int
  | 17 => .array .int
  | 18 => .array .int
  | 19 => .array .int
  | 20 => .array .int
  | 21 => .array .int
  | 22 => .array .int
  | 23 => .int
  | 24 => .int
  | 25 => .int
  | 26 => .array .int
  | 27 => .int
  | 28 => .array .int
  | 29 => .array .int
  | 30 => .array .int
  | 31 => .array .int
  | _ => .array .int
abbrev wsX80 : List Cond := u_ws RX8 TX8 33
theorem nmX8 : ∀ a, a < 33 → ∀ b, b < 33 → a ≠ b → (TX8 a).2.1 ≠ (TX8 b).2.1 := by decide +kernel
theorem tyX8_ok : ∀ k, k < 33 → parseFieldDescriptor (TX8 k).2.2.1 = some (tyX8 k) := by decide +kernel
abbrev cX8_init : ByteArray := prog_10_method_1_code
def yX8_init : MethodName := ⟨RX8, "<init>", "()V"⟩
abbrev cX8_in : ByteArray := prog_10_method_3_code
def yX8_in : MethodName := ⟨RX8, "in", "(JJJ)Z"⟩
abbrev cX8_wheel : ByteArray := prog_10_method_4_code
def yX8_wheel : MethodName := ⟨RX8, "wheel", "(II)I"⟩
abbrev cX8_isWord : ByteArray := prog_10_method_5_code
def yX8_isWord : MethodName := ⟨RX8, "isWord", "(I)Z"⟩
abbrev cX8_next : ByteArray := prog_10_method_6_code
def yX8_next : MethodName := ⟨RX8, "next", "(I)I"⟩
abbrev cX8_leastOf : ByteArray := prog_10_method_7_code
def yX8_leastOf : MethodName := ⟨RX8, "leastOf", "(I)I"⟩
abbrev cX8_turn : ByteArray := prog_10_method_8_code
def yX8_turn : MethodName := ⟨RX8, "turn", "(II)I"⟩
abbrev cX8_least : ByteArray := prog_10_method_9_code
def yX8_least : MethodName := ⟨RX8, "least", "(I)I"⟩
abbrev cX8_steps : ByteArray := prog_10_method_10_code
def yX8_steps : MethodName := ⟨RX8, "steps", "(I)I"⟩
abbrev cX8_sizeOf : ByteArray := prog_10_method_11_code
def yX8_sizeOf : MethodName := ⟨RX8, "sizeOf", "(I)I"⟩
abbrev cX8_size : ByteArray := prog_10_method_12_code
def yX8_size : MethodName := ⟨RX8, "size", "(I)I"⟩
abbrev cX8_even : ByteArray := prog_10_method_13_code
def yX8_even : MethodName := ⟨RX8, "even", "(I)I"⟩
abbrev cX8_rings : ByteArray := prog_10_method_14_code
def yX8_rings : MethodName := ⟨RX8, "rings", "()I"⟩
abbrev cX8_ringOf : ByteArray := prog_10_method_15_code
def yX8_ringOf : MethodName := ⟨RX8, "ringOf", "(I)I"⟩
abbrev cX8_ring : ByteArray := prog_10_method_16_code
def yX8_ring : MethodName := ⟨RX8, "ring", "(I)I"⟩
abbrev cX8_below : ByteArray := prog_10_method_17_code
def yX8_below : MethodName := ⟨RX8, "below", "(I)I"⟩
abbrev cX8_content : ByteArray := prog_10_method_18_code
def yX8_content : MethodName := ⟨RX8, "content", "(IIIII)I"⟩
abbrev cX8_hasWanted : ByteArray := prog_10_method_19_code
def yX8_hasWanted : MethodName := ⟨RX8, "hasWanted", "(I)Z"⟩
abbrev cX8_lead : ByteArray := prog_10_method_20_code
def yX8_lead : MethodName := ⟨RX8, "lead", "()V"⟩
abbrev cX8_factor : ByteArray := prog_10_method_21_code
def yX8_factor : MethodName := ⟨RX8, "factor", "(II)I"⟩
abbrev cX8_sum : ByteArray := prog_10_method_22_code
def yX8_sum : MethodName := ⟨RX8, "sum", "(I)I"⟩
abbrev cX8_go : ByteArray := prog_10_method_23_code
def yX8_go : MethodName := ⟨RX8, "go", "(I)I"⟩
abbrev cX8_isRight : ByteArray := prog_10_method_24_code
def yX8_isRight : MethodName := ⟨RX8, "isRight", "()Z"⟩
abbrev cX8_right : ByteArray := prog_10_method_25_code
def yX8_right : MethodName := ⟨RX8, "right", "()I"⟩
abbrev cX8_findCycles : ByteArray := prog_10_method_26_code
def yX8_findCycles : MethodName := ⟨RX8, "findCycles", "()V"⟩
abbrev cX8_swap : ByteArray := prog_10_method_27_code
def yX8_swap : MethodName := ⟨RX8, "swap", "(II)V"⟩
abbrev cX8_exchange : ByteArray := prog_10_method_28_code
def yX8_exchange : MethodName := ⟨RX8, "exchange", "(II)I"⟩
abbrev cX8_back : ByteArray := prog_10_method_29_code
def yX8_back : MethodName := ⟨RX8, "back", "()I"⟩
abbrev cX8_cycles : ByteArray := prog_10_method_30_code
def yX8_cycles : MethodName := ⟨RX8, "cycles", "()I"⟩
abbrev cX8_cycleOf : ByteArray := prog_10_method_31_code
def yX8_cycleOf : MethodName := ⟨RX8, "cycleOf", "(I)I"⟩
abbrev cX8_cycle : ByteArray := prog_10_method_32_code
def yX8_cycle : MethodName := ⟨RX8, "cycle", "(II)I"⟩
abbrev cX8_groupOf : ByteArray := prog_10_method_33_code
def yX8_groupOf : MethodName := ⟨RX8, "groupOf", "(I)I"⟩
abbrev cX8_joins : ByteArray := prog_10_method_34_code
def yX8_joins : MethodName := ⟨RX8, "joins", "(Z)I"⟩
abbrev cX8_join : ByteArray := prog_10_method_35_code
def yX8_join : MethodName := ⟨RX8, "join", "()I"⟩
abbrev cX8_leastRound : ByteArray := prog_10_method_36_code
def yX8_leastRound : MethodName := ⟨RX8, "leastRound", "()V"⟩
abbrev cX8_greedyRound : ByteArray := prog_10_method_37_code
def yX8_greedyRound : MethodName := ⟨RX8, "greedyRound", "()V"⟩
abbrev cX8_round : ByteArray := prog_10_method_38_code
def yX8_round : MethodName := ⟨RX8, "round", "(I)I"⟩
abbrev cX8_letter : ByteArray := prog_10_method_39_code
def yX8_letter : MethodName := ⟨RX8, "letter", "(I)I"⟩
abbrev cX8_place : ByteArray := prog_10_method_40_code
def yX8_place : MethodName := ⟨RX8, "place", "(I)I"⟩
abbrev cX8_way : ByteArray := prog_10_method_41_code
def yX8_way : MethodName := ⟨RX8, "way", "(II)I"⟩
abbrev cX8_met : ByteArray := prog_10_method_42_code
def yX8_met : MethodName := ⟨RX8, "met", "(I)I"⟩
abbrev cX8_isTape : ByteArray := prog_10_method_43_code
def yX8_isTape : MethodName := ⟨RX8, "isTape", "(I)Z"⟩
abbrev cX8_tape : ByteArray := prog_10_method_44_code
def yX8_tape : MethodName := ⟨RX8, "tape", "(III)I"⟩
abbrev cX8_lose : ByteArray := prog_10_method_45_code
def yX8_lose : MethodName := ⟨RX8, "lose", "(I)I"⟩
abbrev cX8_lacks : ByteArray := prog_10_method_46_code
def yX8_lacks : MethodName := ⟨RX8, "lacks", "(III)I"⟩
abbrev cX8_put : ByteArray := prog_10_method_47_code
def yX8_put : MethodName := ⟨RX8, "put", "(IIII)I"⟩
abbrev cX8_get : ByteArray := prog_10_method_48_code
def yX8_get : MethodName := ⟨RX8, "get", "(III)I"⟩
abbrev cX8_isWithin : ByteArray := prog_10_method_49_code
def yX8_isWithin : MethodName := ⟨RX8, "isWithin", "(III)Z"⟩
abbrev cX8_copy : ByteArray := prog_10_method_50_code
def yX8_copy : MethodName := ⟨RX8, "copy", "(IIIII)I"⟩
abbrev cX8_print : ByteArray := prog_10_method_51_code
def yX8_print : MethodName := ⟨RX8, "print", "(IIII)I"⟩
abbrev cX8_find : ByteArray := prog_10_method_52_code
def yX8_find : MethodName := ⟨RX8, "find", "(IIII)I"⟩
abbrev cX8_found : ByteArray := prog_10_method_53_code
def yX8_found : MethodName := ⟨RX8, "found", "()I"⟩
abbrev cX8_noLetters : ByteArray := prog_10_method_54_code
def yX8_noLetters : MethodName := ⟨RX8, "noLetters", "(I)I"⟩
abbrev cX8_twice : ByteArray := prog_10_method_55_code
def yX8_twice : MethodName := ⟨RX8, "twice", "(I)I"⟩
abbrev cX8_parts : ByteArray := prog_10_method_56_code
def yX8_parts : MethodName := ⟨RX8, "parts", "(I)I"⟩
abbrev cX8_part : ByteArray := prog_10_method_57_code
def yX8_part : MethodName := ⟨RX8, "part", "(I)I"⟩
abbrev cX8_inverse : ByteArray := prog_10_method_58_code
def yX8_inverse : MethodName := ⟨RX8, "inverse", "(I)I"⟩
abbrev cX8_leastLength : ByteArray := prog_10_method_59_code
def yX8_leastLength : MethodName := ⟨RX8, "leastLength", "(I)I"⟩
abbrev cX8_solve : ByteArray := prog_10_method_60_code
def yX8_solve : MethodName := ⟨RX8, "solve", "(II)V"⟩
abbrev cX8_recurrence : ByteArray := prog_10_method_61_code
def yX8_recurrence : MethodName := ⟨RX8, "recurrence", "(I)I"⟩
abbrev cX8_coefficient : ByteArray := prog_10_method_62_code
def yX8_coefficient : MethodName := ⟨RX8, "coefficient", "(I)I"⟩
abbrev cX8_count : ByteArray := prog_10_method_63_code
def yX8_count : MethodName := ⟨RX8, "count", "(I)I"⟩
abbrev cX8_digest : ByteArray := prog_10_method_64_code
def yX8_digest : MethodName := ⟨RX8, "digest", "()J"⟩
def RJ13 : String := "java/lang/Long"
abbrev cJ13_bitCount_95d88 : ByteArray := prog_11_method_50_code
def yJ13_bitCount_95d88 : MethodName := ⟨RJ13, "bitCount", "(J)I"⟩
def RJ9 : String := "java/lang/Math"
abbrev cJ9_min_7cf53 : ByteArray := prog_12_method_69_code
def yJ9_min_7cf53 : MethodName := ⟨RJ9, "min", "(II)I"⟩
def RJ10 : String := "java/lang/System"
def RJ7 : String := "java/util/Arrays"
abbrev cJ7_rangeCheck_23922 : ByteArray := prog_14_method_30_code
def yJ7_rangeCheck_23922 : MethodName := ⟨RJ7, "rangeCheck", "(III)V"⟩
abbrev cJ7_fill_d0a16 : ByteArray := prog_14_method_101_code
def yJ7_fill_d0a16 : MethodName := ⟨RJ7, "fill", "([JJ)V"⟩
abbrev cJ7_fill_53178 : ByteArray := prog_14_method_103_code
def yJ7_fill_53178 : MethodName := ⟨RJ7, "fill", "([II)V"⟩
abbrev cJ7_fill_fda19 : ByteArray := prog_14_method_104_code
def yJ7_fill_fda19 : MethodName := ⟨RJ7, "fill", "([IIII)V"⟩
abbrev cJ7_fill_eb02e : ByteArray := prog_14_method_110_code
def yJ7_fill_eb02e : MethodName := ⟨RJ7, "fill", "([BIIB)V"⟩
def RL : String := "WordWheelLaw"
abbrev cL_law : ByteArray := code
def yL_law : MethodName := ⟨RL, "law", "([I)Z"⟩
abbrev vwCl : List vw_C := [(RX0, TX0, 2), (RX1, TX1, 5), (RX2, TX2, 14), (RX3, TX3, 4), (RX4, TX4, 8), (RX5, TX5, 5), (RX6, TX6, 5), (RX7, TX7, 9), (RX8, TX8, 33)]
end
section
/-! the words that every method of ours is given: all of the tables' that go through a call; nest mates' links apart -/
def gw : List Cond := lw_tbl.filter goodWord
def is_N : Cond → Bool
  | .fieldLinkNest .. => true
  | .methodLinkNest .. => true
  | _ => false
def nw : List Cond := lw_tbl.filter is_N
theorem gw_in {w : Cond} (h : w ∈ lw_tbl) (hg : goodWord w = true) : w ∈ gw := List.mem_filter.mpr ⟨h, hg⟩
theorem nw_in {w : Cond} (h : w ∈ lw_tbl) (hg : is_N w = true) : w ∈ nw := List.mem_filter.mpr ⟨h, hg⟩
theorem gw_good {w : Cond} (h : w ∈ gw) : (w.onTables && w.keeps) = true ∨ ∃ ty, w = .arrayClass ty := good_of_word (List.mem_filter.mp h).2
theorem nw_warm {w : Cond} (h : w ∈ nw) {s U : State} (hW : s.WarmedH U.vm) (hZ : va_Nw w s) : va_Nw w U := by
  have h2 := (List.mem_filter.mp h).2
  cases w <;> first | exact va_Nw.warmF hW hZ | exact va_Nw.warmM hW hZ | (simp [is_N] at h2)
theorem nw_tab {w : Cond} (h : w ∈ nw) : w.onTables = true := by
  have h2 := (List.mem_filter.mp h).2
  cases w <;> first | rfl | (simp [is_N] at h2)
theorem in_X0 : ∀ w ∈ wsX00, w ∈ lw_tbl := by decide +kernel
theorem in_X1 : ∀ w ∈ wsX10, w ∈ lw_tbl := by decide +kernel
theorem in_X2 : ∀ w ∈ wsX20, w ∈ lw_tbl := by decide +kernel
theorem in_X3 : ∀ w ∈ wsX30, w ∈ lw_tbl := by decide +kernel
theorem in_X4 : ∀ w ∈ wsX40, w ∈ lw_tbl := by decide +kernel
theorem in_X5 : ∀ w ∈ wsX50, w ∈ lw_tbl := by decide +kernel
theorem in_X6 : ∀ w ∈ wsX60, w ∈ lw_tbl := by decide +kernel
theorem in_X7 : ∀ w ∈ wsX70, w ∈ lw_tbl := by decide +kernel
theorem in_X8 : ∀ w ∈ wsX80, w ∈ lw_tbl := by decide +kernel
theorem lay_good (C : String) (T : u_T) (k : Nat) : goodWord (u_lay C T k) = true := by
  unfold u_lay
  split <;> rfl
theorem ws_good {C : String} {T : u_T} {N : Nat} {w : Cond} (h : w ∈ u_ws C T N) : goodWord w = true := by
  obtain ⟨k, -, rfl⟩ := List.mem_map.mp h
  exact lay_good C T k
theorem gw_cls {ci : Nat} {r : vw_C} (h : vwCl[ci]? = some r) : ∀ w ∈ u_ws r.1 r.2.1 r.2.2, w ∈ gw := by
  intro w hw
  refine gw_in ?_ (ws_good hw)
  match ci, h with
  | 0, h => cases h; exact in_X0 w hw
  | 1, h => cases h; exact in_X1 w hw
  | 2, h => cases h; exact in_X2 w hw
  | 3, h => cases h; exact in_X3 w hw
  | 4, h => cases h; exact in_X4 w hw
  | 5, h => cases h; exact in_X5 w hw
  | 6, h => cases h; exact in_X6 w hw
  | 7, h => cases h; exact in_X7 w hw
  | 8, h => cases h; exact in_X8 w hw
  | k + 9, h => simp [vwCl] at h
/-- the field types, by class -/
def cl_ty (ci : Nat) : Nat → FieldType := match ci with
  | 0 => tyX0
  | 1 => tyX1
  | 2 => tyX2
  | 3 => tyX3
  | 4 => tyX4
  | 5 => tyX5
  | 6 => tyX6
  | 7 => tyX7
  | _ => tyX8
theorem cl_tyok {ci : Nat} {r : vw_C} (h : vwCl[ci]? = some r) : ∀ k, k < r.2.2 → parseFieldDescriptor (r.2.1 k).2.2.1 = some (cl_ty ci k) := by
  match ci, h with
  | 0, h => cases h; exact tyX0_ok
  | 1, h => cases h; exact tyX1_ok
  | 2, h => cases h; exact tyX2_ok
  | 3, h => cases h; exact tyX3_ok
  | 4, h => cases h; exact tyX4_ok
  | 5, h => cases h; exact tyX5_ok
  | 6, h => cases h; exact tyX6_ok
  | 7, h => cases h; exact tyX7_ok
  | 8, h => cases h; exact tyX8_ok
  | k + 9, h => simp [vwCl] at h
theorem cl_nm {ci : Nat} {r : vw_C} (h : vwCl[ci]? = some r) : ∀ a, a < r.2.2 → ∀ b, b < r.2.2 → a ≠ b → (r.2.1 a).2.1 ≠ (r.2.1 b).2.1 := by
  match ci, h with
  | 0, h => cases h; exact nmX0
  | 1, h => cases h; exact nmX1
  | 2, h => cases h; exact nmX2
  | 3, h => cases h; exact nmX3
  | 4, h => cases h; exact nmX4
  | 5, h => cases h; exact nmX5
  | 6, h => cases h; exact nmX6
  | 7, h => cases h; exact nmX7
  | 8, h => cases h; exact nmX8
  | k + 9, h => simp [vwCl] at h
end
section
/-! OUR OWN JUDGEMENT over the kit's: cells have numbers (2, 3 .. in the order in which they are made; 0 is the script, 1 the table TOTIENT), a heap is a function from numbers to cells (of 0: how many there are) -/
abbrev ce : Type := Nat × (List Value ⊕ (Nat × ((Nat → Int32) ⊕ (Nat → Int64) ⊕ (Nat → Option Nat))))
abbrev ah : Type := Nat → ce
abbrev gx : Type := Launch × (Nat × Nat × Nat) × va_G × (Nat → ClassId) × Nat × (Nat → Int32)
def g_l (G : gx) : Launch := G.1
def g_s (G : gx) : Nat := G.2.1.1
def g_t (G : gx) : Nat := G.2.1.2.1
def g_b (G : gx) : Nat := G.2.1.2.2
def g_D (G : gx) : va_G := G.2.2.1
def g_T (G : gx) : Nat → ClassId := G.2.2.2.1
def g_n (G : gx) : Nat := G.2.2.2.2.1
def g_x (G : gx) : Nat → Int32 := G.2.2.2.2.2
def g_A (G : gx) : Nat → Prop := fun q => g_b G ≤ q
def ad (G : gx) (k : Nat) : Nat := match k with
  | 0 => g_s G
  | 1 => g_t G
  | k + 2 => g_b G + k
def cv (G : gx) (v : Value) : Value := match v with
  | .ref k => .ref (ad G k)
  | v => v
def cx (G : gx) (e : ce) : va_E := match e with
  | (ci, .inl fs) => .inr (ci, fs.map (cv G))
  | (t, .inr (n, .inl f)) => .inl (g_T G t, n, .inl f)
  | (t, .inr (n, .inr (.inl f))) => .inl (g_T G t, n, .inr (.inl f))
  | (t, .inr (n, .inr (.inr f))) => .inl (g_T G t, n, .inr (.inr (.inr (.inr (fun j => (f j).map (ad G))))))
def wl (G : gx) (h : ah) : va_W := (List.range (h 0).1).map (fun k => (g_b G + k, cx G (h (k + 2))))
def Hp (G : gx) (h : ah) (H : Heap) : Prop := va_P (g_D G) vwCl (wl G h) H ∧ (∀ k, (h (k + 2)).1 < 100 → k < (h 0).1) ∧ H.size = g_b G + (h 0).1
def g_ty (G : gx) : List (ClassId × FieldType) := [(g_T G 0, .int), (g_T G 1, .byte), (g_T G 2, .boolean), (g_T G 3, .long), (g_T G 4, .object "WordWheel$Tape")]
def Kt (G : gx) (U : State) : Prop := va_K (g_D G) vwCl (g_ty G) U ∧ ∀ w ∈ nw, va_Nw w U
def totL : List Int32 := [0, 1, 1, 2, 2, 4, 2, 6, 4, 6, 4, 10, 4, 12, 6]
def totF (j : Nat) : Int32 := totL.getD j 0
def Ro (G : gx) (U : State) (H : Heap) : Prop := va_X (g_s G) (g_n G) (g_x G) U H ∧ va_X (g_t G) 15 totF U H ∧ va_Z RX3 "TOTIENT" "[I" (.ref (g_t G)) (g_A G) U H ∧ g_s G < g_b G ∧ g_t G < g_b G
def PU (G : gx) (h : ah) (U : State) : Prop := Hp G h U.heap ∧ Kt G U ∧ Ro G U U.heap
abbrev my : Type := MethodName × ByteArray × Nat × Option FieldType
def w_s (y : my) : List Cond := .code y.1 y.2.1 y.2.2.1 y.2.2.2 :: gw
def r_lo (d : Nat) : Nat := if d = 9 then 328 else 33 * d
def r_m (d mc ms : Nat) : Room := { frames := d, cells := mc, slots := ms, locals := r_lo d }
def Qm (G : gx) (Q : Option Value → ah → Prop) : Array Value → State → Outcome → State → Prop := fun _ st o t => (∃ (r : Option Value) (h : ah), o = .returned (r.map (cv G)) ∧ Q r h ∧ Hp G h t.heap) ∧ va_F (g_A G) st t
/-- a method's contract: from the heap h with the arguments a it comes to Q -/
def Ct (G : gx) (y : my) (d mc ms : Nat) (a : List Value) (h : ah) (Q : Option Value → ah → Prop) : Prop :=
  Met (g_l G) y.1 (w_s y) (r_m d mc ms) (va_Pc (a.map (cv G)) (PU G h)) (Qm G Q) mc ms (g_A G)
def Cx (G : gx) (y : my) (p : Program) (s : State) (m : MethodId) (args : Array Value) (meth : Method) (c : Code) : Prop :=
  p.tables.exec = Jvm.exec ∧ c.code = y.2.1 ∧ meth.sig.returnType = y.2.2.2 ∧ c.maxLocals = y.2.2.1 ∧ s.vm.findClass y.1.cls = some m.cls ∧ (∀ w ∈ w_s y, w.before args s = true) ∧ meth.locks = false ∧ meth.name = y.1.name ∧ Kt G s ∧ Ro G s s.heap ∧ g_b G ≤ s.heap.size
/-- the locals, by their places -/
def lq (G : gx) : Nat → List (Option Value) → List (Nat × Value)
  | _, [] => []
  | i, none :: r => lq G (i + 1) r
  | i, some v :: r => (i, cv G v) :: lq G (i + 1) r
def ki (o : Option Value) : Option Value := match o with
  | some (.long _) => none
  | some (.double _) => none
  | o => o
def st1 : Nat → Value → List (Option Value) → List (Option Value)
  | 0, v, L => some v :: L.tail
  | i + 1, v, [] => none :: st1 i v []
  | 1, v, o :: r => ki o :: st1 0 v r
  | i + 2, v, o :: r => o :: st1 (i + 1) v r
def st2 : Nat → Value → List (Option Value) → List (Option Value)
  | 0, v, L => some v :: none :: L.tail.tail
  | i + 1, v, [] => none :: st2 i v []
  | 1, v, o :: r => ki o :: st2 0 v r
  | i + 2, v, o :: r => o :: st2 (i + 1) v r
abbrev bg : Type := Nat × Nat × Nat × Nat × Nat
/-- from place pc of the method y with locals L, stack S, heap h: it comes to an end with Q. b: depth, cells and slots in all, cells and slots made so far -/
def V (G : gx) (y : my) (b : bg) (pc : Nat) (L : List (Option Value)) (S : List Value) (h : ah) (Q : Option Value → ah → Prop) : Prop :=
  ∀ (p : Program) (e : Env) (s : State) (m : MethodId) (args : Array Value) (below : List Frame) (meth : Method) (c : Code) (H : Heap) (locs : List Loc) (ls : Array Slot),
    Cx G y p s m args meth c → b.2.2.2.1 ≤ b.2.1 → b.2.2.2.2 ≤ b.2.2.1 → Hp G h H → va_S (g_A G) s.heap H locs → lv_has ls y.2.2.1 (lq G 0 L) →
    W p (g_l G) e (r_m b.1 b.2.1 b.2.2.1) s m args below meth c H locs b.2.2.2.1 b.2.2.2.2 (MQ below (Qm G Q) args s b.2.1 b.2.2.1 (g_A G)) (F0 m pc ls (S.map (cv G)))
theorem cv_cat (G : gx) (v : Value) : (cv G v).category = v.category := by cases v <;> rfl
theorem lq_get (G : gx) : ∀ (L : List (Option Value)) (j i : Nat) (v : Value), L[i]? = some (some v) → (j + i, cv G v) ∈ lq G j L
  | [], _, _, _, h => by simp at h
  | none :: r, j, 0, v, h => by simp at h
  | none :: r, j, i + 1, v, h => by
    have := lq_get G r (j + 1) i v (by simpa using h)
    rw [show j + (i + 1) = j + 1 + i by omega]
    exact this
  | some w :: r, j, 0, v, h => by
    have : w = v := by simpa using h
    subst this
    exact List.mem_cons_self
  | some w :: r, j, i + 1, v, h => by
    have := lq_get G r (j + 1) i v (by simpa using h)
    rw [show j + (i + 1) = j + 1 + i by omega]
    exact List.mem_cons_of_mem _ this
theorem lq_ge (G : gx) : ∀ (L : List (Option Value)) (j : Nat) (q : Nat × Value), q ∈ lq G j L → j ≤ q.1
  | [], _, _, h => by simp [lq] at h
  | none :: r, j, q, h => by
    have := lq_ge G r (j + 1) q (by simpa [lq] using h)
    omega
  | some w :: r, j, q, h => by
    rcases List.mem_cons.mp (show q ∈ (j, cv G w) :: lq G (j + 1) r from h) with rfl | h
    · exact Nat.le_refl _
    · have := lq_ge G r (j + 1) q h
      omega
theorem lq_tail (G : gx) {L : List (Option Value)} {j : Nat} {q : Nat × Value} (h : q ∈ lq G (j + 1) L.tail) : q ∈ lq G j L := by
  match L with
  | [] => simp [lq] at h
  | none :: r => exact h
  | some w :: r => exact List.mem_cons_of_mem _ h
theorem ki_cat {o : Option Value} {v : Value} (h : ki o = some v) : o = some v ∧ v.category = 1 := by
  match o with
  | none => simp [ki] at h
  | some w => cases w <;> simp [ki] at h <;> subst h <;> exact ⟨rfl, rfl⟩
theorem lq_st1 (G : gx) (v : Value) : ∀ (i : Nat) (L : List (Option Value)) (j : Nat) (q : Nat × Value), q ∈ lq G j (st1 i v L) → q = (j + i, cv G v) ∨ (q ∈ lq G j L ∧ q.1 ≠ j + i ∧ ¬ (q.1 + 1 = j + i ∧ q.2.category = 2))
  | 0, L, j, q, h => by
    rcases List.mem_cons.mp (show q ∈ (j, cv G v) :: lq G (j + 1) L.tail from h) with rfl | h
    · exact Or.inl rfl
    · have := lq_ge G _ _ _ h
      exact Or.inr ⟨lq_tail G h, by omega, by omega⟩
  | i + 1, [], j, q, h => by
    have h2 : q ∈ lq G (j + 1) (st1 i v []) := h
    rcases lq_st1 G v i [] (j + 1) q h2 with rfl | ⟨h3, -⟩
    · exact Or.inl (by rw [show j + 1 + i = j + (i + 1) by omega])
    · simp [lq] at h3
  | 1, o :: r, j, q, h => by
    have h2 : q ∈ lq G j (ki o :: some v :: r.tail) := h
    cases hk : ki o with
    | none =>
      rw [hk] at h2
      rcases List.mem_cons.mp (show q ∈ (j + 1, cv G v) :: lq G (j + 1 + 1) r.tail from h2) with rfl | h3
      · exact Or.inl rfl
      · have h4 := lq_ge G _ _ _ h3
        refine Or.inr ⟨lq_tail G (L := o :: r) (lq_tail G (L := r) h3), by omega, by omega⟩
    | some w =>
      rw [hk] at h2
      obtain ⟨ho, hw⟩ := ki_cat hk
      subst ho
      rcases List.mem_cons.mp (show q ∈ (j, cv G w) :: (j + 1, cv G v) :: lq G (j + 1 + 1) r.tail from h2) with rfl | h3
      · exact Or.inr ⟨List.mem_cons_self, by simp, fun z => by have z2 := z.2; rw [cv_cat, hw] at z2; omega⟩
      · rcases List.mem_cons.mp h3 with rfl | h3
        · exact Or.inl rfl
        · have h4 := lq_ge G _ _ _ h3
          refine Or.inr ⟨lq_tail G (L := some w :: r) (lq_tail G (L := r) h3), by omega, by omega⟩
  | i + 2, o :: r, j, q, h => by
    have h2 : q ∈ lq G j (o :: st1 (i + 1) v r) := h
    have key : q ∈ lq G (j + 1) (st1 (i + 1) v r) → q = (j + (i + 2), cv G v) ∨ (q ∈ lq G j (o :: r) ∧ q.1 ≠ j + (i + 2) ∧ ¬ (q.1 + 1 = j + (i + 2) ∧ q.2.category = 2)) := by
      intro h3
      rcases lq_st1 G v (i + 1) r (j + 1) q h3 with rfl | ⟨a, b, c⟩
      · exact Or.inl (by rw [show j + 1 + (i + 1) = j + (i + 2) by omega])
      · exact Or.inr ⟨lq_tail G (L := o :: r) a, by omega, by rw [show j + (i + 2) = j + 1 + (i + 1) by omega]; exact c⟩
    cases o with
    | none => exact key h2
    | some w =>
      rcases List.mem_cons.mp (show q ∈ (j, cv G w) :: lq G (j + 1) (st1 (i + 1) v r) from h2) with rfl | h3
      · exact Or.inr ⟨List.mem_cons_self, by simp, by simp⟩
      · exact key h3
theorem lq_st2 (G : gx) (v : Value) : ∀ (i : Nat) (L : List (Option Value)) (j : Nat) (q : Nat × Value), q ∈ lq G j (st2 i v L) → q = (j + i, cv G v) ∨ (q ∈ lq G j L ∧ q.1 ≠ j + i ∧ q.1 ≠ j + i + 1 ∧ ¬ (q.1 + 1 = j + i ∧ q.2.category = 2))
  | 0, L, j, q, h => by
    rcases List.mem_cons.mp (show q ∈ (j, cv G v) :: lq G (j + 1 + 1) L.tail.tail from h) with rfl | h
    · exact Or.inl rfl
    · have := lq_ge G _ _ _ h
      exact Or.inr ⟨lq_tail G (lq_tail G h), by omega, by omega, by omega⟩
  | i + 1, [], j, q, h => by
    have h2 : q ∈ lq G (j + 1) (st2 i v []) := h
    rcases lq_st2 G v i [] (j + 1) q h2 with rfl | ⟨h3, -⟩
    · exact Or.inl (by rw [show j + 1 + i = j + (i + 1) by omega])
    · simp [lq] at h3
  | 1, o :: r, j, q, h => by
    have h2 : q ∈ lq G j (ki o :: some v :: none :: r.tail.tail) := h
    cases hk : ki o with
    | none =>
      rw [hk] at h2
      rcases List.mem_cons.mp (show q ∈ (j + 1, cv G v) :: lq G (j + 1 + 1 + 1) r.tail.tail from h2) with rfl | h3
      · exact Or.inl rfl
      · have h4 := lq_ge G _ _ _ h3
        refine Or.inr ⟨lq_tail G (L := o :: r) (lq_tail G (L := r) (lq_tail G (L := r.tail) h3)), by omega, by omega, by omega⟩
    | some w =>
      rw [hk] at h2
      obtain ⟨ho, hw⟩ := ki_cat hk
      subst ho
      rcases List.mem_cons.mp (show q ∈ (j, cv G w) :: (j + 1, cv G v) :: lq G (j + 1 + 1 + 1) r.tail.tail from h2) with rfl | h3
      · exact Or.inr ⟨List.mem_cons_self, by simp, by show j ≠ j + 1 + 1; omega, fun z => by have z2 := z.2; rw [cv_cat, hw] at z2; omega⟩
      · rcases List.mem_cons.mp h3 with rfl | h3
        · exact Or.inl rfl
        · have h4 := lq_ge G _ _ _ h3
          refine Or.inr ⟨lq_tail G (L := some w :: r) (lq_tail G (L := r) (lq_tail G (L := r.tail) h3)), by omega, by omega, by omega⟩
  | i + 2, o :: r, j, q, h => by
    have h2 : q ∈ lq G j (o :: st2 (i + 1) v r) := h
    have key : q ∈ lq G (j + 1) (st2 (i + 1) v r) → q = (j + (i + 2), cv G v) ∨ (q ∈ lq G j (o :: r) ∧ q.1 ≠ j + (i + 2) ∧ q.1 ≠ j + (i + 2) + 1 ∧ ¬ (q.1 + 1 = j + (i + 2) ∧ q.2.category = 2)) := by
      intro h3
      rcases lq_st2 G v (i + 1) r (j + 1) q h3 with rfl | ⟨a, b, b2, c⟩
      · exact Or.inl (by rw [show j + 1 + (i + 1) = j + (i + 2) by omega])
      · exact Or.inr ⟨lq_tail G (L := o :: r) a, by omega, by omega, by rw [show j + (i + 2) = j + 1 + (i + 1) by omega]; exact c⟩
    cases o with
    | none => exact key h2
    | some w =>
      rcases List.mem_cons.mp (show q ∈ (j, cv G w) :: lq G (j + 1) (st2 (i + 1) v r) from h2) with rfl | h3
      · exact Or.inr ⟨List.mem_cons_self, by simp, by show j ≠ j + (i + 2) + 1; omega, by simp⟩
      · exact key h3
theorem lh_st1 {G : gx} {ls : Array Slot} {nL i : Nat} {v : Value} {L : List (Option Value)} (h : lv_has ls nL ((i, cv G v) :: (lq G 0 L).filter (fun q => !(q.1 == i) && !(q.1 + 1 == i && q.2.category == 2)))) : lv_has ls nL (lq G 0 (st1 i v L)) := by
  refine ⟨h.1, h.2.1, fun q hq => h.2.2 q ?_⟩
  rcases lq_st1 G v i L 0 q hq with rfl | ⟨a, b, c⟩
  · rw [Nat.zero_add]; exact List.mem_cons_self
  · rw [Nat.zero_add] at b c
    refine List.mem_cons_of_mem _ (List.mem_filter.mpr ⟨a, ?_⟩)
    simp only [Bool.and_eq_true, Bool.not_eq_true', beq_eq_false_iff_ne, Bool.and_eq_false_iff, ne_eq]
    refine ⟨b, ?_⟩
    by_cases z : q.1 + 1 = i
    · exact Or.inr (fun z2 => c ⟨z, z2⟩)
    · exact Or.inl z
theorem lh_st2 {G : gx} {ls : Array Slot} {nL i : Nat} {v : Value} {L : List (Option Value)} (h : lv_has ls nL ((i, cv G v) :: (lq G 0 L).filter (fun q => !(q.1 == i) && (!(q.1 == i + 1) && !(q.1 + 1 == i && q.2.category == 2))))) : lv_has ls nL (lq G 0 (st2 i v L)) := by
  refine ⟨h.1, h.2.1, fun q hq => h.2.2 q ?_⟩
  rcases lq_st2 G v i L 0 q hq with rfl | ⟨a, b, b2, c⟩
  · rw [Nat.zero_add]; exact List.mem_cons_self
  · rw [Nat.zero_add] at b b2 c
    refine List.mem_cons_of_mem _ (List.mem_filter.mpr ⟨a, ?_⟩)
    simp only [Bool.and_eq_true, Bool.not_eq_true', beq_eq_false_iff_ne, Bool.and_eq_false_iff, ne_eq]
    refine ⟨b, b2, ?_⟩
    by_cases z : q.1 + 1 = i
    · exact Or.inr (fun z2 => c ⟨z, z2⟩)
    · exact Or.inl z
theorem lh_get {G : gx} {ls : Array Slot} {nL i : Nat} {v : Value} {L : List (Option Value)} (h : lv_has ls nL (lq G 0 L)) (hg : L[i]? = some (some v)) : ls[i]? = some (.val (cv G v)) := by
  have := h.2.2 _ (lq_get G L 0 i v hg)
  rw [Nat.zero_add] at this
  exact this
end
section
/-! THE ROWS of our judgement: one an instruction -/
theorem V_iconst {G : gx} {y : my} {b : bg} {pc : Nat} {L : List (Option Value)} {S : List Value} {h : ah} {Q : Option Value → ah → Prop} {n : Int} {v : Int32} (hd : decode y.2.1 pc = .ok (.iconst n, 1)) (hv : Int32.ofInt n = v) (k : V G y b (pc + 1) L (.int v :: S) h Q) : V G y b pc L S h Q := fun p e s m args below meth c H locs ls C c1 c2 hP hS hl => lv_iconst C.1 C.2.1 hd hv (k p e s m args below meth c H locs ls C c1 c2 hP hS hl)
theorem V_bipush {G : gx} {y : my} {b : bg} {pc : Nat} {L : List (Option Value)} {S : List Value} {h : ah} {Q : Option Value → ah → Prop} {n : Int} {v : Int32} (hd : decode y.2.1 pc = .ok (.bipush n, 2)) (hv : (Int8.ofInt n).toInt32 = v) (k : V G y b (pc + 2) L (.int v :: S) h Q) : V G y b pc L S h Q := fun p e s m args below meth c H locs ls C c1 c2 hP hS hl => lv_bipush C.1 C.2.1 hd hv (k p e s m args below meth c H locs ls C c1 c2 hP hS hl)
theorem V_sipush {G : gx} {y : my} {b : bg} {pc : Nat} {L : List (Option Value)} {S : List Value} {h : ah} {Q : Option Value → ah → Prop} {n : Int} {v : Int32} (hd : decode y.2.1 pc = .ok (.sipush n, 3)) (hv : (Int16.ofInt n).toInt32 = v) (k : V G y b (pc + 3) L (.int v :: S) h Q) : V G y b pc L S h Q := fun p e s m args below meth c H locs ls C c1 c2 hP hS hl => lv_sipush C.1 C.2.1 hd hv (k p e s m args below meth c H locs ls C c1 c2 hP hS hl)
theorem V_lconst {G : gx} {y : my} {b : bg} {pc : Nat} {L : List (Option Value)} {S : List Value} {h : ah} {Q : Option Value → ah → Prop} {n : Fin 2} {v : Int64} (hd : decode y.2.1 pc = .ok (.lconst n, 1)) (hv : Int64.ofNat (n : Nat) = v) (k : V G y b (pc + 1) L (.long v :: S) h Q) : V G y b pc L S h Q := fun p e s m args below meth c H locs ls C c1 c2 hP hS hl => lv_lconst C.1 C.2.1 hd hv (k p e s m args below meth c H locs ls C c1 c2 hP hS hl)
theorem V_iload_n {G : gx} {y : my} {b : bg} {pc : Nat} {L : List (Option Value)} {S : List Value} {h : ah} {Q : Option Value → ah → Prop} {j : Fin 4} {i : Nat} {x : Int32} (hd : decode y.2.1 pc = .ok (.iload_n j, 1)) (hi : (j : Nat) = i) (hg : L[i]? = some (some (.int x))) (k : V G y b (pc + 1) L (.int x :: S) h Q) : V G y b pc L S h Q := fun p e s m args below meth c H locs ls C c1 c2 hP hS hl => lv_iload_n C.1 C.2.1 hd hi (lh_get hl hg) (k p e s m args below meth c H locs ls C c1 c2 hP hS hl)
theorem V_iload {G : gx} {y : my} {b : bg} {pc : Nat} {L : List (Option Value)} {S : List Value} {h : ah} {Q : Option Value → ah → Prop} {i : Nat} {x : Int32} (hd : decode y.2.1 pc = .ok (.iload i, 2)) (hg : L[i]? = some (some (.int x))) (k : V G y b (pc + 2) L (.int x :: S) h Q) : V G y b pc L S h Q := fun p e s m args below meth c H locs ls C c1 c2 hP hS hl => lv_iload C.1 C.2.1 hd (lh_get hl hg) (k p e s m args below meth c H locs ls C c1 c2 hP hS hl)
theorem V_lload_n {G : gx} {y : my} {b : bg} {pc : Nat} {L : List (Option Value)} {S : List Value} {h : ah} {Q : Option Value → ah → Prop} {j : Fin 4} {i : Nat} {x : Int64} (hd : decode y.2.1 pc = .ok (.lload_n j, 1)) (hi : (j : Nat) = i) (hg : L[i]? = some (some (.long x))) (k : V G y b (pc + 1) L (.long x :: S) h Q) : V G y b pc L S h Q := fun p e s m args below meth c H locs ls C c1 c2 hP hS hl => lv_lload_n C.1 C.2.1 hd hi (lh_get hl hg) (k p e s m args below meth c H locs ls C c1 c2 hP hS hl)
theorem V_lload {G : gx} {y : my} {b : bg} {pc : Nat} {L : List (Option Value)} {S : List Value} {h : ah} {Q : Option Value → ah → Prop} {i : Nat} {x : Int64} (hd : decode y.2.1 pc = .ok (.lload i, 2)) (hg : L[i]? = some (some (.long x))) (k : V G y b (pc + 2) L (.long x :: S) h Q) : V G y b pc L S h Q := fun p e s m args below meth c H locs ls C c1 c2 hP hS hl => lv_lload C.1 C.2.1 hd (lh_get hl hg) (k p e s m args below meth c H locs ls C c1 c2 hP hS hl)
theorem V_aload_n {G : gx} {y : my} {b : bg} {pc : Nat} {L : List (Option Value)} {S : List Value} {h : ah} {Q : Option Value → ah → Prop} {j : Fin 4} {i x : Nat} (hd : decode y.2.1 pc = .ok (.aload_n j, 1)) (hi : (j : Nat) = i) (hg : L[i]? = some (some (.ref x))) (k : V G y b (pc + 1) L (.ref x :: S) h Q) : V G y b pc L S h Q := fun p e s m args below meth c H locs ls C c1 c2 hP hS hl => lv_aload_n C.1 C.2.1 hd hi (lh_get hl hg) (k p e s m args below meth c H locs ls C c1 c2 hP hS hl)
theorem V_aload {G : gx} {y : my} {b : bg} {pc : Nat} {L : List (Option Value)} {S : List Value} {h : ah} {Q : Option Value → ah → Prop} {i x : Nat} (hd : decode y.2.1 pc = .ok (.aload i, 2)) (hg : L[i]? = some (some (.ref x))) (k : V G y b (pc + 2) L (.ref x :: S) h Q) : V G y b pc L S h Q := fun p e s m args below meth c H locs ls C c1 c2 hP hS hl => lv_aload C.1 C.2.1 hd (lh_get hl hg) (k p e s m args below meth c H locs ls C c1 c2 hP hS hl)
theorem V_istore_n {G : gx} {y : my} {b : bg} {pc : Nat} {L : List (Option Value)} {S : List Value} {h : ah} {Q : Option Value → ah → Prop} {j : Fin 4} {i : Nat} {x : Int32} (hd : decode y.2.1 pc = .ok (.istore_n j, 1)) (hi : (j : Nat) = i) (hn : i < y.2.2.1) (k : V G y b (pc + 1) (st1 i (.int x) L) S h Q) : V G y b pc L (.int x :: S) h Q := fun p e s m args below meth c H locs ls C c1 c2 hP hS hl => lv_istore_n C.1 C.2.1 hd hi hl hn rfl (fun ls hl => k p e s m args below meth c H locs ls C c1 c2 hP hS (lh_st1 hl))
theorem V_istore {G : gx} {y : my} {b : bg} {pc : Nat} {L : List (Option Value)} {S : List Value} {h : ah} {Q : Option Value → ah → Prop} {i : Nat} {x : Int32} (hd : decode y.2.1 pc = .ok (.istore i, 2))  (hn : i < y.2.2.1) (k : V G y b (pc + 2) (st1 i (.int x) L) S h Q) : V G y b pc L (.int x :: S) h Q := fun p e s m args below meth c H locs ls C c1 c2 hP hS hl => lv_istore C.1 C.2.1 hd hl hn rfl (fun ls hl => k p e s m args below meth c H locs ls C c1 c2 hP hS (lh_st1 hl))
theorem V_lstore_n {G : gx} {y : my} {b : bg} {pc : Nat} {L : List (Option Value)} {S : List Value} {h : ah} {Q : Option Value → ah → Prop} {j : Fin 4} {i : Nat} {x : Int64} (hd : decode y.2.1 pc = .ok (.lstore_n j, 1)) (hi : (j : Nat) = i) (hn : i + 1 < y.2.2.1) (k : V G y b (pc + 1) (st2 i (.long x) L) S h Q) : V G y b pc L (.long x :: S) h Q := fun p e s m args below meth c H locs ls C c1 c2 hP hS hl => lv_lstore_n C.1 C.2.1 hd hi hl hn rfl (fun ls hl => k p e s m args below meth c H locs ls C c1 c2 hP hS (lh_st2 hl))
theorem V_lstore {G : gx} {y : my} {b : bg} {pc : Nat} {L : List (Option Value)} {S : List Value} {h : ah} {Q : Option Value → ah → Prop} {i : Nat} {x : Int64} (hd : decode y.2.1 pc = .ok (.lstore i, 2))  (hn : i + 1 < y.2.2.1) (k : V G y b (pc + 2) (st2 i (.long x) L) S h Q) : V G y b pc L (.long x :: S) h Q := fun p e s m args below meth c H locs ls C c1 c2 hP hS hl => lv_lstore C.1 C.2.1 hd hl hn rfl (fun ls hl => k p e s m args below meth c H locs ls C c1 c2 hP hS (lh_st2 hl))
theorem V_astore_n {G : gx} {y : my} {b : bg} {pc : Nat} {L : List (Option Value)} {S : List Value} {h : ah} {Q : Option Value → ah → Prop} {j : Fin 4} {i x : Nat} (hd : decode y.2.1 pc = .ok (.astore_n j, 1)) (hi : (j : Nat) = i) (hn : i < y.2.2.1) (k : V G y b (pc + 1) (st1 i (.ref x) L) S h Q) : V G y b pc L (.ref x :: S) h Q := fun p e s m args below meth c H locs ls C c1 c2 hP hS hl => lv_astore_n C.1 C.2.1 hd hi hl hn rfl (fun ls hl => k p e s m args below meth c H locs ls C c1 c2 hP hS (lh_st1 hl))
theorem V_astore {G : gx} {y : my} {b : bg} {pc : Nat} {L : List (Option Value)} {S : List Value} {h : ah} {Q : Option Value → ah → Prop} {i x : Nat} (hd : decode y.2.1 pc = .ok (.astore i, 2))  (hn : i < y.2.2.1) (k : V G y b (pc + 2) (st1 i (.ref x) L) S h Q) : V G y b pc L (.ref x :: S) h Q := fun p e s m args below meth c H locs ls C c1 c2 hP hS hl => lv_astore C.1 C.2.1 hd hl hn rfl (fun ls hl => k p e s m args below meth c H locs ls C c1 c2 hP hS (lh_st1 hl))
theorem lv_in {ls : Array Slot} {nL i : Nat} {v : Value} {l : List (Nat × Value)} (h : lv_has ls nL l) (hv : ls[i]? = some (.val v)) : lv_has ls nL ((i, v) :: l) := ⟨h.1, h.2.1, fun q hq => by
  rcases List.mem_cons.mp hq with rfl | hq
  · exact hv
  · exact h.2.2 q hq⟩
theorem lh_st1' {G : gx} {ls : Array Slot} {nL i : Nat} {v w : Value} {L : List (Option Value)} (h : lv_has ls nL ((i, cv G v) :: (((i, w) :: lq G 0 L).filter (fun q => !(q.1 == i) && !(q.1 + 1 == i && q.2.category == 2))))) : lv_has ls nL (lq G 0 (st1 i v L)) := by
  refine lh_st1 ⟨h.1, h.2.1, fun q hq => h.2.2 q ?_⟩
  rcases List.mem_cons.mp hq with rfl | hq
  · exact List.mem_cons_self
  · exact List.mem_cons_of_mem _ (List.mem_filter.mpr ⟨List.mem_cons_of_mem _ (List.mem_filter.mp hq).1, (List.mem_filter.mp hq).2⟩)
theorem V_iinc {G : gx} {y : my} {b : bg} {pc : Nat} {L : List (Option Value)} {S : List Value} {h : ah} {Q : Option Value → ah → Prop} {i : Nat} {n : Int} {x : Int32} (hd : decode y.2.1 pc = .ok (.iinc i n, 3)) (hg : L[i]? = some (some (.int x))) (hn : i < y.2.2.1) (k : V G y b (pc + 3) (st1 i (.int (x + Int32.ofInt n)) L) S h Q) : V G y b pc L S h Q := fun p e s m args below meth c H locs ls C c1 c2 hP hS hl => lv_iinc C.1 C.2.1 hd (lv_in hl (lh_get hl hg)) (k := 0) rfl rfl hn rfl (fun ls hl => k p e s m args below meth c H locs ls C c1 c2 hP hS (lh_st1' hl))
theorem V_iadd {G : gx} {y : my} {b : bg} {pc : Nat} {L : List (Option Value)} {S : List Value} {h : ah} {Q : Option Value → ah → Prop} {x z : Int32} (hd : decode y.2.1 pc = .ok (.iadd, 1))  (k : V G y b (pc + 1) L (.int (x + z) :: S) h Q) : V G y b pc L (.int z :: .int x :: S) h Q := fun p e s m args below meth c H locs ls C c1 c2 hP hS hl => lv_iadd C.1 C.2.1 hd  (k p e s m args below meth c H locs ls C c1 c2 hP hS hl)
theorem V_isub {G : gx} {y : my} {b : bg} {pc : Nat} {L : List (Option Value)} {S : List Value} {h : ah} {Q : Option Value → ah → Prop} {x z : Int32} (hd : decode y.2.1 pc = .ok (.isub, 1))  (k : V G y b (pc + 1) L (.int (x - z) :: S) h Q) : V G y b pc L (.int z :: .int x :: S) h Q := fun p e s m args below meth c H locs ls C c1 c2 hP hS hl => lv_isub C.1 C.2.1 hd  (k p e s m args below meth c H locs ls C c1 c2 hP hS hl)
theorem V_imul {G : gx} {y : my} {b : bg} {pc : Nat} {L : List (Option Value)} {S : List Value} {h : ah} {Q : Option Value → ah → Prop} {x z : Int32} (hd : decode y.2.1 pc = .ok (.imul, 1))  (k : V G y b (pc + 1) L (.int (x * z) :: S) h Q) : V G y b pc L (.int z :: .int x :: S) h Q := fun p e s m args below meth c H locs ls C c1 c2 hP hS hl => lv_imul C.1 C.2.1 hd  (k p e s m args below meth c H locs ls C c1 c2 hP hS hl)
theorem V_iand {G : gx} {y : my} {b : bg} {pc : Nat} {L : List (Option Value)} {S : List Value} {h : ah} {Q : Option Value → ah → Prop} {x z : Int32} (hd : decode y.2.1 pc = .ok (.iand, 1))  (k : V G y b (pc + 1) L (.int (x &&& z) :: S) h Q) : V G y b pc L (.int z :: .int x :: S) h Q := fun p e s m args below meth c H locs ls C c1 c2 hP hS hl => lv_iand C.1 C.2.1 hd  (k p e s m args below meth c H locs ls C c1 c2 hP hS hl)
theorem V_ior {G : gx} {y : my} {b : bg} {pc : Nat} {L : List (Option Value)} {S : List Value} {h : ah} {Q : Option Value → ah → Prop} {x z : Int32} (hd : decode y.2.1 pc = .ok (.ior, 1))  (k : V G y b (pc + 1) L (.int (x ||| z) :: S) h Q) : V G y b pc L (.int z :: .int x :: S) h Q := fun p e s m args below meth c H locs ls C c1 c2 hP hS hl => lv_ior C.1 C.2.1 hd  (k p e s m args below meth c H locs ls C c1 c2 hP hS hl)
theorem V_idiv {G : gx} {y : my} {b : bg} {pc : Nat} {L : List (Option Value)} {S : List Value} {h : ah} {Q : Option Value → ah → Prop} {x z : Int32} (hd : decode y.2.1 pc = .ok (.idiv, 1)) (hz : ¬ z = 0) (k : V G y b (pc + 1) L (.int (x / z) :: S) h Q) : V G y b pc L (.int z :: .int x :: S) h Q := fun p e s m args below meth c H locs ls C c1 c2 hP hS hl => lv_idiv C.1 C.2.1 hd hz (k p e s m args below meth c H locs ls C c1 c2 hP hS hl)
theorem V_irem {G : gx} {y : my} {b : bg} {pc : Nat} {L : List (Option Value)} {S : List Value} {h : ah} {Q : Option Value → ah → Prop} {x z : Int32} (hd : decode y.2.1 pc = .ok (.irem, 1)) (hz : ¬ z = 0) (k : V G y b (pc + 1) L (.int (x - x / z * z) :: S) h Q) : V G y b pc L (.int z :: .int x :: S) h Q := fun p e s m args below meth c H locs ls C c1 c2 hP hS hl => lv_irem C.1 C.2.1 hd hz (k p e s m args below meth c H locs ls C c1 c2 hP hS hl)
theorem V_ladd {G : gx} {y : my} {b : bg} {pc : Nat} {L : List (Option Value)} {S : List Value} {h : ah} {Q : Option Value → ah → Prop} {x z : Int64} (hd : decode y.2.1 pc = .ok (.ladd, 1))  (k : V G y b (pc + 1) L (.long (x + z) :: S) h Q) : V G y b pc L (.long z :: .long x :: S) h Q := fun p e s m args below meth c H locs ls C c1 c2 hP hS hl => lv_ladd C.1 C.2.1 hd  (k p e s m args below meth c H locs ls C c1 c2 hP hS hl)
theorem V_lsub {G : gx} {y : my} {b : bg} {pc : Nat} {L : List (Option Value)} {S : List Value} {h : ah} {Q : Option Value → ah → Prop} {x z : Int64} (hd : decode y.2.1 pc = .ok (.lsub, 1))  (k : V G y b (pc + 1) L (.long (x - z) :: S) h Q) : V G y b pc L (.long z :: .long x :: S) h Q := fun p e s m args below meth c H locs ls C c1 c2 hP hS hl => lv_lsub C.1 C.2.1 hd  (k p e s m args below meth c H locs ls C c1 c2 hP hS hl)
theorem V_lmul {G : gx} {y : my} {b : bg} {pc : Nat} {L : List (Option Value)} {S : List Value} {h : ah} {Q : Option Value → ah → Prop} {x z : Int64} (hd : decode y.2.1 pc = .ok (.lmul, 1))  (k : V G y b (pc + 1) L (.long (x * z) :: S) h Q) : V G y b pc L (.long z :: .long x :: S) h Q := fun p e s m args below meth c H locs ls C c1 c2 hP hS hl => lv_lmul C.1 C.2.1 hd  (k p e s m args below meth c H locs ls C c1 c2 hP hS hl)
theorem V_land {G : gx} {y : my} {b : bg} {pc : Nat} {L : List (Option Value)} {S : List Value} {h : ah} {Q : Option Value → ah → Prop} {x z : Int64} (hd : decode y.2.1 pc = .ok (.land, 1))  (k : V G y b (pc + 1) L (.long (x &&& z) :: S) h Q) : V G y b pc L (.long z :: .long x :: S) h Q := fun p e s m args below meth c H locs ls C c1 c2 hP hS hl => lv_land C.1 C.2.1 hd  (k p e s m args below meth c H locs ls C c1 c2 hP hS hl)
theorem V_lor {G : gx} {y : my} {b : bg} {pc : Nat} {L : List (Option Value)} {S : List Value} {h : ah} {Q : Option Value → ah → Prop} {x z : Int64} (hd : decode y.2.1 pc = .ok (.lor, 1))  (k : V G y b (pc + 1) L (.long (x ||| z) :: S) h Q) : V G y b pc L (.long z :: .long x :: S) h Q := fun p e s m args below meth c H locs ls C c1 c2 hP hS hl => lv_lor C.1 C.2.1 hd  (k p e s m args below meth c H locs ls C c1 c2 hP hS hl)
theorem V_ldiv {G : gx} {y : my} {b : bg} {pc : Nat} {L : List (Option Value)} {S : List Value} {h : ah} {Q : Option Value → ah → Prop} {x z : Int64} (hd : decode y.2.1 pc = .ok (.ldiv, 1)) (hz : ¬ z = 0) (k : V G y b (pc + 1) L (.long (x / z) :: S) h Q) : V G y b pc L (.long z :: .long x :: S) h Q := fun p e s m args below meth c H locs ls C c1 c2 hP hS hl => lv_ldiv C.1 C.2.1 hd hz (k p e s m args below meth c H locs ls C c1 c2 hP hS hl)
theorem V_i2l {G : gx} {y : my} {b : bg} {pc : Nat} {L : List (Option Value)} {S : List Value} {h : ah} {Q : Option Value → ah → Prop} {x : Int32} (hd : decode y.2.1 pc = .ok (.i2l, 1))  (k : V G y b (pc + 1) L (.long x.toInt64 :: S) h Q) : V G y b pc L (.int x :: S) h Q := fun p e s m args below meth c H locs ls C c1 c2 hP hS hl => lv_i2l C.1 C.2.1 hd rfl (k p e s m args below meth c H locs ls C c1 c2 hP hS hl)
theorem V_l2i {G : gx} {y : my} {b : bg} {pc : Nat} {L : List (Option Value)} {S : List Value} {h : ah} {Q : Option Value → ah → Prop} {x : Int64} (hd : decode y.2.1 pc = .ok (.l2i, 1))  (k : V G y b (pc + 1) L (.int x.toInt32 :: S) h Q) : V G y b pc L (.long x :: S) h Q := fun p e s m args below meth c H locs ls C c1 c2 hP hS hl => lv_l2i C.1 C.2.1 hd rfl (k p e s m args below meth c H locs ls C c1 c2 hP hS hl)
theorem V_i2b {G : gx} {y : my} {b : bg} {pc : Nat} {L : List (Option Value)} {S : List Value} {h : ah} {Q : Option Value → ah → Prop} {x : Int32} (hd : decode y.2.1 pc = .ok (.i2b, 1))  (k : V G y b (pc + 1) L (.int x.toInt8.toInt32 :: S) h Q) : V G y b pc L (.int x :: S) h Q := fun p e s m args below meth c H locs ls C c1 c2 hP hS hl => lv_i2b C.1 C.2.1 hd rfl (k p e s m args below meth c H locs ls C c1 c2 hP hS hl)
theorem V_i2s {G : gx} {y : my} {b : bg} {pc : Nat} {L : List (Option Value)} {S : List Value} {h : ah} {Q : Option Value → ah → Prop} {x : Int32} (hd : decode y.2.1 pc = .ok (.i2s, 1))  (k : V G y b (pc + 1) L (.int x.toInt16.toInt32 :: S) h Q) : V G y b pc L (.int x :: S) h Q := fun p e s m args below meth c H locs ls C c1 c2 hP hS hl => lv_i2s C.1 C.2.1 hd rfl (k p e s m args below meth c H locs ls C c1 c2 hP hS hl)
theorem V_i2c {G : gx} {y : my} {b : bg} {pc : Nat} {L : List (Option Value)} {S : List Value} {h : ah} {Q : Option Value → ah → Prop} {x : Int32} (hd : decode y.2.1 pc = .ok (.i2c, 1))  (k : V G y b (pc + 1) L (.int (x.toUInt32 % 65536).toInt32 :: S) h Q) : V G y b pc L (.int x :: S) h Q := fun p e s m args below meth c H locs ls C c1 c2 hP hS hl => lv_i2c C.1 C.2.1 hd rfl (k p e s m args below meth c H locs ls C c1 c2 hP hS hl)
theorem V_lushr {G : gx} {y : my} {b : bg} {pc : Nat} {L : List (Option Value)} {S : List Value} {h : ah} {Q : Option Value → ah → Prop} {x : Int64} {z : Int32} (hd : decode y.2.1 pc = .ok (.lushr, 1))  (k : V G y b (pc + 1) L (.long (x.toUInt64 >>> (z.toInt64.toUInt64 &&& Int64.toUInt64 63)).toInt64 :: S) h Q) : V G y b pc L (.int z :: .long x :: S) h Q := fun p e s m args below meth c H locs ls C c1 c2 hP hS hl => lv_lushr C.1 C.2.1 hd rfl (k p e s m args below meth c H locs ls C c1 c2 hP hS hl)
theorem V_lshl {G : gx} {y : my} {b : bg} {pc : Nat} {L : List (Option Value)} {S : List Value} {h : ah} {Q : Option Value → ah → Prop} {x : Int64} {z : Int32} (hd : decode y.2.1 pc = .ok (.lshl, 1))  (k : V G y b (pc + 1) L (.long (x <<< (z.toInt64 &&& 63)) :: S) h Q) : V G y b pc L (.int z :: .long x :: S) h Q := fun p e s m args below meth c H locs ls C c1 c2 hP hS hl => lv_lshl C.1 C.2.1 hd rfl (k p e s m args below meth c H locs ls C c1 c2 hP hS hl)
theorem V_dup {G : gx} {y : my} {b : bg} {pc : Nat} {L : List (Option Value)} {S : List Value} {h : ah} {Q : Option Value → ah → Prop} {v : Value} (hd : decode y.2.1 pc = .ok (.dup, 1)) (hv : v.category = 1) (k : V G y b (pc + 1) L (v :: v :: S) h Q) : V G y b pc L (v :: S) h Q := fun p e s m args below meth c H locs ls C c1 c2 hP hS hl => lv_dup C.1 C.2.1 hd ((cv_cat G v).trans hv) (k p e s m args below meth c H locs ls C c1 c2 hP hS hl)
theorem V_pop {G : gx} {y : my} {b : bg} {pc : Nat} {L : List (Option Value)} {S : List Value} {h : ah} {Q : Option Value → ah → Prop} {v : Value} (hd : decode y.2.1 pc = .ok (.pop, 1)) (hv : v.category = 1) (k : V G y b (pc + 1) L (S) h Q) : V G y b pc L (v :: S) h Q := fun p e s m args below meth c H locs ls C c1 c2 hP hS hl => lv_pop C.1 C.2.1 hd ((cv_cat G v).trans hv) (k p e s m args below meth c H locs ls C c1 c2 hP hS hl)
theorem V_dup2 {G : gx} {y : my} {b : bg} {pc : Nat} {L : List (Option Value)} {S : List Value} {h : ah} {Q : Option Value → ah → Prop} {v w : Value} (hd : decode y.2.1 pc = .ok (.dup2, 1)) (hv : v.category = 1) (hw : w.category = 1) (k : V G y b (pc + 1) L (v :: w :: v :: w :: S) h Q) : V G y b pc L (v :: w :: S) h Q := fun p e s m args below meth c H locs ls C c1 c2 hP hS hl => lv_dup2_11 C.1 C.2.1 hd ((cv_cat G v).trans hv) ((cv_cat G w).trans hw) (k p e s m args below meth c H locs ls C c1 c2 hP hS hl)
theorem V_lcmp {G : gx} {y : my} {b : bg} {pc : Nat} {L : List (Option Value)} {S : List Value} {h : ah} {Q : Option Value → ah → Prop} {x z : Int64} (hd : decode y.2.1 pc = .ok (.lcmp, 1)) (k : V G y b (pc + 1) L (.int (lg_cmp x z) :: S) h Q) : V G y b pc L (.long z :: .long x :: S) h Q := fun p e s m args below meth c H locs ls C c1 c2 hP hS hl => W.lcmp C.1 C.2.1 hd (k p e s m args below meth c H locs ls C c1 c2 hP hS hl)
-- eq
theorem V_if_eq {G : gx} {y : my} {b : bg} {pc : Nat} {L : List (Option Value)} {S : List Value} {h : ah} {Q : Option Value → ah → Prop} {x : Int32} {off : Int} {t : Nat} (hd : decode y.2.1 pc = .ok (.ifCond .eq off, 3)) (ht : (pc : Int) + off = (t : Int)) (k1 : x = 0 → V G y b t L S h Q) (k2 : ¬ (x = 0) → V G y b (pc + 3) L S h Q) : V G y b pc L (.int x :: S) h Q := fun p e s m args below meth c H locs ls C c1 c2 hP hS hl => lv_if_eq C.1 C.2.1 hd ht (fun z => k1 z p e s m args below meth c H locs ls C c1 c2 hP hS hl) (fun z => k2 z p e s m args below meth c H locs ls C c1 c2 hP hS hl)
theorem V_icmp_eq {G : gx} {y : my} {b : bg} {pc : Nat} {L : List (Option Value)} {S : List Value} {h : ah} {Q : Option Value → ah → Prop} {x z : Int32} {off : Int} {t : Nat} (hd : decode y.2.1 pc = .ok (.if_icmp .eq off, 3)) (ht : (pc : Int) + off = (t : Int)) (k1 : x = z → V G y b t L S h Q) (k2 : ¬ (x = z) → V G y b (pc + 3) L S h Q) : V G y b pc L (.int z :: .int x :: S) h Q := fun p e s m args below meth c H locs ls C c1 c2 hP hS hl => lv_icmp_eq C.1 C.2.1 hd ht (fun z => k1 z p e s m args below meth c H locs ls C c1 c2 hP hS hl) (fun z => k2 z p e s m args below meth c H locs ls C c1 c2 hP hS hl)
-- ne
theorem V_if_ne {G : gx} {y : my} {b : bg} {pc : Nat} {L : List (Option Value)} {S : List Value} {h : ah} {Q : Option Value → ah → Prop} {x : Int32} {off : Int} {t : Nat} (hd : decode y.2.1 pc = .ok (.ifCond .ne off, 3)) (ht : (pc : Int) + off = (t : Int)) (k1 : ¬ x = 0 → V G y b t L S h Q) (k2 : x = 0 → V G y b (pc + 3) L S h Q) : V G y b pc L (.int x :: S) h Q := fun p e s m args below meth c H locs ls C c1 c2 hP hS hl => lv_if_ne C.1 C.2.1 hd ht (fun z => k1 z p e s m args below meth c H locs ls C c1 c2 hP hS hl) (fun z => k2 z p e s m args below meth c H locs ls C c1 c2 hP hS hl)
theorem V_icmp_ne {G : gx} {y : my} {b : bg} {pc : Nat} {L : List (Option Value)} {S : List Value} {h : ah} {Q : Option Value → ah → Prop} {x z : Int32} {off : Int} {t : Nat} (hd : decode y.2.1 pc = .ok (.if_icmp .ne off, 3)) (ht : (pc : Int) + off = (t : Int)) (k1 : ¬ x = z → V G y b t L S h Q) (k2 : x = z → V G y b (pc + 3) L S h Q) : V G y b pc L (.int z :: .int x :: S) h Q := fun p e s m args below meth c H locs ls C c1 c2 hP hS hl => lv_icmp_ne C.1 C.2.1 hd ht (fun z => k1 z p e s m args below meth c H locs ls C c1 c2 hP hS hl) (fun z => k2 z p e s m args below meth c H locs ls C c1 c2 hP hS hl)
-- lt
theorem V_if_lt {G : gx} {y : my} {b : bg} {pc : Nat} {L : List (Option Value)} {S : List Value} {h : ah} {Q : Option Value → ah → Prop} {x : Int32} {off : Int} {t : Nat} (hd : decode y.2.1 pc = .ok (.ifCond .lt off, 3)) (ht : (pc : Int) + off = (t : Int)) (k1 : x < 0 → V G y b t L S h Q) (k2 : ¬ (x < 0) → V G y b (pc + 3) L S h Q) : V G y b pc L (.int x :: S) h Q := fun p e s m args below meth c H locs ls C c1 c2 hP hS hl => lv_if_lt C.1 C.2.1 hd ht (fun z => k1 z p e s m args below meth c H locs ls C c1 c2 hP hS hl) (fun z => k2 z p e s m args below meth c H locs ls C c1 c2 hP hS hl)
theorem V_icmp_lt {G : gx} {y : my} {b : bg} {pc : Nat} {L : List (Option Value)} {S : List Value} {h : ah} {Q : Option Value → ah → Prop} {x z : Int32} {off : Int} {t : Nat} (hd : decode y.2.1 pc = .ok (.if_icmp .lt off, 3)) (ht : (pc : Int) + off = (t : Int)) (k1 : x < z → V G y b t L S h Q) (k2 : ¬ (x < z) → V G y b (pc + 3) L S h Q) : V G y b pc L (.int z :: .int x :: S) h Q := fun p e s m args below meth c H locs ls C c1 c2 hP hS hl => lv_icmp_lt C.1 C.2.1 hd ht (fun z => k1 z p e s m args below meth c H locs ls C c1 c2 hP hS hl) (fun z => k2 z p e s m args below meth c H locs ls C c1 c2 hP hS hl)
-- ge
theorem V_if_ge {G : gx} {y : my} {b : bg} {pc : Nat} {L : List (Option Value)} {S : List Value} {h : ah} {Q : Option Value → ah → Prop} {x : Int32} {off : Int} {t : Nat} (hd : decode y.2.1 pc = .ok (.ifCond .ge off, 3)) (ht : (pc : Int) + off = (t : Int)) (k1 : 0 ≤ x → V G y b t L S h Q) (k2 : ¬ (0 ≤ x) → V G y b (pc + 3) L S h Q) : V G y b pc L (.int x :: S) h Q := fun p e s m args below meth c H locs ls C c1 c2 hP hS hl => lv_if_ge C.1 C.2.1 hd ht (fun z => k1 z p e s m args below meth c H locs ls C c1 c2 hP hS hl) (fun z => k2 z p e s m args below meth c H locs ls C c1 c2 hP hS hl)
theorem V_icmp_ge {G : gx} {y : my} {b : bg} {pc : Nat} {L : List (Option Value)} {S : List Value} {h : ah} {Q : Option Value → ah → Prop} {x z : Int32} {off : Int} {t : Nat} (hd : decode y.2.1 pc = .ok (.if_icmp .ge off, 3)) (ht : (pc : Int) + off = (t : Int)) (k1 : z ≤ x → V G y b t L S h Q) (k2 : ¬ (z ≤ x) → V G y b (pc + 3) L S h Q) : V G y b pc L (.int z :: .int x :: S) h Q := fun p e s m args below meth c H locs ls C c1 c2 hP hS hl => lv_icmp_ge C.1 C.2.1 hd ht (fun z => k1 z p e s m args below meth c H locs ls C c1 c2 hP hS hl) (fun z => k2 z p e s m args below meth c H locs ls C c1 c2 hP hS hl)
-- gt
theorem V_if_gt {G : gx} {y : my} {b : bg} {pc : Nat} {L : List (Option Value)} {S : List Value} {h : ah} {Q : Option Value → ah → Prop} {x : Int32} {off : Int} {t : Nat} (hd : decode y.2.1 pc = .ok (.ifCond .gt off, 3)) (ht : (pc : Int) + off = (t : Int)) (k1 : 0 < x → V G y b t L S h Q) (k2 : ¬ (0 < x) → V G y b (pc + 3) L S h Q) : V G y b pc L (.int x :: S) h Q := fun p e s m args below meth c H locs ls C c1 c2 hP hS hl => lv_if_gt C.1 C.2.1 hd ht (fun z => k1 z p e s m args below meth c H locs ls C c1 c2 hP hS hl) (fun z => k2 z p e s m args below meth c H locs ls C c1 c2 hP hS hl)
theorem V_icmp_gt {G : gx} {y : my} {b : bg} {pc : Nat} {L : List (Option Value)} {S : List Value} {h : ah} {Q : Option Value → ah → Prop} {x z : Int32} {off : Int} {t : Nat} (hd : decode y.2.1 pc = .ok (.if_icmp .gt off, 3)) (ht : (pc : Int) + off = (t : Int)) (k1 : z < x → V G y b t L S h Q) (k2 : ¬ (z < x) → V G y b (pc + 3) L S h Q) : V G y b pc L (.int z :: .int x :: S) h Q := fun p e s m args below meth c H locs ls C c1 c2 hP hS hl => lv_icmp_gt C.1 C.2.1 hd ht (fun z => k1 z p e s m args below meth c H locs ls C c1 c2 hP hS hl) (fun z => k2 z p e s m args below meth c H locs ls C c1 c2 hP hS hl)
-- le
theorem V_if_le {G : gx} {y : my} {b : bg} {pc : Nat} {L : List (Option Value)} {S : List Value} {h : ah} {Q : Option Value → ah → Prop} {x : Int32} {off : Int} {t : Nat} (hd : decode y.2.1 pc = .ok (.ifCond .le off, 3)) (ht : (pc : Int) + off = (t : Int)) (k1 : x ≤ 0 → V G y b t L S h Q) (k2 : ¬ (x ≤ 0) → V G y b (pc + 3) L S h Q) : V G y b pc L (.int x :: S) h Q := fun p e s m args below meth c H locs ls C c1 c2 hP hS hl => lv_if_le C.1 C.2.1 hd ht (fun z => k1 z p e s m args below meth c H locs ls C c1 c2 hP hS hl) (fun z => k2 z p e s m args below meth c H locs ls C c1 c2 hP hS hl)
theorem V_icmp_le {G : gx} {y : my} {b : bg} {pc : Nat} {L : List (Option Value)} {S : List Value} {h : ah} {Q : Option Value → ah → Prop} {x z : Int32} {off : Int} {t : Nat} (hd : decode y.2.1 pc = .ok (.if_icmp .le off, 3)) (ht : (pc : Int) + off = (t : Int)) (k1 : x ≤ z → V G y b t L S h Q) (k2 : ¬ (x ≤ z) → V G y b (pc + 3) L S h Q) : V G y b pc L (.int z :: .int x :: S) h Q := fun p e s m args below meth c H locs ls C c1 c2 hP hS hl => lv_icmp_le C.1 C.2.1 hd ht (fun z => k1 z p e s m args below meth c H locs ls C c1 c2 hP hS hl) (fun z => k2 z p e s m args below meth c H locs ls C c1 c2 hP hS hl)
theorem V_goto {G : gx} {y : my} {b : bg} {pc : Nat} {L : List (Option Value)} {S : List Value} {h : ah} {Q : Option Value → ah → Prop} {off : Int} {t : Nat} (hd : decode y.2.1 pc = .ok (.goto off, 3)) (ht : (pc : Int) + off = (t : Int)) (k : V G y b t L S h Q) : V G y b pc L S h Q := fun p e s m args below meth c H locs ls C c1 c2 hP hS hl => lv_goto C.1 C.2.1 hd ht (k p e s m args below meth c H locs ls C c1 c2 hP hS hl)
theorem V_tabOut {G : gx} {y : my} {b : bg} {pc : Nat} {L : List (Option Value)} {S : List Value} {h : ah} {Q : Option Value → ah → Prop} {x : Int32} {dflt lo hi : Int} {offs : Array Int} {len t : Nat} (hd : decode y.2.1 pc = .ok (.tableswitch dflt lo hi offs, len)) (hz : x.toInt < lo ∨ hi < x.toInt) (ht : (pc : Int) + dflt = (t : Int)) (k : V G y b t L S h Q) : V G y b pc L (.int x :: S) h Q := fun p e s m args below meth c H locs ls C c1 c2 hP hS hl => lv_tableOut C.1 C.2.1 hd hz ht (k p e s m args below meth c H locs ls C c1 c2 hP hS hl)
theorem V_tabIn {G : gx} {y : my} {b : bg} {pc : Nat} {L : List (Option Value)} {S : List Value} {h : ah} {Q : Option Value → ah → Prop} {x : Int32} {dflt lo hi off : Int} {offs : Array Int} {len t : Nat} (hd : decode y.2.1 pc = .ok (.tableswitch dflt lo hi offs, len)) (h1 : ¬ x.toInt < lo) (h2 : ¬ hi < x.toInt) (ho : offs[(x.toInt - lo).toNat]? = some off) (ht : (pc : Int) + off = (t : Int)) (k : V G y b t L S h Q) : V G y b pc L (.int x :: S) h Q := fun p e s m args below meth c H locs ls C c1 c2 hP hS hl => lv_tableIn C.1 C.2.1 hd h1 h2 ho ht (k p e s m args below meth c H locs ls C c1 c2 hP hS hl)
theorem V_look {G : gx} {y : my} {b : bg} {pc : Nat} {L : List (Option Value)} {S : List Value} {h : ah} {Q : Option Value → ah → Prop} {x : Int32} {dflt off : Int} {ps : Array (Int × Int)} {len t : Nat} (hd : decode y.2.1 pc = .ok (.lookupswitch dflt ps, len)) (hp : (ps.toList.zip (ps.toList.drop 1)).all (fun (a, next) => a.1 < next.1) = true) (ho : Op.lookupswitch.offset ps.toList dflt x.toInt = off) (ht : (pc : Int) + off = (t : Int)) (k : V G y b t L S h Q) : V G y b pc L (.int x :: S) h Q := fun p e s m args below meth c H locs ls C c1 c2 hP hS hl => lv_lookup C.1 C.2.1 hd hp ho ht (k p e s m args below meth c H locs ls C c1 c2 hP hS hl)
theorem V_ldc {G : gx} {y : my} {b : bg} {pc : Nat} {L : List (Option Value)} {S : List Value} {h : ah} {Q : Option Value → ah → Prop} {index : Nat} {v : Int32} (hd : decode y.2.1 pc = .ok (.ldc index, 2)) (hw : Cond.constant y.1.cls index v ∈ gw) (k : V G y b (pc + 2) L (.int v :: S) h Q) : V G y b pc L S h Q := fun p e s m args below meth c H locs ls C c1 c2 hP hS hl => lv_ldc C.1 C.2.1 C.2.2.2.2.1 (C.2.2.2.2.2.1 _ (List.mem_cons_of_mem _ hw)) hd (k p e s m args below meth c H locs ls C c1 c2 hP hS hl)
theorem V_ldc2 {G : gx} {y : my} {b : bg} {pc : Nat} {L : List (Option Value)} {S : List Value} {h : ah} {Q : Option Value → ah → Prop} {index : Nat} {v : Int64} (hd : decode y.2.1 pc = .ok (.ldc2_w index, 3)) (hw : Cond.constantLong y.1.cls index v ∈ gw) (k : V G y b (pc + 3) L (.long v :: S) h Q) : V G y b pc L S h Q := fun p e s m args below meth c H locs ls C c1 c2 hP hS hl => lv_ldc2 C.1 C.2.1 C.2.2.2.2.1 (C.2.2.2.2.2.1 _ (List.mem_cons_of_mem _ hw)) hd (k p e s m args below meth c H locs ls C c1 c2 hP hS hl)
end
section
/-! the heap's rows -/
theorem wl_get (G : gx) (h : ah) {k : Nat} (hk : k < (h 0).1) : (wl G h)[k]? = some (g_b G + k, cx G (h (k + 2))) := by
  unfold wl
  rw [List.getElem?_map, List.getElem?_range hk]
  rfl
theorem wl_inv {G : gx} {h : ah} {k : Nat} {q : Nat × va_E} (hk : (wl G h)[k]? = some q) : k < (h 0).1 ∧ q = (g_b G + k, cx G (h (k + 2))) := by
  have hl : k < (wl G h).length := (List.getElem?_eq_some_iff.mp hk).1
  have hl2 : k < (h 0).1 := by simpa [wl] using hl
  exact ⟨hl2, Option.some.inj (hk.symm.trans (wl_get G h hl2))⟩
theorem wl_D (G : gx) (h : ah) : va_D (g_A G) (wl G h) := by
  refine ⟨fun i j p q hp hq hpq => ?_, fun k q hk => ?_⟩
  · rw [(wl_inv hp).2, (wl_inv hq).2] at hpq
    have : g_b G + i = g_b G + j := hpq
    omega
  · rw [(wl_inv hk).2]
    exact Nat.le_add_right _ _
theorem up_0 (h : ah) (k : Nat) (e : ce) : va_up h (k + 2) e 0 = h 0 := by
  unfold va_up
  rw [if_neg (by omega)]
theorem up_s (h : ah) (k : Nat) (e : ce) : va_up h k e k = e := by simp [va_up]
theorem up_n (h : ah) {k j : Nat} (e : ce) (hn : j ≠ k) : va_up h k e j = h j := by simp [va_up, hn]
theorem wl_set (G : gx) (h : ah) {k : Nat} (e : ce) (hk : k < (h 0).1) : (wl G h).set k (g_b G + k, cx G e) = wl G (va_up h (k + 2) e) := by
  apply List.ext_getElem?
  intro i
  by_cases hi : i < (h 0).1
  · rw [wl_get G (va_up h (k + 2) e) (by rw [up_0]; exact hi)]
    by_cases hik : k = i
    · subst hik
      rw [List.getElem?_set_self (by simpa [wl] using hk), up_s]
    · rw [List.getElem?_set_ne hik, wl_get G h hi, up_n h e (by omega)]
  · rw [List.getElem?_eq_none (by simp [wl]; omega), List.getElem?_eq_none (by simp [wl, up_0]; omega)]
theorem Hp.lt {G : gx} {h : ah} {H : Heap} (hP : Hp G h H) {k : Nat} {e : ce} (hc : h (k + 2) = e) (he : e.1 < 100) : k < (h 0).1 := hP.2.1 k (by rw [hc]; exact he)
theorem Hp.el {G : gx} {h : ah} {H : Heap} (hP : Hp G h H) {k : Nat} {e : ce} (hc : h (k + 2) = e) (he : e.1 < 100) : (wl G h)[k]? = some (g_b G + k, cx G e) := by
  rw [wl_get G h (hP.lt hc he), hc]
theorem Hp.at {G : gx} {h : ah} {H : Heap} (hP : Hp G h H) {k : Nat} {e : ce} (hc : h (k + 2) = e) (he : e.1 < 100) : va_at (g_D G) vwCl (g_b G + k, cx G e) H := hP.1 k _ (hP.el hc he)
theorem Hp.set {G : gx} {h : ah} {H H1 : Heap} (hP : Hp G h H) {k : Nat} {e0 e : ce} (hc : h (k + 2) = e0) (h0 : e0.1 < 100) (he : va_at (g_D G) vwCl (g_b G + k, cx G e) H1) (z : H1.size = H.size) (oq : ∀ q : Nat, q ≠ g_b G + k → H1[q]? = H[q]?) : Hp G (va_up h (k + 2) e) H1 := by
  have hk := hP.lt hc h0
  refine ⟨?_, fun j hj => ?_, by rw [up_0, z]; exact hP.2.2⟩
  · rw [← wl_set G h e hk]
    exact hP.1.set (wl_D G h) (wl_get G h hk) he oq
  · rw [up_0]
    by_cases hjk : j = k
    · rw [hjk]; exact hk
    · rw [up_n h e (by omega)] at hj
      exact hP.2.1 j hj
theorem Cx.ex {G : gx} {y : my} {p : Program} {s : State} {m : MethodId} {args : Array Value} {meth : Method} {c : Code} (C : Cx G y p s m args meth c) : p.tables.exec = Jvm.exec := C.1
theorem Cx.own {G : gx} {y : my} {p : Program} {s : State} {m : MethodId} {args : Array Value} {meth : Method} {c : Code} (C : Cx G y p s m args meth c) : s.vm.findClass y.1.cls = some m.cls := C.2.2.2.2.1
theorem Cx.ts {G : gx} {y : my} {p : Program} {s : State} {m : MethodId} {args : Array Value} {meth : Method} {c : Code} (C : Cx G y p s m args meth c) {w : Cond} (hw : w ∈ gw) : w.before args s = true := C.2.2.2.2.2.1 _ (List.mem_cons_of_mem _ hw)
theorem Cx.kt {G : gx} {y : my} {p : Program} {s : State} {m : MethodId} {args : Array Value} {meth : Method} {c : Code} (C : Cx G y p s m args meth c) : Kt G s := C.2.2.2.2.2.2.2.2.1
theorem Cx.ro {G : gx} {y : my} {p : Program} {s : State} {m : MethodId} {args : Array Value} {meth : Method} {c : Code} (C : Cx G y p s m args meth c) : Ro G s s.heap := C.2.2.2.2.2.2.2.2.2.1
theorem Cx.nb {G : gx} {y : my} {p : Program} {s : State} {m : MethodId} {args : Array Value} {meth : Method} {c : Code} (C : Cx G y p s m args meth c) : g_b G ≤ s.heap.size := C.2.2.2.2.2.2.2.2.2.2
theorem Cx.nt {G : gx} {y : my} {p : Program} {s : State} {m : MethodId} {args : Array Value} {meth : Method} {c : Code} (C : Cx G y p s m args meth c) {w : Cond} (hw : w ∈ nw) : w.before args s = true := va_Nw.use (nw_tab hw) (C.kt.2 w hw)
section HR
variable {G : gx} {y : my} {b : bg} {pc : Nat} {L : List (Option Value)} {S : List Value} {h : ah} {Q : Option Value → ah → Prop}
theorem V_get {k ci j index N : Nat} {fs : List Value} {v : Value} {C0 : String} {T : u_T} (hd : decode y.2.1 pc = .ok (.getfield index, 3)) (hcl : vwCl[ci]? = some (C0, T, N)) (hc : h (k + 2) = (ci, .inl fs)) (hci : ci < 100) (hj : j < N) (hw : Cond.fieldLink y.1.cls index (T j).1 (T j).2.1 (T j).2.2.1 ∈ gw) (hv : fs[j]? = some v) (kk : V G y b (pc + 3) L (v :: S) h Q) : V G y b pc L (.ref (k + 2) :: S) h Q :=
  fun p e s m args below meth c H locs ls C c1 c2 hP hS hl => va_get C.1 C.2.1 C.2.2.2.2.2.1 (fun w hh => List.mem_cons_of_mem _ (gw_cls hcl w hh)) C.own C.kt.1 hP.1 k (hP.el hc hci) hcl j hj (C.ts hw) (fun _ z => z) (by rw [List.getElem?_map, hv]; rfl) hd (kk p e s m args below meth c H locs ls C c1 c2 hP hS hl)
theorem V_getN {k ci j index N : Nat} {fs : List Value} {v : Value} {C0 host : String} {T : u_T} (hd : decode y.2.1 pc = .ok (.getfield index, 3)) (hcl : vwCl[ci]? = some (C0, T, N)) (hc : h (k + 2) = (ci, .inl fs)) (hci : ci < 100) (hj : j < N) (hw : Cond.fieldLinkNest y.1.cls index (T j).1 (T j).2.1 (T j).2.2.1 host ∈ nw) (hv : fs[j]? = some v) (kk : V G y b (pc + 3) L (v :: S) h Q) : V G y b pc L (.ref (k + 2) :: S) h Q :=
  fun p e s m args below meth c H locs ls C c1 c2 hP hS hl => va_getN C.1 C.2.1 C.2.2.2.2.2.1 (fun w hh => List.mem_cons_of_mem _ (gw_cls hcl w hh)) C.own C.kt.1 hP.1 k (hP.el hc hci) hcl j hj (C.nt hw) (fun _ z => z) (by rw [List.getElem?_map, hv]; rfl) hd (kk p e s m args below meth c H locs ls C c1 c2 hP hS hl)
theorem put_at {ci j N a : Nat} {fs : List Value} {v : Value} {C0 : String} {T : u_T} {cell : Cell} {H1 : Heap} {s : State} {args : Array Value} {ws : List Cond} (hts : ∀ w ∈ ws, w.before args s = true) (hin : ∀ w ∈ gw, w ∈ ws) (hK : Kt G s) (hcl : vwCl[ci]? = some (C0, T, N)) (hj : j < N) (hl : j < fs.length) (q2 : cell.cls = (g_D G).1 ci) (q3 : cell.vm = .none) (q4 : ∀ k, k < N → cell.slots[(g_D G).2 ci k]? = some (vp_V (fs.map (cv G)) k)) (e1 : H1[a]? = some (cell.setSlot ((g_D G).2 ci j) (cv G v))) : va_at (g_D G) vwCl (a, cx G (ci, .inl (fs.set j v))) H1 := by
  have hap := va_apart (own := C0) (D := g_D G) (tys := g_ty G) hts (fun w hh => hin w (gw_cls hcl w hh)) (cl_ty ci) (cl_tyok hcl) (cl_nm hcl) hK.1 hcl
  refine ⟨_, hcl, ?_⟩
  refine t_OB.to (V := updV (vp_V (fs.map (cv G))) j (cv G v)) ⟨_, e1, q2, q3, t_set q4 hap hj _⟩ (fun i _ => ?_)
  rw [vp_updV_set (by simpa using hl), List.map_set]
theorem V_put {k ci j index N : Nat} {fs : List Value} {v : Value} {C0 : String} {T : u_T} {ty : FieldType} (hd : decode y.2.1 pc = .ok (.putfield index, 3)) (hcl : vwCl[ci]? = some (C0, T, N)) (hc : h (k + 2) = (ci, .inl fs)) (hci : ci < 100) (hj : j < N) (hw : Cond.fieldLink y.1.cls index (T j).1 (T j).2.1 (T j).2.2.1 ∈ gw) (hfin : (T j).2.2.2 = false) (hty : parseFieldDescriptor (T j).2.2.1 = some ty) (hn : narrow ty (cv G v) = cv G v) (hfit : fits ty (cv G v) = true) (hl : j < fs.length) (kk : V G y b (pc + 3) L S (va_up h (k + 2) (ci, .inl (fs.set j v))) Q) : V G y b pc L (v :: .ref (k + 2) :: S) h Q :=
  fun p e s m args below meth c H locs ls C c1 c2 hP hS hlv => by
    obtain ⟨r, h1, cell, q1, q2, q3, q4⟩ := hP.at hc hci
    have hr : r = (C0, T, N) := Option.some.inj (h1.symm.trans hcl)
    subst hr
    obtain ⟨hSl, hfc, kC, hkC, hkind⟩ := C.kt.1.1 ci _ hcl
    obtain ⟨cf, kf, fi, f, hi, hsl⟩ := hSl j hj
    have hlay := C.ts (gw_cls hcl _ (u_in_lay hj))
    unfold u_lay at hlay
    rw [if_neg (by rw [hfin]; decide)] at hlay
    have hst := (u_facts hfc hkC (u_lays C.2.2.2.2.2.1 (fun w hh => List.mem_cons_of_mem _ (gw_cls hcl w hh)) hj) hi).1
    have h6 := u_store hfc hkC hkind hlay hi hty hn hfit
    refine W.putK C.1 C.2.1 (f := f) ⟨C.own, C.ts hw, ⟨_, _, _, hi⟩, hst⟩ (by rw [q2]; exact h6) q1 q3 (by rw [hsl]; exact k2_hasslot (q4 j hj)) rfl rfl hd fun H' e1 e2 e3 => ?_
    rw [hsl] at e1 ⊢
    exact kk p e s m args below meth c H' _ ls C c1 c2 (hP.set hc hci (put_at C.2.2.2.2.2.1 (fun w hh => List.mem_cons_of_mem _ hh) C.kt hcl hj hl q2 q3 q4 e1) e2 e3) (hS.put e2 e3 (Nat.le_add_right _ _)) hlv
theorem V_putN {k ci j index N : Nat} {fs : List Value} {v : Value} {C0 host : String} {T : u_T} {ty : FieldType} (hd : decode y.2.1 pc = .ok (.putfield index, 3)) (hcl : vwCl[ci]? = some (C0, T, N)) (hc : h (k + 2) = (ci, .inl fs)) (hci : ci < 100) (hj : j < N) (hw : Cond.fieldLinkNest y.1.cls index (T j).1 (T j).2.1 (T j).2.2.1 host ∈ nw) (hfin : (T j).2.2.2 = false) (hty : parseFieldDescriptor (T j).2.2.1 = some ty) (hn : narrow ty (cv G v) = cv G v) (hfit : fits ty (cv G v) = true) (hl : j < fs.length) (kk : V G y b (pc + 3) L S (va_up h (k + 2) (ci, .inl (fs.set j v))) Q) : V G y b pc L (v :: .ref (k + 2) :: S) h Q :=
  fun p e s m args below meth c H locs ls C c1 c2 hP hS hlv => by
    obtain ⟨r, h1, cell, q1, q2, q3, q4⟩ := hP.at hc hci
    have hr : r = (C0, T, N) := Option.some.inj (h1.symm.trans hcl)
    subst hr
    obtain ⟨hSl, hfc, kC, hkC, hkind⟩ := C.kt.1.1 ci _ hcl
    obtain ⟨cf, kf, fi, f, hi, hsl⟩ := hSl j hj
    have hlay := C.ts (gw_cls hcl _ (u_in_lay hj))
    unfold u_lay at hlay
    rw [if_neg (by rw [hfin]; decide)] at hlay
    have hst := (u_facts hfc hkC (u_lays C.2.2.2.2.2.1 (fun w hh => List.mem_cons_of_mem _ (gw_cls hcl w hh)) hj) hi).1
    have h6 := u_store hfc hkC hkind hlay hi hty hn hfit
    refine va_WputK C.1 C.2.1 (f := f) C.own (C.nt hw) hi hst (by rw [q2]; exact h6) q1 q3 (by rw [hsl]; exact k2_hasslot (q4 j hj)) rfl rfl hd fun H' e1 e2 e3 => ?_
    rw [hsl] at e1 ⊢
    exact kk p e s m args below meth c H' _ ls C c1 c2 (hP.set hc hci (put_at C.2.2.2.2.2.1 (fun w hh => List.mem_cons_of_mem _ hh) C.kt hcl hj hl q2 q3 q4 e1) e2 e3) (hS.put e2 e3 (Nat.le_add_right _ _)) hlv
theorem V_putF {k ci j index N : Nat} {fs : List Value} {v : Value} {C0 : String} {T : u_T} {ty : FieldType} (hd : decode y.2.1 pc = .ok (.putfield index, 3)) (hcl : vwCl[ci]? = some (C0, T, N)) (hc : h (k + 2) = (ci, .inl fs)) (hci : ci < 100) (hj : j < N) (hw : Cond.fieldLink y.1.cls index (T j).1 (T j).2.1 (T j).2.2.1 ∈ gw) (hfin : (T j).2.2.2 = true) (hin2 : y.1.name = "<init>") (hdecl : (T j).1 = y.1.cls) (hty : parseFieldDescriptor (T j).2.2.1 = some ty) (hn : narrow ty (cv G v) = cv G v) (hfit : fits ty (cv G v) = true) (hl : j < fs.length) (kk : V G y b (pc + 3) L S (va_up h (k + 2) (ci, .inl (fs.set j v))) Q) : V G y b pc L (v :: .ref (k + 2) :: S) h Q :=
  fun p e s m args below meth c H locs ls C c1 c2 hP hS hlv => by
    obtain ⟨r, h1, cell, q1, q2, q3, q4⟩ := hP.at hc hci
    have hr : r = (C0, T, N) := Option.some.inj (h1.symm.trans hcl)
    subst hr
    obtain ⟨hSl, hfc, kC, hkC, hkind⟩ := C.kt.1.1 ci _ hcl
    obtain ⟨cf, kf, fi, f, hi, hsl⟩ := hSl j hj
    have hlay := C.ts (gw_cls hcl _ (u_in_lay hj))
    unfold u_lay at hlay
    rw [if_pos hfin] at hlay
    have hst := (u_facts hfc hkC (u_lays C.2.2.2.2.2.1 (fun w hh => List.mem_cons_of_mem _ (gw_cls hcl w hh)) hj) hi).1
    have hcf : m.cls = cf := by
      obtain ⟨_, _, c', _, _, _, -, -, hf', -, -, -, hown2, -⟩ := Cond.laysFinal_spec hlay
      have e1 : c' = cf := by have := hi.symm.trans hf'; simp at this; exact this.1.symm
      rw [hdecl] at hown2
      rw [← e1]; exact Option.some.inj (C.own.symm.trans hown2)
    have h6 := u_fits hfc hkC hkind (Or.inr hlay) hi hty hn hfit
    refine W.putFinK C.1 C.2.1 C.own (C.ts hw) hi hst hcf (C.2.2.2.2.2.2.2.1.trans hin2) (by rw [q2]; exact h6) q1 q3 (by rw [hsl]; exact k2_hasslot (q4 j hj)) rfl rfl hd fun H' e1 e2 e3 => ?_
    rw [hsl] at e1 ⊢
    exact kk p e s m args below meth c H' _ ls C c1 c2 (hP.set hc hci (put_at C.2.2.2.2.2.1 (fun w hh => List.mem_cons_of_mem _ hh) C.kt hcl hj hl q2 q3 q4 e1) e2 e3) (hS.put e2 e3 (Nat.le_add_right _ _)) hlv
theorem V_iald {k n : Nat} {f : Nat → Int32} {i : Int32} (hd : decode y.2.1 pc = .ok (.iaload, 1)) (hc : h (k + 2) = (0, .inr (n, .inl f))) (hin : vp_in i n) (kk : V G y b (pc + 1) L (.int (f i.toNatClampNeg) :: S) h Q) : V G y b pc L (.int i :: .ref (k + 2) :: S) h Q :=
  fun p e s m args below meth c H locs ls C c1 c2 hP hS hl => va_iald C.1 C.2.1 C.kt.1 hP.1 k 0 (hP.el hc (by show 0 < 100; decide)) rfl hin hd (kk p e s m args below meth c H locs ls C c1 c2 hP hS hl)
theorem V_bald {k n : Nat} {f : Nat → Int32} {i : Int32} (hd : decode y.2.1 pc = .ok (.baload, 1)) (hc : h (k + 2) = (1, .inr (n, .inl f))) (hin : vp_in i n) (kk : V G y b (pc + 1) L (.int (f i.toNatClampNeg) :: S) h Q) : V G y b pc L (.int i :: .ref (k + 2) :: S) h Q :=
  fun p e s m args below meth c H locs ls C c1 c2 hP hS hl => va_bald C.1 C.2.1 C.kt.1 hP.1 k 1 (hP.el hc (by show 1 < 100; decide)) rfl hin hd (kk p e s m args below meth c H locs ls C c1 c2 hP hS hl)
theorem V_zald {k n : Nat} {f : Nat → Int32} {i : Int32} (hd : decode y.2.1 pc = .ok (.baload, 1)) (hc : h (k + 2) = (2, .inr (n, .inl f))) (hin : vp_in i n) (kk : V G y b (pc + 1) L (.int (f i.toNatClampNeg) :: S) h Q) : V G y b pc L (.int i :: .ref (k + 2) :: S) h Q :=
  fun p e s m args below meth c H locs ls C c1 c2 hP hS hl => va_zald C.1 C.2.1 C.kt.1 hP.1 k 2 (hP.el hc (by show 2 < 100; decide)) rfl hin hd (kk p e s m args below meth c H locs ls C c1 c2 hP hS hl)
theorem V_lald {k n : Nat} {f : Nat → Int64} {i : Int32} (hd : decode y.2.1 pc = .ok (.laload, 1)) (hc : h (k + 2) = (3, .inr (n, .inr (.inl f)))) (hin : vp_in i n) (kk : V G y b (pc + 1) L (.long (f i.toNatClampNeg) :: S) h Q) : V G y b pc L (.int i :: .ref (k + 2) :: S) h Q :=
  fun p e s m args below meth c H locs ls C c1 c2 hP hS hl => va_lald C.1 C.2.1 C.kt.1 hP.1 k 3 (hP.el hc (by show 3 < 100; decide)) rfl hin hd (kk p e s m args below meth c H locs ls C c1 c2 hP hS hl)
theorem V_aald {k n r : Nat} {f : Nat → Option Nat} {i : Int32} (hd : decode y.2.1 pc = .ok (.aaload, 1)) (hc : h (k + 2) = (4, .inr (n, .inr (.inr f)))) (hin : vp_in i n) (hr : f i.toNatClampNeg = some r) (kk : V G y b (pc + 1) L (.ref r :: S) h Q) : V G y b pc L (.int i :: .ref (k + 2) :: S) h Q :=
  fun p e s m args below meth c H locs ls C c1 c2 hP hS hl => va_aldq C.1 C.2.1 C.kt.1 hP.1 k 4 (hP.el hc (by show 4 < 100; decide)) rfl hin hd (by
    rw [hr]
    exact kk p e s m args below meth c H locs ls C c1 c2 hP hS hl)
theorem V_alen {k n t : Nat} {f : (Nat → Int32) ⊕ (Nat → Int64) ⊕ (Nat → Option Nat)} (hd : decode y.2.1 pc = .ok (.arraylength, 1)) (hc : h (k + 2) = (t, .inr (n, f))) (ht : t < 5) (kk : V G y b (pc + 1) L (.int (nI n) :: S) h Q) : V G y b pc L (.ref (k + 2) :: S) h Q :=
  fun p e s m args below meth c H locs ls C c1 c2 hP hS hl => by
    have hty : ∃ ty, (g_ty G)[t]? = some (g_T G t, ty) := by
      match t, ht with
      | 0, _ => exact ⟨_, rfl⟩
      | 1, _ => exact ⟨_, rfl⟩
      | 2, _ => exact ⟨_, rfl⟩
      | 3, _ => exact ⟨_, rfl⟩
      | 4, _ => exact ⟨_, rfl⟩
    obtain ⟨ty, hty⟩ := hty
    have he := hP.el hc (by show t < 100; omega)
    obtain f | f | f := f
    · exact va_alen C.1 C.2.1 C.kt.1 hP.1 k t he hty rfl hd (kk p e s m args below meth c H locs ls C c1 c2 hP hS hl)
    · exact va_alen C.1 C.2.1 C.kt.1 hP.1 k t he hty rfl hd (kk p e s m args below meth c H locs ls C c1 c2 hP hS hl)
    · exact va_alen C.1 C.2.1 C.kt.1 hP.1 k t he hty rfl hd (kk p e s m args below meth c H locs ls C c1 c2 hP hS hl)
theorem V_iast {k n : Nat} {f : Nat → Int32} {i x : Int32} (hd : decode y.2.1 pc = .ok (.iastore, 1)) (hc : h (k + 2) = (0, .inr (n, .inl f))) (hin : vp_in i n) (kk : V G y b (pc + 1) L S (va_up h (k + 2) (0, .inr (n, .inl (upd f i.toNatClampNeg x)))) Q) : V G y b pc L (.int x :: .int i :: .ref (k + 2) :: S) h Q :=
  fun p e s m args below meth c H locs ls C c1 c2 hP hS hl => by
    refine W.iast C.1 C.2.1 (hP.at hc (by show 0 < 100; decide)) ((C.kt.1.2 0 _ rfl).1 n (fun j => .int (f j))) (fun q => by cases q) (by show ¬ (i < 0 ∨ (arrV _ _ _).slots.size ≤ _); rw [arrV_size]; exact hin) rfl rfl hd fun H1 e1 z oq => ?_
    refine kk p e s m args below meth c H1 _ ls C c1 c2 (hP.set hc (by show 0 < 100; decide) ?_ z oq) (hS.put z oq (Nat.le_add_right _ _)) hl
    show H1[g_b G + k]? = some (vp_cell _ _)
    rw [e1]
    rw [vp_cell_i, vp_cell_i, arrV_store]
    congr 2
    funext q
    by_cases hq : q = i.toNatClampNeg
    · subst hq
      simp [updV, upd]
    · simp [updV, upd, hq]
theorem V_bast {k n : Nat} {f : Nat → Int32} {i x : Int32} (hd : decode y.2.1 pc = .ok (.bastore, 1)) (hc : h (k + 2) = (1, .inr (n, .inl f))) (hin : vp_in i n) (kk : V G y b (pc + 1) L S (va_up h (k + 2) (1, .inr (n, .inl (upd f i.toNatClampNeg (vp_nar .byte x))))) Q) : V G y b pc L (.int x :: .int i :: .ref (k + 2) :: S) h Q :=
  fun p e s m args below meth c H locs ls C c1 c2 hP hS hl => by
    refine W.bast C.1 C.2.1 (hP.at hc (by show 1 < 100; decide)) ((C.kt.1.2 1 _ rfl).1 n (fun j => .int (f j))) (fun q => by cases q) (by show ¬ (i < 0 ∨ (arrV _ _ _).slots.size ≤ _); rw [arrV_size]; exact hin) rfl rfl hd fun H1 e1 z oq => ?_
    refine kk p e s m args below meth c H1 _ ls C c1 c2 (hP.set hc (by show 1 < 100; decide) ?_ z oq) (hS.put z oq (Nat.le_add_right _ _)) hl
    show H1[g_b G + k]? = some (vp_cell _ _)
    rw [e1]
    rw [vp_cell_i, vp_cell_i, arrV_store]
    congr 2
    funext q
    by_cases hq : q = i.toNatClampNeg
    · subst hq
      simp [updV, upd, vp_nar]
      try rfl
    · simp [updV, upd, hq]
theorem V_zast {k n : Nat} {f : Nat → Int32} {i x : Int32} (hd : decode y.2.1 pc = .ok (.bastore, 1)) (hc : h (k + 2) = (2, .inr (n, .inl f))) (hin : vp_in i n) (kk : V G y b (pc + 1) L S (va_up h (k + 2) (2, .inr (n, .inl (upd f i.toNatClampNeg (vp_nar .boolean x))))) Q) : V G y b pc L (.int x :: .int i :: .ref (k + 2) :: S) h Q :=
  fun p e s m args below meth c H locs ls C c1 c2 hP hS hl => by
    refine W.zast C.1 C.2.1 (hP.at hc (by show 2 < 100; decide)) ((C.kt.1.2 2 _ rfl).1 n (fun j => .int (f j))) (fun q => by cases q) (by show ¬ (i < 0 ∨ (arrV _ _ _).slots.size ≤ _); rw [arrV_size]; exact hin) rfl rfl hd fun H1 e1 z oq => ?_
    refine kk p e s m args below meth c H1 _ ls C c1 c2 (hP.set hc (by show 2 < 100; decide) ?_ z oq) (hS.put z oq (Nat.le_add_right _ _)) hl
    show H1[g_b G + k]? = some (vp_cell _ _)
    rw [e1]
    rw [vp_cell_i, vp_cell_i, arrV_store]
    congr 2
    funext q
    by_cases hq : q = i.toNatClampNeg
    · subst hq
      simp [updV, upd, vp_nar]
      try rfl
    · simp [updV, upd, hq]
theorem V_last {k n : Nat} {f : Nat → Int64} {i : Int32} {x : Int64} (hd : decode y.2.1 pc = .ok (.lastore, 1)) (hc : h (k + 2) = (3, .inr (n, .inr (.inl f)))) (hin : vp_in i n) (kk : V G y b (pc + 1) L S (va_up h (k + 2) (3, .inr (n, .inr (.inl (vp_updL f i.toNatClampNeg x))))) Q) : V G y b pc L (.long x :: .int i :: .ref (k + 2) :: S) h Q :=
  fun p e s m args below meth c H locs ls C c1 c2 hP hS hl => by
    refine W.last C.1 C.2.1 (hP.at hc (by show 3 < 100; decide)) ((C.kt.1.2 3 _ rfl).1 n (fun j => .long (f j))) (fun q => by cases q) (by show ¬ (i < 0 ∨ (arrV _ _ _).slots.size ≤ _); rw [arrV_size]; exact hin) rfl rfl hd fun H1 e1 z oq => ?_
    refine kk p e s m args below meth c H1 _ ls C c1 c2 (hP.set hc (by show 3 < 100; decide) ?_ z oq) (hS.put z oq (Nat.le_add_right _ _)) hl
    show H1[g_b G + k]? = some (vp_cell _ _)
    rw [e1]
    rw [vp_cell_l, vp_cell_l, arrV_store]
    congr 2
    funext q
    by_cases hq : q = i.toNatClampNeg
    · subst hq
      simp [updV, vp_updL]
    · simp [updV, vp_updL, hq]
/-- the script, and the table -/
theorem V_sld {i : Int32} (hd : decode y.2.1 pc = .ok (.iaload, 1)) (hin : vp_in i (g_n G)) (kk : V G y b (pc + 1) L (.int (g_x G i.toNatClampNeg) :: S) h Q) : V G y b pc L (.int i :: .ref 0 :: S) h Q :=
  fun p e s m args below meth c H locs ls C c1 c2 hP hS hl => va_sld C.1 C.2.1 C.ro.1 (Nat.lt_of_lt_of_le C.ro.2.2.2.1 C.nb) (Nat.not_le.mpr C.ro.2.2.2.1) hS hin hd (kk p e s m args below meth c H locs ls C c1 c2 hP hS hl)
theorem V_slen (hd : decode y.2.1 pc = .ok (.arraylength, 1)) (kk : V G y b (pc + 1) L (.int (nI (g_n G)) :: S) h Q) : V G y b pc L (.ref 0 :: S) h Q :=
  fun p e s m args below meth c H locs ls C c1 c2 hP hS hl => va_slen C.1 C.2.1 C.ro.1 (Nat.lt_of_lt_of_le C.ro.2.2.2.1 C.nb) (Nat.not_le.mpr C.ro.2.2.2.1) hS hd (kk p e s m args below meth c H locs ls C c1 c2 hP hS hl)
theorem V_tld {i : Int32} (hd : decode y.2.1 pc = .ok (.iaload, 1)) (hin : vp_in i 15) (kk : V G y b (pc + 1) L (.int (totF i.toNatClampNeg) :: S) h Q) : V G y b pc L (.int i :: .ref 1 :: S) h Q :=
  fun p e s m args below meth c H locs ls C c1 c2 hP hS hl => va_sld C.1 C.2.1 C.ro.2.1 (Nat.lt_of_lt_of_le C.ro.2.2.2.2 C.nb) (Nat.not_le.mpr C.ro.2.2.2.2) hS hin hd (kk p e s m args below meth c H locs ls C c1 c2 hP hS hl)
theorem V_gets {index : Nat} (hd : decode y.2.1 pc = .ok (.getstatic index, 3)) (hw : Cond.fieldLink y.1.cls index RX3 "TOTIENT" "[I" ∈ gw) (kk : V G y b (pc + 3) L (.ref 1 :: S) h Q) : V G y b pc L S h Q :=
  fun p e s m args below meth c H locs ls C c1 c2 hP hS hl => va_gets C.1 C.2.1 C.ro.2.2.1 hS C.own (C.ts hw) (fun _ z => z) hd (kk p e s m args below meth c H locs ls C c1 c2 hP hS hl)
/-! the ends -/
theorem V_iret {v : Int32} (hd : decode y.2.1 pc = .ok (.ireturn, 1)) (hr : y.2.2.2 = some .int) (kq : Q (some (.int v)) h) : V G y b pc L [.int v] h Q :=
  fun p e s m args below meth c H locs ls C c1 c2 hP hS hl => W.widen c1 c2 (W.iret (v := v) C.1 C.2.1 (C.2.2.1.trans hr) (fun t ht hW => ⟨⟨some (.int v), h, rfl, kq, by rw [ht]; exact hP⟩, hS.F ht⟩) hS.2.2 hd C.2.2.2.2.2.2.1)
theorem V_zret {v : Int32} (hd : decode y.2.1 pc = .ok (.ireturn, 1)) (hr : y.2.2.2 = some .boolean) (hv : narrow .boolean (.int v) = .int v) (kq : Q (some (.int v)) h) : V G y b pc L [.int v] h Q :=
  fun p e s m args below meth c H locs ls C c1 c2 hP hS hl => W.widen c1 c2 (W.zret (v := v) C.1 C.2.1 (C.2.2.1.trans hr) hv (fun t ht hW => ⟨⟨some (.int v), h, rfl, kq, by rw [ht]; exact hP⟩, hS.F ht⟩) hS.2.2 hd C.2.2.2.2.2.2.1)
theorem V_lret {v : Int64} (hd : decode y.2.1 pc = .ok (.lreturn, 1)) (hr : y.2.2.2 = some .long) (kq : Q (some (.long v)) h) : V G y b pc L [.long v] h Q :=
  fun p e s m args below meth c H locs ls C c1 c2 hP hS hl => W.widen c1 c2 (W.lret (v := v) C.1 C.2.1 (C.2.2.1.trans hr) (fun t ht hW => ⟨⟨some (.long v), h, rfl, kq, by rw [ht]; exact hP⟩, hS.F ht⟩) hS.2.2 hd C.2.2.2.2.2.2.1)
theorem V_vret (hd : decode y.2.1 pc = .ok (.return_, 1)) (hr : y.2.2.2 = none) (kq : Q none h) : V G y b pc L [] h Q :=
  fun p e s m args below meth c H locs ls C c1 c2 hP hS hl => W.widen c1 c2 (W.vret C.1 C.2.1 (C.2.2.1.trans hr) (fun t ht hW => ⟨⟨none, h, rfl, kq, by rw [ht]; exact hP⟩, hS.F ht⟩) hS.2.2 hd C.2.2.2.2.2.2.1)
theorem V_aret {v : Nat} (hd : decode y.2.1 pc = .ok (.areturn, 1)) (hr : y.2.2.2 = some (.array .int)) (kq : Q (some (.ref v)) h) : V G y b pc L [.ref v] h Q :=
  fun p e s m args below meth c H locs ls C c1 c2 hP hS hl => W.widen c1 c2 (W.aret (v := .ref (ad G v)) C.1 C.2.1 (C.2.2.1.trans hr) (Or.inr ⟨_, rfl⟩) (Or.inr ⟨_, rfl⟩) (fun t ht hW => ⟨⟨some (.ref v), h, rfl, kq, by rw [ht]; exact hP⟩, hS.F ht⟩) hS.2.2 hd C.2.2.2.2.2.2.1)
end HR
end
section
/-! calls, and a contract out of a walk -/
theorem Kt.moved {G : gx} {s U : State} (hW : s.WarmedH U.vm) (h : Kt G s) : Kt G U := ⟨va_K.moved hW.alike h.1, fun w hw => nw_warm hw hW (h.2 w hw)⟩
theorem Kt.same {G : gx} {u U : State} (hv : u.vm = U.vm) (h : Kt G u) : Kt G U := ⟨va_K.moved (by rw [hv]; exact Vm.Alike.refl U.vm) h.1, fun w hw => va_Nw.same (nw_tab hw) hv (h.2 w hw)⟩
theorem Ro.moved {G : gx} {s U : State} {H : Heap} (hW : s.vm.Alike U.vm) (h : Ro G s H) : Ro G U H := ⟨h.1.moved hW, h.2.1.moved hW, h.2.2.1.moved hW, h.2.2.2⟩
theorem Ro.kept {G : gx} {U : State} {H H1 : Heap} (h : Ro G U H) (hb : g_b G ≤ H.size) (hq : ∀ q : Nat, q < H.size → ¬ g_A G q → H1[q]? = H[q]?) : Ro G U H1 := ⟨h.1.kept (hq _ (Nat.lt_of_lt_of_le h.2.2.2.1 hb) (Nat.not_le.mpr h.2.2.2.1)), h.2.1.kept (hq _ (Nat.lt_of_lt_of_le h.2.2.2.2 hb) (Nat.not_le.mpr h.2.2.2.2)), h.2.2.1.kept hq, h.2.2.2⟩
theorem pc_blind (G : gx) (a : List Value) (h : ah) : FrameBlind (va_Pc (a.map (cv G)) (PU G h)) := by
  intro a U g mk q
  obtain ⟨q0, q1, q2, q3⟩ := q
  exact ⟨q0, q1, Kt.same (u := U) rfl q2, Ro.moved (Vm.Alike.refl U.vm) q3⟩
theorem lq_la (G : gx) : ∀ (a : List Value) (i : Nat), (a.all fun v => v.category == 1) = true → lq G i (a.map some) = lv_args i (a.map (cv G))
  | [], _, _ => rfl
  | v :: vs, i, h => by
    simp only [List.all_cons, Bool.and_eq_true, beq_iff_eq] at h
    show (i, cv G v) :: lq G (i + 1) (vs.map some) = (i, cv G v) :: lv_args (if (cv G v).category = 2 then i + 2 else i + 1) (vs.map (cv G))
    rw [cv_cat, h.1, if_neg (by decide), lq_la G vs (i + 1) h.2]
/-- the locals with which a method begins -/
def la : List Value → List (Option Value)
  | [] => []
  | v :: vs => match v with
    | .long x => some (.long x) :: none :: la vs
    | .double x => some (.double x) :: none :: la vs
    | v => some v :: la vs
theorem lq_la2 (G : gx) : ∀ (a : List Value) (i : Nat), lq G i (la a) = lv_args i (a.map (cv G))
  | [], _ => rfl
  | v :: vs, i => by
    cases v <;> exact congrArg (List.cons _) (lq_la2 G vs _)
theorem Ct_of {G : gx} {y : my} {d mc ms : Nat} {a : List Value} {h : ah} {Q : Option Value → ah → Prop} (hy : plainName y.1.cls = true) (ha : (lg_sl (a.map (cv G))).length ≤ y.2.2.1) (k : V G y (d, mc, ms, 0, 0) 0 (la a) [] h Q) : Ct G y d mc ms a h Q := by
  refine Met.ofW (cc := y.2.1) (maxL := y.2.2.1) (ret := y.2.2.2) hy rfl ?_
  intro p e s m args below meth c s₁ B hml hv
  obtain ⟨rfl, hH, hK, hR⟩ := hv
  have hl := lv_entry (a.map (cv G)) (n := y.2.2.1) ha
  rw [lg_entry_eq]
  generalize (lg_sl (a.map (cv G)) ++ List.replicate (y.2.2.1 - (lg_sl (a.map (cv G))).length) Slot.unset).toArray = ls at hl ⊢
  rw [← lq_la2 G a 0] at hl
  exact k p e s m _ below meth c s.heap [] ls ⟨B.exec, B.bytes, B.returns, hml, findClass_of_methodNamed B.named, atoms_spec (ws := w_s y) B.pre, B.notSynchronized, (name_of_methodNamed B.named B.method).1, hK, hR, by rw [hH.2.2]; exact Nat.le_add_right _ _⟩ (Nat.zero_le _) (Nat.zero_le _) hH va_S.rf hl
theorem Ct.mono {G : gx} {y : my} {d mc ms : Nat} {a : List Value} {h : ah} {Q Q2 : Option Value → ah → Prop} (hc : Ct G y d mc ms a h Q) (hq : ∀ r h', Q r h' → Q2 r h') : Ct G y d mc ms a h Q2 := by
  intro p e ha hc2 hk s m args below hf happ hP hZ
  obtain ⟨t, o, h1, h2, h3, ⟨⟨r, h', e1, e2, e3⟩, hF⟩, hL⟩ := hc p e ha hc2 hk s m args below hf happ hP hZ
  exact ⟨t, o, h1, h2, h3, ⟨⟨r, h', e1, hq _ _ e2, e3⟩, hF⟩, hL⟩
theorem lo_step {d d' maxL : Nat} (h : d' < d) (hd : d ≤ 9) (hm : maxL ≤ 14) : 8 + (maxL + 11) + r_lo d' ≤ r_lo d := by
  unfold r_lo
  split <;> split <;> omega
theorem ws_in {y y' : my} (hw : Cond.code y'.1 y'.2.1 y'.2.2.1 y'.2.2.2 ∈ gw) : GoodIn (w_s y) (w_s y') := by
  intro w h
  rcases List.mem_cons.mp h with rfl | h
  · exact ⟨List.mem_cons_of_mem _ hw, gw_good hw⟩
  · exact ⟨List.mem_cons_of_mem _ h, gw_good h⟩
theorem Hp.recv {G : gx} {h : ah} {H : Heap} (hP : Hp G h H) {s : State} (hK : Kt G s) {k ci N : Nat} {fs : List Value} {C0 : String} {T : u_T} (hc : h (k + 2) = (ci, .inl fs)) (hci : ci < 100) (hcl : vwCl[ci]? = some (C0, T, N)) : ∃ cell : Cell, H[g_b G + k]? = some cell ∧ cell.vm.isStatics = false ∧ s.vm.findClass C0 = some cell.cls :=
  va_recv (q := (C0, T, N)) hK.1 hP.1 hcl (hP.el hc hci)
theorem U_pre {G : gx} {h : ah} {H : Heap} {s U : State} {locs : List Loc} {a : List Value} (hP : Hp G h H) (hK : Kt G s) (hR : Ro G s s.heap) (hb : g_b G ≤ s.heap.size) (hS : va_S (g_A G) s.heap H locs) (hU : U.heap = H) (hW : s.WarmedH U.vm) : va_Pc (a.map (cv G)) (PU G h) (a.map (cv G)).toArray U :=
  ⟨rfl, by rw [hU]; exact hP, hK.moved hW, by rw [hU]; exact (Ro.kept hR hb hS.2.1).moved hW.alike⟩
section CR
variable {G : gx} {y y' : my} {d mc ms cc zz pc d' mc' ms' : Nat} {L : List (Option Value)} {S S0 : List Value} {h : ah} {Q Q' : Option Value → ah → Prop}
theorem V_run {p : Program} {e : Env} {s : State} {m : MethodId} {args : Array Value} {below : List Frame} {meth : Method} {c : Code} {H : Heap} {locs : List Loc} {ls : Array Slot} {a : Array Value}
    (hr : va_Run p (g_l G) e (r_m d mc ms) s m args below meth c H locs cc zz mc' ms' (F0 m pc ls (S0.map (cv G))) (S.map (cv G)) (Qm G Q' a) (g_A G)) (hS : va_S (g_A G) s.heap H locs)
    (kk : ∀ (r : Option Value) (h' : ah) (H1 : Heap) (locs1 : List Loc), Q' r h' → Hp G h' H1 → va_S (g_A G) s.heap H1 locs1 → W p (g_l G) e (r_m d mc ms) s m args below meth c H1 locs1 (cc + mc') (zz + ms') (MQ below (Qm G Q) args s mc ms (g_A G)) (F0 m (pc + 3) ls ((r.toList ++ S).map (cv G)))) :
    W p (g_l G) e (r_m d mc ms) s m args below meth c H locs cc zz (MQ below (Qm G Q) args s mc ms (g_A G)) (F0 m pc ls (S0.map (cv G))) := by
  intro T hT X
  obtain ⟨v, st₀, t, T', L, h0, X', hL, e1, e2, ⟨⟨r, h', hv, hq, hp⟩, hz, hk⟩, st⟩ := hr T hT X
  cases hv
  rw [h0] at hz hk
  obtain ⟨t2, a1, b1⟩ := kk r h' T'.heap (locs ++ L) hq (by rw [e1]; exact hp)
    ⟨Nat.le_trans hS.1 (by rw [e1]; exact hz), fun q h1 h2 => by rw [e1, hk q (Nat.lt_of_lt_of_le h1 hS.1) h2]; exact hS.2.1 q h1 h2, fun q hq => by
      rcases List.mem_append.mp hq with h | h
      · exact hS.2.2 q h
      · exact hL q h⟩ T' rfl X'
  refine ⟨t2, st t2 ?_, b1⟩
  cases r <;> exact a1
/-- words and numbers of a call of y' -/
def Cw (y y' : my) (index n d' : Nat) : Prop := Cond.code y'.1 y'.2.1 y'.2.2.1 y'.2.2.2 ∈ gw ∧ Cond.initialized y'.1.cls ∈ gw ∧ (y'.1.cls ≠ "java/lang/invoke/MethodHandle" ∧ y'.1.cls ≠ "java/lang/invoke/VarHandle" ∧ (parseMethodDescriptor y'.1.desc).map (fun d => d.parameters.length) = some n) ∧ y'.2.2.1 ≤ 14
theorem V_callV {k ci index n N : Nat} {fs As : List Value} {T : u_T} (hM : Ct G y' d' mc' ms' (.ref (k + 2) :: As) h Q') (hd : decode y.2.1 pc = .ok (.invokevirtual index, 3)) (hw : Cond.methodLink y.1.cls index y'.1 ∈ gw ∧ Cond.instanceMethod y'.1 ∈ gw ∧ Cond.selects y'.1.cls y'.1 y'.1 ∈ gw) (cw : Cw y y' index n d') (hcl : vwCl[ci]? = some (y'.1.cls, T, N)) (hc : h (k + 2) = (ci, .inl fs)) (hci : ci < 100) (hdd : d' < d ∧ d ≤ 9) (hn : As.length = n) (hst : S0 = As.reverse ++ .ref (k + 2) :: S) (hrm : (S.map fun v => v.category).sum ≤ 8) (hf : cc + mc' ≤ mc ∧ zz + ms' ≤ ms)
    (kk : ∀ r h', Q' r h' → V G y (d, mc, ms, cc + mc', zz + ms') (pc + 3) L (r.toList ++ S) h' Q) : V G y (d, mc, ms, cc, zz) pc L S0 h Q :=
  fun p e s m args below meth c H locs ls C c1 c2 hP hS hl => by
    refine V_run (va_runV (As := As.map (cv G)) ⟨C.1, C.2.1, C.2.2.2.1, C.own, C.2.2.2.2.2.1⟩ hM ⟨callB_of n C.2.2.2.2.2.1 (ws_in cw.1) rfl rfl rfl (C.ts cw.2.1) (C.ts hw.1) cw.2.2.1 ⟨hdd.1, lo_step hdd.1 hdd.2 cw.2.2.2⟩, C.ts hw.2.1, C.ts hw.2.2⟩ ⟨pc_blind G _ h, hP.recv C.kt hc hci hcl, fun U hU hW => U_pre (a := .ref (k + 2) :: As) hP C.kt C.ro C.nb hS hU hW⟩ rfl (by rw [List.length_map]; exact hn) hl.1 ?_ ?_ hd hf) hS (fun r h' H1 locs1 hq hp hs => kk r h' hq p e s m args below meth c H1 locs1 ls C hf.1 hf.2 hp hs hl)
    · show S0.map (cv G) = _
      rw [hst, List.map_append, List.map_reverse]
      rfl
    · refine lv_room ?_
      rw [List.map_map]
      exact Nat.le_trans (Nat.le_of_eq (congrArg List.sum (List.map_congr_left (fun v _ => cv_cat G v)))) hrm
theorem V_callVN {k ci index n N : Nat} {fs As : List Value} {T : u_T} {host : String} (hM : Ct G y' d' mc' ms' (.ref (k + 2) :: As) h Q') (hd : decode y.2.1 pc = .ok (.invokevirtual index, 3)) (hw : Cond.methodLinkNest y.1.cls index y'.1 host ∈ nw ∧ Cond.instanceMethod y'.1 ∈ gw ∧ Cond.selects y'.1.cls y'.1 y'.1 ∈ gw) (cw : Cw y y' index n d') (hcl : vwCl[ci]? = some (y'.1.cls, T, N)) (hc : h (k + 2) = (ci, .inl fs)) (hci : ci < 100) (hdd : d' < d ∧ d ≤ 9) (hn : As.length = n) (hst : S0 = As.reverse ++ .ref (k + 2) :: S) (hrm : (S.map fun v => v.category).sum ≤ 8) (hf : cc + mc' ≤ mc ∧ zz + ms' ≤ ms)
    (kk : ∀ r h', Q' r h' → V G y (d, mc, ms, cc + mc', zz + ms') (pc + 3) L (r.toList ++ S) h' Q) : V G y (d, mc, ms, cc, zz) pc L S0 h Q :=
  fun p e s m args below meth c H locs ls C c1 c2 hP hS hl => by
    refine V_run (va_runVN (As := As.map (cv G)) ⟨C.1, C.2.1, C.2.2.2.1, C.own, C.2.2.2.2.2.1⟩ hM ⟨va_cnB n C.2.2.2.2.2.1 (ws_in cw.1) rfl rfl rfl (C.kt.2 _ hw.1) (C.ts cw.2.1) cw.2.2.1 ⟨hdd.1, lo_step hdd.1 hdd.2 cw.2.2.2⟩, C.ts hw.2.1, C.ts hw.2.2⟩ ⟨pc_blind G _ h, hP.recv C.kt hc hci hcl, fun U hU hW => U_pre (a := .ref (k + 2) :: As) hP C.kt C.ro C.nb hS hU hW⟩ rfl (by rw [List.length_map]; exact hn) hl.1 ?_ ?_ hd hf) hS (fun r h' H1 locs1 hq hp hs => kk r h' hq p e s m args below meth c H1 locs1 ls C hf.1 hf.2 hp hs hl)
    · show S0.map (cv G) = _
      rw [hst, List.map_append, List.map_reverse]
      rfl
    · refine lv_room ?_
      rw [List.map_map]
      exact Nat.le_trans (Nat.le_of_eq (congrArg List.sum (List.map_congr_left (fun v _ => cv_cat G v)))) hrm
theorem V_callS {index n : Nat} {As : List Value} (hM : Ct G y' d' mc' ms' As h Q') (hd : decode y.2.1 pc = .ok (.invokestatic index, 3)) (hw : Cond.methodLink y.1.cls index y'.1 ∈ gw ∧ Cond.static y'.1 ∈ gw) (cw : Cw y y' index n d') (hdd : d' < d ∧ d ≤ 9) (hn : As.length = n) (hst : S0 = As.reverse ++ S) (hrm : (S.map fun v => v.category).sum ≤ 8) (hf : cc + mc' ≤ mc ∧ zz + ms' ≤ ms)
    (kk : ∀ r h', Q' r h' → V G y (d, mc, ms, cc + mc', zz + ms') (pc + 3) L (r.toList ++ S) h' Q) : V G y (d, mc, ms, cc, zz) pc L S0 h Q :=
  fun p e s m args below meth c H locs ls C c1 c2 hP hS hl => by
    refine V_run (va_runS (As := As.map (cv G)) ⟨C.1, C.2.1, C.2.2.2.1, C.own, C.2.2.2.2.2.1⟩ hM ⟨callB_of n C.2.2.2.2.2.1 (ws_in cw.1) rfl rfl rfl (C.ts cw.2.1) (C.ts hw.1) cw.2.2.1 ⟨hdd.1, lo_step hdd.1 hdd.2 cw.2.2.2⟩, C.ts hw.2⟩ ⟨pc_blind G _ h, fun U hU hW => U_pre (a := As) hP C.kt C.ro C.nb hS hU hW⟩ rfl (by rw [List.length_map]; exact hn) hl.1 ?_ ?_ hd hf) hS (fun r h' H1 locs1 hq hp hs => kk r h' hq p e s m args below meth c H1 locs1 ls C hf.1 hf.2 hp hs hl)
    · show S0.map (cv G) = _
      rw [hst, List.map_append, List.map_reverse]
    · refine lv_room ?_
      rw [List.map_map]
      exact Nat.le_trans (Nat.le_of_eq (congrArg List.sum (List.map_congr_left (fun v _ => cv_cat G v)))) hrm
theorem V_callSN {index n : Nat} {As : List Value} {host : String} (hM : Ct G y' d' mc' ms' As h Q') (hd : decode y.2.1 pc = .ok (.invokestatic index, 3)) (hw : Cond.methodLinkNest y.1.cls index y'.1 host ∈ nw ∧ Cond.static y'.1 ∈ gw) (cw : Cw y y' index n d') (hdd : d' < d ∧ d ≤ 9) (hn : As.length = n) (hst : S0 = As.reverse ++ S) (hrm : (S.map fun v => v.category).sum ≤ 8) (hf : cc + mc' ≤ mc ∧ zz + ms' ≤ ms)
    (kk : ∀ r h', Q' r h' → V G y (d, mc, ms, cc + mc', zz + ms') (pc + 3) L (r.toList ++ S) h' Q) : V G y (d, mc, ms, cc, zz) pc L S0 h Q :=
  fun p e s m args below meth c H locs ls C c1 c2 hP hS hl => by
    refine V_run (va_runSN (As := As.map (cv G)) ⟨C.1, C.2.1, C.2.2.2.1, C.own, C.2.2.2.2.2.1⟩ hM ⟨va_cnB n C.2.2.2.2.2.1 (ws_in cw.1) rfl rfl rfl (C.kt.2 _ hw.1) (C.ts cw.2.1) cw.2.2.1 ⟨hdd.1, lo_step hdd.1 hdd.2 cw.2.2.2⟩, C.ts hw.2, trivial⟩ ⟨pc_blind G _ h, fun U hU hW => U_pre (a := As) hP C.kt C.ro C.nb hS hU hW⟩ rfl (by rw [List.length_map]; exact hn) hl.1 ?_ ?_ hd hf) hS (fun r h' H1 locs1 hq hp hs => kk r h' hq p e s m args below meth c H1 locs1 ls C hf.1 hf.2 hp hs hl)
    · show S0.map (cv G) = _
      rw [hst, List.map_append, List.map_reverse]
    · refine lv_room ?_
      rw [List.map_map]
      exact Nat.le_trans (Nat.le_of_eq (congrArg List.sum (List.map_congr_left (fun v _ => cv_cat G v)))) hrm
/-- fewer locals; the same by another name -/
theorem V_eq {b : bg} {pc2 : Nat} {L2 : List (Option Value)} {S2 : List Value} {h2 : ah} (h1 : pc = pc2) (hL : L = L2) (hS : S = S2) (hh : h = h2) (k : V G y b pc2 L2 S2 h2 Q) : V G y b pc L S h Q := by
  subst h1; subst hL; subst hS; subst hh; exact k
def sb : List (Option Value) → List (Option Value) → Prop
  | [], _ => True
  | none :: r, s => sb r s.tail
  | some v :: r, s => s.head? = some (some v) ∧ sb r s.tail
theorem lq_sb (G : gx) : ∀ (L' L : List (Option Value)) (j : Nat) (q : Nat × Value), sb L' L → q ∈ lq G j L' → q ∈ lq G j L
  | [], _, _, _, _, h => by simp [lq] at h
  | none :: r, L, j, q, hs, h => lq_tail G (lq_sb G r L.tail (j + 1) q hs h)
  | some v :: r, L, j, q, hs, h => by
    match L, hs with
    | [], hs => cases hs.1
    | x :: s, hs =>
      have hx : x = some v := by have := hs.1; simpa using this
      subst hx
      rcases List.mem_cons.mp (show q ∈ (j, cv G v) :: lq G (j + 1) r from h) with rfl | h
      · exact List.mem_cons_self
      · exact List.mem_cons_of_mem _ (lq_sb G r s (j + 1) q hs.2 h)
theorem V_sub {b : bg} {L' : List (Option Value)} (hs : sb L' L) (k : V G y b pc L' S h Q) : V G y b pc L S h Q :=
  fun p e s m args below meth c H locs ls C c1 c2 hP hS hl => k p e s m args below meth c H locs ls C c1 c2 hP hS ⟨hl.1, hl.2.1, fun q hq => hl.2.2 q (lq_sb G L' L 0 q hs hq)⟩
theorem V_mono {b : bg} {Q2 : Option Value → ah → Prop} (hq : ∀ r h', Q r h' → Q2 r h') (k : V G y b pc L S h Q) : V G y b pc L S h Q2 :=
  fun p e s m args below meth c H locs ls C c1 c2 hP hS hl T hT X => by
    obtain ⟨t, a1, o, b1, b2, ⟨⟨r, h', e1, e2, e3⟩, hF⟩, hL⟩ := k p e s m args below meth c H locs ls C c1 c2 hP hS hl T hT X
    exact ⟨t, a1, o, b1, b2, ⟨⟨r, h', e1, hq _ _ e2, e3⟩, hF⟩, hL⟩
end CR
end
section
/-! the words by their places in the tables -/
theorem tb_in {w : Cond} (h : w ∈ tables_1) (hg : goodWord w = true) : w ∈ gw := gw_in (List.mem_append_right _ h) hg
theorem tb_nw {w : Cond} (h : w ∈ tables_1) (hg : is_N w = true) : w ∈ nw := nw_in (List.mem_append_right _ h) hg
theorem tb_sel {w : Cond} (h : w ∈ k2_sels lw_privs) (hg : goodWord w = true) : w ∈ gw := gw_in (List.mem_append_left _ h) hg
theorem km_X7_1 : Cond.methodLink RX7 1 objectInit ∈ gw := tb_in (List.mem_of_getElem? (i := 19) (by decide +kernel)) rfl
theorem kc_X7_7 : Cond.classLink RX7 7 RX6 ∈ gw := tb_in (List.mem_of_getElem? (i := 22) (by decide +kernel)) rfl
theorem km_X7_9 : Cond.methodLinkNest RX7 9 yX6_init "WordWheel" ∈ nw := tb_nw (List.mem_of_getElem? (i := 24) (by decide +kernel)) rfl
theorem kf_X7_10 : Cond.fieldLink RX7 10 "WordWheel" "words" "LWordWheel$Words;" ∈ gw := tb_in (List.mem_of_getElem? (i := 248) (by decide +kernel)) rfl
theorem kc_X7_16 : Cond.classLink RX7 16 RX3 ∈ gw := tb_in (List.mem_of_getElem? (i := 67) (by decide +kernel)) rfl
theorem km_X7_18 : Cond.methodLinkNest RX7 18 yX3_init "WordWheel" ∈ nw := tb_nw (List.mem_of_getElem? (i := 69) (by decide +kernel)) rfl
theorem kf_X7_21 : Cond.fieldLink RX7 21 "WordWheel" "counter" "LWordWheel$RingCounter;" ∈ gw := tb_in (List.mem_of_getElem? (i := 249) (by decide +kernel)) rfl
theorem kc_X7_25 : Cond.classLink RX7 25 RX2 ∈ gw := tb_in (List.mem_of_getElem? (i := 86) (by decide +kernel)) rfl
theorem km_X7_27 : Cond.methodLinkNest RX7 27 yX2_init "WordWheel" ∈ nw := tb_nw (List.mem_of_getElem? (i := 88) (by decide +kernel)) rfl
theorem kf_X7_28 : Cond.fieldLink RX7 28 "WordWheel" "register" "LWordWheel$Register;" ∈ gw := tb_in (List.mem_of_getElem? (i := 250) (by decide +kernel)) rfl
theorem kc_X7_32 : Cond.classLink RX7 32 RX4 ∈ gw := tb_in (List.mem_of_getElem? (i := 147) (by decide +kernel)) rfl
theorem km_X7_34 : Cond.methodLinkNest RX7 34 yX4_init "WordWheel" ∈ nw := tb_nw (List.mem_of_getElem? (i := 149) (by decide +kernel)) rfl
theorem kf_X7_35 : Cond.fieldLink RX7 35 "WordWheel" "theRound" "LWordWheel$Round;" ∈ gw := tb_in (List.mem_of_getElem? (i := 251) (by decide +kernel)) rfl
theorem kc_X7_39 : Cond.classLink RX7 39 RX5 ∈ gw := tb_in (List.mem_of_getElem? (i := 184) (by decide +kernel)) rfl
theorem kf_X7_41 : Cond.fieldLink RX7 41 "WordWheel" "tapes" "[LWordWheel$Tape;" ∈ gw := tb_in (List.mem_of_getElem? (i := 252) (by decide +kernel)) rfl
theorem km_X7_45 : Cond.methodLinkNest RX7 45 yX5_init "WordWheel" ∈ nw := tb_nw (List.mem_of_getElem? (i := 187) (by decide +kernel)) rfl
theorem kc_X7_46 : Cond.classLink RX7 46 RX0 ∈ gw := tb_in (List.mem_of_getElem? (i := 210) (by decide +kernel)) rfl
theorem km_X7_48 : Cond.methodLinkNest RX7 48 yX0_init "WordWheel" ∈ nw := tb_nw (List.mem_of_getElem? (i := 212) (by decide +kernel)) rfl
theorem kf_X7_49 : Cond.fieldLink RX7 49 "WordWheel" "parting" "LWordWheel$Parting;" ∈ gw := tb_in (List.mem_of_getElem? (i := 253) (by decide +kernel)) rfl
theorem kc_X7_53 : Cond.classLink RX7 53 RX1 ∈ gw := tb_in (List.mem_of_getElem? (i := 225) (by decide +kernel)) rfl
theorem km_X7_55 : Cond.methodLinkNest RX7 55 yX1_init "WordWheel" ∈ nw := tb_nw (List.mem_of_getElem? (i := 227) (by decide +kernel)) rfl
theorem kf_X7_56 : Cond.fieldLink RX7 56 "WordWheel" "recurring" "LWordWheel$Recurring;" ∈ gw := tb_in (List.mem_of_getElem? (i := 254) (by decide +kernel)) rfl
theorem kf_X7_60 : Cond.fieldLink RX7 60 "WordWheel" "firstFound" "I" ∈ gw := tb_in (List.mem_of_getElem? (i := 255) (by decide +kernel)) rfl
theorem kf_X7_64 : Cond.fieldLink RX7 64 "WordWheel" "latestFinding" "I" ∈ gw := tb_in (List.mem_of_getElem? (i := 256) (by decide +kernel)) rfl
theorem km_X7_67 : Cond.methodLinkNest RX7 67 yX6_howMany "WordWheel" ∈ nw := tb_nw (List.mem_of_getElem? (i := 280) (by decide +kernel)) rfl
theorem km_X7_71 : Cond.methodLinkNest RX7 71 yX6_become "WordWheel" ∈ nw := tb_nw (List.mem_of_getElem? (i := 283) (by decide +kernel)) rfl
theorem km_X7_75 : Cond.methodLinkNest RX7 75 yX2_becomeTurning "WordWheel" ∈ nw := tb_nw (List.mem_of_getElem? (i := 284) (by decide +kernel)) rfl
theorem km_X7_78 : Cond.methodLinkNest RX7 78 yX4_drop "WordWheel" ∈ nw := tb_nw (List.mem_of_getElem? (i := 285) (by decide +kernel)) rfl
theorem km_X7_81 : Cond.methodLinkNest RX7 81 yX6_has "WordWheel" ∈ nw := tb_nw (List.mem_of_getElem? (i := 293) (by decide +kernel)) rfl
theorem km_X7_85 : Cond.methodLinkNest RX7 85 yX6_turned "WordWheel" ∈ nw := tb_nw (List.mem_of_getElem? (i := 297) (by decide +kernel)) rfl
theorem km_X7_88 : Cond.methodLinkNest RX7 88 yX6_leastOf "WordWheel" ∈ nw := tb_nw (List.mem_of_getElem? (i := 305) (by decide +kernel)) rfl
theorem km_X7_92 : Cond.methodLinkNest RX7 92 yX6_stepsToLeast "WordWheel" ∈ nw := tb_nw (List.mem_of_getElem? (i := 320) (by decide +kernel)) rfl
theorem km_X7_95 : Cond.methodLinkNest RX7 95 yX6_ringSize "WordWheel" ∈ nw := tb_nw (List.mem_of_getElem? (i := 328) (by decide +kernel)) rfl
theorem km_X7_98 : Cond.methodLinkNest RX7 98 yX6_backward "WordWheel" ∈ nw := tb_nw (List.mem_of_getElem? (i := 336) (by decide +kernel)) rfl
theorem kf_X7_101 : Cond.fieldLinkNest RX7 101 "WordWheel$Words" "all" "I" "WordWheel" ∈ nw := tb_nw (List.mem_of_getElem? (i := 50) (by decide +kernel)) rfl
theorem km_X7_104 : Cond.methodLinkNest RX7 104 yX3_ringsUpTo "WordWheel" ∈ nw := tb_nw (List.mem_of_getElem? (i := 344) (by decide +kernel)) rfl
theorem km_X7_107 : Cond.methodLink RX7 107 yX7_rings ∈ gw := tb_in (List.mem_of_getElem? (i := 388) (by decide +kernel)) rfl
theorem km_X7_111 : Cond.methodLinkNest RX7 111 yX3_leastOfRing "WordWheel" ∈ nw := tb_nw (List.mem_of_getElem? (i := 389) (by decide +kernel)) rfl
theorem kf_X7_114 : Cond.fieldLinkNest RX7 114 "WordWheel$Words" "length" "I" "WordWheel" ∈ nw := tb_nw (List.mem_of_getElem? (i := 46) (by decide +kernel)) rfl
theorem km_X7_117 : Cond.methodLinkNest RX7 117 yX3_wordsUpTo "WordWheel" ∈ nw := tb_nw (List.mem_of_getElem? (i := 398) (by decide +kernel)) rfl
theorem km_X7_120 : Cond.methodLinkNest RX7 120 yX3_takeAmounts "WordWheel" ∈ nw := tb_nw (List.mem_of_getElem? (i := 403) (by decide +kernel)) rfl
theorem km_X7_124 : Cond.methodLinkNest RX7 124 yX3_ringsOfAmounts "WordWheel" ∈ nw := tb_nw (List.mem_of_getElem? (i := 411) (by decide +kernel)) rfl
theorem km_X7_127 : Cond.methodLinkNest RX7 127 yX6_isLetter "WordWheel" ∈ nw := tb_nw (List.mem_of_getElem? (i := 427) (by decide +kernel)) rfl
theorem km_X7_130 : Cond.methodLinkNest RX7 130 yX2_changeFactor "WordWheel" ∈ nw := tb_nw (List.mem_of_getElem? (i := 428) (by decide +kernel)) rfl
theorem km_X7_133 : Cond.methodLinkNest RX7 133 yX2_changeSum "WordWheel" ∈ nw := tb_nw (List.mem_of_getElem? (i := 436) (by decide +kernel)) rfl
theorem km_X7_136 : Cond.methodLinkNest RX7 136 yX2_leadOf "WordWheel" ∈ nw := tb_nw (List.mem_of_getElem? (i := 444) (by decide +kernel)) rfl
theorem km_X7_139 : Cond.methodLinkNest RX7 139 yX2_isRight "WordWheel" ∈ nw := tb_nw (List.mem_of_getElem? (i := 460) (by decide +kernel)) rfl
theorem km_X7_143 : Cond.methodLinkNest RX7 143 yX6_differInFirst "WordWheel" ∈ nw := tb_nw (List.mem_of_getElem? (i := 468) (by decide +kernel)) rfl
theorem km_X7_147 : Cond.methodLinkNest RX7 147 yX2_isFull "WordWheel" ∈ nw := tb_nw (List.mem_of_getElem? (i := 472) (by decide +kernel)) rfl
theorem km_X7_150 : Cond.methodLinkNest RX7 150 yX2_makeExchange "WordWheel" ∈ nw := tb_nw (List.mem_of_getElem? (i := 476) (by decide +kernel)) rfl
theorem kf_X7_153 : Cond.fieldLinkNest RX7 153 "WordWheel$Register" "exchanges" "I" "WordWheel" ∈ nw := tb_nw (List.mem_of_getElem? (i := 109) (by decide +kernel)) rfl
theorem km_X7_156 : Cond.methodLinkNest RX7 156 yX2_takeBack "WordWheel" ∈ nw := tb_nw (List.mem_of_getElem? (i := 513) (by decide +kernel)) rfl
theorem km_X7_159 : Cond.methodLinkNest RX7 159 yX2_howManyCycles "WordWheel" ∈ nw := tb_nw (List.mem_of_getElem? (i := 521) (by decide +kernel)) rfl
theorem km_X7_162 : Cond.methodLinkNest RX7 162 yX2_numberOfCycle "WordWheel" ∈ nw := tb_nw (List.mem_of_getElem? (i := 526) (by decide +kernel)) rfl
theorem km_X7_165 : Cond.methodLinkNest RX7 165 yX2_leastOfCycle "WordWheel" ∈ nw := tb_nw (List.mem_of_getElem? (i := 534) (by decide +kernel)) rfl
theorem km_X7_168 : Cond.methodLinkNest RX7 168 yX2_wordsOfCycle "WordWheel" ∈ nw := tb_nw (List.mem_of_getElem? (i := 538) (by decide +kernel)) rfl
theorem km_X7_171 : Cond.methodLinkNest RX7 171 yX2_joinCycles "WordWheel" ∈ nw := tb_nw (List.mem_of_getElem? (i := 546) (by decide +kernel)) rfl
theorem km_X7_174 : Cond.methodLinkNest RX7 174 yX4_becomeLeast "WordWheel" ∈ nw := tb_nw (List.mem_of_getElem? (i := 558) (by decide +kernel)) rfl
theorem km_X7_177 : Cond.methodLinkNest RX7 177 yX4_becomeGreedy "WordWheel" ∈ nw := tb_nw (List.mem_of_getElem? (i := 571) (by decide +kernel)) rfl
theorem km_X7_180 : Cond.methodLinkNest RX7 180 yX2_leads "WordWheel" ∈ nw := tb_nw (List.mem_of_getElem? (i := 583) (by decide +kernel)) rfl
theorem km_X7_184 : Cond.methodLinkNest RX7 184 yX4_becomeCycle "WordWheel" ∈ nw := tb_nw (List.mem_of_getElem? (i := 584) (by decide +kernel)) rfl
theorem km_X7_188 : Cond.methodLinkNest RX7 188 yX4_isPlace "WordWheel" ∈ nw := tb_nw (List.mem_of_getElem? (i := 592) (by decide +kernel)) rfl
theorem kf_X7_191 : Cond.fieldLinkNest RX7 191 "WordWheel$Round" "letters" "[B" "WordWheel" ∈ nw := tb_nw (List.mem_of_getElem? (i := 155) (by decide +kernel)) rfl
theorem km_X7_195 : Cond.methodLinkNest RX7 195 yX4_isThere "WordWheel" ∈ nw := tb_nw (List.mem_of_getElem? (i := 605) (by decide +kernel)) rfl
theorem kf_X7_198 : Cond.fieldLinkNest RX7 198 "WordWheel$Round" "places" "[I" "WordWheel" ∈ nw := tb_nw (List.mem_of_getElem? (i := 157) (by decide +kernel)) rfl
theorem km_X7_202 : Cond.methodLink RX7 202 yX7_isTape ∈ gw := tb_in (List.mem_of_getElem? (i := 614) (by decide +kernel)) rfl
theorem km_X7_205 : Cond.methodLink RX7 205 yX7_isForm ∈ gw := tb_in (List.mem_of_getElem? (i := 617) (by decide +kernel)) rfl
theorem km_X7_208 : Cond.methodLink RX7 208 yX7_finding ∈ gw := tb_in (List.mem_of_getElem? (i := 620) (by decide +kernel)) rfl
theorem km_X7_211 : Cond.methodLinkNest RX7 211 yX5_begin "WordWheel" ∈ nw := tb_nw (List.mem_of_getElem? (i := 624) (by decide +kernel)) rfl
theorem km_X7_214 : Cond.methodLinkNest RX7 214 yX5_isLost "WordWheel" ∈ nw := tb_nw (List.mem_of_getElem? (i := 633) (by decide +kernel)) rfl
theorem km_X7_217 : Cond.methodLinkNest RX7 217 yX5_drop "WordWheel" ∈ nw := tb_nw (List.mem_of_getElem? (i := 637) (by decide +kernel)) rfl
theorem km_X7_219 : Cond.methodLink RX7 219 yX7_faultOfItem ∈ gw := tb_in (List.mem_of_getElem? (i := 645) (by decide +kernel)) rfl
theorem kf_X7_223 : Cond.fieldLinkNest RX7 223 "WordWheel$Tape" "items" "[I" "WordWheel" ∈ nw := tb_nw (List.mem_of_getElem? (i := 193) (by decide +kernel)) rfl
theorem km_X7_226 : Cond.methodLinkNest RX7 226 yX5_fitted "WordWheel" ∈ nw := tb_nw (List.mem_of_getElem? (i := 652) (by decide +kernel)) rfl
theorem kk_X7_231 : Cond.constant RX7 231 (-2147483648) ∈ gw := tb_in (List.mem_of_getElem? (i := 660) (by decide +kernel)) rfl
theorem kf_X7_232 : Cond.fieldLinkNest RX7 232 "WordWheel$Tape" "form" "I" "WordWheel" ∈ nw := tb_nw (List.mem_of_getElem? (i := 195) (by decide +kernel)) rfl
theorem km_X7_235 : Cond.methodLinkNest RX7 235 yX5_hasItems "WordWheel" ∈ nw := tb_nw (List.mem_of_getElem? (i := 648) (by decide +kernel)) rfl
theorem km_X7_238 : Cond.methodLink RX7 238 arraycopyName ∈ gw := tb_in (List.mem_of_getElem? (i := 665) (by decide +kernel)) rfl
theorem km_X7_244 : Cond.methodLinkNest RX7 244 yX4_writeLetters "WordWheel" ∈ nw := tb_nw (List.mem_of_getElem? (i := 672) (by decide +kernel)) rfl
theorem km_X7_248 : Cond.methodLinkNest RX7 248 yX4_countMatches "WordWheel" ∈ nw := tb_nw (List.mem_of_getElem? (i := 680) (by decide +kernel)) rfl
theorem kf_X7_252 : Cond.fieldLinkNest RX7 252 "WordWheel$Round" "firstMatch" "I" "WordWheel" ∈ nw := tb_nw (List.mem_of_getElem? (i := 164) (by decide +kernel)) rfl
theorem kf_X7_255 : Cond.fieldLinkNest RX7 255 "WordWheel$Tape" "length" "I" "WordWheel" ∈ nw := tb_nw (List.mem_of_getElem? (i := 197) (by decide +kernel)) rfl
theorem km_X7_256 : Cond.methodLinkNest RX7 256 yX5_hasBlanks "WordWheel" ∈ nw := tb_nw (List.mem_of_getElem? (i := 710) (by decide +kernel)) rfl
theorem km_X7_259 : Cond.methodLinkNest RX7 259 yX5_firstRepeated "WordWheel" ∈ nw := tb_nw (List.mem_of_getElem? (i := 715) (by decide +kernel)) rfl
theorem km_X7_262 : Cond.methodLinkNest RX7 262 yX0_divide "WordWheel" ∈ nw := tb_nw (List.mem_of_getElem? (i := 727) (by decide +kernel)) rfl
theorem kf_X7_266 : Cond.fieldLinkNest RX7 266 "WordWheel$Parting" "told" "I" "WordWheel" ∈ nw := tb_nw (List.mem_of_getElem? (i := 219) (by decide +kernel)) rfl
theorem kf_X7_269 : Cond.fieldLinkNest RX7 269 "WordWheel$Parting" "begins" "[I" "WordWheel" ∈ nw := tb_nw (List.mem_of_getElem? (i := 217) (by decide +kernel)) rfl
theorem kf_X7_272 : Cond.fieldLinkNest RX7 272 "WordWheel$Words" "letters" "I" "WordWheel" ∈ nw := tb_nw (List.mem_of_getElem? (i := 40) (by decide +kernel)) rfl
theorem km_X7_274 : Cond.methodLinkNest RX7 274 yX1_learn "WordWheel" ∈ nw := tb_nw (List.mem_of_getElem? (i := 739) (by decide +kernel)) rfl
theorem kf_X7_278 : Cond.fieldLinkNest RX7 278 "WordWheel$Recurring" "length" "I" "WordWheel" ∈ nw := tb_nw (List.mem_of_getElem? (i := 235) (by decide +kernel)) rfl
theorem km_X7_279 : Cond.methodLinkNest RX7 279 yX1_coefficientAt "WordWheel" ∈ nw := tb_nw (List.mem_of_getElem? (i := 769) (by decide +kernel)) rfl
theorem kf_X7_282 : Cond.fieldLinkNest RX7 282 "WordWheel$Round" "kind" "I" "WordWheel" ∈ nw := tb_nw (List.mem_of_getElem? (i := 159) (by decide +kernel)) rfl
theorem kk_X7_285 : Cond.constantLong RX7 285 (17) ∈ gw := tb_in (List.mem_of_getElem? (i := 781) (by decide +kernel)) rfl
theorem kk_X7_287 : Cond.constantLong RX7 287 (31) ∈ gw := tb_in (List.mem_of_getElem? (i := 782) (by decide +kernel)) rfl
theorem km_X7_289 : Cond.methodLink RX7 289 yX7_count ∈ gw := tb_in (List.mem_of_getElem? (i := 783) (by decide +kernel)) rfl
theorem km_X0_3 : Cond.methodLink RX0 3 objectInit ∈ gw := tb_in (List.mem_of_getElem? (i := 215) (by decide +kernel)) rfl
theorem kf_X0_9 : Cond.fieldLink RX0 9 "WordWheel$Parting" "begins" "[I" ∈ gw := tb_in (List.mem_of_getElem? (i := 216) (by decide +kernel)) rfl
theorem kf_X0_15 : Cond.fieldLink RX0 15 "WordWheel$Parting" "told" "I" ∈ gw := tb_in (List.mem_of_getElem? (i := 218) (by decide +kernel)) rfl
theorem km_X1_3 : Cond.methodLink RX1 3 objectInit ∈ gw := tb_in (List.mem_of_getElem? (i := 230) (by decide +kernel)) rfl
theorem kf_X1_9 : Cond.fieldLink RX1 9 "WordWheel$Recurring" "now" "[I" ∈ gw := tb_in (List.mem_of_getElem? (i := 231) (by decide +kernel)) rfl
theorem kf_X1_15 : Cond.fieldLink RX1 15 "WordWheel$Recurring" "earlier" "[I" ∈ gw := tb_in (List.mem_of_getElem? (i := 232) (by decide +kernel)) rfl
theorem kf_X1_18 : Cond.fieldLink RX1 18 "WordWheel$Recurring" "spare" "[I" ∈ gw := tb_in (List.mem_of_getElem? (i := 233) (by decide +kernel)) rfl
theorem kf_X1_21 : Cond.fieldLink RX1 21 "WordWheel$Recurring" "modulus" "I" ∈ gw := tb_in (List.mem_of_getElem? (i := 236) (by decide +kernel)) rfl
theorem kf_X1_25 : Cond.fieldLink RX1 25 "WordWheel$Recurring" "length" "I" ∈ gw := tb_in (List.mem_of_getElem? (i := 234) (by decide +kernel)) rfl
theorem km_X1_28 : Cond.methodLink RX1 28 yJ7_fill_53178 ∈ gw := tb_in (List.mem_of_getElem? (i := 743) (by decide +kernel)) rfl
theorem km_X1_34 : Cond.methodLink RX1 34 yX1_gapAt ∈ gw := tb_in (List.mem_of_getElem? (i := 744) (by decide +kernel)) rfl
theorem km_X1_38 : Cond.methodLink RX1 38 yX1_inverse ∈ gw := tb_in (List.mem_of_getElem? (i := 748) (by decide +kernel)) rfl
theorem km_X1_42 : Cond.methodLink RX1 42 yX1_lengthen ∈ gw := tb_in (List.mem_of_getElem? (i := 752) (by decide +kernel)) rfl
theorem km_X1_46 : Cond.methodLink RX1 46 yX1_subtractEarlier ∈ gw := tb_in (List.mem_of_getElem? (i := 757) (by decide +kernel)) rfl
theorem km_X1_50 : Cond.methodLink RX1 50 yX1_lowerNumbers ∈ gw := tb_in (List.mem_of_getElem? (i := 761) (by decide +kernel)) rfl
theorem km_X1_53 : Cond.methodLink RX1 53 arraycopyName ∈ gw := tb_in (List.mem_of_getElem? (i := 756) (by decide +kernel)) rfl
theorem km_X2_3 : Cond.methodLink RX2 3 objectInit ∈ gw := tb_in (List.mem_of_getElem? (i := 91) (by decide +kernel)) rfl
theorem kf_X2_9 : Cond.fieldLink RX2 9 "WordWheel$Register" "factors" "[I" ∈ gw := tb_in (List.mem_of_getElem? (i := 104) (by decide +kernel)) rfl
theorem kf_X2_15 : Cond.fieldLink RX2 15 "WordWheel$Register" "ones" "[I" ∈ gw := tb_in (List.mem_of_getElem? (i := 106) (by decide +kernel)) rfl
theorem kf_X2_18 : Cond.fieldLink RX2 18 "WordWheel$Register" "others" "[I" ∈ gw := tb_in (List.mem_of_getElem? (i := 107) (by decide +kernel)) rfl
theorem kf_X2_21 : Cond.fieldLink RX2 21 "WordWheel$Register" "lead" "[I" ∈ gw := tb_in (List.mem_of_getElem? (i := 110) (by decide +kernel)) rfl
theorem kf_X2_24 : Cond.fieldLink RX2 24 "WordWheel$Register" "cycleNumber" "[I" ∈ gw := tb_in (List.mem_of_getElem? (i := 112) (by decide +kernel)) rfl
theorem kf_X2_27 : Cond.fieldLink RX2 27 "WordWheel$Register" "leastWord" "[I" ∈ gw := tb_in (List.mem_of_getElem? (i := 113) (by decide +kernel)) rfl
theorem kf_X2_30 : Cond.fieldLink RX2 30 "WordWheel$Register" "joined" "[I" ∈ gw := tb_in (List.mem_of_getElem? (i := 117) (by decide +kernel)) rfl
theorem kf_X2_33 : Cond.fieldLink RX2 33 "WordWheel$Register" "words" "LWordWheel$Words;" ∈ gw := tb_in (List.mem_of_getElem? (i := 103) (by decide +kernel)) rfl
theorem km_X2_37 : Cond.methodLink RX2 37 yX2_becomeTurning ∈ gw := tb_in (List.mem_of_getElem? (i := 92) (by decide +kernel)) rfl
theorem km_X2_40 : Cond.methodLink RX2 40 yJ7_fill_53178 ∈ gw := tb_in (List.mem_of_getElem? (i := 96) (by decide +kernel)) rfl
theorem kf_X2_46 : Cond.fieldLink RX2 46 "WordWheel$Register" "addend" "I" ∈ gw := tb_in (List.mem_of_getElem? (i := 105) (by decide +kernel)) rfl
theorem km_X2_50 : Cond.methodLink RX2 50 yX2_forgetExchanges ∈ gw := tb_in (List.mem_of_getElem? (i := 99) (by decide +kernel)) rfl
theorem kf_X2_53 : Cond.fieldLink RX2 53 "WordWheel$Register" "exchanges" "I" ∈ gw := tb_in (List.mem_of_getElem? (i := 108) (by decide +kernel)) rfl
theorem kf_X2_56 : Cond.fieldLink RX2 56 "WordWheel$Register" "leadsStand" "Z" ∈ gw := tb_in (List.mem_of_getElem? (i := 111) (by decide +kernel)) rfl
theorem kf_X2_60 : Cond.fieldLink RX2 60 "WordWheel$Register" "numbersStand" "Z" ∈ gw := tb_in (List.mem_of_getElem? (i := 114) (by decide +kernel)) rfl
theorem kf_X2_63 : Cond.fieldLink RX2 63 "WordWheel$Register" "countStands" "Z" ∈ gw := tb_in (List.mem_of_getElem? (i := 116) (by decide +kernel)) rfl
theorem kf_X2_66 : Cond.fieldLinkNest RX2 66 "WordWheel$Words" "letters" "I" "WordWheel" ∈ nw := tb_nw (List.mem_of_getElem? (i := 37) (by decide +kernel)) rfl
theorem km_X2_71 : Cond.methodLink RX2 71 yX2_leads ∈ gw := tb_in (List.mem_of_getElem? (i := 448) (by decide +kernel)) rfl
theorem km_X2_75 : Cond.methodLink RX2 75 yX2_fillComing ∈ gw := tb_in (List.mem_of_getElem? (i := 452) (by decide +kernel)) rfl
theorem kf_X2_78 : Cond.fieldLinkNest RX2 78 "WordWheel$Words" "all" "I" "WordWheel" ∈ nw := tb_nw (List.mem_of_getElem? (i := 51) (by decide +kernel)) rfl
theorem kf_X2_81 : Cond.fieldLinkNest RX2 81 "WordWheel$Words" "high" "I" "WordWheel" ∈ nw := tb_nw (List.mem_of_getElem? (i := 54) (by decide +kernel)) rfl
theorem kf_X2_84 : Cond.fieldLinkNest RX2 84 "WordWheel$Words" "length" "I" "WordWheel" ∈ nw := tb_nw (List.mem_of_getElem? (i := 45) (by decide +kernel)) rfl
theorem kf_X2_87 : Cond.fieldLinkNest RX2 87 "WordWheel$Words" "power" "[I" "WordWheel" ∈ nw := tb_nw (List.mem_of_getElem? (i := 34) (by decide +kernel)) rfl
theorem km_X2_90 : Cond.methodLink RX2 90 yJ7_fill_fda19 ∈ gw := tb_in (List.mem_of_getElem? (i := 492) (by decide +kernel)) rfl
theorem kf_X2_93 : Cond.fieldLink RX2 93 "WordWheel$Register" "cycleCount" "I" ∈ gw := tb_in (List.mem_of_getElem? (i := 115) (by decide +kernel)) rfl
theorem km_X2_96 : Cond.methodLink RX2 96 yX2_markCycle ∈ gw := tb_in (List.mem_of_getElem? (i := 493) (by decide +kernel)) rfl
theorem km_X2_100 : Cond.methodLink RX2 100 yX2_numberCycles ∈ gw := tb_in (List.mem_of_getElem? (i := 488) (by decide +kernel)) rfl
theorem km_X2_103 : Cond.methodLink RX2 103 yX2_countBehindExchange ∈ gw := tb_in (List.mem_of_getElem? (i := 480) (by decide +kernel)) rfl
theorem km_X2_107 : Cond.methodLink RX2 107 yX2_swapLeads ∈ gw := tb_in (List.mem_of_getElem? (i := 501) (by decide +kernel)) rfl
theorem km_X2_110 : Cond.methodLink RX2 110 yX2_noteExchange ∈ gw := tb_in (List.mem_of_getElem? (i := 505) (by decide +kernel)) rfl
theorem km_X2_113 : Cond.methodLink RX2 113 yX2_howManyCycles ∈ gw := tb_in (List.mem_of_getElem? (i := 484) (by decide +kernel)) rfl
theorem km_X2_117 : Cond.methodLink RX2 117 yX2_inOneCycle ∈ gw := tb_in (List.mem_of_getElem? (i := 497) (by decide +kernel)) rfl
theorem km_X2_121 : Cond.methodLink RX2 121 yX2_joinAt ∈ gw := tb_in (List.mem_of_getElem? (i := 550) (by decide +kernel)) rfl
theorem km_X3_3 : Cond.methodLink RX3 3 objectInit ∈ gw := tb_in (List.mem_of_getElem? (i := 72) (by decide +kernel)) rfl
theorem kf_X3_9 : Cond.fieldLink RX3 9 "WordWheel$RingCounter" "row" "[I" ∈ gw := tb_in (List.mem_of_getElem? (i := 74) (by decide +kernel)) rfl
theorem kf_X3_15 : Cond.fieldLink RX3 15 "WordWheel$RingCounter" "pathways" "[I" ∈ gw := tb_in (List.mem_of_getElem? (i := 75) (by decide +kernel)) rfl
theorem kf_X3_18 : Cond.fieldLink RX3 18 "WordWheel$RingCounter" "amounts" "[I" ∈ gw := tb_in (List.mem_of_getElem? (i := 76) (by decide +kernel)) rfl
theorem kf_X3_21 : Cond.fieldLink RX3 21 "WordWheel$RingCounter" "words" "LWordWheel$Words;" ∈ gw := tb_in (List.mem_of_getElem? (i := 73) (by decide +kernel)) rfl
theorem kf_X3_25 : Cond.fieldLinkNest RX3 25 "WordWheel$Words" "length" "I" "WordWheel" ∈ nw := tb_nw (List.mem_of_getElem? (i := 41) (by decide +kernel)) rfl
theorem kf_X3_31 : Cond.fieldLink RX3 31 "WordWheel$RingCounter" "TOTIENT" "[I" ∈ gw := tb_in (List.mem_of_getElem? (i := 348) (by decide +kernel)) rfl
theorem km_X3_34 : Cond.methodLink RX3 34 yX3_greatestRepeated ∈ gw := tb_in (List.mem_of_getElem? (i := 350) (by decide +kernel)) rfl
theorem km_X3_38 : Cond.methodLink RX3 38 yX3_wordsUpTo ∈ gw := tb_in (List.mem_of_getElem? (i := 354) (by decide +kernel)) rfl
theorem kf_X3_41 : Cond.fieldLinkNest RX3 41 "WordWheel$Words" "power" "[I" "WordWheel" ∈ nw := tb_nw (List.mem_of_getElem? (i := 33) (by decide +kernel)) rfl
theorem kf_X3_44 : Cond.fieldLinkNest RX3 44 "WordWheel$Words" "all" "I" "WordWheel" ∈ nw := tb_nw (List.mem_of_getElem? (i := 48) (by decide +kernel)) rfl
theorem km_X3_47 : Cond.methodLink RX3 47 yX3_ringsUpTo ∈ gw := tb_in (List.mem_of_getElem? (i := 393) (by decide +kernel)) rfl
theorem kf_X3_51 : Cond.fieldLinkNest RX3 51 "WordWheel$Words" "letters" "I" "WordWheel" ∈ nw := tb_nw (List.mem_of_getElem? (i := 36) (by decide +kernel)) rfl
theorem km_X3_54 : Cond.methodLink RX3 54 yX3_lowerToBeginning ∈ gw := tb_in (List.mem_of_getElem? (i := 358) (by decide +kernel)) rfl
theorem km_X3_58 : Cond.methodLink RX3 58 yX3_wordsAboveRow ∈ gw := tb_in (List.mem_of_getElem? (i := 372) (by decide +kernel)) rfl
theorem km_X3_61 : Cond.methodLink RX3 61 yX3_firstFault ∈ gw := tb_in (List.mem_of_getElem? (i := 362) (by decide +kernel)) rfl
theorem km_X3_64 : Cond.methodLink RX3 64 yJ7_fill_fda19 ∈ gw := tb_in (List.mem_of_getElem? (i := 366) (by decide +kernel)) rfl
theorem km_X3_70 : Cond.methodLink RX3 70 yX3_greaterThan ∈ gw := tb_in (List.mem_of_getElem? (i := 376) (by decide +kernel)) rfl
theorem km_X3_73 : Cond.methodLinkNest RX3 73 yX6_isLetter "WordWheel" ∈ nw := tb_nw (List.mem_of_getElem? (i := 407) (by decide +kernel)) rfl
theorem km_X3_77 : Cond.methodLink RX3 77 yX3_allDivisible ∈ gw := tb_in (List.mem_of_getElem? (i := 415) (by decide +kernel)) rfl
theorem km_X3_80 : Cond.methodLink RX3 80 yX3_arrangements ∈ gw := tb_in (List.mem_of_getElem? (i := 419) (by decide +kernel)) rfl
theorem km_X4_3 : Cond.methodLink RX4 3 objectInit ∈ gw := tb_in (List.mem_of_getElem? (i := 152) (by decide +kernel)) rfl
theorem kf_X4_9 : Cond.fieldLink RX4 9 "WordWheel$Round" "letters" "[B" ∈ gw := tb_in (List.mem_of_getElem? (i := 154) (by decide +kernel)) rfl
theorem kf_X4_15 : Cond.fieldLink RX4 15 "WordWheel$Round" "places" "[I" ∈ gw := tb_in (List.mem_of_getElem? (i := 156) (by decide +kernel)) rfl
theorem kf_X4_19 : Cond.fieldLink RX4 19 "WordWheel$Round" "kind" "I" ∈ gw := tb_in (List.mem_of_getElem? (i := 158) (by decide +kernel)) rfl
theorem kf_X4_23 : Cond.fieldLink RX4 23 "WordWheel$Round" "row" "[I" ∈ gw := tb_in (List.mem_of_getElem? (i := 160) (by decide +kernel)) rfl
theorem kf_X4_26 : Cond.fieldLink RX4 26 "WordWheel$Round" "slipsOf" "[J" ∈ gw := tb_in (List.mem_of_getElem? (i := 161) (by decide +kernel)) rfl
theorem kf_X4_30 : Cond.fieldLink RX4 30 "WordWheel$Round" "standsAt" "[J" ∈ gw := tb_in (List.mem_of_getElem? (i := 162) (by decide +kernel)) rfl
theorem kf_X4_33 : Cond.fieldLink RX4 33 "WordWheel$Round" "firstMatch" "I" ∈ gw := tb_in (List.mem_of_getElem? (i := 163) (by decide +kernel)) rfl
theorem kf_X4_36 : Cond.fieldLink RX4 36 "WordWheel$Round" "words" "LWordWheel$Words;" ∈ gw := tb_in (List.mem_of_getElem? (i := 153) (by decide +kernel)) rfl
theorem km_X4_40 : Cond.methodLink RX4 40 yX4_isThere ∈ gw := tb_in (List.mem_of_getElem? (i := 596) (by decide +kernel)) rfl
theorem km_X4_44 : Cond.methodLinkNest RX4 44 yX6_has "WordWheel" ∈ nw := tb_nw (List.mem_of_getElem? (i := 600) (by decide +kernel)) rfl
theorem kk_X4_50 : Cond.constant RX4 50 (40000) ∈ gw := tb_in (List.mem_of_getElem? (i := 562) (by decide +kernel)) rfl
theorem kf_X4_51 : Cond.fieldLinkNest RX4 51 "WordWheel$Words" "length" "I" "WordWheel" ∈ nw := tb_nw (List.mem_of_getElem? (i := 43) (by decide +kernel)) rfl
theorem kf_X4_54 : Cond.fieldLinkNest RX4 54 "WordWheel$Words" "all" "I" "WordWheel" ∈ nw := tb_nw (List.mem_of_getElem? (i := 49) (by decide +kernel)) rfl
theorem km_X4_57 : Cond.methodLink RX4 57 yX4_nextRow ∈ gw := tb_in (List.mem_of_getElem? (i := 563) (by decide +kernel)) rfl
theorem km_X4_61 : Cond.methodLink RX4 61 yX4_findPlaces ∈ gw := tb_in (List.mem_of_getElem? (i := 567) (by decide +kernel)) rfl
theorem kf_X4_64 : Cond.fieldLinkNest RX4 64 "WordWheel$Words" "letters" "I" "WordWheel" ∈ nw := tb_nw (List.mem_of_getElem? (i := 38) (by decide +kernel)) rfl
theorem kf_X4_66 : Cond.fieldLinkNest RX4 66 "WordWheel$Words" "high" "I" "WordWheel" ∈ nw := tb_nw (List.mem_of_getElem? (i := 53) (by decide +kernel)) rfl
theorem km_X4_69 : Cond.methodLink RX4 69 yJ7_fill_fda19 ∈ gw := tb_in (List.mem_of_getElem? (i := 575) (by decide +kernel)) rfl
theorem km_X4_75 : Cond.methodLink RX4 75 yJ7_fill_eb02e ∈ gw := tb_in (List.mem_of_getElem? (i := 576) (by decide +kernel)) rfl
theorem km_X4_78 : Cond.methodLink RX4 78 yX4_greatestNew ∈ gw := tb_in (List.mem_of_getElem? (i := 579) (by decide +kernel)) rfl
theorem km_X4_81 : Cond.methodLink RX4 81 yX4_noteSlips ∈ gw := tb_in (List.mem_of_getElem? (i := 684) (by decide +kernel)) rfl
theorem km_X4_85 : Cond.methodLink RX4 85 yX4_noteFirstPlaces ∈ gw := tb_in (List.mem_of_getElem? (i := 692) (by decide +kernel)) rfl
theorem km_X4_88 : Cond.methodLink RX4 88 yJ13_bitCount_95d88 ∈ gw := tb_in (List.mem_of_getElem? (i := 696) (by decide +kernel)) rfl
theorem km_X4_94 : Cond.methodLink RX4 94 yJ7_fill_d0a16 ∈ gw := tb_in (List.mem_of_getElem? (i := 688) (by decide +kernel)) rfl
theorem km_X4_97 : Cond.methodLinkNest RX4 97 yX6_isLetter "WordWheel" ∈ nw := tb_nw (List.mem_of_getElem? (i := 691) (by decide +kernel)) rfl
theorem km_X5_3 : Cond.methodLink RX5 3 objectInit ∈ gw := tb_in (List.mem_of_getElem? (i := 190) (by decide +kernel)) rfl
theorem kf_X5_9 : Cond.fieldLink RX5 9 "WordWheel$Tape" "items" "[I" ∈ gw := tb_in (List.mem_of_getElem? (i := 192) (by decide +kernel)) rfl
theorem kf_X5_15 : Cond.fieldLink RX5 15 "WordWheel$Tape" "form" "I" ∈ gw := tb_in (List.mem_of_getElem? (i := 194) (by decide +kernel)) rfl
theorem kf_X5_19 : Cond.fieldLink RX5 19 "WordWheel$Tape" "begun" "[I" ∈ gw := tb_in (List.mem_of_getElem? (i := 198) (by decide +kernel)) rfl
theorem kf_X5_22 : Cond.fieldLink RX5 22 "WordWheel$Tape" "words" "LWordWheel$Words;" ∈ gw := tb_in (List.mem_of_getElem? (i := 191) (by decide +kernel)) rfl
theorem kf_X5_26 : Cond.fieldLink RX5 26 "WordWheel$Tape" "length" "I" ∈ gw := tb_in (List.mem_of_getElem? (i := 196) (by decide +kernel)) rfl
theorem km_X5_29 : Cond.methodLink RX5 29 yJ7_fill_fda19 ∈ gw := tb_in (List.mem_of_getElem? (i := 628) (by decide +kernel)) rfl
theorem km_X5_35 : Cond.methodLinkNest RX5 35 yX6_isLetter "WordWheel" ∈ nw := tb_nw (List.mem_of_getElem? (i := 714) (by decide +kernel)) rfl
theorem km_X5_41 : Cond.methodLink RX5 41 yX5_wordAt ∈ gw := tb_in (List.mem_of_getElem? (i := 719) (by decide +kernel)) rfl
theorem kf_X5_45 : Cond.fieldLinkNest RX5 45 "WordWheel$Words" "length" "I" "WordWheel" ∈ nw := tb_nw (List.mem_of_getElem? (i := 44) (by decide +kernel)) rfl
theorem kf_X5_46 : Cond.fieldLinkNest RX5 46 "WordWheel$Words" "letters" "I" "WordWheel" ∈ nw := tb_nw (List.mem_of_getElem? (i := 39) (by decide +kernel)) rfl
theorem km_X6_3 : Cond.methodLink RX6 3 objectInit ∈ gw := tb_in (List.mem_of_getElem? (i := 27) (by decide +kernel)) rfl
theorem kf_X6_9 : Cond.fieldLink RX6 9 "WordWheel$Words" "power" "[I" ∈ gw := tb_in (List.mem_of_getElem? (i := 32) (by decide +kernel)) rfl
theorem km_X6_15 : Cond.methodLink RX6 15 yX6_become ∈ gw := tb_in (List.mem_of_getElem? (i := 28) (by decide +kernel)) rfl
theorem kf_X6_19 : Cond.fieldLink RX6 19 "WordWheel$Words" "letters" "I" ∈ gw := tb_in (List.mem_of_getElem? (i := 35) (by decide +kernel)) rfl
theorem kf_X6_23 : Cond.fieldLink RX6 23 "WordWheel$Words" "length" "I" ∈ gw := tb_in (List.mem_of_getElem? (i := 42) (by decide +kernel)) rfl
theorem kf_X6_26 : Cond.fieldLink RX6 26 "WordWheel$Words" "all" "I" ∈ gw := tb_in (List.mem_of_getElem? (i := 47) (by decide +kernel)) rfl
theorem kf_X6_29 : Cond.fieldLink RX6 29 "WordWheel$Words" "high" "I" ∈ gw := tb_in (List.mem_of_getElem? (i := 52) (by decide +kernel)) rfl
theorem km_X6_32 : Cond.methodLink RX6 32 yX6_turnedOnce ∈ gw := tb_in (List.mem_of_getElem? (i := 309) (by decide +kernel)) rfl
theorem km_X6_36 : Cond.methodLink RX6 36 yJ9_min_7cf53 ∈ gw := tb_in (List.mem_of_getElem? (i := 313) (by decide +kernel)) rfl
theorem kc_L_7 : Cond.classLink RL 7 RX7 ∈ gw := tb_in (List.mem_of_getElem? (i := 14) (by decide +kernel)) rfl
theorem km_L_9 : Cond.methodLink RL 9 yX7_init ∈ gw := tb_in (List.mem_of_getElem? (i := 16) (by decide +kernel)) rfl
theorem kc_L_10 : Cond.classLink RL 10 RX8 ∈ gw := tb_in (List.mem_of_getElem? (i := 784) (by decide +kernel)) rfl
theorem km_L_12 : Cond.methodLink RL 12 yX8_init ∈ gw := tb_in (List.mem_of_getElem? (i := 786) (by decide +kernel)) rfl
theorem km_L_13 : Cond.methodLink RL 13 yX7_wheel ∈ gw := tb_in (List.mem_of_getElem? (i := 276) (by decide +kernel)) rfl
theorem km_L_17 : Cond.methodLink RL 17 yX8_wheel ∈ gw := tb_in (List.mem_of_getElem? (i := 914) (by decide +kernel)) rfl
theorem km_L_18 : Cond.methodLink RL 18 yX7_turn ∈ gw := tb_in (List.mem_of_getElem? (i := 289) (by decide +kernel)) rfl
theorem km_L_21 : Cond.methodLink RL 21 yX8_turn ∈ gw := tb_in (List.mem_of_getElem? (i := 915) (by decide +kernel)) rfl
theorem km_L_22 : Cond.methodLink RL 22 yX7_least ∈ gw := tb_in (List.mem_of_getElem? (i := 301) (by decide +kernel)) rfl
theorem km_L_26 : Cond.methodLink RL 26 yX8_least ∈ gw := tb_in (List.mem_of_getElem? (i := 924) (by decide +kernel)) rfl
theorem km_L_27 : Cond.methodLink RL 27 yX7_steps ∈ gw := tb_in (List.mem_of_getElem? (i := 316) (by decide +kernel)) rfl
theorem km_L_30 : Cond.methodLink RL 30 yX8_steps ∈ gw := tb_in (List.mem_of_getElem? (i := 928) (by decide +kernel)) rfl
theorem km_L_31 : Cond.methodLink RL 31 yX7_size ∈ gw := tb_in (List.mem_of_getElem? (i := 324) (by decide +kernel)) rfl
theorem km_L_34 : Cond.methodLink RL 34 yX8_size ∈ gw := tb_in (List.mem_of_getElem? (i := 932) (by decide +kernel)) rfl
theorem km_L_35 : Cond.methodLink RL 35 yX7_even ∈ gw := tb_in (List.mem_of_getElem? (i := 332) (by decide +kernel)) rfl
theorem km_L_38 : Cond.methodLink RL 38 yX8_even ∈ gw := tb_in (List.mem_of_getElem? (i := 940) (by decide +kernel)) rfl
theorem km_L_39 : Cond.methodLink RL 39 yX7_rings ∈ gw := tb_in (List.mem_of_getElem? (i := 340) (by decide +kernel)) rfl
theorem km_L_43 : Cond.methodLink RL 43 yX8_rings ∈ gw := tb_in (List.mem_of_getElem? (i := 944) (by decide +kernel)) rfl
theorem km_L_44 : Cond.methodLink RL 44 yX7_ringOf ∈ gw := tb_in (List.mem_of_getElem? (i := 380) (by decide +kernel)) rfl
theorem km_L_47 : Cond.methodLink RL 47 yX8_ringOf ∈ gw := tb_in (List.mem_of_getElem? (i := 948) (by decide +kernel)) rfl
theorem km_L_48 : Cond.methodLink RL 48 yX7_ring ∈ gw := tb_in (List.mem_of_getElem? (i := 384) (by decide +kernel)) rfl
theorem km_L_51 : Cond.methodLink RL 51 yX8_ring ∈ gw := tb_in (List.mem_of_getElem? (i := 952) (by decide +kernel)) rfl
theorem km_L_52 : Cond.methodLink RL 52 yX7_below ∈ gw := tb_in (List.mem_of_getElem? (i := 394) (by decide +kernel)) rfl
theorem km_L_55 : Cond.methodLink RL 55 yX8_below ∈ gw := tb_in (List.mem_of_getElem? (i := 956) (by decide +kernel)) rfl
theorem km_L_56 : Cond.methodLink RL 56 yX7_content ∈ gw := tb_in (List.mem_of_getElem? (i := 399) (by decide +kernel)) rfl
theorem km_L_60 : Cond.methodLink RL 60 yX8_content ∈ gw := tb_in (List.mem_of_getElem? (i := 960) (by decide +kernel)) rfl
theorem km_L_61 : Cond.methodLink RL 61 yX7_factor ∈ gw := tb_in (List.mem_of_getElem? (i := 423) (by decide +kernel)) rfl
theorem km_L_64 : Cond.methodLink RL 64 yX8_factor ∈ gw := tb_in (List.mem_of_getElem? (i := 968) (by decide +kernel)) rfl
theorem km_L_65 : Cond.methodLink RL 65 yX7_sum ∈ gw := tb_in (List.mem_of_getElem? (i := 432) (by decide +kernel)) rfl
theorem km_L_68 : Cond.methodLink RL 68 yX8_sum ∈ gw := tb_in (List.mem_of_getElem? (i := 972) (by decide +kernel)) rfl
theorem km_L_69 : Cond.methodLink RL 69 yX7_go ∈ gw := tb_in (List.mem_of_getElem? (i := 440) (by decide +kernel)) rfl
theorem km_L_72 : Cond.methodLink RL 72 yX8_go ∈ gw := tb_in (List.mem_of_getElem? (i := 976) (by decide +kernel)) rfl
theorem km_L_73 : Cond.methodLink RL 73 yX7_right ∈ gw := tb_in (List.mem_of_getElem? (i := 456) (by decide +kernel)) rfl
theorem km_L_76 : Cond.methodLink RL 76 yX8_right ∈ gw := tb_in (List.mem_of_getElem? (i := 980) (by decide +kernel)) rfl
theorem km_L_77 : Cond.methodLink RL 77 yX7_exchange ∈ gw := tb_in (List.mem_of_getElem? (i := 464) (by decide +kernel)) rfl
theorem km_L_80 : Cond.methodLink RL 80 yX8_exchange ∈ gw := tb_in (List.mem_of_getElem? (i := 988) (by decide +kernel)) rfl
theorem km_L_81 : Cond.methodLink RL 81 yX7_back ∈ gw := tb_in (List.mem_of_getElem? (i := 509) (by decide +kernel)) rfl
theorem km_L_84 : Cond.methodLink RL 84 yX8_back ∈ gw := tb_in (List.mem_of_getElem? (i := 1000) (by decide +kernel)) rfl
theorem km_L_85 : Cond.methodLink RL 85 yX7_cycles ∈ gw := tb_in (List.mem_of_getElem? (i := 517) (by decide +kernel)) rfl
theorem km_L_88 : Cond.methodLink RL 88 yX8_cycles ∈ gw := tb_in (List.mem_of_getElem? (i := 1004) (by decide +kernel)) rfl
theorem km_L_89 : Cond.methodLink RL 89 yX7_cycleOf ∈ gw := tb_in (List.mem_of_getElem? (i := 522) (by decide +kernel)) rfl
theorem km_L_92 : Cond.methodLink RL 92 yX8_cycleOf ∈ gw := tb_in (List.mem_of_getElem? (i := 1008) (by decide +kernel)) rfl
theorem km_L_93 : Cond.methodLink RL 93 yX7_cycle ∈ gw := tb_in (List.mem_of_getElem? (i := 530) (by decide +kernel)) rfl
theorem km_L_96 : Cond.methodLink RL 96 yX8_cycle ∈ gw := tb_in (List.mem_of_getElem? (i := 1012) (by decide +kernel)) rfl
theorem km_L_97 : Cond.methodLink RL 97 yX7_join ∈ gw := tb_in (List.mem_of_getElem? (i := 542) (by decide +kernel)) rfl
theorem km_L_100 : Cond.methodLink RL 100 yX8_join ∈ gw := tb_in (List.mem_of_getElem? (i := 1016) (by decide +kernel)) rfl
theorem km_L_101 : Cond.methodLink RL 101 yX7_round ∈ gw := tb_in (List.mem_of_getElem? (i := 554) (by decide +kernel)) rfl
theorem km_L_104 : Cond.methodLink RL 104 yX8_round ∈ gw := tb_in (List.mem_of_getElem? (i := 1028) (by decide +kernel)) rfl
theorem km_L_105 : Cond.methodLink RL 105 yX7_letter ∈ gw := tb_in (List.mem_of_getElem? (i := 588) (by decide +kernel)) rfl
theorem km_L_108 : Cond.methodLink RL 108 yX8_letter ∈ gw := tb_in (List.mem_of_getElem? (i := 1040) (by decide +kernel)) rfl
theorem km_L_109 : Cond.methodLink RL 109 yX7_place ∈ gw := tb_in (List.mem_of_getElem? (i := 601) (by decide +kernel)) rfl
theorem km_L_112 : Cond.methodLink RL 112 yX8_place ∈ gw := tb_in (List.mem_of_getElem? (i := 1044) (by decide +kernel)) rfl
theorem km_L_113 : Cond.methodLink RL 113 yX7_way ∈ gw := tb_in (List.mem_of_getElem? (i := 606) (by decide +kernel)) rfl
theorem km_L_116 : Cond.methodLink RL 116 yX8_way ∈ gw := tb_in (List.mem_of_getElem? (i := 1048) (by decide +kernel)) rfl
theorem km_L_117 : Cond.methodLink RL 117 yX7_tape ∈ gw := tb_in (List.mem_of_getElem? (i := 610) (by decide +kernel)) rfl
theorem km_L_121 : Cond.methodLink RL 121 yX8_tape ∈ gw := tb_in (List.mem_of_getElem? (i := 1052) (by decide +kernel)) rfl
theorem km_L_122 : Cond.methodLink RL 122 yX7_lose ∈ gw := tb_in (List.mem_of_getElem? (i := 629) (by decide +kernel)) rfl
theorem km_L_125 : Cond.methodLink RL 125 yX8_lose ∈ gw := tb_in (List.mem_of_getElem? (i := 1064) (by decide +kernel)) rfl
theorem km_L_126 : Cond.methodLink RL 126 yX7_put ∈ gw := tb_in (List.mem_of_getElem? (i := 641) (by decide +kernel)) rfl
theorem km_L_130 : Cond.methodLink RL 130 yX8_put ∈ gw := tb_in (List.mem_of_getElem? (i := 1068) (by decide +kernel)) rfl
theorem km_L_131 : Cond.methodLink RL 131 yX7_get ∈ gw := tb_in (List.mem_of_getElem? (i := 656) (by decide +kernel)) rfl
theorem km_L_134 : Cond.methodLink RL 134 yX8_get ∈ gw := tb_in (List.mem_of_getElem? (i := 1077) (by decide +kernel)) rfl
theorem km_L_135 : Cond.methodLink RL 135 yX7_copy ∈ gw := tb_in (List.mem_of_getElem? (i := 661) (by decide +kernel)) rfl
theorem km_L_138 : Cond.methodLink RL 138 yX8_copy ∈ gw := tb_in (List.mem_of_getElem? (i := 1082) (by decide +kernel)) rfl
theorem km_L_139 : Cond.methodLink RL 139 yX7_print ∈ gw := tb_in (List.mem_of_getElem? (i := 668) (by decide +kernel)) rfl
theorem km_L_142 : Cond.methodLink RL 142 yX8_print ∈ gw := tb_in (List.mem_of_getElem? (i := 1090) (by decide +kernel)) rfl
theorem km_L_143 : Cond.methodLink RL 143 yX7_find ∈ gw := tb_in (List.mem_of_getElem? (i := 676) (by decide +kernel)) rfl
theorem km_L_146 : Cond.methodLink RL 146 yX8_find ∈ gw := tb_in (List.mem_of_getElem? (i := 1094) (by decide +kernel)) rfl
theorem km_L_147 : Cond.methodLink RL 147 yX7_found ∈ gw := tb_in (List.mem_of_getElem? (i := 702) (by decide +kernel)) rfl
theorem km_L_150 : Cond.methodLink RL 150 yX8_found ∈ gw := tb_in (List.mem_of_getElem? (i := 1099) (by decide +kernel)) rfl
theorem km_L_151 : Cond.methodLink RL 151 yX7_twice ∈ gw := tb_in (List.mem_of_getElem? (i := 706) (by decide +kernel)) rfl
theorem km_L_154 : Cond.methodLink RL 154 yX8_twice ∈ gw := tb_in (List.mem_of_getElem? (i := 1103) (by decide +kernel)) rfl
theorem km_L_155 : Cond.methodLink RL 155 yX7_parts ∈ gw := tb_in (List.mem_of_getElem? (i := 723) (by decide +kernel)) rfl
theorem km_L_158 : Cond.methodLink RL 158 yX8_parts ∈ gw := tb_in (List.mem_of_getElem? (i := 1111) (by decide +kernel)) rfl
theorem km_L_159 : Cond.methodLink RL 159 yX7_part ∈ gw := tb_in (List.mem_of_getElem? (i := 731) (by decide +kernel)) rfl
theorem km_L_162 : Cond.methodLink RL 162 yX8_part ∈ gw := tb_in (List.mem_of_getElem? (i := 1115) (by decide +kernel)) rfl
theorem km_L_163 : Cond.methodLink RL 163 yX7_recurrence ∈ gw := tb_in (List.mem_of_getElem? (i := 735) (by decide +kernel)) rfl
theorem km_L_166 : Cond.methodLink RL 166 yX8_recurrence ∈ gw := tb_in (List.mem_of_getElem? (i := 1119) (by decide +kernel)) rfl
theorem km_L_167 : Cond.methodLink RL 167 yX7_coefficient ∈ gw := tb_in (List.mem_of_getElem? (i := 765) (by decide +kernel)) rfl
theorem km_L_170 : Cond.methodLink RL 170 yX8_coefficient ∈ gw := tb_in (List.mem_of_getElem? (i := 1135) (by decide +kernel)) rfl
theorem km_L_171 : Cond.methodLink RL 171 yX7_count ∈ gw := tb_in (List.mem_of_getElem? (i := 773) (by decide +kernel)) rfl
theorem km_L_174 : Cond.methodLink RL 174 yX8_count ∈ gw := tb_in (List.mem_of_getElem? (i := 1139) (by decide +kernel)) rfl
theorem km_L_175 : Cond.methodLink RL 175 yX7_digest ∈ gw := tb_in (List.mem_of_getElem? (i := 777) (by decide +kernel)) rfl
theorem km_L_179 : Cond.methodLink RL 179 yX8_digest ∈ gw := tb_in (List.mem_of_getElem? (i := 1143) (by decide +kernel)) rfl
theorem km_X8_1 : Cond.methodLink RX8 1 objectInit ∈ gw := tb_in (List.mem_of_getElem? (i := 789) (by decide +kernel)) rfl
theorem kf_X8_7 : Cond.fieldLink RX8 7 "WordWheelModel" "leasts" "[I" ∈ gw := tb_in (List.mem_of_getElem? (i := 816) (by decide +kernel)) rfl
theorem kf_X8_13 : Cond.fieldLink RX8 13 "WordWheelModel" "wanted" "[I" ∈ gw := tb_in (List.mem_of_getElem? (i := 817) (by decide +kernel)) rfl
theorem kf_X8_16 : Cond.fieldLink RX8 16 "WordWheelModel" "had" "[I" ∈ gw := tb_in (List.mem_of_getElem? (i := 818) (by decide +kernel)) rfl
theorem kf_X8_19 : Cond.fieldLink RX8 19 "WordWheelModel" "factors" "[I" ∈ gw := tb_in (List.mem_of_getElem? (i := 819) (by decide +kernel)) rfl
theorem kf_X8_22 : Cond.fieldLink RX8 22 "WordWheelModel" "to" "[I" ∈ gw := tb_in (List.mem_of_getElem? (i := 821) (by decide +kernel)) rfl
theorem kf_X8_25 : Cond.fieldLink RX8 25 "WordWheelModel" "one" "[I" ∈ gw := tb_in (List.mem_of_getElem? (i := 823) (by decide +kernel)) rfl
theorem kf_X8_28 : Cond.fieldLink RX8 28 "WordWheelModel" "other" "[I" ∈ gw := tb_in (List.mem_of_getElem? (i := 824) (by decide +kernel)) rfl
theorem kf_X8_31 : Cond.fieldLink RX8 31 "WordWheelModel" "seen" "[Z" ∈ gw := tb_in (List.mem_of_getElem? (i := 825) (by decide +kernel)) rfl
theorem kf_X8_35 : Cond.fieldLink RX8 35 "WordWheelModel" "number" "[I" ∈ gw := tb_in (List.mem_of_getElem? (i := 826) (by decide +kernel)) rfl
theorem kf_X8_38 : Cond.fieldLink RX8 38 "WordWheelModel" "group" "[I" ∈ gw := tb_in (List.mem_of_getElem? (i := 828) (by decide +kernel)) rfl
theorem kf_X8_41 : Cond.fieldLink RX8 41 "WordWheelModel" "round" "[I" ∈ gw := tb_in (List.mem_of_getElem? (i := 830) (by decide +kernel)) rfl
theorem kf_X8_44 : Cond.fieldLink RX8 44 "WordWheelModel" "placeOf" "[I" ∈ gw := tb_in (List.mem_of_getElem? (i := 831) (by decide +kernel)) rfl
theorem kf_X8_47 : Cond.fieldLink RX8 47 "WordWheelModel" "forms" "[I" ∈ gw := tb_in (List.mem_of_getElem? (i := 832) (by decide +kernel)) rfl
theorem kf_X8_50 : Cond.fieldLink RX8 50 "WordWheelModel" "sizes" "[I" ∈ gw := tb_in (List.mem_of_getElem? (i := 833) (by decide +kernel)) rfl
theorem kf_X8_53 : Cond.fieldLink RX8 53 "WordWheelModel" "items" "[I" ∈ gw := tb_in (List.mem_of_getElem? (i := 834) (by decide +kernel)) rfl
theorem kf_X8_56 : Cond.fieldLink RX8 56 "WordWheelModel" "moved" "[I" ∈ gw := tb_in (List.mem_of_getElem? (i := 835) (by decide +kernel)) rfl
theorem kf_X8_59 : Cond.fieldLink RX8 59 "WordWheelModel" "partAt" "[I" ∈ gw := tb_in (List.mem_of_getElem? (i := 839) (by decide +kernel)) rfl
theorem kf_X8_62 : Cond.fieldLink RX8 62 "WordWheelModel" "told" "[I" ∈ gw := tb_in (List.mem_of_getElem? (i := 841) (by decide +kernel)) rfl
theorem kf_X8_65 : Cond.fieldLink RX8 65 "WordWheelModel" "now" "[I" ∈ gw := tb_in (List.mem_of_getElem? (i := 842) (by decide +kernel)) rfl
theorem kf_X8_68 : Cond.fieldLink RX8 68 "WordWheelModel" "before" "[I" ∈ gw := tb_in (List.mem_of_getElem? (i := 843) (by decide +kernel)) rfl
theorem kf_X8_71 : Cond.fieldLink RX8 71 "WordWheelModel" "kept" "[I" ∈ gw := tb_in (List.mem_of_getElem? (i := 844) (by decide +kernel)) rfl
theorem kk_X8_74 : Cond.constant RX8 74 (40602) ∈ gw := tb_in (List.mem_of_getElem? (i := 790) (by decide +kernel)) rfl
theorem kf_X8_75 : Cond.fieldLink RX8 75 "WordWheelModel" "matrix" "[I" ∈ gw := tb_in (List.mem_of_getElem? (i := 845) (by decide +kernel)) rfl
theorem km_X8_78 : Cond.methodLink RX8 78 yX8_wheel ∈ gw := tb_in (List.mem_of_getElem? (i := 791) (by decide +kernel)) rfl
theorem kk_X8_82 : Cond.constantLong RX8 82 (2) ∈ gw := tb_in (List.mem_of_getElem? (i := 795) (by decide +kernel)) rfl
theorem kk_X8_84 : Cond.constantLong RX8 84 (5) ∈ gw := tb_in (List.mem_of_getElem? (i := 796) (by decide +kernel)) rfl
theorem km_X8_86 : Cond.methodLink RX8 86 yX8_in ∈ gw := tb_in (List.mem_of_getElem? (i := 797) (by decide +kernel)) rfl
theorem kk_X8_90 : Cond.constantLong RX8 90 (14) ∈ gw := tb_in (List.mem_of_getElem? (i := 800) (by decide +kernel)) rfl
theorem kf_X8_92 : Cond.fieldLink RX8 92 "WordWheelModel" "k" "I" ∈ gw := tb_in (List.mem_of_getElem? (i := 813) (by decide +kernel)) rfl
theorem kf_X8_96 : Cond.fieldLink RX8 96 "WordWheelModel" "n" "I" ∈ gw := tb_in (List.mem_of_getElem? (i := 814) (by decide +kernel)) rfl
theorem kf_X8_99 : Cond.fieldLink RX8 99 "WordWheelModel" "all" "I" ∈ gw := tb_in (List.mem_of_getElem? (i := 815) (by decide +kernel)) rfl
theorem km_X8_102 : Cond.methodLink RX8 102 yX8_leastOf ∈ gw := tb_in (List.mem_of_getElem? (i := 801) (by decide +kernel)) rfl
theorem kf_X8_106 : Cond.fieldLink RX8 106 "WordWheelModel" "sum" "I" ∈ gw := tb_in (List.mem_of_getElem? (i := 820) (by decide +kernel)) rfl
theorem km_X8_109 : Cond.methodLink RX8 109 yX8_lead ∈ gw := tb_in (List.mem_of_getElem? (i := 809) (by decide +kernel)) rfl
theorem kf_X8_112 : Cond.fieldLink RX8 112 "WordWheelModel" "which" "I" ∈ gw := tb_in (List.mem_of_getElem? (i := 829) (by decide +kernel)) rfl
theorem kf_X8_115 : Cond.fieldLink RX8 115 "WordWheelModel" "firstFound" "I" ∈ gw := tb_in (List.mem_of_getElem? (i := 837) (by decide +kernel)) rfl
theorem km_X8_118 : Cond.methodLink RX8 118 yX8_next ∈ gw := tb_in (List.mem_of_getElem? (i := 805) (by decide +kernel)) rfl
theorem km_X8_121 : Cond.methodLink RX8 121 yX8_isWord ∈ gw := tb_in (List.mem_of_getElem? (i := 919) (by decide +kernel)) rfl
theorem kk_X8_125 : Cond.constantLong RX8 125 (1000) ∈ gw := tb_in (List.mem_of_getElem? (i := 923) (by decide +kernel)) rfl
theorem km_X8_127 : Cond.methodLink RX8 127 yX8_sizeOf ∈ gw := tb_in (List.mem_of_getElem? (i := 936) (by decide +kernel)) rfl
theorem km_X8_130 : Cond.methodLink RX8 130 yX8_hasWanted ∈ gw := tb_in (List.mem_of_getElem? (i := 964) (by decide +kernel)) rfl
theorem kf_X8_133 : Cond.fieldLink RX8 133 "WordWheelModel" "exchanges" "I" ∈ gw := tb_in (List.mem_of_getElem? (i := 822) (by decide +kernel)) rfl
theorem km_X8_136 : Cond.methodLink RX8 136 yX8_isRight ∈ gw := tb_in (List.mem_of_getElem? (i := 984) (by decide +kernel)) rfl
theorem kf_X8_140 : Cond.fieldLink RX8 140 "WordWheelModel" "cycleMany" "I" ∈ gw := tb_in (List.mem_of_getElem? (i := 827) (by decide +kernel)) rfl
theorem km_X8_143 : Cond.methodLink RX8 143 yX8_swap ∈ gw := tb_in (List.mem_of_getElem? (i := 992) (by decide +kernel)) rfl
theorem km_X8_147 : Cond.methodLink RX8 147 yX8_findCycles ∈ gw := tb_in (List.mem_of_getElem? (i := 996) (by decide +kernel)) rfl
theorem km_X8_150 : Cond.methodLink RX8 150 yX8_groupOf ∈ gw := tb_in (List.mem_of_getElem? (i := 1024) (by decide +kernel)) rfl
theorem km_X8_153 : Cond.methodLink RX8 153 yX8_joins ∈ gw := tb_in (List.mem_of_getElem? (i := 1020) (by decide +kernel)) rfl
theorem km_X8_157 : Cond.methodLink RX8 157 yX8_leastRound ∈ gw := tb_in (List.mem_of_getElem? (i := 1032) (by decide +kernel)) rfl
theorem km_X8_160 : Cond.methodLink RX8 160 yX8_greedyRound ∈ gw := tb_in (List.mem_of_getElem? (i := 1036) (by decide +kernel)) rfl
theorem kf_X8_163 : Cond.fieldLink RX8 163 "WordWheelModel" "latest" "I" ∈ gw := tb_in (List.mem_of_getElem? (i := 836) (by decide +kernel)) rfl
theorem kk_X8_166 : Cond.constantLong RX8 166 (3) ∈ gw := tb_in (List.mem_of_getElem? (i := 1059) (by decide +kernel)) rfl
theorem km_X8_168 : Cond.methodLink RX8 168 yX8_isTape ∈ gw := tb_in (List.mem_of_getElem? (i := 1056) (by decide +kernel)) rfl
theorem km_X8_171 : Cond.methodLink RX8 171 yX8_met ∈ gw := tb_in (List.mem_of_getElem? (i := 1060) (by decide +kernel)) rfl
theorem km_X8_174 : Cond.methodLink RX8 174 yX8_lacks ∈ gw := tb_in (List.mem_of_getElem? (i := 1072) (by decide +kernel)) rfl
theorem kk_X8_178 : Cond.constant RX8 178 (65535) ∈ gw := tb_in (List.mem_of_getElem? (i := 1076) (by decide +kernel)) rfl
theorem kk_X8_179 : Cond.constant RX8 179 (-2147483648) ∈ gw := tb_in (List.mem_of_getElem? (i := 1081) (by decide +kernel)) rfl
theorem km_X8_180 : Cond.methodLink RX8 180 yX8_isWithin ∈ gw := tb_in (List.mem_of_getElem? (i := 1086) (by decide +kernel)) rfl
theorem kk_X8_184 : Cond.constantLong RX8 184 (40) ∈ gw := tb_in (List.mem_of_getElem? (i := 1098) (by decide +kernel)) rfl
theorem km_X8_186 : Cond.methodLink RX8 186 yX8_noLetters ∈ gw := tb_in (List.mem_of_getElem? (i := 1107) (by decide +kernel)) rfl
theorem kf_X8_189 : Cond.fieldLink RX8 189 "WordWheelModel" "partMany" "I" ∈ gw := tb_in (List.mem_of_getElem? (i := 838) (by decide +kernel)) rfl
theorem km_X8_192 : Cond.methodLink RX8 192 yX8_inverse ∈ gw := tb_in (List.mem_of_getElem? (i := 1127) (by decide +kernel)) rfl
theorem km_X8_195 : Cond.methodLink RX8 195 yX8_leastLength ∈ gw := tb_in (List.mem_of_getElem? (i := 1123) (by decide +kernel)) rfl
theorem kf_X8_198 : Cond.fieldLink RX8 198 "WordWheelModel" "length" "I" ∈ gw := tb_in (List.mem_of_getElem? (i := 840) (by decide +kernel)) rfl
theorem km_X8_201 : Cond.methodLink RX8 201 yX8_solve ∈ gw := tb_in (List.mem_of_getElem? (i := 1131) (by decide +kernel)) rfl
theorem kk_X8_204 : Cond.constantLong RX8 204 (17) ∈ gw := tb_in (List.mem_of_getElem? (i := 1147) (by decide +kernel)) rfl
theorem kk_X8_206 : Cond.constantLong RX8 206 (31) ∈ gw := tb_in (List.mem_of_getElem? (i := 1148) (by decide +kernel)) rfl
theorem km_X8_208 : Cond.methodLink RX8 208 yX8_count ∈ gw := tb_in (List.mem_of_getElem? (i := 1149) (by decide +kernel)) rfl
theorem kk_J13_314 : Cond.constantLong RJ13 314 (6148914691236517205) ∈ gw := tb_in (List.mem_of_getElem? (i := 699) (by decide +kernel)) rfl
theorem kk_J13_316 : Cond.constantLong RJ13 316 (3689348814741910323) ∈ gw := tb_in (List.mem_of_getElem? (i := 700) (by decide +kernel)) rfl
theorem kk_J13_318 : Cond.constantLong RJ13 318 (1085102592571150095) ∈ gw := tb_in (List.mem_of_getElem? (i := 701) (by decide +kernel)) rfl
theorem km_J7_13 : Cond.methodLink RJ7 13 yJ7_rangeCheck_23922 ∈ gw := tb_in (List.mem_of_getElem? (i := 369) (by decide +kernel)) rfl
end
section
/-! the methods: record, and the words that a call of it wants -/
abbrev mX0_init : my := (yX0_init, cX0_init, 1, none)
theorem kx_X0_init : Cond.code mX0_init.1 mX0_init.2.1 mX0_init.2.2.1 mX0_init.2.2.2 ∈ gw := tb_in (List.mem_of_getElem? (i := 214) (by decide +kernel)) rfl
theorem cw_X0_init {y : my} {index d2 : Nat} : Cw y mX0_init index 0 d2 := ⟨kx_X0_init, tb_in (List.mem_of_getElem? (i := 8) (by decide +kernel)) rfl, by decide +kernel, by decide⟩
theorem ki_X0_init : Cond.instanceMethod yX0_init ∈ gw := tb_in (List.mem_of_getElem? (i := 213) (by decide +kernel)) rfl
abbrev mX0_divide : my := (yX0_divide, cX0_divide, 9, (some .int))
theorem kx_X0_divide : Cond.code mX0_divide.1 mX0_divide.2.1 mX0_divide.2.2.1 mX0_divide.2.2.2 ∈ gw := tb_in (List.mem_of_getElem? (i := 730) (by decide +kernel)) rfl
theorem cw_X0_divide {y : my} {index d2 : Nat} : Cw y mX0_divide index 2 d2 := ⟨kx_X0_divide, tb_in (List.mem_of_getElem? (i := 8) (by decide +kernel)) rfl, by decide +kernel, by decide⟩
theorem ki_X0_divide : Cond.instanceMethod yX0_divide ∈ gw := tb_in (List.mem_of_getElem? (i := 729) (by decide +kernel)) rfl
theorem ks_X0_divide : Cond.selects RX0 yX0_divide yX0_divide ∈ gw := tb_sel (List.mem_of_getElem? (i := 67) (by decide +kernel)) rfl
abbrev mX1_init : my := (yX1_init, cX1_init, 1, none)
theorem kx_X1_init : Cond.code mX1_init.1 mX1_init.2.1 mX1_init.2.2.1 mX1_init.2.2.2 ∈ gw := tb_in (List.mem_of_getElem? (i := 229) (by decide +kernel)) rfl
theorem cw_X1_init {y : my} {index d2 : Nat} : Cw y mX1_init index 0 d2 := ⟨kx_X1_init, tb_in (List.mem_of_getElem? (i := 9) (by decide +kernel)) rfl, by decide +kernel, by decide⟩
theorem ki_X1_init : Cond.instanceMethod yX1_init ∈ gw := tb_in (List.mem_of_getElem? (i := 228) (by decide +kernel)) rfl
abbrev mX1_coefficientAt : my := (yX1_coefficientAt, cX1_coefficientAt, 2, (some .int))
theorem kx_X1_coefficientAt : Cond.code mX1_coefficientAt.1 mX1_coefficientAt.2.1 mX1_coefficientAt.2.2.1 mX1_coefficientAt.2.2.2 ∈ gw := tb_in (List.mem_of_getElem? (i := 772) (by decide +kernel)) rfl
theorem cw_X1_coefficientAt {y : my} {index d2 : Nat} : Cw y mX1_coefficientAt index 1 d2 := ⟨kx_X1_coefficientAt, tb_in (List.mem_of_getElem? (i := 9) (by decide +kernel)) rfl, by decide +kernel, by decide⟩
theorem ki_X1_coefficientAt : Cond.instanceMethod yX1_coefficientAt ∈ gw := tb_in (List.mem_of_getElem? (i := 771) (by decide +kernel)) rfl
theorem ks_X1_coefficientAt : Cond.selects RX1 yX1_coefficientAt yX1_coefficientAt ∈ gw := tb_sel (List.mem_of_getElem? (i := 74) (by decide +kernel)) rfl
abbrev mX1_learn : my := (yX1_learn, cX1_learn, 9, (some .int))
theorem kx_X1_learn : Cond.code mX1_learn.1 mX1_learn.2.1 mX1_learn.2.2.1 mX1_learn.2.2.2 ∈ gw := tb_in (List.mem_of_getElem? (i := 742) (by decide +kernel)) rfl
theorem cw_X1_learn {y : my} {index d2 : Nat} : Cw y mX1_learn index 3 d2 := ⟨kx_X1_learn, tb_in (List.mem_of_getElem? (i := 9) (by decide +kernel)) rfl, by decide +kernel, by decide⟩
theorem ki_X1_learn : Cond.instanceMethod yX1_learn ∈ gw := tb_in (List.mem_of_getElem? (i := 741) (by decide +kernel)) rfl
theorem ks_X1_learn : Cond.selects RX1 yX1_learn yX1_learn ∈ gw := tb_sel (List.mem_of_getElem? (i := 68) (by decide +kernel)) rfl
abbrev mX1_gapAt : my := (yX1_gapAt, cX1_gapAt, 5, (some .int))
theorem kx_X1_gapAt : Cond.code mX1_gapAt.1 mX1_gapAt.2.1 mX1_gapAt.2.2.1 mX1_gapAt.2.2.2 ∈ gw := tb_in (List.mem_of_getElem? (i := 747) (by decide +kernel)) rfl
theorem cw_X1_gapAt {y : my} {index d2 : Nat} : Cw y mX1_gapAt index 2 d2 := ⟨kx_X1_gapAt, tb_in (List.mem_of_getElem? (i := 9) (by decide +kernel)) rfl, by decide +kernel, by decide⟩
theorem ki_X1_gapAt : Cond.instanceMethod yX1_gapAt ∈ gw := tb_in (List.mem_of_getElem? (i := 746) (by decide +kernel)) rfl
theorem ks_X1_gapAt : Cond.selects RX1 yX1_gapAt yX1_gapAt ∈ gw := tb_sel (List.mem_of_getElem? (i := 69) (by decide +kernel)) rfl
abbrev mX1_inverse : my := (yX1_inverse, cX1_inverse, 3, (some .int))
theorem kx_X1_inverse : Cond.code mX1_inverse.1 mX1_inverse.2.1 mX1_inverse.2.2.1 mX1_inverse.2.2.2 ∈ gw := tb_in (List.mem_of_getElem? (i := 751) (by decide +kernel)) rfl
theorem cw_X1_inverse {y : my} {index d2 : Nat} : Cw y mX1_inverse index 1 d2 := ⟨kx_X1_inverse, tb_in (List.mem_of_getElem? (i := 9) (by decide +kernel)) rfl, by decide +kernel, by decide⟩
theorem ki_X1_inverse : Cond.instanceMethod yX1_inverse ∈ gw := tb_in (List.mem_of_getElem? (i := 750) (by decide +kernel)) rfl
theorem ks_X1_inverse : Cond.selects RX1 yX1_inverse yX1_inverse ∈ gw := tb_sel (List.mem_of_getElem? (i := 70) (by decide +kernel)) rfl
abbrev mX1_lengthen : my := (yX1_lengthen, cX1_lengthen, 4, none)
theorem kx_X1_lengthen : Cond.code mX1_lengthen.1 mX1_lengthen.2.1 mX1_lengthen.2.2.1 mX1_lengthen.2.2.2 ∈ gw := tb_in (List.mem_of_getElem? (i := 755) (by decide +kernel)) rfl
theorem cw_X1_lengthen {y : my} {index d2 : Nat} : Cw y mX1_lengthen index 3 d2 := ⟨kx_X1_lengthen, tb_in (List.mem_of_getElem? (i := 9) (by decide +kernel)) rfl, by decide +kernel, by decide⟩
theorem ki_X1_lengthen : Cond.instanceMethod yX1_lengthen ∈ gw := tb_in (List.mem_of_getElem? (i := 754) (by decide +kernel)) rfl
theorem ks_X1_lengthen : Cond.selects RX1 yX1_lengthen yX1_lengthen ∈ gw := tb_sel (List.mem_of_getElem? (i := 71) (by decide +kernel)) rfl
abbrev mX1_subtractEarlier : my := (yX1_subtractEarlier, cX1_subtractEarlier, 4, none)
theorem kx_X1_subtractEarlier : Cond.code mX1_subtractEarlier.1 mX1_subtractEarlier.2.1 mX1_subtractEarlier.2.2.1 mX1_subtractEarlier.2.2.2 ∈ gw := tb_in (List.mem_of_getElem? (i := 760) (by decide +kernel)) rfl
theorem cw_X1_subtractEarlier {y : my} {index d2 : Nat} : Cw y mX1_subtractEarlier index 2 d2 := ⟨kx_X1_subtractEarlier, tb_in (List.mem_of_getElem? (i := 9) (by decide +kernel)) rfl, by decide +kernel, by decide⟩
theorem ki_X1_subtractEarlier : Cond.instanceMethod yX1_subtractEarlier ∈ gw := tb_in (List.mem_of_getElem? (i := 759) (by decide +kernel)) rfl
theorem ks_X1_subtractEarlier : Cond.selects RX1 yX1_subtractEarlier yX1_subtractEarlier ∈ gw := tb_sel (List.mem_of_getElem? (i := 72) (by decide +kernel)) rfl
abbrev mX1_lowerNumbers : my := (yX1_lowerNumbers, cX1_lowerNumbers, 4, none)
theorem kx_X1_lowerNumbers : Cond.code mX1_lowerNumbers.1 mX1_lowerNumbers.2.1 mX1_lowerNumbers.2.2.1 mX1_lowerNumbers.2.2.2 ∈ gw := tb_in (List.mem_of_getElem? (i := 764) (by decide +kernel)) rfl
theorem cw_X1_lowerNumbers {y : my} {index d2 : Nat} : Cw y mX1_lowerNumbers index 2 d2 := ⟨kx_X1_lowerNumbers, tb_in (List.mem_of_getElem? (i := 9) (by decide +kernel)) rfl, by decide +kernel, by decide⟩
theorem ki_X1_lowerNumbers : Cond.instanceMethod yX1_lowerNumbers ∈ gw := tb_in (List.mem_of_getElem? (i := 763) (by decide +kernel)) rfl
theorem ks_X1_lowerNumbers : Cond.selects RX1 yX1_lowerNumbers yX1_lowerNumbers ∈ gw := tb_sel (List.mem_of_getElem? (i := 73) (by decide +kernel)) rfl
abbrev mX2_init : my := (yX2_init, cX2_init, 2, none)
theorem kx_X2_init : Cond.code mX2_init.1 mX2_init.2.1 mX2_init.2.2.1 mX2_init.2.2.2 ∈ gw := tb_in (List.mem_of_getElem? (i := 90) (by decide +kernel)) rfl
theorem cw_X2_init {y : my} {index d2 : Nat} : Cw y mX2_init index 1 d2 := ⟨kx_X2_init, tb_in (List.mem_of_getElem? (i := 4) (by decide +kernel)) rfl, by decide +kernel, by decide⟩
theorem ki_X2_init : Cond.instanceMethod yX2_init ∈ gw := tb_in (List.mem_of_getElem? (i := 89) (by decide +kernel)) rfl
abbrev mX2_becomeTurning : my := (yX2_becomeTurning, cX2_becomeTurning, 1, none)
theorem kx_X2_becomeTurning : Cond.code mX2_becomeTurning.1 mX2_becomeTurning.2.1 mX2_becomeTurning.2.2.1 mX2_becomeTurning.2.2.2 ∈ gw := tb_in (List.mem_of_getElem? (i := 95) (by decide +kernel)) rfl
theorem cw_X2_becomeTurning {y : my} {index d2 : Nat} : Cw y mX2_becomeTurning index 0 d2 := ⟨kx_X2_becomeTurning, tb_in (List.mem_of_getElem? (i := 4) (by decide +kernel)) rfl, by decide +kernel, by decide⟩
theorem ki_X2_becomeTurning : Cond.instanceMethod yX2_becomeTurning ∈ gw := tb_in (List.mem_of_getElem? (i := 94) (by decide +kernel)) rfl
theorem ks_X2_becomeTurning : Cond.selects RX2 yX2_becomeTurning yX2_becomeTurning ∈ gw := tb_sel (List.mem_of_getElem? (i := 1) (by decide +kernel)) rfl
abbrev mX2_changeFactor : my := (yX2_changeFactor, cX2_changeFactor, 4, (some .int))
theorem kx_X2_changeFactor : Cond.code mX2_changeFactor.1 mX2_changeFactor.2.1 mX2_changeFactor.2.2.1 mX2_changeFactor.2.2.2 ∈ gw := tb_in (List.mem_of_getElem? (i := 431) (by decide +kernel)) rfl
theorem cw_X2_changeFactor {y : my} {index d2 : Nat} : Cw y mX2_changeFactor index 2 d2 := ⟨kx_X2_changeFactor, tb_in (List.mem_of_getElem? (i := 4) (by decide +kernel)) rfl, by decide +kernel, by decide⟩
theorem ki_X2_changeFactor : Cond.instanceMethod yX2_changeFactor ∈ gw := tb_in (List.mem_of_getElem? (i := 430) (by decide +kernel)) rfl
theorem ks_X2_changeFactor : Cond.selects RX2 yX2_changeFactor yX2_changeFactor ∈ gw := tb_sel (List.mem_of_getElem? (i := 24) (by decide +kernel)) rfl
abbrev mX2_changeSum : my := (yX2_changeSum, cX2_changeSum, 3, (some .int))
theorem kx_X2_changeSum : Cond.code mX2_changeSum.1 mX2_changeSum.2.1 mX2_changeSum.2.2.1 mX2_changeSum.2.2.2 ∈ gw := tb_in (List.mem_of_getElem? (i := 439) (by decide +kernel)) rfl
theorem cw_X2_changeSum {y : my} {index d2 : Nat} : Cw y mX2_changeSum index 1 d2 := ⟨kx_X2_changeSum, tb_in (List.mem_of_getElem? (i := 4) (by decide +kernel)) rfl, by decide +kernel, by decide⟩
theorem ki_X2_changeSum : Cond.instanceMethod yX2_changeSum ∈ gw := tb_in (List.mem_of_getElem? (i := 438) (by decide +kernel)) rfl
theorem ks_X2_changeSum : Cond.selects RX2 yX2_changeSum yX2_changeSum ∈ gw := tb_sel (List.mem_of_getElem? (i := 25) (by decide +kernel)) rfl
abbrev mX2_forgetExchanges : my := (yX2_forgetExchanges, cX2_forgetExchanges, 1, none)
theorem kx_X2_forgetExchanges : Cond.code mX2_forgetExchanges.1 mX2_forgetExchanges.2.1 mX2_forgetExchanges.2.2.1 mX2_forgetExchanges.2.2.2 ∈ gw := tb_in (List.mem_of_getElem? (i := 102) (by decide +kernel)) rfl
theorem cw_X2_forgetExchanges {y : my} {index d2 : Nat} : Cw y mX2_forgetExchanges index 0 d2 := ⟨kx_X2_forgetExchanges, tb_in (List.mem_of_getElem? (i := 4) (by decide +kernel)) rfl, by decide +kernel, by decide⟩
theorem ki_X2_forgetExchanges : Cond.instanceMethod yX2_forgetExchanges ∈ gw := tb_in (List.mem_of_getElem? (i := 101) (by decide +kernel)) rfl
theorem ks_X2_forgetExchanges : Cond.selects RX2 yX2_forgetExchanges yX2_forgetExchanges ∈ gw := tb_sel (List.mem_of_getElem? (i := 2) (by decide +kernel)) rfl
abbrev mX2_isRight : my := (yX2_isRight, cX2_isRight, 2, (some .boolean))
theorem kx_X2_isRight : Cond.code mX2_isRight.1 mX2_isRight.2.1 mX2_isRight.2.2.1 mX2_isRight.2.2.2 ∈ gw := tb_in (List.mem_of_getElem? (i := 463) (by decide +kernel)) rfl
theorem cw_X2_isRight {y : my} {index d2 : Nat} : Cw y mX2_isRight index 0 d2 := ⟨kx_X2_isRight, tb_in (List.mem_of_getElem? (i := 4) (by decide +kernel)) rfl, by decide +kernel, by decide⟩
theorem ki_X2_isRight : Cond.instanceMethod yX2_isRight ∈ gw := tb_in (List.mem_of_getElem? (i := 462) (by decide +kernel)) rfl
theorem ks_X2_isRight : Cond.selects RX2 yX2_isRight yX2_isRight ∈ gw := tb_sel (List.mem_of_getElem? (i := 29) (by decide +kernel)) rfl
abbrev mX2_isFull : my := (yX2_isFull, cX2_isFull, 1, (some .boolean))
theorem kx_X2_isFull : Cond.code mX2_isFull.1 mX2_isFull.2.1 mX2_isFull.2.2.1 mX2_isFull.2.2.2 ∈ gw := tb_in (List.mem_of_getElem? (i := 475) (by decide +kernel)) rfl
theorem cw_X2_isFull {y : my} {index d2 : Nat} : Cw y mX2_isFull index 0 d2 := ⟨kx_X2_isFull, tb_in (List.mem_of_getElem? (i := 4) (by decide +kernel)) rfl, by decide +kernel, by decide⟩
theorem ki_X2_isFull : Cond.instanceMethod yX2_isFull ∈ gw := tb_in (List.mem_of_getElem? (i := 474) (by decide +kernel)) rfl
theorem ks_X2_isFull : Cond.selects RX2 yX2_isFull yX2_isFull ∈ gw := tb_sel (List.mem_of_getElem? (i := 31) (by decide +kernel)) rfl
abbrev mX2_leadOf : my := (yX2_leadOf, cX2_leadOf, 2, (some .int))
theorem kx_X2_leadOf : Cond.code mX2_leadOf.1 mX2_leadOf.2.1 mX2_leadOf.2.2.1 mX2_leadOf.2.2.2 ∈ gw := tb_in (List.mem_of_getElem? (i := 447) (by decide +kernel)) rfl
theorem cw_X2_leadOf {y : my} {index d2 : Nat} : Cw y mX2_leadOf index 1 d2 := ⟨kx_X2_leadOf, tb_in (List.mem_of_getElem? (i := 4) (by decide +kernel)) rfl, by decide +kernel, by decide⟩
theorem ki_X2_leadOf : Cond.instanceMethod yX2_leadOf ∈ gw := tb_in (List.mem_of_getElem? (i := 446) (by decide +kernel)) rfl
theorem ks_X2_leadOf : Cond.selects RX2 yX2_leadOf yX2_leadOf ∈ gw := tb_sel (List.mem_of_getElem? (i := 26) (by decide +kernel)) rfl
abbrev mX2_leads : my := (yX2_leads, cX2_leads, 2, (some (.array .int)))
theorem kx_X2_leads : Cond.code mX2_leads.1 mX2_leads.2.1 mX2_leads.2.2.1 mX2_leads.2.2.2 ∈ gw := tb_in (List.mem_of_getElem? (i := 451) (by decide +kernel)) rfl
theorem cw_X2_leads {y : my} {index d2 : Nat} : Cw y mX2_leads index 0 d2 := ⟨kx_X2_leads, tb_in (List.mem_of_getElem? (i := 4) (by decide +kernel)) rfl, by decide +kernel, by decide⟩
theorem ki_X2_leads : Cond.instanceMethod yX2_leads ∈ gw := tb_in (List.mem_of_getElem? (i := 450) (by decide +kernel)) rfl
theorem ks_X2_leads : Cond.selects RX2 yX2_leads yX2_leads ∈ gw := tb_sel (List.mem_of_getElem? (i := 27) (by decide +kernel)) rfl
abbrev mX2_fillComing : my := (yX2_fillComing, cX2_fillComing, 6, none)
theorem kx_X2_fillComing : Cond.code mX2_fillComing.1 mX2_fillComing.2.1 mX2_fillComing.2.2.1 mX2_fillComing.2.2.2 ∈ gw := tb_in (List.mem_of_getElem? (i := 455) (by decide +kernel)) rfl
theorem cw_X2_fillComing {y : my} {index d2 : Nat} : Cw y mX2_fillComing index 0 d2 := ⟨kx_X2_fillComing, tb_in (List.mem_of_getElem? (i := 4) (by decide +kernel)) rfl, by decide +kernel, by decide⟩
theorem ki_X2_fillComing : Cond.instanceMethod yX2_fillComing ∈ gw := tb_in (List.mem_of_getElem? (i := 454) (by decide +kernel)) rfl
theorem ks_X2_fillComing : Cond.selects RX2 yX2_fillComing yX2_fillComing ∈ gw := tb_sel (List.mem_of_getElem? (i := 28) (by decide +kernel)) rfl
abbrev mX2_numberCycles : my := (yX2_numberCycles, cX2_numberCycles, 2, none)
theorem kx_X2_numberCycles : Cond.code mX2_numberCycles.1 mX2_numberCycles.2.1 mX2_numberCycles.2.2.1 mX2_numberCycles.2.2.2 ∈ gw := tb_in (List.mem_of_getElem? (i := 491) (by decide +kernel)) rfl
theorem cw_X2_numberCycles {y : my} {index d2 : Nat} : Cw y mX2_numberCycles index 0 d2 := ⟨kx_X2_numberCycles, tb_in (List.mem_of_getElem? (i := 4) (by decide +kernel)) rfl, by decide +kernel, by decide⟩
theorem ki_X2_numberCycles : Cond.instanceMethod yX2_numberCycles ∈ gw := tb_in (List.mem_of_getElem? (i := 490) (by decide +kernel)) rfl
theorem ks_X2_numberCycles : Cond.selects RX2 yX2_numberCycles yX2_numberCycles ∈ gw := tb_sel (List.mem_of_getElem? (i := 35) (by decide +kernel)) rfl
abbrev mX2_markCycle : my := (yX2_markCycle, cX2_markCycle, 5, none)
theorem kx_X2_markCycle : Cond.code mX2_markCycle.1 mX2_markCycle.2.1 mX2_markCycle.2.2.1 mX2_markCycle.2.2.2 ∈ gw := tb_in (List.mem_of_getElem? (i := 496) (by decide +kernel)) rfl
theorem cw_X2_markCycle {y : my} {index d2 : Nat} : Cw y mX2_markCycle index 2 d2 := ⟨kx_X2_markCycle, tb_in (List.mem_of_getElem? (i := 4) (by decide +kernel)) rfl, by decide +kernel, by decide⟩
theorem ki_X2_markCycle : Cond.instanceMethod yX2_markCycle ∈ gw := tb_in (List.mem_of_getElem? (i := 495) (by decide +kernel)) rfl
theorem ks_X2_markCycle : Cond.selects RX2 yX2_markCycle yX2_markCycle ∈ gw := tb_sel (List.mem_of_getElem? (i := 36) (by decide +kernel)) rfl
abbrev mX2_howManyCycles : my := (yX2_howManyCycles, cX2_howManyCycles, 1, (some .int))
theorem kx_X2_howManyCycles : Cond.code mX2_howManyCycles.1 mX2_howManyCycles.2.1 mX2_howManyCycles.2.2.1 mX2_howManyCycles.2.2.2 ∈ gw := tb_in (List.mem_of_getElem? (i := 487) (by decide +kernel)) rfl
theorem cw_X2_howManyCycles {y : my} {index d2 : Nat} : Cw y mX2_howManyCycles index 0 d2 := ⟨kx_X2_howManyCycles, tb_in (List.mem_of_getElem? (i := 4) (by decide +kernel)) rfl, by decide +kernel, by decide⟩
theorem ki_X2_howManyCycles : Cond.instanceMethod yX2_howManyCycles ∈ gw := tb_in (List.mem_of_getElem? (i := 486) (by decide +kernel)) rfl
theorem ks_X2_howManyCycles : Cond.selects RX2 yX2_howManyCycles yX2_howManyCycles ∈ gw := tb_sel (List.mem_of_getElem? (i := 34) (by decide +kernel)) rfl
abbrev mX2_numberOfCycle : my := (yX2_numberOfCycle, cX2_numberOfCycle, 2, (some .int))
theorem kx_X2_numberOfCycle : Cond.code mX2_numberOfCycle.1 mX2_numberOfCycle.2.1 mX2_numberOfCycle.2.2.1 mX2_numberOfCycle.2.2.2 ∈ gw := tb_in (List.mem_of_getElem? (i := 529) (by decide +kernel)) rfl
theorem cw_X2_numberOfCycle {y : my} {index d2 : Nat} : Cw y mX2_numberOfCycle index 1 d2 := ⟨kx_X2_numberOfCycle, tb_in (List.mem_of_getElem? (i := 4) (by decide +kernel)) rfl, by decide +kernel, by decide⟩
theorem ki_X2_numberOfCycle : Cond.instanceMethod yX2_numberOfCycle ∈ gw := tb_in (List.mem_of_getElem? (i := 528) (by decide +kernel)) rfl
theorem ks_X2_numberOfCycle : Cond.selects RX2 yX2_numberOfCycle yX2_numberOfCycle ∈ gw := tb_sel (List.mem_of_getElem? (i := 41) (by decide +kernel)) rfl
abbrev mX2_leastOfCycle : my := (yX2_leastOfCycle, cX2_leastOfCycle, 2, (some .int))
theorem kx_X2_leastOfCycle : Cond.code mX2_leastOfCycle.1 mX2_leastOfCycle.2.1 mX2_leastOfCycle.2.2.1 mX2_leastOfCycle.2.2.2 ∈ gw := tb_in (List.mem_of_getElem? (i := 537) (by decide +kernel)) rfl
theorem cw_X2_leastOfCycle {y : my} {index d2 : Nat} : Cw y mX2_leastOfCycle index 1 d2 := ⟨kx_X2_leastOfCycle, tb_in (List.mem_of_getElem? (i := 4) (by decide +kernel)) rfl, by decide +kernel, by decide⟩
theorem ki_X2_leastOfCycle : Cond.instanceMethod yX2_leastOfCycle ∈ gw := tb_in (List.mem_of_getElem? (i := 536) (by decide +kernel)) rfl
theorem ks_X2_leastOfCycle : Cond.selects RX2 yX2_leastOfCycle yX2_leastOfCycle ∈ gw := tb_sel (List.mem_of_getElem? (i := 42) (by decide +kernel)) rfl
abbrev mX2_wordsOfCycle : my := (yX2_wordsOfCycle, cX2_wordsOfCycle, 5, (some .int))
theorem kx_X2_wordsOfCycle : Cond.code mX2_wordsOfCycle.1 mX2_wordsOfCycle.2.1 mX2_wordsOfCycle.2.2.1 mX2_wordsOfCycle.2.2.2 ∈ gw := tb_in (List.mem_of_getElem? (i := 541) (by decide +kernel)) rfl
theorem cw_X2_wordsOfCycle {y : my} {index d2 : Nat} : Cw y mX2_wordsOfCycle index 1 d2 := ⟨kx_X2_wordsOfCycle, tb_in (List.mem_of_getElem? (i := 4) (by decide +kernel)) rfl, by decide +kernel, by decide⟩
theorem ki_X2_wordsOfCycle : Cond.instanceMethod yX2_wordsOfCycle ∈ gw := tb_in (List.mem_of_getElem? (i := 540) (by decide +kernel)) rfl
theorem ks_X2_wordsOfCycle : Cond.selects RX2 yX2_wordsOfCycle yX2_wordsOfCycle ∈ gw := tb_sel (List.mem_of_getElem? (i := 43) (by decide +kernel)) rfl
abbrev mX2_makeExchange : my := (yX2_makeExchange, cX2_makeExchange, 3, (some .int))
theorem kx_X2_makeExchange : Cond.code mX2_makeExchange.1 mX2_makeExchange.2.1 mX2_makeExchange.2.2.1 mX2_makeExchange.2.2.2 ∈ gw := tb_in (List.mem_of_getElem? (i := 479) (by decide +kernel)) rfl
theorem cw_X2_makeExchange {y : my} {index d2 : Nat} : Cw y mX2_makeExchange index 2 d2 := ⟨kx_X2_makeExchange, tb_in (List.mem_of_getElem? (i := 4) (by decide +kernel)) rfl, by decide +kernel, by decide⟩
theorem ki_X2_makeExchange : Cond.instanceMethod yX2_makeExchange ∈ gw := tb_in (List.mem_of_getElem? (i := 478) (by decide +kernel)) rfl
theorem ks_X2_makeExchange : Cond.selects RX2 yX2_makeExchange yX2_makeExchange ∈ gw := tb_sel (List.mem_of_getElem? (i := 32) (by decide +kernel)) rfl
abbrev mX2_takeBack : my := (yX2_takeBack, cX2_takeBack, 1, (some .int))
theorem kx_X2_takeBack : Cond.code mX2_takeBack.1 mX2_takeBack.2.1 mX2_takeBack.2.2.1 mX2_takeBack.2.2.2 ∈ gw := tb_in (List.mem_of_getElem? (i := 516) (by decide +kernel)) rfl
theorem cw_X2_takeBack {y : my} {index d2 : Nat} : Cw y mX2_takeBack index 0 d2 := ⟨kx_X2_takeBack, tb_in (List.mem_of_getElem? (i := 4) (by decide +kernel)) rfl, by decide +kernel, by decide⟩
theorem ki_X2_takeBack : Cond.instanceMethod yX2_takeBack ∈ gw := tb_in (List.mem_of_getElem? (i := 515) (by decide +kernel)) rfl
theorem ks_X2_takeBack : Cond.selects RX2 yX2_takeBack yX2_takeBack ∈ gw := tb_sel (List.mem_of_getElem? (i := 40) (by decide +kernel)) rfl
abbrev mX2_noteExchange : my := (yX2_noteExchange, cX2_noteExchange, 3, none)
theorem kx_X2_noteExchange : Cond.code mX2_noteExchange.1 mX2_noteExchange.2.1 mX2_noteExchange.2.2.1 mX2_noteExchange.2.2.2 ∈ gw := tb_in (List.mem_of_getElem? (i := 508) (by decide +kernel)) rfl
theorem cw_X2_noteExchange {y : my} {index d2 : Nat} : Cw y mX2_noteExchange index 2 d2 := ⟨kx_X2_noteExchange, tb_in (List.mem_of_getElem? (i := 4) (by decide +kernel)) rfl, by decide +kernel, by decide⟩
theorem ki_X2_noteExchange : Cond.instanceMethod yX2_noteExchange ∈ gw := tb_in (List.mem_of_getElem? (i := 507) (by decide +kernel)) rfl
theorem ks_X2_noteExchange : Cond.selects RX2 yX2_noteExchange yX2_noteExchange ∈ gw := tb_sel (List.mem_of_getElem? (i := 39) (by decide +kernel)) rfl
abbrev mX2_swapLeads : my := (yX2_swapLeads, cX2_swapLeads, 4, none)
theorem kx_X2_swapLeads : Cond.code mX2_swapLeads.1 mX2_swapLeads.2.1 mX2_swapLeads.2.2.1 mX2_swapLeads.2.2.2 ∈ gw := tb_in (List.mem_of_getElem? (i := 504) (by decide +kernel)) rfl
theorem cw_X2_swapLeads {y : my} {index d2 : Nat} : Cw y mX2_swapLeads index 2 d2 := ⟨kx_X2_swapLeads, tb_in (List.mem_of_getElem? (i := 4) (by decide +kernel)) rfl, by decide +kernel, by decide⟩
theorem ki_X2_swapLeads : Cond.instanceMethod yX2_swapLeads ∈ gw := tb_in (List.mem_of_getElem? (i := 503) (by decide +kernel)) rfl
theorem ks_X2_swapLeads : Cond.selects RX2 yX2_swapLeads yX2_swapLeads ∈ gw := tb_sel (List.mem_of_getElem? (i := 38) (by decide +kernel)) rfl
abbrev mX2_countBehindExchange : my := (yX2_countBehindExchange, cX2_countBehindExchange, 4, (some .int))
theorem kx_X2_countBehindExchange : Cond.code mX2_countBehindExchange.1 mX2_countBehindExchange.2.1 mX2_countBehindExchange.2.2.1 mX2_countBehindExchange.2.2.2 ∈ gw := tb_in (List.mem_of_getElem? (i := 483) (by decide +kernel)) rfl
theorem cw_X2_countBehindExchange {y : my} {index d2 : Nat} : Cw y mX2_countBehindExchange index 2 d2 := ⟨kx_X2_countBehindExchange, tb_in (List.mem_of_getElem? (i := 4) (by decide +kernel)) rfl, by decide +kernel, by decide⟩
theorem ki_X2_countBehindExchange : Cond.instanceMethod yX2_countBehindExchange ∈ gw := tb_in (List.mem_of_getElem? (i := 482) (by decide +kernel)) rfl
theorem ks_X2_countBehindExchange : Cond.selects RX2 yX2_countBehindExchange yX2_countBehindExchange ∈ gw := tb_sel (List.mem_of_getElem? (i := 33) (by decide +kernel)) rfl
abbrev mX2_inOneCycle : my := (yX2_inOneCycle, cX2_inOneCycle, 5, (some .boolean))
theorem kx_X2_inOneCycle : Cond.code mX2_inOneCycle.1 mX2_inOneCycle.2.1 mX2_inOneCycle.2.2.1 mX2_inOneCycle.2.2.2 ∈ gw := tb_in (List.mem_of_getElem? (i := 500) (by decide +kernel)) rfl
theorem cw_X2_inOneCycle {y : my} {index d2 : Nat} : Cw y mX2_inOneCycle index 2 d2 := ⟨kx_X2_inOneCycle, tb_in (List.mem_of_getElem? (i := 4) (by decide +kernel)) rfl, by decide +kernel, by decide⟩
theorem ki_X2_inOneCycle : Cond.instanceMethod yX2_inOneCycle ∈ gw := tb_in (List.mem_of_getElem? (i := 499) (by decide +kernel)) rfl
theorem ks_X2_inOneCycle : Cond.selects RX2 yX2_inOneCycle yX2_inOneCycle ∈ gw := tb_sel (List.mem_of_getElem? (i := 37) (by decide +kernel)) rfl
abbrev mX2_joinCycles : my := (yX2_joinCycles, cX2_joinCycles, 4, (some .int))
theorem kx_X2_joinCycles : Cond.code mX2_joinCycles.1 mX2_joinCycles.2.1 mX2_joinCycles.2.2.1 mX2_joinCycles.2.2.2 ∈ gw := tb_in (List.mem_of_getElem? (i := 549) (by decide +kernel)) rfl
theorem cw_X2_joinCycles {y : my} {index d2 : Nat} : Cw y mX2_joinCycles index 0 d2 := ⟨kx_X2_joinCycles, tb_in (List.mem_of_getElem? (i := 4) (by decide +kernel)) rfl, by decide +kernel, by decide⟩
theorem ki_X2_joinCycles : Cond.instanceMethod yX2_joinCycles ∈ gw := tb_in (List.mem_of_getElem? (i := 548) (by decide +kernel)) rfl
theorem ks_X2_joinCycles : Cond.selects RX2 yX2_joinCycles yX2_joinCycles ∈ gw := tb_sel (List.mem_of_getElem? (i := 44) (by decide +kernel)) rfl
abbrev mX2_joinAt : my := (yX2_joinAt, cX2_joinAt, 6, (some .boolean))
theorem kx_X2_joinAt : Cond.code mX2_joinAt.1 mX2_joinAt.2.1 mX2_joinAt.2.2.1 mX2_joinAt.2.2.2 ∈ gw := tb_in (List.mem_of_getElem? (i := 553) (by decide +kernel)) rfl
theorem cw_X2_joinAt {y : my} {index d2 : Nat} : Cw y mX2_joinAt index 2 d2 := ⟨kx_X2_joinAt, tb_in (List.mem_of_getElem? (i := 4) (by decide +kernel)) rfl, by decide +kernel, by decide⟩
theorem ki_X2_joinAt : Cond.instanceMethod yX2_joinAt ∈ gw := tb_in (List.mem_of_getElem? (i := 552) (by decide +kernel)) rfl
theorem ks_X2_joinAt : Cond.selects RX2 yX2_joinAt yX2_joinAt ∈ gw := tb_sel (List.mem_of_getElem? (i := 45) (by decide +kernel)) rfl
abbrev mX3_init : my := (yX3_init, cX3_init, 2, none)
theorem kx_X3_init : Cond.code mX3_init.1 mX3_init.2.1 mX3_init.2.2.1 mX3_init.2.2.2 ∈ gw := tb_in (List.mem_of_getElem? (i := 71) (by decide +kernel)) rfl
theorem cw_X3_init {y : my} {index d2 : Nat} : Cw y mX3_init index 1 d2 := ⟨kx_X3_init, tb_in (List.mem_of_getElem? (i := 3) (by decide +kernel)) rfl, by decide +kernel, by decide⟩
theorem ki_X3_init : Cond.instanceMethod yX3_init ∈ gw := tb_in (List.mem_of_getElem? (i := 70) (by decide +kernel)) rfl
abbrev mX3_ringsUpTo : my := (yX3_ringsUpTo, cX3_ringsUpTo, 4, (some .int))
theorem kx_X3_ringsUpTo : Cond.code mX3_ringsUpTo.1 mX3_ringsUpTo.2.1 mX3_ringsUpTo.2.2.1 mX3_ringsUpTo.2.2.2 ∈ gw := tb_in (List.mem_of_getElem? (i := 347) (by decide +kernel)) rfl
theorem cw_X3_ringsUpTo {y : my} {index d2 : Nat} : Cw y mX3_ringsUpTo index 1 d2 := ⟨kx_X3_ringsUpTo, tb_in (List.mem_of_getElem? (i := 3) (by decide +kernel)) rfl, by decide +kernel, by decide⟩
theorem ki_X3_ringsUpTo : Cond.instanceMethod yX3_ringsUpTo ∈ gw := tb_in (List.mem_of_getElem? (i := 346) (by decide +kernel)) rfl
theorem ks_X3_ringsUpTo : Cond.selects RX3 yX3_ringsUpTo yX3_ringsUpTo ∈ gw := tb_sel (List.mem_of_getElem? (i := 11) (by decide +kernel)) rfl
abbrev mX3_greatestRepeated : my := (yX3_greatestRepeated, cX3_greatestRepeated, 6, (some .int))
theorem kx_X3_greatestRepeated : Cond.code mX3_greatestRepeated.1 mX3_greatestRepeated.2.1 mX3_greatestRepeated.2.2.1 mX3_greatestRepeated.2.2.2 ∈ gw := tb_in (List.mem_of_getElem? (i := 353) (by decide +kernel)) rfl
theorem cw_X3_greatestRepeated {y : my} {index d2 : Nat} : Cw y mX3_greatestRepeated index 2 d2 := ⟨kx_X3_greatestRepeated, tb_in (List.mem_of_getElem? (i := 3) (by decide +kernel)) rfl, by decide +kernel, by decide⟩
theorem ki_X3_greatestRepeated : Cond.instanceMethod yX3_greatestRepeated ∈ gw := tb_in (List.mem_of_getElem? (i := 352) (by decide +kernel)) rfl
theorem ks_X3_greatestRepeated : Cond.selects RX3 yX3_greatestRepeated yX3_greatestRepeated ∈ gw := tb_sel (List.mem_of_getElem? (i := 12) (by decide +kernel)) rfl
abbrev mX3_leastOfRing : my := (yX3_leastOfRing, cX3_leastOfRing, 6, (some .int))
theorem kx_X3_leastOfRing : Cond.code mX3_leastOfRing.1 mX3_leastOfRing.2.1 mX3_leastOfRing.2.2.1 mX3_leastOfRing.2.2.2 ∈ gw := tb_in (List.mem_of_getElem? (i := 392) (by decide +kernel)) rfl
theorem cw_X3_leastOfRing {y : my} {index d2 : Nat} : Cw y mX3_leastOfRing index 1 d2 := ⟨kx_X3_leastOfRing, tb_in (List.mem_of_getElem? (i := 3) (by decide +kernel)) rfl, by decide +kernel, by decide⟩
theorem ki_X3_leastOfRing : Cond.instanceMethod yX3_leastOfRing ∈ gw := tb_in (List.mem_of_getElem? (i := 391) (by decide +kernel)) rfl
theorem ks_X3_leastOfRing : Cond.selects RX3 yX3_leastOfRing yX3_leastOfRing ∈ gw := tb_sel (List.mem_of_getElem? (i := 18) (by decide +kernel)) rfl
abbrev mX3_wordsUpTo : my := (yX3_wordsUpTo, cX3_wordsUpTo, 5, (some .int))
theorem kx_X3_wordsUpTo : Cond.code mX3_wordsUpTo.1 mX3_wordsUpTo.2.1 mX3_wordsUpTo.2.2.1 mX3_wordsUpTo.2.2.2 ∈ gw := tb_in (List.mem_of_getElem? (i := 357) (by decide +kernel)) rfl
theorem cw_X3_wordsUpTo {y : my} {index d2 : Nat} : Cw y mX3_wordsUpTo index 2 d2 := ⟨kx_X3_wordsUpTo, tb_in (List.mem_of_getElem? (i := 3) (by decide +kernel)) rfl, by decide +kernel, by decide⟩
theorem ki_X3_wordsUpTo : Cond.instanceMethod yX3_wordsUpTo ∈ gw := tb_in (List.mem_of_getElem? (i := 356) (by decide +kernel)) rfl
theorem ks_X3_wordsUpTo : Cond.selects RX3 yX3_wordsUpTo yX3_wordsUpTo ∈ gw := tb_sel (List.mem_of_getElem? (i := 13) (by decide +kernel)) rfl
abbrev mX3_lowerToBeginning : my := (yX3_lowerToBeginning, cX3_lowerToBeginning, 5, none)
theorem kx_X3_lowerToBeginning : Cond.code mX3_lowerToBeginning.1 mX3_lowerToBeginning.2.1 mX3_lowerToBeginning.2.2.1 mX3_lowerToBeginning.2.2.2 ∈ gw := tb_in (List.mem_of_getElem? (i := 361) (by decide +kernel)) rfl
theorem cw_X3_lowerToBeginning {y : my} {index d2 : Nat} : Cw y mX3_lowerToBeginning index 1 d2 := ⟨kx_X3_lowerToBeginning, tb_in (List.mem_of_getElem? (i := 3) (by decide +kernel)) rfl, by decide +kernel, by decide⟩
theorem ki_X3_lowerToBeginning : Cond.instanceMethod yX3_lowerToBeginning ∈ gw := tb_in (List.mem_of_getElem? (i := 360) (by decide +kernel)) rfl
theorem ks_X3_lowerToBeginning : Cond.selects RX3 yX3_lowerToBeginning yX3_lowerToBeginning ∈ gw := tb_sel (List.mem_of_getElem? (i := 14) (by decide +kernel)) rfl
abbrev mX3_firstFault : my := (yX3_firstFault, cX3_firstFault, 4, (some .int))
theorem kx_X3_firstFault : Cond.code mX3_firstFault.1 mX3_firstFault.2.1 mX3_firstFault.2.2.1 mX3_firstFault.2.2.2 ∈ gw := tb_in (List.mem_of_getElem? (i := 365) (by decide +kernel)) rfl
theorem cw_X3_firstFault {y : my} {index d2 : Nat} : Cw y mX3_firstFault index 1 d2 := ⟨kx_X3_firstFault, tb_in (List.mem_of_getElem? (i := 3) (by decide +kernel)) rfl, by decide +kernel, by decide⟩
theorem ki_X3_firstFault : Cond.instanceMethod yX3_firstFault ∈ gw := tb_in (List.mem_of_getElem? (i := 364) (by decide +kernel)) rfl
theorem ks_X3_firstFault : Cond.selects RX3 yX3_firstFault yX3_firstFault ∈ gw := tb_sel (List.mem_of_getElem? (i := 15) (by decide +kernel)) rfl
abbrev mX3_wordsAboveRow : my := (yX3_wordsAboveRow, cX3_wordsAboveRow, 5, (some .int))
theorem kx_X3_wordsAboveRow : Cond.code mX3_wordsAboveRow.1 mX3_wordsAboveRow.2.1 mX3_wordsAboveRow.2.2.1 mX3_wordsAboveRow.2.2.2 ∈ gw := tb_in (List.mem_of_getElem? (i := 375) (by decide +kernel)) rfl
theorem cw_X3_wordsAboveRow {y : my} {index d2 : Nat} : Cw y mX3_wordsAboveRow index 1 d2 := ⟨kx_X3_wordsAboveRow, tb_in (List.mem_of_getElem? (i := 3) (by decide +kernel)) rfl, by decide +kernel, by decide⟩
theorem ki_X3_wordsAboveRow : Cond.instanceMethod yX3_wordsAboveRow ∈ gw := tb_in (List.mem_of_getElem? (i := 374) (by decide +kernel)) rfl
theorem ks_X3_wordsAboveRow : Cond.selects RX3 yX3_wordsAboveRow yX3_wordsAboveRow ∈ gw := tb_sel (List.mem_of_getElem? (i := 16) (by decide +kernel)) rfl
abbrev mX3_greaterThan : my := (yX3_greaterThan, cX3_greaterThan, 2, (some .int))
theorem kx_X3_greaterThan : Cond.code mX3_greaterThan.1 mX3_greaterThan.2.1 mX3_greaterThan.2.2.1 mX3_greaterThan.2.2.2 ∈ gw := tb_in (List.mem_of_getElem? (i := 379) (by decide +kernel)) rfl
theorem cw_X3_greaterThan {y : my} {index d2 : Nat} : Cw y mX3_greaterThan index 1 d2 := ⟨kx_X3_greaterThan, tb_in (List.mem_of_getElem? (i := 3) (by decide +kernel)) rfl, by decide +kernel, by decide⟩
theorem ki_X3_greaterThan : Cond.instanceMethod yX3_greaterThan ∈ gw := tb_in (List.mem_of_getElem? (i := 378) (by decide +kernel)) rfl
theorem ks_X3_greaterThan : Cond.selects RX3 yX3_greaterThan yX3_greaterThan ∈ gw := tb_sel (List.mem_of_getElem? (i := 17) (by decide +kernel)) rfl
abbrev mX3_takeAmounts : my := (yX3_takeAmounts, cX3_takeAmounts, 9, (some .boolean))
theorem kx_X3_takeAmounts : Cond.code mX3_takeAmounts.1 mX3_takeAmounts.2.1 mX3_takeAmounts.2.2.1 mX3_takeAmounts.2.2.2 ∈ gw := tb_in (List.mem_of_getElem? (i := 406) (by decide +kernel)) rfl
theorem cw_X3_takeAmounts {y : my} {index d2 : Nat} : Cw y mX3_takeAmounts index 5 d2 := ⟨kx_X3_takeAmounts, tb_in (List.mem_of_getElem? (i := 3) (by decide +kernel)) rfl, by decide +kernel, by decide⟩
theorem ki_X3_takeAmounts : Cond.instanceMethod yX3_takeAmounts ∈ gw := tb_in (List.mem_of_getElem? (i := 405) (by decide +kernel)) rfl
theorem ks_X3_takeAmounts : Cond.selects RX3 yX3_takeAmounts yX3_takeAmounts ∈ gw := tb_sel (List.mem_of_getElem? (i := 19) (by decide +kernel)) rfl
abbrev mX3_ringsOfAmounts : my := (yX3_ringsOfAmounts, cX3_ringsOfAmounts, 4, (some .int))
theorem kx_X3_ringsOfAmounts : Cond.code mX3_ringsOfAmounts.1 mX3_ringsOfAmounts.2.1 mX3_ringsOfAmounts.2.2.1 mX3_ringsOfAmounts.2.2.2 ∈ gw := tb_in (List.mem_of_getElem? (i := 414) (by decide +kernel)) rfl
theorem cw_X3_ringsOfAmounts {y : my} {index d2 : Nat} : Cw y mX3_ringsOfAmounts index 0 d2 := ⟨kx_X3_ringsOfAmounts, tb_in (List.mem_of_getElem? (i := 3) (by decide +kernel)) rfl, by decide +kernel, by decide⟩
theorem ki_X3_ringsOfAmounts : Cond.instanceMethod yX3_ringsOfAmounts ∈ gw := tb_in (List.mem_of_getElem? (i := 413) (by decide +kernel)) rfl
theorem ks_X3_ringsOfAmounts : Cond.selects RX3 yX3_ringsOfAmounts yX3_ringsOfAmounts ∈ gw := tb_sel (List.mem_of_getElem? (i := 21) (by decide +kernel)) rfl
abbrev mX3_allDivisible : my := (yX3_allDivisible, cX3_allDivisible, 3, (some .boolean))
theorem kx_X3_allDivisible : Cond.code mX3_allDivisible.1 mX3_allDivisible.2.1 mX3_allDivisible.2.2.1 mX3_allDivisible.2.2.2 ∈ gw := tb_in (List.mem_of_getElem? (i := 418) (by decide +kernel)) rfl
theorem cw_X3_allDivisible {y : my} {index d2 : Nat} : Cw y mX3_allDivisible index 1 d2 := ⟨kx_X3_allDivisible, tb_in (List.mem_of_getElem? (i := 3) (by decide +kernel)) rfl, by decide +kernel, by decide⟩
theorem ki_X3_allDivisible : Cond.instanceMethod yX3_allDivisible ∈ gw := tb_in (List.mem_of_getElem? (i := 417) (by decide +kernel)) rfl
theorem ks_X3_allDivisible : Cond.selects RX3 yX3_allDivisible yX3_allDivisible ∈ gw := tb_sel (List.mem_of_getElem? (i := 22) (by decide +kernel)) rfl
abbrev mX3_arrangements : my := (yX3_arrangements, cX3_arrangements, 7, (some .long))
theorem kx_X3_arrangements : Cond.code mX3_arrangements.1 mX3_arrangements.2.1 mX3_arrangements.2.2.1 mX3_arrangements.2.2.2 ∈ gw := tb_in (List.mem_of_getElem? (i := 422) (by decide +kernel)) rfl
theorem cw_X3_arrangements {y : my} {index d2 : Nat} : Cw y mX3_arrangements index 1 d2 := ⟨kx_X3_arrangements, tb_in (List.mem_of_getElem? (i := 3) (by decide +kernel)) rfl, by decide +kernel, by decide⟩
theorem ki_X3_arrangements : Cond.instanceMethod yX3_arrangements ∈ gw := tb_in (List.mem_of_getElem? (i := 421) (by decide +kernel)) rfl
theorem ks_X3_arrangements : Cond.selects RX3 yX3_arrangements yX3_arrangements ∈ gw := tb_sel (List.mem_of_getElem? (i := 23) (by decide +kernel)) rfl
abbrev mX4_init : my := (yX4_init, cX4_init, 2, none)
theorem kx_X4_init : Cond.code mX4_init.1 mX4_init.2.1 mX4_init.2.2.1 mX4_init.2.2.2 ∈ gw := tb_in (List.mem_of_getElem? (i := 151) (by decide +kernel)) rfl
theorem cw_X4_init {y : my} {index d2 : Nat} : Cw y mX4_init index 1 d2 := ⟨kx_X4_init, tb_in (List.mem_of_getElem? (i := 6) (by decide +kernel)) rfl, by decide +kernel, by decide⟩
theorem ki_X4_init : Cond.instanceMethod yX4_init ∈ gw := tb_in (List.mem_of_getElem? (i := 150) (by decide +kernel)) rfl
abbrev mX4_drop : my := (yX4_drop, cX4_drop, 1, none)
theorem kx_X4_drop : Cond.code mX4_drop.1 mX4_drop.2.1 mX4_drop.2.2.1 mX4_drop.2.2.2 ∈ gw := tb_in (List.mem_of_getElem? (i := 288) (by decide +kernel)) rfl
theorem cw_X4_drop {y : my} {index d2 : Nat} : Cw y mX4_drop index 0 d2 := ⟨kx_X4_drop, tb_in (List.mem_of_getElem? (i := 6) (by decide +kernel)) rfl, by decide +kernel, by decide⟩
theorem ki_X4_drop : Cond.instanceMethod yX4_drop ∈ gw := tb_in (List.mem_of_getElem? (i := 287) (by decide +kernel)) rfl
theorem ks_X4_drop : Cond.selects RX4 yX4_drop yX4_drop ∈ gw := tb_sel (List.mem_of_getElem? (i := 3) (by decide +kernel)) rfl
abbrev mX4_isThere : my := (yX4_isThere, cX4_isThere, 1, (some .boolean))
theorem kx_X4_isThere : Cond.code mX4_isThere.1 mX4_isThere.2.1 mX4_isThere.2.2.1 mX4_isThere.2.2.2 ∈ gw := tb_in (List.mem_of_getElem? (i := 599) (by decide +kernel)) rfl
theorem cw_X4_isThere {y : my} {index d2 : Nat} : Cw y mX4_isThere index 0 d2 := ⟨kx_X4_isThere, tb_in (List.mem_of_getElem? (i := 6) (by decide +kernel)) rfl, by decide +kernel, by decide⟩
theorem ki_X4_isThere : Cond.instanceMethod yX4_isThere ∈ gw := tb_in (List.mem_of_getElem? (i := 598) (by decide +kernel)) rfl
theorem ks_X4_isThere : Cond.selects RX4 yX4_isThere yX4_isThere ∈ gw := tb_sel (List.mem_of_getElem? (i := 53) (by decide +kernel)) rfl
abbrev mX4_isPlace : my := (yX4_isPlace, cX4_isPlace, 2, (some .boolean))
theorem kx_X4_isPlace : Cond.code mX4_isPlace.1 mX4_isPlace.2.1 mX4_isPlace.2.2.1 mX4_isPlace.2.2.2 ∈ gw := tb_in (List.mem_of_getElem? (i := 595) (by decide +kernel)) rfl
theorem cw_X4_isPlace {y : my} {index d2 : Nat} : Cw y mX4_isPlace index 1 d2 := ⟨kx_X4_isPlace, tb_in (List.mem_of_getElem? (i := 6) (by decide +kernel)) rfl, by decide +kernel, by decide⟩
theorem ki_X4_isPlace : Cond.instanceMethod yX4_isPlace ∈ gw := tb_in (List.mem_of_getElem? (i := 594) (by decide +kernel)) rfl
theorem ks_X4_isPlace : Cond.selects RX4 yX4_isPlace yX4_isPlace ∈ gw := tb_sel (List.mem_of_getElem? (i := 52) (by decide +kernel)) rfl
abbrev mX4_becomeLeast : my := (yX4_becomeLeast, cX4_becomeLeast, 5, none)
theorem kx_X4_becomeLeast : Cond.code mX4_becomeLeast.1 mX4_becomeLeast.2.1 mX4_becomeLeast.2.2.1 mX4_becomeLeast.2.2.2 ∈ gw := tb_in (List.mem_of_getElem? (i := 561) (by decide +kernel)) rfl
theorem cw_X4_becomeLeast {y : my} {index d2 : Nat} : Cw y mX4_becomeLeast index 0 d2 := ⟨kx_X4_becomeLeast, tb_in (List.mem_of_getElem? (i := 6) (by decide +kernel)) rfl, by decide +kernel, by decide⟩
theorem ki_X4_becomeLeast : Cond.instanceMethod yX4_becomeLeast ∈ gw := tb_in (List.mem_of_getElem? (i := 560) (by decide +kernel)) rfl
theorem ks_X4_becomeLeast : Cond.selects RX4 yX4_becomeLeast yX4_becomeLeast ∈ gw := tb_sel (List.mem_of_getElem? (i := 46) (by decide +kernel)) rfl
abbrev mX4_nextRow : my := (yX4_nextRow, cX4_nextRow, 3, (some .int))
theorem kx_X4_nextRow : Cond.code mX4_nextRow.1 mX4_nextRow.2.1 mX4_nextRow.2.2.1 mX4_nextRow.2.2.2 ∈ gw := tb_in (List.mem_of_getElem? (i := 566) (by decide +kernel)) rfl
theorem cw_X4_nextRow {y : my} {index d2 : Nat} : Cw y mX4_nextRow index 1 d2 := ⟨kx_X4_nextRow, tb_in (List.mem_of_getElem? (i := 6) (by decide +kernel)) rfl, by decide +kernel, by decide⟩
theorem ki_X4_nextRow : Cond.instanceMethod yX4_nextRow ∈ gw := tb_in (List.mem_of_getElem? (i := 565) (by decide +kernel)) rfl
theorem ks_X4_nextRow : Cond.selects RX4 yX4_nextRow yX4_nextRow ∈ gw := tb_sel (List.mem_of_getElem? (i := 47) (by decide +kernel)) rfl
abbrev mX4_findPlaces : my := (yX4_findPlaces, cX4_findPlaces, 4, none)
theorem kx_X4_findPlaces : Cond.code mX4_findPlaces.1 mX4_findPlaces.2.1 mX4_findPlaces.2.2.1 mX4_findPlaces.2.2.2 ∈ gw := tb_in (List.mem_of_getElem? (i := 570) (by decide +kernel)) rfl
theorem cw_X4_findPlaces {y : my} {index d2 : Nat} : Cw y mX4_findPlaces index 0 d2 := ⟨kx_X4_findPlaces, tb_in (List.mem_of_getElem? (i := 6) (by decide +kernel)) rfl, by decide +kernel, by decide⟩
theorem ki_X4_findPlaces : Cond.instanceMethod yX4_findPlaces ∈ gw := tb_in (List.mem_of_getElem? (i := 569) (by decide +kernel)) rfl
theorem ks_X4_findPlaces : Cond.selects RX4 yX4_findPlaces yX4_findPlaces ∈ gw := tb_sel (List.mem_of_getElem? (i := 48) (by decide +kernel)) rfl
abbrev mX4_becomeGreedy : my := (yX4_becomeGreedy, cX4_becomeGreedy, 4, none)
theorem kx_X4_becomeGreedy : Cond.code mX4_becomeGreedy.1 mX4_becomeGreedy.2.1 mX4_becomeGreedy.2.2.1 mX4_becomeGreedy.2.2.2 ∈ gw := tb_in (List.mem_of_getElem? (i := 574) (by decide +kernel)) rfl
theorem cw_X4_becomeGreedy {y : my} {index d2 : Nat} : Cw y mX4_becomeGreedy index 0 d2 := ⟨kx_X4_becomeGreedy, tb_in (List.mem_of_getElem? (i := 6) (by decide +kernel)) rfl, by decide +kernel, by decide⟩
theorem ki_X4_becomeGreedy : Cond.instanceMethod yX4_becomeGreedy ∈ gw := tb_in (List.mem_of_getElem? (i := 573) (by decide +kernel)) rfl
theorem ks_X4_becomeGreedy : Cond.selects RX4 yX4_becomeGreedy yX4_becomeGreedy ∈ gw := tb_sel (List.mem_of_getElem? (i := 49) (by decide +kernel)) rfl
abbrev mX4_greatestNew : my := (yX4_greatestNew, cX4_greatestNew, 3, (some .int))
theorem kx_X4_greatestNew : Cond.code mX4_greatestNew.1 mX4_greatestNew.2.1 mX4_greatestNew.2.2.1 mX4_greatestNew.2.2.2 ∈ gw := tb_in (List.mem_of_getElem? (i := 582) (by decide +kernel)) rfl
theorem cw_X4_greatestNew {y : my} {index d2 : Nat} : Cw y mX4_greatestNew index 1 d2 := ⟨kx_X4_greatestNew, tb_in (List.mem_of_getElem? (i := 6) (by decide +kernel)) rfl, by decide +kernel, by decide⟩
theorem ki_X4_greatestNew : Cond.instanceMethod yX4_greatestNew ∈ gw := tb_in (List.mem_of_getElem? (i := 581) (by decide +kernel)) rfl
theorem ks_X4_greatestNew : Cond.selects RX4 yX4_greatestNew yX4_greatestNew ∈ gw := tb_sel (List.mem_of_getElem? (i := 50) (by decide +kernel)) rfl
abbrev mX4_becomeCycle : my := (yX4_becomeCycle, cX4_becomeCycle, 4, none)
theorem kx_X4_becomeCycle : Cond.code mX4_becomeCycle.1 mX4_becomeCycle.2.1 mX4_becomeCycle.2.2.1 mX4_becomeCycle.2.2.2 ∈ gw := tb_in (List.mem_of_getElem? (i := 587) (by decide +kernel)) rfl
theorem cw_X4_becomeCycle {y : my} {index d2 : Nat} : Cw y mX4_becomeCycle index 1 d2 := ⟨kx_X4_becomeCycle, tb_in (List.mem_of_getElem? (i := 6) (by decide +kernel)) rfl, by decide +kernel, by decide⟩
theorem ki_X4_becomeCycle : Cond.instanceMethod yX4_becomeCycle ∈ gw := tb_in (List.mem_of_getElem? (i := 586) (by decide +kernel)) rfl
theorem ks_X4_becomeCycle : Cond.selects RX4 yX4_becomeCycle yX4_becomeCycle ∈ gw := tb_sel (List.mem_of_getElem? (i := 51) (by decide +kernel)) rfl
abbrev mX4_writeLetters : my := (yX4_writeLetters, cX4_writeLetters, 7, none)
theorem kx_X4_writeLetters : Cond.code mX4_writeLetters.1 mX4_writeLetters.2.1 mX4_writeLetters.2.2.1 mX4_writeLetters.2.2.2 ∈ gw := tb_in (List.mem_of_getElem? (i := 675) (by decide +kernel)) rfl
theorem cw_X4_writeLetters {y : my} {index d2 : Nat} : Cw y mX4_writeLetters index 4 d2 := ⟨kx_X4_writeLetters, tb_in (List.mem_of_getElem? (i := 6) (by decide +kernel)) rfl, by decide +kernel, by decide⟩
theorem ki_X4_writeLetters : Cond.instanceMethod yX4_writeLetters ∈ gw := tb_in (List.mem_of_getElem? (i := 674) (by decide +kernel)) rfl
theorem ks_X4_writeLetters : Cond.selects RX4 yX4_writeLetters yX4_writeLetters ∈ gw := tb_sel (List.mem_of_getElem? (i := 60) (by decide +kernel)) rfl
abbrev mX4_countMatches : my := (yX4_countMatches, cX4_countMatches, 14, (some .int))
theorem kx_X4_countMatches : Cond.code mX4_countMatches.1 mX4_countMatches.2.1 mX4_countMatches.2.2.1 mX4_countMatches.2.2.2 ∈ gw := tb_in (List.mem_of_getElem? (i := 683) (by decide +kernel)) rfl
theorem cw_X4_countMatches {y : my} {index d2 : Nat} : Cw y mX4_countMatches index 4 d2 := ⟨kx_X4_countMatches, tb_in (List.mem_of_getElem? (i := 6) (by decide +kernel)) rfl, by decide +kernel, by decide⟩
theorem ki_X4_countMatches : Cond.instanceMethod yX4_countMatches ∈ gw := tb_in (List.mem_of_getElem? (i := 682) (by decide +kernel)) rfl
theorem ks_X4_countMatches : Cond.selects RX4 yX4_countMatches yX4_countMatches ∈ gw := tb_sel (List.mem_of_getElem? (i := 61) (by decide +kernel)) rfl
abbrev mX4_noteSlips : my := (yX4_noteSlips, cX4_noteSlips, 7, none)
theorem kx_X4_noteSlips : Cond.code mX4_noteSlips.1 mX4_noteSlips.2.1 mX4_noteSlips.2.2.1 mX4_noteSlips.2.2.2 ∈ gw := tb_in (List.mem_of_getElem? (i := 687) (by decide +kernel)) rfl
theorem cw_X4_noteSlips {y : my} {index d2 : Nat} : Cw y mX4_noteSlips index 3 d2 := ⟨kx_X4_noteSlips, tb_in (List.mem_of_getElem? (i := 6) (by decide +kernel)) rfl, by decide +kernel, by decide⟩
theorem ki_X4_noteSlips : Cond.instanceMethod yX4_noteSlips ∈ gw := tb_in (List.mem_of_getElem? (i := 686) (by decide +kernel)) rfl
theorem ks_X4_noteSlips : Cond.selects RX4 yX4_noteSlips yX4_noteSlips ∈ gw := tb_sel (List.mem_of_getElem? (i := 62) (by decide +kernel)) rfl
abbrev mX4_noteFirstPlaces : my := (yX4_noteFirstPlaces, cX4_noteFirstPlaces, 4, (some .int))
theorem kx_X4_noteFirstPlaces : Cond.code mX4_noteFirstPlaces.1 mX4_noteFirstPlaces.2.1 mX4_noteFirstPlaces.2.2.1 mX4_noteFirstPlaces.2.2.2 ∈ gw := tb_in (List.mem_of_getElem? (i := 695) (by decide +kernel)) rfl
theorem cw_X4_noteFirstPlaces {y : my} {index d2 : Nat} : Cw y mX4_noteFirstPlaces index 1 d2 := ⟨kx_X4_noteFirstPlaces, tb_in (List.mem_of_getElem? (i := 6) (by decide +kernel)) rfl, by decide +kernel, by decide⟩
theorem ki_X4_noteFirstPlaces : Cond.instanceMethod yX4_noteFirstPlaces ∈ gw := tb_in (List.mem_of_getElem? (i := 694) (by decide +kernel)) rfl
theorem ks_X4_noteFirstPlaces : Cond.selects RX4 yX4_noteFirstPlaces yX4_noteFirstPlaces ∈ gw := tb_sel (List.mem_of_getElem? (i := 63) (by decide +kernel)) rfl
abbrev mX5_init : my := (yX5_init, cX5_init, 2, none)
theorem kx_X5_init : Cond.code mX5_init.1 mX5_init.2.1 mX5_init.2.2.1 mX5_init.2.2.2 ∈ gw := tb_in (List.mem_of_getElem? (i := 189) (by decide +kernel)) rfl
theorem cw_X5_init {y : my} {index d2 : Nat} : Cw y mX5_init index 1 d2 := ⟨kx_X5_init, tb_in (List.mem_of_getElem? (i := 7) (by decide +kernel)) rfl, by decide +kernel, by decide⟩
theorem ki_X5_init : Cond.instanceMethod yX5_init ∈ gw := tb_in (List.mem_of_getElem? (i := 188) (by decide +kernel)) rfl
abbrev mX5_isLost : my := (yX5_isLost, cX5_isLost, 1, (some .boolean))
theorem kx_X5_isLost : Cond.code mX5_isLost.1 mX5_isLost.2.1 mX5_isLost.2.2.1 mX5_isLost.2.2.2 ∈ gw := tb_in (List.mem_of_getElem? (i := 636) (by decide +kernel)) rfl
theorem cw_X5_isLost {y : my} {index d2 : Nat} : Cw y mX5_isLost index 0 d2 := ⟨kx_X5_isLost, tb_in (List.mem_of_getElem? (i := 7) (by decide +kernel)) rfl, by decide +kernel, by decide⟩
theorem ki_X5_isLost : Cond.instanceMethod yX5_isLost ∈ gw := tb_in (List.mem_of_getElem? (i := 635) (by decide +kernel)) rfl
theorem ks_X5_isLost : Cond.selects RX5 yX5_isLost yX5_isLost ∈ gw := tb_sel (List.mem_of_getElem? (i := 56) (by decide +kernel)) rfl
abbrev mX5_begin : my := (yX5_begin, cX5_begin, 3, none)
theorem kx_X5_begin : Cond.code mX5_begin.1 mX5_begin.2.1 mX5_begin.2.2.1 mX5_begin.2.2.2 ∈ gw := tb_in (List.mem_of_getElem? (i := 627) (by decide +kernel)) rfl
theorem cw_X5_begin {y : my} {index d2 : Nat} : Cw y mX5_begin index 2 d2 := ⟨kx_X5_begin, tb_in (List.mem_of_getElem? (i := 7) (by decide +kernel)) rfl, by decide +kernel, by decide⟩
theorem ki_X5_begin : Cond.instanceMethod yX5_begin ∈ gw := tb_in (List.mem_of_getElem? (i := 626) (by decide +kernel)) rfl
theorem ks_X5_begin : Cond.selects RX5 yX5_begin yX5_begin ∈ gw := tb_sel (List.mem_of_getElem? (i := 55) (by decide +kernel)) rfl
abbrev mX5_drop : my := (yX5_drop, cX5_drop, 1, (some .int))
theorem kx_X5_drop : Cond.code mX5_drop.1 mX5_drop.2.1 mX5_drop.2.2.1 mX5_drop.2.2.2 ∈ gw := tb_in (List.mem_of_getElem? (i := 640) (by decide +kernel)) rfl
theorem cw_X5_drop {y : my} {index d2 : Nat} : Cw y mX5_drop index 0 d2 := ⟨kx_X5_drop, tb_in (List.mem_of_getElem? (i := 7) (by decide +kernel)) rfl, by decide +kernel, by decide⟩
theorem ki_X5_drop : Cond.instanceMethod yX5_drop ∈ gw := tb_in (List.mem_of_getElem? (i := 639) (by decide +kernel)) rfl
theorem ks_X5_drop : Cond.selects RX5 yX5_drop yX5_drop ∈ gw := tb_sel (List.mem_of_getElem? (i := 57) (by decide +kernel)) rfl
abbrev mX5_hasItems : my := (yX5_hasItems, cX5_hasItems, 3, (some .boolean))
theorem kx_X5_hasItems : Cond.code mX5_hasItems.1 mX5_hasItems.2.1 mX5_hasItems.2.2.1 mX5_hasItems.2.2.2 ∈ gw := tb_in (List.mem_of_getElem? (i := 651) (by decide +kernel)) rfl
theorem cw_X5_hasItems {y : my} {index d2 : Nat} : Cw y mX5_hasItems index 2 d2 := ⟨kx_X5_hasItems, tb_in (List.mem_of_getElem? (i := 7) (by decide +kernel)) rfl, by decide +kernel, by decide⟩
theorem ki_X5_hasItems : Cond.instanceMethod yX5_hasItems ∈ gw := tb_in (List.mem_of_getElem? (i := 650) (by decide +kernel)) rfl
theorem ks_X5_hasItems : Cond.selects RX5 yX5_hasItems yX5_hasItems ∈ gw := tb_sel (List.mem_of_getElem? (i := 58) (by decide +kernel)) rfl
abbrev mX5_fitted : my := (yX5_fitted, cX5_fitted, 2, (some .int))
theorem kx_X5_fitted : Cond.code mX5_fitted.1 mX5_fitted.2.1 mX5_fitted.2.2.1 mX5_fitted.2.2.2 ∈ gw := tb_in (List.mem_of_getElem? (i := 655) (by decide +kernel)) rfl
theorem cw_X5_fitted {y : my} {index d2 : Nat} : Cw y mX5_fitted index 1 d2 := ⟨kx_X5_fitted, tb_in (List.mem_of_getElem? (i := 7) (by decide +kernel)) rfl, by decide +kernel, by decide⟩
theorem ki_X5_fitted : Cond.instanceMethod yX5_fitted ∈ gw := tb_in (List.mem_of_getElem? (i := 654) (by decide +kernel)) rfl
theorem ks_X5_fitted : Cond.selects RX5 yX5_fitted yX5_fitted ∈ gw := tb_sel (List.mem_of_getElem? (i := 59) (by decide +kernel)) rfl
abbrev mX5_hasBlanks : my := (yX5_hasBlanks, cX5_hasBlanks, 2, (some .boolean))
theorem kx_X5_hasBlanks : Cond.code mX5_hasBlanks.1 mX5_hasBlanks.2.1 mX5_hasBlanks.2.2.1 mX5_hasBlanks.2.2.2 ∈ gw := tb_in (List.mem_of_getElem? (i := 713) (by decide +kernel)) rfl
theorem cw_X5_hasBlanks {y : my} {index d2 : Nat} : Cw y mX5_hasBlanks index 0 d2 := ⟨kx_X5_hasBlanks, tb_in (List.mem_of_getElem? (i := 7) (by decide +kernel)) rfl, by decide +kernel, by decide⟩
theorem ki_X5_hasBlanks : Cond.instanceMethod yX5_hasBlanks ∈ gw := tb_in (List.mem_of_getElem? (i := 712) (by decide +kernel)) rfl
theorem ks_X5_hasBlanks : Cond.selects RX5 yX5_hasBlanks yX5_hasBlanks ∈ gw := tb_sel (List.mem_of_getElem? (i := 64) (by decide +kernel)) rfl
abbrev mX5_firstRepeated : my := (yX5_firstRepeated, cX5_firstRepeated, 3, (some .int))
theorem kx_X5_firstRepeated : Cond.code mX5_firstRepeated.1 mX5_firstRepeated.2.1 mX5_firstRepeated.2.2.1 mX5_firstRepeated.2.2.2 ∈ gw := tb_in (List.mem_of_getElem? (i := 718) (by decide +kernel)) rfl
theorem cw_X5_firstRepeated {y : my} {index d2 : Nat} : Cw y mX5_firstRepeated index 0 d2 := ⟨kx_X5_firstRepeated, tb_in (List.mem_of_getElem? (i := 7) (by decide +kernel)) rfl, by decide +kernel, by decide⟩
theorem ki_X5_firstRepeated : Cond.instanceMethod yX5_firstRepeated ∈ gw := tb_in (List.mem_of_getElem? (i := 717) (by decide +kernel)) rfl
theorem ks_X5_firstRepeated : Cond.selects RX5 yX5_firstRepeated yX5_firstRepeated ∈ gw := tb_sel (List.mem_of_getElem? (i := 65) (by decide +kernel)) rfl
abbrev mX5_wordAt : my := (yX5_wordAt, cX5_wordAt, 5, (some .int))
theorem kx_X5_wordAt : Cond.code mX5_wordAt.1 mX5_wordAt.2.1 mX5_wordAt.2.2.1 mX5_wordAt.2.2.2 ∈ gw := tb_in (List.mem_of_getElem? (i := 722) (by decide +kernel)) rfl
theorem cw_X5_wordAt {y : my} {index d2 : Nat} : Cw y mX5_wordAt index 1 d2 := ⟨kx_X5_wordAt, tb_in (List.mem_of_getElem? (i := 7) (by decide +kernel)) rfl, by decide +kernel, by decide⟩
theorem ki_X5_wordAt : Cond.instanceMethod yX5_wordAt ∈ gw := tb_in (List.mem_of_getElem? (i := 721) (by decide +kernel)) rfl
theorem ks_X5_wordAt : Cond.selects RX5 yX5_wordAt yX5_wordAt ∈ gw := tb_sel (List.mem_of_getElem? (i := 66) (by decide +kernel)) rfl
abbrev mX6_init : my := (yX6_init, cX6_init, 1, none)
theorem kx_X6_init : Cond.code mX6_init.1 mX6_init.2.1 mX6_init.2.2.1 mX6_init.2.2.2 ∈ gw := tb_in (List.mem_of_getElem? (i := 26) (by decide +kernel)) rfl
theorem cw_X6_init {y : my} {index d2 : Nat} : Cw y mX6_init index 0 d2 := ⟨kx_X6_init, tb_in (List.mem_of_getElem? (i := 2) (by decide +kernel)) rfl, by decide +kernel, by decide⟩
theorem ki_X6_init : Cond.instanceMethod yX6_init ∈ gw := tb_in (List.mem_of_getElem? (i := 25) (by decide +kernel)) rfl
abbrev mX6_howMany : my := (yX6_howMany, cX6_howMany, 4, (some .int))
theorem kx_X6_howMany : Cond.code mX6_howMany.1 mX6_howMany.2.1 mX6_howMany.2.2.1 mX6_howMany.2.2.2 ∈ gw := tb_in (List.mem_of_getElem? (i := 282) (by decide +kernel)) rfl
theorem cw_X6_howMany {y : my} {index d2 : Nat} : Cw y mX6_howMany index 2 d2 := ⟨kx_X6_howMany, tb_in (List.mem_of_getElem? (i := 2) (by decide +kernel)) rfl, by decide +kernel, by decide⟩
theorem kt_X6_howMany : Cond.static yX6_howMany ∈ gw := tb_in (List.mem_of_getElem? (i := 281) (by decide +kernel)) rfl
abbrev mX6_become : my := (yX6_become, cX6_become, 4, none)
theorem kx_X6_become : Cond.code mX6_become.1 mX6_become.2.1 mX6_become.2.2.1 mX6_become.2.2.2 ∈ gw := tb_in (List.mem_of_getElem? (i := 31) (by decide +kernel)) rfl
theorem cw_X6_become {y : my} {index d2 : Nat} : Cw y mX6_become index 2 d2 := ⟨kx_X6_become, tb_in (List.mem_of_getElem? (i := 2) (by decide +kernel)) rfl, by decide +kernel, by decide⟩
theorem ki_X6_become : Cond.instanceMethod yX6_become ∈ gw := tb_in (List.mem_of_getElem? (i := 30) (by decide +kernel)) rfl
theorem ks_X6_become : Cond.selects RX6 yX6_become yX6_become ∈ gw := tb_sel (List.mem_of_getElem? (i := 0) (by decide +kernel)) rfl
abbrev mX6_has : my := (yX6_has, cX6_has, 2, (some .boolean))
theorem kx_X6_has : Cond.code mX6_has.1 mX6_has.2.1 mX6_has.2.2.1 mX6_has.2.2.2 ∈ gw := tb_in (List.mem_of_getElem? (i := 296) (by decide +kernel)) rfl
theorem cw_X6_has {y : my} {index d2 : Nat} : Cw y mX6_has index 1 d2 := ⟨kx_X6_has, tb_in (List.mem_of_getElem? (i := 2) (by decide +kernel)) rfl, by decide +kernel, by decide⟩
theorem ki_X6_has : Cond.instanceMethod yX6_has ∈ gw := tb_in (List.mem_of_getElem? (i := 295) (by decide +kernel)) rfl
theorem ks_X6_has : Cond.selects RX6 yX6_has yX6_has ∈ gw := tb_sel (List.mem_of_getElem? (i := 4) (by decide +kernel)) rfl
abbrev mX6_isLetter : my := (yX6_isLetter, cX6_isLetter, 2, (some .boolean))
theorem kx_X6_isLetter : Cond.code mX6_isLetter.1 mX6_isLetter.2.1 mX6_isLetter.2.2.1 mX6_isLetter.2.2.2 ∈ gw := tb_in (List.mem_of_getElem? (i := 410) (by decide +kernel)) rfl
theorem cw_X6_isLetter {y : my} {index d2 : Nat} : Cw y mX6_isLetter index 1 d2 := ⟨kx_X6_isLetter, tb_in (List.mem_of_getElem? (i := 2) (by decide +kernel)) rfl, by decide +kernel, by decide⟩
theorem ki_X6_isLetter : Cond.instanceMethod yX6_isLetter ∈ gw := tb_in (List.mem_of_getElem? (i := 409) (by decide +kernel)) rfl
theorem ks_X6_isLetter : Cond.selects RX6 yX6_isLetter yX6_isLetter ∈ gw := tb_sel (List.mem_of_getElem? (i := 20) (by decide +kernel)) rfl
abbrev mX6_differInFirst : my := (yX6_differInFirst, cX6_differInFirst, 3, (some .boolean))
theorem kx_X6_differInFirst : Cond.code mX6_differInFirst.1 mX6_differInFirst.2.1 mX6_differInFirst.2.2.1 mX6_differInFirst.2.2.2 ∈ gw := tb_in (List.mem_of_getElem? (i := 471) (by decide +kernel)) rfl
theorem cw_X6_differInFirst {y : my} {index d2 : Nat} : Cw y mX6_differInFirst index 2 d2 := ⟨kx_X6_differInFirst, tb_in (List.mem_of_getElem? (i := 2) (by decide +kernel)) rfl, by decide +kernel, by decide⟩
theorem ki_X6_differInFirst : Cond.instanceMethod yX6_differInFirst ∈ gw := tb_in (List.mem_of_getElem? (i := 470) (by decide +kernel)) rfl
theorem ks_X6_differInFirst : Cond.selects RX6 yX6_differInFirst yX6_differInFirst ∈ gw := tb_sel (List.mem_of_getElem? (i := 30) (by decide +kernel)) rfl
abbrev mX6_turned : my := (yX6_turned, cX6_turned, 5, (some .int))
theorem kx_X6_turned : Cond.code mX6_turned.1 mX6_turned.2.1 mX6_turned.2.2.1 mX6_turned.2.2.2 ∈ gw := tb_in (List.mem_of_getElem? (i := 300) (by decide +kernel)) rfl
theorem cw_X6_turned {y : my} {index d2 : Nat} : Cw y mX6_turned index 2 d2 := ⟨kx_X6_turned, tb_in (List.mem_of_getElem? (i := 2) (by decide +kernel)) rfl, by decide +kernel, by decide⟩
theorem ki_X6_turned : Cond.instanceMethod yX6_turned ∈ gw := tb_in (List.mem_of_getElem? (i := 299) (by decide +kernel)) rfl
theorem ks_X6_turned : Cond.selects RX6 yX6_turned yX6_turned ∈ gw := tb_sel (List.mem_of_getElem? (i := 5) (by decide +kernel)) rfl
abbrev mX6_turnedOnce : my := (yX6_turnedOnce, cX6_turnedOnce, 2, (some .int))
theorem kx_X6_turnedOnce : Cond.code mX6_turnedOnce.1 mX6_turnedOnce.2.1 mX6_turnedOnce.2.2.1 mX6_turnedOnce.2.2.2 ∈ gw := tb_in (List.mem_of_getElem? (i := 312) (by decide +kernel)) rfl
theorem cw_X6_turnedOnce {y : my} {index d2 : Nat} : Cw y mX6_turnedOnce index 1 d2 := ⟨kx_X6_turnedOnce, tb_in (List.mem_of_getElem? (i := 2) (by decide +kernel)) rfl, by decide +kernel, by decide⟩
theorem ki_X6_turnedOnce : Cond.instanceMethod yX6_turnedOnce ∈ gw := tb_in (List.mem_of_getElem? (i := 311) (by decide +kernel)) rfl
theorem ks_X6_turnedOnce : Cond.selects RX6 yX6_turnedOnce yX6_turnedOnce ∈ gw := tb_sel (List.mem_of_getElem? (i := 7) (by decide +kernel)) rfl
abbrev mX6_leastOf : my := (yX6_leastOf, cX6_leastOf, 5, (some .int))
theorem kx_X6_leastOf : Cond.code mX6_leastOf.1 mX6_leastOf.2.1 mX6_leastOf.2.2.1 mX6_leastOf.2.2.2 ∈ gw := tb_in (List.mem_of_getElem? (i := 308) (by decide +kernel)) rfl
theorem cw_X6_leastOf {y : my} {index d2 : Nat} : Cw y mX6_leastOf index 1 d2 := ⟨kx_X6_leastOf, tb_in (List.mem_of_getElem? (i := 2) (by decide +kernel)) rfl, by decide +kernel, by decide⟩
theorem ki_X6_leastOf : Cond.instanceMethod yX6_leastOf ∈ gw := tb_in (List.mem_of_getElem? (i := 307) (by decide +kernel)) rfl
theorem ks_X6_leastOf : Cond.selects RX6 yX6_leastOf yX6_leastOf ∈ gw := tb_sel (List.mem_of_getElem? (i := 6) (by decide +kernel)) rfl
abbrev mX6_stepsToLeast : my := (yX6_stepsToLeast, cX6_stepsToLeast, 6, (some .int))
theorem kx_X6_stepsToLeast : Cond.code mX6_stepsToLeast.1 mX6_stepsToLeast.2.1 mX6_stepsToLeast.2.2.1 mX6_stepsToLeast.2.2.2 ∈ gw := tb_in (List.mem_of_getElem? (i := 323) (by decide +kernel)) rfl
theorem cw_X6_stepsToLeast {y : my} {index d2 : Nat} : Cw y mX6_stepsToLeast index 1 d2 := ⟨kx_X6_stepsToLeast, tb_in (List.mem_of_getElem? (i := 2) (by decide +kernel)) rfl, by decide +kernel, by decide⟩
theorem ki_X6_stepsToLeast : Cond.instanceMethod yX6_stepsToLeast ∈ gw := tb_in (List.mem_of_getElem? (i := 322) (by decide +kernel)) rfl
theorem ks_X6_stepsToLeast : Cond.selects RX6 yX6_stepsToLeast yX6_stepsToLeast ∈ gw := tb_sel (List.mem_of_getElem? (i := 8) (by decide +kernel)) rfl
abbrev mX6_ringSize : my := (yX6_ringSize, cX6_ringSize, 4, (some .int))
theorem kx_X6_ringSize : Cond.code mX6_ringSize.1 mX6_ringSize.2.1 mX6_ringSize.2.2.1 mX6_ringSize.2.2.2 ∈ gw := tb_in (List.mem_of_getElem? (i := 331) (by decide +kernel)) rfl
theorem cw_X6_ringSize {y : my} {index d2 : Nat} : Cw y mX6_ringSize index 1 d2 := ⟨kx_X6_ringSize, tb_in (List.mem_of_getElem? (i := 2) (by decide +kernel)) rfl, by decide +kernel, by decide⟩
theorem ki_X6_ringSize : Cond.instanceMethod yX6_ringSize ∈ gw := tb_in (List.mem_of_getElem? (i := 330) (by decide +kernel)) rfl
theorem ks_X6_ringSize : Cond.selects RX6 yX6_ringSize yX6_ringSize ∈ gw := tb_sel (List.mem_of_getElem? (i := 9) (by decide +kernel)) rfl
abbrev mX6_backward : my := (yX6_backward, cX6_backward, 5, (some .int))
theorem kx_X6_backward : Cond.code mX6_backward.1 mX6_backward.2.1 mX6_backward.2.2.1 mX6_backward.2.2.2 ∈ gw := tb_in (List.mem_of_getElem? (i := 339) (by decide +kernel)) rfl
theorem cw_X6_backward {y : my} {index d2 : Nat} : Cw y mX6_backward index 1 d2 := ⟨kx_X6_backward, tb_in (List.mem_of_getElem? (i := 2) (by decide +kernel)) rfl, by decide +kernel, by decide⟩
theorem ki_X6_backward : Cond.instanceMethod yX6_backward ∈ gw := tb_in (List.mem_of_getElem? (i := 338) (by decide +kernel)) rfl
theorem ks_X6_backward : Cond.selects RX6 yX6_backward yX6_backward ∈ gw := tb_sel (List.mem_of_getElem? (i := 10) (by decide +kernel)) rfl
abbrev mX7_init : my := (yX7_init, cX7_init, 2, none)
theorem kx_X7_init : Cond.code mX7_init.1 mX7_init.2.1 mX7_init.2.2.1 mX7_init.2.2.2 ∈ gw := tb_in (List.mem_of_getElem? (i := 18) (by decide +kernel)) rfl
theorem cw_X7_init {y : my} {index d2 : Nat} : Cw y mX7_init index 0 d2 := ⟨kx_X7_init, tb_in (List.mem_of_getElem? (i := 1) (by decide +kernel)) rfl, by decide +kernel, by decide⟩
theorem ki_X7_init : Cond.instanceMethod yX7_init ∈ gw := tb_in (List.mem_of_getElem? (i := 17) (by decide +kernel)) rfl
abbrev mX7_wheel : my := (yX7_wheel, cX7_wheel, 4, (some .int))
theorem kx_X7_wheel : Cond.code mX7_wheel.1 mX7_wheel.2.1 mX7_wheel.2.2.1 mX7_wheel.2.2.2 ∈ gw := tb_in (List.mem_of_getElem? (i := 279) (by decide +kernel)) rfl
theorem cw_X7_wheel {y : my} {index d2 : Nat} : Cw y mX7_wheel index 2 d2 := ⟨kx_X7_wheel, tb_in (List.mem_of_getElem? (i := 1) (by decide +kernel)) rfl, by decide +kernel, by decide⟩
theorem ki_X7_wheel : Cond.instanceMethod yX7_wheel ∈ gw := tb_in (List.mem_of_getElem? (i := 277) (by decide +kernel)) rfl
theorem ks_X7_wheel : Cond.selects RX7 yX7_wheel yX7_wheel ∈ gw := tb_in (List.mem_of_getElem? (i := 278) (by decide +kernel)) rfl
abbrev mX7_turn : my := (yX7_turn, cX7_turn, 3, (some .int))
theorem kx_X7_turn : Cond.code mX7_turn.1 mX7_turn.2.1 mX7_turn.2.2.1 mX7_turn.2.2.2 ∈ gw := tb_in (List.mem_of_getElem? (i := 292) (by decide +kernel)) rfl
theorem cw_X7_turn {y : my} {index d2 : Nat} : Cw y mX7_turn index 2 d2 := ⟨kx_X7_turn, tb_in (List.mem_of_getElem? (i := 1) (by decide +kernel)) rfl, by decide +kernel, by decide⟩
theorem ki_X7_turn : Cond.instanceMethod yX7_turn ∈ gw := tb_in (List.mem_of_getElem? (i := 290) (by decide +kernel)) rfl
theorem ks_X7_turn : Cond.selects RX7 yX7_turn yX7_turn ∈ gw := tb_in (List.mem_of_getElem? (i := 291) (by decide +kernel)) rfl
abbrev mX7_least : my := (yX7_least, cX7_least, 2, (some .int))
theorem kx_X7_least : Cond.code mX7_least.1 mX7_least.2.1 mX7_least.2.2.1 mX7_least.2.2.2 ∈ gw := tb_in (List.mem_of_getElem? (i := 304) (by decide +kernel)) rfl
theorem cw_X7_least {y : my} {index d2 : Nat} : Cw y mX7_least index 1 d2 := ⟨kx_X7_least, tb_in (List.mem_of_getElem? (i := 1) (by decide +kernel)) rfl, by decide +kernel, by decide⟩
theorem ki_X7_least : Cond.instanceMethod yX7_least ∈ gw := tb_in (List.mem_of_getElem? (i := 302) (by decide +kernel)) rfl
theorem ks_X7_least : Cond.selects RX7 yX7_least yX7_least ∈ gw := tb_in (List.mem_of_getElem? (i := 303) (by decide +kernel)) rfl
abbrev mX7_steps : my := (yX7_steps, cX7_steps, 2, (some .int))
theorem kx_X7_steps : Cond.code mX7_steps.1 mX7_steps.2.1 mX7_steps.2.2.1 mX7_steps.2.2.2 ∈ gw := tb_in (List.mem_of_getElem? (i := 319) (by decide +kernel)) rfl
theorem cw_X7_steps {y : my} {index d2 : Nat} : Cw y mX7_steps index 1 d2 := ⟨kx_X7_steps, tb_in (List.mem_of_getElem? (i := 1) (by decide +kernel)) rfl, by decide +kernel, by decide⟩
theorem ki_X7_steps : Cond.instanceMethod yX7_steps ∈ gw := tb_in (List.mem_of_getElem? (i := 317) (by decide +kernel)) rfl
theorem ks_X7_steps : Cond.selects RX7 yX7_steps yX7_steps ∈ gw := tb_in (List.mem_of_getElem? (i := 318) (by decide +kernel)) rfl
abbrev mX7_size : my := (yX7_size, cX7_size, 2, (some .int))
theorem kx_X7_size : Cond.code mX7_size.1 mX7_size.2.1 mX7_size.2.2.1 mX7_size.2.2.2 ∈ gw := tb_in (List.mem_of_getElem? (i := 327) (by decide +kernel)) rfl
theorem cw_X7_size {y : my} {index d2 : Nat} : Cw y mX7_size index 1 d2 := ⟨kx_X7_size, tb_in (List.mem_of_getElem? (i := 1) (by decide +kernel)) rfl, by decide +kernel, by decide⟩
theorem ki_X7_size : Cond.instanceMethod yX7_size ∈ gw := tb_in (List.mem_of_getElem? (i := 325) (by decide +kernel)) rfl
theorem ks_X7_size : Cond.selects RX7 yX7_size yX7_size ∈ gw := tb_in (List.mem_of_getElem? (i := 326) (by decide +kernel)) rfl
abbrev mX7_even : my := (yX7_even, cX7_even, 3, (some .int))
theorem kx_X7_even : Cond.code mX7_even.1 mX7_even.2.1 mX7_even.2.2.1 mX7_even.2.2.2 ∈ gw := tb_in (List.mem_of_getElem? (i := 335) (by decide +kernel)) rfl
theorem cw_X7_even {y : my} {index d2 : Nat} : Cw y mX7_even index 1 d2 := ⟨kx_X7_even, tb_in (List.mem_of_getElem? (i := 1) (by decide +kernel)) rfl, by decide +kernel, by decide⟩
theorem ki_X7_even : Cond.instanceMethod yX7_even ∈ gw := tb_in (List.mem_of_getElem? (i := 333) (by decide +kernel)) rfl
theorem ks_X7_even : Cond.selects RX7 yX7_even yX7_even ∈ gw := tb_in (List.mem_of_getElem? (i := 334) (by decide +kernel)) rfl
abbrev mX7_rings : my := (yX7_rings, cX7_rings, 1, (some .int))
theorem kx_X7_rings : Cond.code mX7_rings.1 mX7_rings.2.1 mX7_rings.2.2.1 mX7_rings.2.2.2 ∈ gw := tb_in (List.mem_of_getElem? (i := 343) (by decide +kernel)) rfl
theorem cw_X7_rings {y : my} {index d2 : Nat} : Cw y mX7_rings index 0 d2 := ⟨kx_X7_rings, tb_in (List.mem_of_getElem? (i := 1) (by decide +kernel)) rfl, by decide +kernel, by decide⟩
theorem ki_X7_rings : Cond.instanceMethod yX7_rings ∈ gw := tb_in (List.mem_of_getElem? (i := 341) (by decide +kernel)) rfl
theorem ks_X7_rings : Cond.selects RX7 yX7_rings yX7_rings ∈ gw := tb_in (List.mem_of_getElem? (i := 342) (by decide +kernel)) rfl
abbrev mX7_ringOf : my := (yX7_ringOf, cX7_ringOf, 2, (some .int))
theorem kx_X7_ringOf : Cond.code mX7_ringOf.1 mX7_ringOf.2.1 mX7_ringOf.2.2.1 mX7_ringOf.2.2.2 ∈ gw := tb_in (List.mem_of_getElem? (i := 383) (by decide +kernel)) rfl
theorem cw_X7_ringOf {y : my} {index d2 : Nat} : Cw y mX7_ringOf index 1 d2 := ⟨kx_X7_ringOf, tb_in (List.mem_of_getElem? (i := 1) (by decide +kernel)) rfl, by decide +kernel, by decide⟩
theorem ki_X7_ringOf : Cond.instanceMethod yX7_ringOf ∈ gw := tb_in (List.mem_of_getElem? (i := 381) (by decide +kernel)) rfl
theorem ks_X7_ringOf : Cond.selects RX7 yX7_ringOf yX7_ringOf ∈ gw := tb_in (List.mem_of_getElem? (i := 382) (by decide +kernel)) rfl
abbrev mX7_ring : my := (yX7_ring, cX7_ring, 2, (some .int))
theorem kx_X7_ring : Cond.code mX7_ring.1 mX7_ring.2.1 mX7_ring.2.2.1 mX7_ring.2.2.2 ∈ gw := tb_in (List.mem_of_getElem? (i := 387) (by decide +kernel)) rfl
theorem cw_X7_ring {y : my} {index d2 : Nat} : Cw y mX7_ring index 1 d2 := ⟨kx_X7_ring, tb_in (List.mem_of_getElem? (i := 1) (by decide +kernel)) rfl, by decide +kernel, by decide⟩
theorem ki_X7_ring : Cond.instanceMethod yX7_ring ∈ gw := tb_in (List.mem_of_getElem? (i := 385) (by decide +kernel)) rfl
theorem ks_X7_ring : Cond.selects RX7 yX7_ring yX7_ring ∈ gw := tb_in (List.mem_of_getElem? (i := 386) (by decide +kernel)) rfl
abbrev mX7_below : my := (yX7_below, cX7_below, 2, (some .int))
theorem kx_X7_below : Cond.code mX7_below.1 mX7_below.2.1 mX7_below.2.2.1 mX7_below.2.2.2 ∈ gw := tb_in (List.mem_of_getElem? (i := 397) (by decide +kernel)) rfl
theorem cw_X7_below {y : my} {index d2 : Nat} : Cw y mX7_below index 1 d2 := ⟨kx_X7_below, tb_in (List.mem_of_getElem? (i := 1) (by decide +kernel)) rfl, by decide +kernel, by decide⟩
theorem ki_X7_below : Cond.instanceMethod yX7_below ∈ gw := tb_in (List.mem_of_getElem? (i := 395) (by decide +kernel)) rfl
theorem ks_X7_below : Cond.selects RX7 yX7_below yX7_below ∈ gw := tb_in (List.mem_of_getElem? (i := 396) (by decide +kernel)) rfl
abbrev mX7_content : my := (yX7_content, cX7_content, 6, (some .int))
theorem kx_X7_content : Cond.code mX7_content.1 mX7_content.2.1 mX7_content.2.2.1 mX7_content.2.2.2 ∈ gw := tb_in (List.mem_of_getElem? (i := 402) (by decide +kernel)) rfl
theorem cw_X7_content {y : my} {index d2 : Nat} : Cw y mX7_content index 5 d2 := ⟨kx_X7_content, tb_in (List.mem_of_getElem? (i := 1) (by decide +kernel)) rfl, by decide +kernel, by decide⟩
theorem ki_X7_content : Cond.instanceMethod yX7_content ∈ gw := tb_in (List.mem_of_getElem? (i := 400) (by decide +kernel)) rfl
theorem ks_X7_content : Cond.selects RX7 yX7_content yX7_content ∈ gw := tb_in (List.mem_of_getElem? (i := 401) (by decide +kernel)) rfl
abbrev mX7_factor : my := (yX7_factor, cX7_factor, 3, (some .int))
theorem kx_X7_factor : Cond.code mX7_factor.1 mX7_factor.2.1 mX7_factor.2.2.1 mX7_factor.2.2.2 ∈ gw := tb_in (List.mem_of_getElem? (i := 426) (by decide +kernel)) rfl
theorem cw_X7_factor {y : my} {index d2 : Nat} : Cw y mX7_factor index 2 d2 := ⟨kx_X7_factor, tb_in (List.mem_of_getElem? (i := 1) (by decide +kernel)) rfl, by decide +kernel, by decide⟩
theorem ki_X7_factor : Cond.instanceMethod yX7_factor ∈ gw := tb_in (List.mem_of_getElem? (i := 424) (by decide +kernel)) rfl
theorem ks_X7_factor : Cond.selects RX7 yX7_factor yX7_factor ∈ gw := tb_in (List.mem_of_getElem? (i := 425) (by decide +kernel)) rfl
abbrev mX7_sum : my := (yX7_sum, cX7_sum, 2, (some .int))
theorem kx_X7_sum : Cond.code mX7_sum.1 mX7_sum.2.1 mX7_sum.2.2.1 mX7_sum.2.2.2 ∈ gw := tb_in (List.mem_of_getElem? (i := 435) (by decide +kernel)) rfl
theorem cw_X7_sum {y : my} {index d2 : Nat} : Cw y mX7_sum index 1 d2 := ⟨kx_X7_sum, tb_in (List.mem_of_getElem? (i := 1) (by decide +kernel)) rfl, by decide +kernel, by decide⟩
theorem ki_X7_sum : Cond.instanceMethod yX7_sum ∈ gw := tb_in (List.mem_of_getElem? (i := 433) (by decide +kernel)) rfl
theorem ks_X7_sum : Cond.selects RX7 yX7_sum yX7_sum ∈ gw := tb_in (List.mem_of_getElem? (i := 434) (by decide +kernel)) rfl
abbrev mX7_go : my := (yX7_go, cX7_go, 2, (some .int))
theorem kx_X7_go : Cond.code mX7_go.1 mX7_go.2.1 mX7_go.2.2.1 mX7_go.2.2.2 ∈ gw := tb_in (List.mem_of_getElem? (i := 443) (by decide +kernel)) rfl
theorem cw_X7_go {y : my} {index d2 : Nat} : Cw y mX7_go index 1 d2 := ⟨kx_X7_go, tb_in (List.mem_of_getElem? (i := 1) (by decide +kernel)) rfl, by decide +kernel, by decide⟩
theorem ki_X7_go : Cond.instanceMethod yX7_go ∈ gw := tb_in (List.mem_of_getElem? (i := 441) (by decide +kernel)) rfl
theorem ks_X7_go : Cond.selects RX7 yX7_go yX7_go ∈ gw := tb_in (List.mem_of_getElem? (i := 442) (by decide +kernel)) rfl
abbrev mX7_right : my := (yX7_right, cX7_right, 1, (some .int))
theorem kx_X7_right : Cond.code mX7_right.1 mX7_right.2.1 mX7_right.2.2.1 mX7_right.2.2.2 ∈ gw := tb_in (List.mem_of_getElem? (i := 459) (by decide +kernel)) rfl
theorem cw_X7_right {y : my} {index d2 : Nat} : Cw y mX7_right index 0 d2 := ⟨kx_X7_right, tb_in (List.mem_of_getElem? (i := 1) (by decide +kernel)) rfl, by decide +kernel, by decide⟩
theorem ki_X7_right : Cond.instanceMethod yX7_right ∈ gw := tb_in (List.mem_of_getElem? (i := 457) (by decide +kernel)) rfl
theorem ks_X7_right : Cond.selects RX7 yX7_right yX7_right ∈ gw := tb_in (List.mem_of_getElem? (i := 458) (by decide +kernel)) rfl
abbrev mX7_exchange : my := (yX7_exchange, cX7_exchange, 3, (some .int))
theorem kx_X7_exchange : Cond.code mX7_exchange.1 mX7_exchange.2.1 mX7_exchange.2.2.1 mX7_exchange.2.2.2 ∈ gw := tb_in (List.mem_of_getElem? (i := 467) (by decide +kernel)) rfl
theorem cw_X7_exchange {y : my} {index d2 : Nat} : Cw y mX7_exchange index 2 d2 := ⟨kx_X7_exchange, tb_in (List.mem_of_getElem? (i := 1) (by decide +kernel)) rfl, by decide +kernel, by decide⟩
theorem ki_X7_exchange : Cond.instanceMethod yX7_exchange ∈ gw := tb_in (List.mem_of_getElem? (i := 465) (by decide +kernel)) rfl
theorem ks_X7_exchange : Cond.selects RX7 yX7_exchange yX7_exchange ∈ gw := tb_in (List.mem_of_getElem? (i := 466) (by decide +kernel)) rfl
abbrev mX7_back : my := (yX7_back, cX7_back, 1, (some .int))
theorem kx_X7_back : Cond.code mX7_back.1 mX7_back.2.1 mX7_back.2.2.1 mX7_back.2.2.2 ∈ gw := tb_in (List.mem_of_getElem? (i := 512) (by decide +kernel)) rfl
theorem cw_X7_back {y : my} {index d2 : Nat} : Cw y mX7_back index 0 d2 := ⟨kx_X7_back, tb_in (List.mem_of_getElem? (i := 1) (by decide +kernel)) rfl, by decide +kernel, by decide⟩
theorem ki_X7_back : Cond.instanceMethod yX7_back ∈ gw := tb_in (List.mem_of_getElem? (i := 510) (by decide +kernel)) rfl
theorem ks_X7_back : Cond.selects RX7 yX7_back yX7_back ∈ gw := tb_in (List.mem_of_getElem? (i := 511) (by decide +kernel)) rfl
abbrev mX7_cycles : my := (yX7_cycles, cX7_cycles, 1, (some .int))
theorem kx_X7_cycles : Cond.code mX7_cycles.1 mX7_cycles.2.1 mX7_cycles.2.2.1 mX7_cycles.2.2.2 ∈ gw := tb_in (List.mem_of_getElem? (i := 520) (by decide +kernel)) rfl
theorem cw_X7_cycles {y : my} {index d2 : Nat} : Cw y mX7_cycles index 0 d2 := ⟨kx_X7_cycles, tb_in (List.mem_of_getElem? (i := 1) (by decide +kernel)) rfl, by decide +kernel, by decide⟩
theorem ki_X7_cycles : Cond.instanceMethod yX7_cycles ∈ gw := tb_in (List.mem_of_getElem? (i := 518) (by decide +kernel)) rfl
theorem ks_X7_cycles : Cond.selects RX7 yX7_cycles yX7_cycles ∈ gw := tb_in (List.mem_of_getElem? (i := 519) (by decide +kernel)) rfl
abbrev mX7_cycleOf : my := (yX7_cycleOf, cX7_cycleOf, 2, (some .int))
theorem kx_X7_cycleOf : Cond.code mX7_cycleOf.1 mX7_cycleOf.2.1 mX7_cycleOf.2.2.1 mX7_cycleOf.2.2.2 ∈ gw := tb_in (List.mem_of_getElem? (i := 525) (by decide +kernel)) rfl
theorem cw_X7_cycleOf {y : my} {index d2 : Nat} : Cw y mX7_cycleOf index 1 d2 := ⟨kx_X7_cycleOf, tb_in (List.mem_of_getElem? (i := 1) (by decide +kernel)) rfl, by decide +kernel, by decide⟩
theorem ki_X7_cycleOf : Cond.instanceMethod yX7_cycleOf ∈ gw := tb_in (List.mem_of_getElem? (i := 523) (by decide +kernel)) rfl
theorem ks_X7_cycleOf : Cond.selects RX7 yX7_cycleOf yX7_cycleOf ∈ gw := tb_in (List.mem_of_getElem? (i := 524) (by decide +kernel)) rfl
abbrev mX7_cycle : my := (yX7_cycle, cX7_cycle, 3, (some .int))
theorem kx_X7_cycle : Cond.code mX7_cycle.1 mX7_cycle.2.1 mX7_cycle.2.2.1 mX7_cycle.2.2.2 ∈ gw := tb_in (List.mem_of_getElem? (i := 533) (by decide +kernel)) rfl
theorem cw_X7_cycle {y : my} {index d2 : Nat} : Cw y mX7_cycle index 2 d2 := ⟨kx_X7_cycle, tb_in (List.mem_of_getElem? (i := 1) (by decide +kernel)) rfl, by decide +kernel, by decide⟩
theorem ki_X7_cycle : Cond.instanceMethod yX7_cycle ∈ gw := tb_in (List.mem_of_getElem? (i := 531) (by decide +kernel)) rfl
theorem ks_X7_cycle : Cond.selects RX7 yX7_cycle yX7_cycle ∈ gw := tb_in (List.mem_of_getElem? (i := 532) (by decide +kernel)) rfl
abbrev mX7_join : my := (yX7_join, cX7_join, 1, (some .int))
theorem kx_X7_join : Cond.code mX7_join.1 mX7_join.2.1 mX7_join.2.2.1 mX7_join.2.2.2 ∈ gw := tb_in (List.mem_of_getElem? (i := 545) (by decide +kernel)) rfl
theorem cw_X7_join {y : my} {index d2 : Nat} : Cw y mX7_join index 0 d2 := ⟨kx_X7_join, tb_in (List.mem_of_getElem? (i := 1) (by decide +kernel)) rfl, by decide +kernel, by decide⟩
theorem ki_X7_join : Cond.instanceMethod yX7_join ∈ gw := tb_in (List.mem_of_getElem? (i := 543) (by decide +kernel)) rfl
theorem ks_X7_join : Cond.selects RX7 yX7_join yX7_join ∈ gw := tb_in (List.mem_of_getElem? (i := 544) (by decide +kernel)) rfl
abbrev mX7_round : my := (yX7_round, cX7_round, 2, (some .int))
theorem kx_X7_round : Cond.code mX7_round.1 mX7_round.2.1 mX7_round.2.2.1 mX7_round.2.2.2 ∈ gw := tb_in (List.mem_of_getElem? (i := 557) (by decide +kernel)) rfl
theorem cw_X7_round {y : my} {index d2 : Nat} : Cw y mX7_round index 1 d2 := ⟨kx_X7_round, tb_in (List.mem_of_getElem? (i := 1) (by decide +kernel)) rfl, by decide +kernel, by decide⟩
theorem ki_X7_round : Cond.instanceMethod yX7_round ∈ gw := tb_in (List.mem_of_getElem? (i := 555) (by decide +kernel)) rfl
theorem ks_X7_round : Cond.selects RX7 yX7_round yX7_round ∈ gw := tb_in (List.mem_of_getElem? (i := 556) (by decide +kernel)) rfl
abbrev mX7_letter : my := (yX7_letter, cX7_letter, 2, (some .int))
theorem kx_X7_letter : Cond.code mX7_letter.1 mX7_letter.2.1 mX7_letter.2.2.1 mX7_letter.2.2.2 ∈ gw := tb_in (List.mem_of_getElem? (i := 591) (by decide +kernel)) rfl
theorem cw_X7_letter {y : my} {index d2 : Nat} : Cw y mX7_letter index 1 d2 := ⟨kx_X7_letter, tb_in (List.mem_of_getElem? (i := 1) (by decide +kernel)) rfl, by decide +kernel, by decide⟩
theorem ki_X7_letter : Cond.instanceMethod yX7_letter ∈ gw := tb_in (List.mem_of_getElem? (i := 589) (by decide +kernel)) rfl
theorem ks_X7_letter : Cond.selects RX7 yX7_letter yX7_letter ∈ gw := tb_in (List.mem_of_getElem? (i := 590) (by decide +kernel)) rfl
abbrev mX7_place : my := (yX7_place, cX7_place, 2, (some .int))
theorem kx_X7_place : Cond.code mX7_place.1 mX7_place.2.1 mX7_place.2.2.1 mX7_place.2.2.2 ∈ gw := tb_in (List.mem_of_getElem? (i := 604) (by decide +kernel)) rfl
theorem cw_X7_place {y : my} {index d2 : Nat} : Cw y mX7_place index 1 d2 := ⟨kx_X7_place, tb_in (List.mem_of_getElem? (i := 1) (by decide +kernel)) rfl, by decide +kernel, by decide⟩
theorem ki_X7_place : Cond.instanceMethod yX7_place ∈ gw := tb_in (List.mem_of_getElem? (i := 602) (by decide +kernel)) rfl
theorem ks_X7_place : Cond.selects RX7 yX7_place yX7_place ∈ gw := tb_in (List.mem_of_getElem? (i := 603) (by decide +kernel)) rfl
abbrev mX7_way : my := (yX7_way, cX7_way, 3, (some .int))
theorem kx_X7_way : Cond.code mX7_way.1 mX7_way.2.1 mX7_way.2.2.1 mX7_way.2.2.2 ∈ gw := tb_in (List.mem_of_getElem? (i := 609) (by decide +kernel)) rfl
theorem cw_X7_way {y : my} {index d2 : Nat} : Cw y mX7_way index 2 d2 := ⟨kx_X7_way, tb_in (List.mem_of_getElem? (i := 1) (by decide +kernel)) rfl, by decide +kernel, by decide⟩
theorem ki_X7_way : Cond.instanceMethod yX7_way ∈ gw := tb_in (List.mem_of_getElem? (i := 607) (by decide +kernel)) rfl
theorem ks_X7_way : Cond.selects RX7 yX7_way yX7_way ∈ gw := tb_in (List.mem_of_getElem? (i := 608) (by decide +kernel)) rfl
abbrev mX7_tape : my := (yX7_tape, cX7_tape, 4, (some .int))
theorem kx_X7_tape : Cond.code mX7_tape.1 mX7_tape.2.1 mX7_tape.2.2.1 mX7_tape.2.2.2 ∈ gw := tb_in (List.mem_of_getElem? (i := 613) (by decide +kernel)) rfl
theorem cw_X7_tape {y : my} {index d2 : Nat} : Cw y mX7_tape index 3 d2 := ⟨kx_X7_tape, tb_in (List.mem_of_getElem? (i := 1) (by decide +kernel)) rfl, by decide +kernel, by decide⟩
theorem ki_X7_tape : Cond.instanceMethod yX7_tape ∈ gw := tb_in (List.mem_of_getElem? (i := 611) (by decide +kernel)) rfl
theorem ks_X7_tape : Cond.selects RX7 yX7_tape yX7_tape ∈ gw := tb_in (List.mem_of_getElem? (i := 612) (by decide +kernel)) rfl
abbrev mX7_lose : my := (yX7_lose, cX7_lose, 2, (some .int))
theorem kx_X7_lose : Cond.code mX7_lose.1 mX7_lose.2.1 mX7_lose.2.2.1 mX7_lose.2.2.2 ∈ gw := tb_in (List.mem_of_getElem? (i := 632) (by decide +kernel)) rfl
theorem cw_X7_lose {y : my} {index d2 : Nat} : Cw y mX7_lose index 1 d2 := ⟨kx_X7_lose, tb_in (List.mem_of_getElem? (i := 1) (by decide +kernel)) rfl, by decide +kernel, by decide⟩
theorem ki_X7_lose : Cond.instanceMethod yX7_lose ∈ gw := tb_in (List.mem_of_getElem? (i := 630) (by decide +kernel)) rfl
theorem ks_X7_lose : Cond.selects RX7 yX7_lose yX7_lose ∈ gw := tb_in (List.mem_of_getElem? (i := 631) (by decide +kernel)) rfl
abbrev mX7_put : my := (yX7_put, cX7_put, 6, (some .int))
theorem kx_X7_put : Cond.code mX7_put.1 mX7_put.2.1 mX7_put.2.2.1 mX7_put.2.2.2 ∈ gw := tb_in (List.mem_of_getElem? (i := 644) (by decide +kernel)) rfl
theorem cw_X7_put {y : my} {index d2 : Nat} : Cw y mX7_put index 4 d2 := ⟨kx_X7_put, tb_in (List.mem_of_getElem? (i := 1) (by decide +kernel)) rfl, by decide +kernel, by decide⟩
theorem ki_X7_put : Cond.instanceMethod yX7_put ∈ gw := tb_in (List.mem_of_getElem? (i := 642) (by decide +kernel)) rfl
theorem ks_X7_put : Cond.selects RX7 yX7_put yX7_put ∈ gw := tb_in (List.mem_of_getElem? (i := 643) (by decide +kernel)) rfl
abbrev mX7_get : my := (yX7_get, cX7_get, 5, (some .int))
theorem kx_X7_get : Cond.code mX7_get.1 mX7_get.2.1 mX7_get.2.2.1 mX7_get.2.2.2 ∈ gw := tb_in (List.mem_of_getElem? (i := 659) (by decide +kernel)) rfl
theorem cw_X7_get {y : my} {index d2 : Nat} : Cw y mX7_get index 3 d2 := ⟨kx_X7_get, tb_in (List.mem_of_getElem? (i := 1) (by decide +kernel)) rfl, by decide +kernel, by decide⟩
theorem ki_X7_get : Cond.instanceMethod yX7_get ∈ gw := tb_in (List.mem_of_getElem? (i := 657) (by decide +kernel)) rfl
theorem ks_X7_get : Cond.selects RX7 yX7_get yX7_get ∈ gw := tb_in (List.mem_of_getElem? (i := 658) (by decide +kernel)) rfl
abbrev mX7_copy : my := (yX7_copy, cX7_copy, 8, (some .int))
theorem kx_X7_copy : Cond.code mX7_copy.1 mX7_copy.2.1 mX7_copy.2.2.1 mX7_copy.2.2.2 ∈ gw := tb_in (List.mem_of_getElem? (i := 664) (by decide +kernel)) rfl
theorem cw_X7_copy {y : my} {index d2 : Nat} : Cw y mX7_copy index 5 d2 := ⟨kx_X7_copy, tb_in (List.mem_of_getElem? (i := 1) (by decide +kernel)) rfl, by decide +kernel, by decide⟩
theorem ki_X7_copy : Cond.instanceMethod yX7_copy ∈ gw := tb_in (List.mem_of_getElem? (i := 662) (by decide +kernel)) rfl
theorem ks_X7_copy : Cond.selects RX7 yX7_copy yX7_copy ∈ gw := tb_in (List.mem_of_getElem? (i := 663) (by decide +kernel)) rfl
abbrev mX7_print : my := (yX7_print, cX7_print, 5, (some .int))
theorem kx_X7_print : Cond.code mX7_print.1 mX7_print.2.1 mX7_print.2.2.1 mX7_print.2.2.2 ∈ gw := tb_in (List.mem_of_getElem? (i := 671) (by decide +kernel)) rfl
theorem cw_X7_print {y : my} {index d2 : Nat} : Cw y mX7_print index 4 d2 := ⟨kx_X7_print, tb_in (List.mem_of_getElem? (i := 1) (by decide +kernel)) rfl, by decide +kernel, by decide⟩
theorem ki_X7_print : Cond.instanceMethod yX7_print ∈ gw := tb_in (List.mem_of_getElem? (i := 669) (by decide +kernel)) rfl
theorem ks_X7_print : Cond.selects RX7 yX7_print yX7_print ∈ gw := tb_in (List.mem_of_getElem? (i := 670) (by decide +kernel)) rfl
abbrev mX7_find : my := (yX7_find, cX7_find, 6, (some .int))
theorem kx_X7_find : Cond.code mX7_find.1 mX7_find.2.1 mX7_find.2.2.1 mX7_find.2.2.2 ∈ gw := tb_in (List.mem_of_getElem? (i := 679) (by decide +kernel)) rfl
theorem cw_X7_find {y : my} {index d2 : Nat} : Cw y mX7_find index 4 d2 := ⟨kx_X7_find, tb_in (List.mem_of_getElem? (i := 1) (by decide +kernel)) rfl, by decide +kernel, by decide⟩
theorem ki_X7_find : Cond.instanceMethod yX7_find ∈ gw := tb_in (List.mem_of_getElem? (i := 677) (by decide +kernel)) rfl
theorem ks_X7_find : Cond.selects RX7 yX7_find yX7_find ∈ gw := tb_in (List.mem_of_getElem? (i := 678) (by decide +kernel)) rfl
abbrev mX7_found : my := (yX7_found, cX7_found, 1, (some .int))
theorem kx_X7_found : Cond.code mX7_found.1 mX7_found.2.1 mX7_found.2.2.1 mX7_found.2.2.2 ∈ gw := tb_in (List.mem_of_getElem? (i := 705) (by decide +kernel)) rfl
theorem cw_X7_found {y : my} {index d2 : Nat} : Cw y mX7_found index 0 d2 := ⟨kx_X7_found, tb_in (List.mem_of_getElem? (i := 1) (by decide +kernel)) rfl, by decide +kernel, by decide⟩
theorem ki_X7_found : Cond.instanceMethod yX7_found ∈ gw := tb_in (List.mem_of_getElem? (i := 703) (by decide +kernel)) rfl
theorem ks_X7_found : Cond.selects RX7 yX7_found yX7_found ∈ gw := tb_in (List.mem_of_getElem? (i := 704) (by decide +kernel)) rfl
abbrev mX7_twice : my := (yX7_twice, cX7_twice, 3, (some .int))
theorem kx_X7_twice : Cond.code mX7_twice.1 mX7_twice.2.1 mX7_twice.2.2.1 mX7_twice.2.2.2 ∈ gw := tb_in (List.mem_of_getElem? (i := 709) (by decide +kernel)) rfl
theorem cw_X7_twice {y : my} {index d2 : Nat} : Cw y mX7_twice index 1 d2 := ⟨kx_X7_twice, tb_in (List.mem_of_getElem? (i := 1) (by decide +kernel)) rfl, by decide +kernel, by decide⟩
theorem ki_X7_twice : Cond.instanceMethod yX7_twice ∈ gw := tb_in (List.mem_of_getElem? (i := 707) (by decide +kernel)) rfl
theorem ks_X7_twice : Cond.selects RX7 yX7_twice yX7_twice ∈ gw := tb_in (List.mem_of_getElem? (i := 708) (by decide +kernel)) rfl
abbrev mX7_parts : my := (yX7_parts, cX7_parts, 3, (some .int))
theorem kx_X7_parts : Cond.code mX7_parts.1 mX7_parts.2.1 mX7_parts.2.2.1 mX7_parts.2.2.2 ∈ gw := tb_in (List.mem_of_getElem? (i := 726) (by decide +kernel)) rfl
theorem cw_X7_parts {y : my} {index d2 : Nat} : Cw y mX7_parts index 1 d2 := ⟨kx_X7_parts, tb_in (List.mem_of_getElem? (i := 1) (by decide +kernel)) rfl, by decide +kernel, by decide⟩
theorem ki_X7_parts : Cond.instanceMethod yX7_parts ∈ gw := tb_in (List.mem_of_getElem? (i := 724) (by decide +kernel)) rfl
theorem ks_X7_parts : Cond.selects RX7 yX7_parts yX7_parts ∈ gw := tb_in (List.mem_of_getElem? (i := 725) (by decide +kernel)) rfl
abbrev mX7_part : my := (yX7_part, cX7_part, 2, (some .int))
theorem kx_X7_part : Cond.code mX7_part.1 mX7_part.2.1 mX7_part.2.2.1 mX7_part.2.2.2 ∈ gw := tb_in (List.mem_of_getElem? (i := 734) (by decide +kernel)) rfl
theorem cw_X7_part {y : my} {index d2 : Nat} : Cw y mX7_part index 1 d2 := ⟨kx_X7_part, tb_in (List.mem_of_getElem? (i := 1) (by decide +kernel)) rfl, by decide +kernel, by decide⟩
theorem ki_X7_part : Cond.instanceMethod yX7_part ∈ gw := tb_in (List.mem_of_getElem? (i := 732) (by decide +kernel)) rfl
theorem ks_X7_part : Cond.selects RX7 yX7_part yX7_part ∈ gw := tb_in (List.mem_of_getElem? (i := 733) (by decide +kernel)) rfl
abbrev mX7_recurrence : my := (yX7_recurrence, cX7_recurrence, 3, (some .int))
theorem kx_X7_recurrence : Cond.code mX7_recurrence.1 mX7_recurrence.2.1 mX7_recurrence.2.2.1 mX7_recurrence.2.2.2 ∈ gw := tb_in (List.mem_of_getElem? (i := 738) (by decide +kernel)) rfl
theorem cw_X7_recurrence {y : my} {index d2 : Nat} : Cw y mX7_recurrence index 1 d2 := ⟨kx_X7_recurrence, tb_in (List.mem_of_getElem? (i := 1) (by decide +kernel)) rfl, by decide +kernel, by decide⟩
theorem ki_X7_recurrence : Cond.instanceMethod yX7_recurrence ∈ gw := tb_in (List.mem_of_getElem? (i := 736) (by decide +kernel)) rfl
theorem ks_X7_recurrence : Cond.selects RX7 yX7_recurrence yX7_recurrence ∈ gw := tb_in (List.mem_of_getElem? (i := 737) (by decide +kernel)) rfl
abbrev mX7_coefficient : my := (yX7_coefficient, cX7_coefficient, 2, (some .int))
theorem kx_X7_coefficient : Cond.code mX7_coefficient.1 mX7_coefficient.2.1 mX7_coefficient.2.2.1 mX7_coefficient.2.2.2 ∈ gw := tb_in (List.mem_of_getElem? (i := 768) (by decide +kernel)) rfl
theorem cw_X7_coefficient {y : my} {index d2 : Nat} : Cw y mX7_coefficient index 1 d2 := ⟨kx_X7_coefficient, tb_in (List.mem_of_getElem? (i := 1) (by decide +kernel)) rfl, by decide +kernel, by decide⟩
theorem ki_X7_coefficient : Cond.instanceMethod yX7_coefficient ∈ gw := tb_in (List.mem_of_getElem? (i := 766) (by decide +kernel)) rfl
theorem ks_X7_coefficient : Cond.selects RX7 yX7_coefficient yX7_coefficient ∈ gw := tb_in (List.mem_of_getElem? (i := 767) (by decide +kernel)) rfl
abbrev mX7_count : my := (yX7_count, cX7_count, 2, (some .int))
theorem kx_X7_count : Cond.code mX7_count.1 mX7_count.2.1 mX7_count.2.2.1 mX7_count.2.2.2 ∈ gw := tb_in (List.mem_of_getElem? (i := 776) (by decide +kernel)) rfl
theorem cw_X7_count {y : my} {index d2 : Nat} : Cw y mX7_count index 1 d2 := ⟨kx_X7_count, tb_in (List.mem_of_getElem? (i := 1) (by decide +kernel)) rfl, by decide +kernel, by decide⟩
theorem ki_X7_count : Cond.instanceMethod yX7_count ∈ gw := tb_in (List.mem_of_getElem? (i := 774) (by decide +kernel)) rfl
theorem ks_X7_count : Cond.selects RX7 yX7_count yX7_count ∈ gw := tb_in (List.mem_of_getElem? (i := 775) (by decide +kernel)) rfl
abbrev mX7_digest : my := (yX7_digest, cX7_digest, 5, (some .long))
theorem kx_X7_digest : Cond.code mX7_digest.1 mX7_digest.2.1 mX7_digest.2.2.1 mX7_digest.2.2.2 ∈ gw := tb_in (List.mem_of_getElem? (i := 780) (by decide +kernel)) rfl
theorem cw_X7_digest {y : my} {index d2 : Nat} : Cw y mX7_digest index 0 d2 := ⟨kx_X7_digest, tb_in (List.mem_of_getElem? (i := 1) (by decide +kernel)) rfl, by decide +kernel, by decide⟩
theorem ki_X7_digest : Cond.instanceMethod yX7_digest ∈ gw := tb_in (List.mem_of_getElem? (i := 778) (by decide +kernel)) rfl
theorem ks_X7_digest : Cond.selects RX7 yX7_digest yX7_digest ∈ gw := tb_in (List.mem_of_getElem? (i := 779) (by decide +kernel)) rfl
abbrev mX7_isTape : my := (yX7_isTape, cX7_isTape, 1, (some .boolean))
theorem kx_X7_isTape : Cond.code mX7_isTape.1 mX7_isTape.2.1 mX7_isTape.2.2.1 mX7_isTape.2.2.2 ∈ gw := tb_in (List.mem_of_getElem? (i := 616) (by decide +kernel)) rfl
theorem cw_X7_isTape {y : my} {index d2 : Nat} : Cw y mX7_isTape index 1 d2 := ⟨kx_X7_isTape, tb_in (List.mem_of_getElem? (i := 1) (by decide +kernel)) rfl, by decide +kernel, by decide⟩
theorem kt_X7_isTape : Cond.static yX7_isTape ∈ gw := tb_in (List.mem_of_getElem? (i := 615) (by decide +kernel)) rfl
abbrev mX7_isForm : my := (yX7_isForm, cX7_isForm, 1, (some .boolean))
theorem kx_X7_isForm : Cond.code mX7_isForm.1 mX7_isForm.2.1 mX7_isForm.2.2.1 mX7_isForm.2.2.2 ∈ gw := tb_in (List.mem_of_getElem? (i := 619) (by decide +kernel)) rfl
theorem cw_X7_isForm {y : my} {index d2 : Nat} : Cw y mX7_isForm index 1 d2 := ⟨kx_X7_isForm, tb_in (List.mem_of_getElem? (i := 1) (by decide +kernel)) rfl, by decide +kernel, by decide⟩
theorem kt_X7_isForm : Cond.static yX7_isForm ∈ gw := tb_in (List.mem_of_getElem? (i := 618) (by decide +kernel)) rfl
abbrev mX7_finding : my := (yX7_finding, cX7_finding, 2, (some .int))
theorem kx_X7_finding : Cond.code mX7_finding.1 mX7_finding.2.1 mX7_finding.2.2.1 mX7_finding.2.2.2 ∈ gw := tb_in (List.mem_of_getElem? (i := 623) (by decide +kernel)) rfl
theorem cw_X7_finding {y : my} {index d2 : Nat} : Cw y mX7_finding index 1 d2 := ⟨kx_X7_finding, tb_in (List.mem_of_getElem? (i := 1) (by decide +kernel)) rfl, by decide +kernel, by decide⟩
theorem ki_X7_finding : Cond.instanceMethod yX7_finding ∈ gw := tb_in (List.mem_of_getElem? (i := 622) (by decide +kernel)) rfl
theorem ks_X7_finding : Cond.selects RX7 yX7_finding yX7_finding ∈ gw := tb_sel (List.mem_of_getElem? (i := 54) (by decide +kernel)) rfl
abbrev mX7_faultOfItem : my := (yX7_faultOfItem, cX7_faultOfItem, 3, (some .int))
theorem kx_X7_faultOfItem : Cond.code mX7_faultOfItem.1 mX7_faultOfItem.2.1 mX7_faultOfItem.2.2.1 mX7_faultOfItem.2.2.2 ∈ gw := tb_in (List.mem_of_getElem? (i := 647) (by decide +kernel)) rfl
theorem cw_X7_faultOfItem {y : my} {index d2 : Nat} : Cw y mX7_faultOfItem index 3 d2 := ⟨kx_X7_faultOfItem, tb_in (List.mem_of_getElem? (i := 1) (by decide +kernel)) rfl, by decide +kernel, by decide⟩
theorem kt_X7_faultOfItem : Cond.static yX7_faultOfItem ∈ gw := tb_in (List.mem_of_getElem? (i := 646) (by decide +kernel)) rfl
abbrev mX8_init : my := (yX8_init, cX8_init, 2, none)
theorem kx_X8_init : Cond.code mX8_init.1 mX8_init.2.1 mX8_init.2.2.1 mX8_init.2.2.2 ∈ gw := tb_in (List.mem_of_getElem? (i := 788) (by decide +kernel)) rfl
theorem cw_X8_init {y : my} {index d2 : Nat} : Cw y mX8_init index 0 d2 := ⟨kx_X8_init, tb_in (List.mem_of_getElem? (i := 10) (by decide +kernel)) rfl, by decide +kernel, by decide⟩
theorem ki_X8_init : Cond.instanceMethod yX8_init ∈ gw := tb_in (List.mem_of_getElem? (i := 787) (by decide +kernel)) rfl
abbrev mX8_in : my := (yX8_in, cX8_in, 6, (some .boolean))
theorem kx_X8_in : Cond.code mX8_in.1 mX8_in.2.1 mX8_in.2.2.1 mX8_in.2.2.2 ∈ gw := tb_in (List.mem_of_getElem? (i := 799) (by decide +kernel)) rfl
theorem cw_X8_in {y : my} {index d2 : Nat} : Cw y mX8_in index 3 d2 := ⟨kx_X8_in, tb_in (List.mem_of_getElem? (i := 10) (by decide +kernel)) rfl, by decide +kernel, by decide⟩
theorem kt_X8_in : Cond.static yX8_in ∈ gw := tb_in (List.mem_of_getElem? (i := 798) (by decide +kernel)) rfl
abbrev mX8_wheel : my := (yX8_wheel, cX8_wheel, 5, (some .int))
theorem kx_X8_wheel : Cond.code mX8_wheel.1 mX8_wheel.2.1 mX8_wheel.2.2.1 mX8_wheel.2.2.2 ∈ gw := tb_in (List.mem_of_getElem? (i := 794) (by decide +kernel)) rfl
theorem cw_X8_wheel {y : my} {index d2 : Nat} : Cw y mX8_wheel index 2 d2 := ⟨kx_X8_wheel, tb_in (List.mem_of_getElem? (i := 10) (by decide +kernel)) rfl, by decide +kernel, by decide⟩
theorem ki_X8_wheel : Cond.instanceMethod yX8_wheel ∈ gw := tb_in (List.mem_of_getElem? (i := 792) (by decide +kernel)) rfl
theorem ks_X8_wheel : Cond.selects RX8 yX8_wheel yX8_wheel ∈ gw := tb_in (List.mem_of_getElem? (i := 793) (by decide +kernel)) rfl
abbrev mX8_isWord : my := (yX8_isWord, cX8_isWord, 2, (some .boolean))
theorem kx_X8_isWord : Cond.code mX8_isWord.1 mX8_isWord.2.1 mX8_isWord.2.2.1 mX8_isWord.2.2.2 ∈ gw := tb_in (List.mem_of_getElem? (i := 922) (by decide +kernel)) rfl
theorem cw_X8_isWord {y : my} {index d2 : Nat} : Cw y mX8_isWord index 1 d2 := ⟨kx_X8_isWord, tb_in (List.mem_of_getElem? (i := 10) (by decide +kernel)) rfl, by decide +kernel, by decide⟩
theorem ki_X8_isWord : Cond.instanceMethod yX8_isWord ∈ gw := tb_in (List.mem_of_getElem? (i := 921) (by decide +kernel)) rfl
theorem ks_X8_isWord : Cond.selects RX8 yX8_isWord yX8_isWord ∈ gw := tb_sel (List.mem_of_getElem? (i := 78) (by decide +kernel)) rfl
abbrev mX8_next : my := (yX8_next, cX8_next, 3, (some .int))
theorem kx_X8_next : Cond.code mX8_next.1 mX8_next.2.1 mX8_next.2.2.1 mX8_next.2.2.2 ∈ gw := tb_in (List.mem_of_getElem? (i := 808) (by decide +kernel)) rfl
theorem cw_X8_next {y : my} {index d2 : Nat} : Cw y mX8_next index 1 d2 := ⟨kx_X8_next, tb_in (List.mem_of_getElem? (i := 10) (by decide +kernel)) rfl, by decide +kernel, by decide⟩
theorem ki_X8_next : Cond.instanceMethod yX8_next ∈ gw := tb_in (List.mem_of_getElem? (i := 807) (by decide +kernel)) rfl
theorem ks_X8_next : Cond.selects RX8 yX8_next yX8_next ∈ gw := tb_sel (List.mem_of_getElem? (i := 76) (by decide +kernel)) rfl
abbrev mX8_leastOf : my := (yX8_leastOf, cX8_leastOf, 4, (some .int))
theorem kx_X8_leastOf : Cond.code mX8_leastOf.1 mX8_leastOf.2.1 mX8_leastOf.2.2.1 mX8_leastOf.2.2.2 ∈ gw := tb_in (List.mem_of_getElem? (i := 804) (by decide +kernel)) rfl
theorem cw_X8_leastOf {y : my} {index d2 : Nat} : Cw y mX8_leastOf index 1 d2 := ⟨kx_X8_leastOf, tb_in (List.mem_of_getElem? (i := 10) (by decide +kernel)) rfl, by decide +kernel, by decide⟩
theorem ki_X8_leastOf : Cond.instanceMethod yX8_leastOf ∈ gw := tb_in (List.mem_of_getElem? (i := 803) (by decide +kernel)) rfl
theorem ks_X8_leastOf : Cond.selects RX8 yX8_leastOf yX8_leastOf ∈ gw := tb_sel (List.mem_of_getElem? (i := 75) (by decide +kernel)) rfl
abbrev mX8_turn : my := (yX8_turn, cX8_turn, 5, (some .int))
theorem kx_X8_turn : Cond.code mX8_turn.1 mX8_turn.2.1 mX8_turn.2.2.1 mX8_turn.2.2.2 ∈ gw := tb_in (List.mem_of_getElem? (i := 918) (by decide +kernel)) rfl
theorem cw_X8_turn {y : my} {index d2 : Nat} : Cw y mX8_turn index 2 d2 := ⟨kx_X8_turn, tb_in (List.mem_of_getElem? (i := 10) (by decide +kernel)) rfl, by decide +kernel, by decide⟩
theorem ki_X8_turn : Cond.instanceMethod yX8_turn ∈ gw := tb_in (List.mem_of_getElem? (i := 916) (by decide +kernel)) rfl
theorem ks_X8_turn : Cond.selects RX8 yX8_turn yX8_turn ∈ gw := tb_in (List.mem_of_getElem? (i := 917) (by decide +kernel)) rfl
abbrev mX8_least : my := (yX8_least, cX8_least, 2, (some .int))
theorem kx_X8_least : Cond.code mX8_least.1 mX8_least.2.1 mX8_least.2.2.1 mX8_least.2.2.2 ∈ gw := tb_in (List.mem_of_getElem? (i := 927) (by decide +kernel)) rfl
theorem cw_X8_least {y : my} {index d2 : Nat} : Cw y mX8_least index 1 d2 := ⟨kx_X8_least, tb_in (List.mem_of_getElem? (i := 10) (by decide +kernel)) rfl, by decide +kernel, by decide⟩
theorem ki_X8_least : Cond.instanceMethod yX8_least ∈ gw := tb_in (List.mem_of_getElem? (i := 925) (by decide +kernel)) rfl
theorem ks_X8_least : Cond.selects RX8 yX8_least yX8_least ∈ gw := tb_in (List.mem_of_getElem? (i := 926) (by decide +kernel)) rfl
abbrev mX8_steps : my := (yX8_steps, cX8_steps, 4, (some .int))
theorem kx_X8_steps : Cond.code mX8_steps.1 mX8_steps.2.1 mX8_steps.2.2.1 mX8_steps.2.2.2 ∈ gw := tb_in (List.mem_of_getElem? (i := 931) (by decide +kernel)) rfl
theorem cw_X8_steps {y : my} {index d2 : Nat} : Cw y mX8_steps index 1 d2 := ⟨kx_X8_steps, tb_in (List.mem_of_getElem? (i := 10) (by decide +kernel)) rfl, by decide +kernel, by decide⟩
theorem ki_X8_steps : Cond.instanceMethod yX8_steps ∈ gw := tb_in (List.mem_of_getElem? (i := 929) (by decide +kernel)) rfl
theorem ks_X8_steps : Cond.selects RX8 yX8_steps yX8_steps ∈ gw := tb_in (List.mem_of_getElem? (i := 930) (by decide +kernel)) rfl
abbrev mX8_sizeOf : my := (yX8_sizeOf, cX8_sizeOf, 4, (some .int))
theorem kx_X8_sizeOf : Cond.code mX8_sizeOf.1 mX8_sizeOf.2.1 mX8_sizeOf.2.2.1 mX8_sizeOf.2.2.2 ∈ gw := tb_in (List.mem_of_getElem? (i := 939) (by decide +kernel)) rfl
theorem cw_X8_sizeOf {y : my} {index d2 : Nat} : Cw y mX8_sizeOf index 1 d2 := ⟨kx_X8_sizeOf, tb_in (List.mem_of_getElem? (i := 10) (by decide +kernel)) rfl, by decide +kernel, by decide⟩
theorem ki_X8_sizeOf : Cond.instanceMethod yX8_sizeOf ∈ gw := tb_in (List.mem_of_getElem? (i := 938) (by decide +kernel)) rfl
theorem ks_X8_sizeOf : Cond.selects RX8 yX8_sizeOf yX8_sizeOf ∈ gw := tb_sel (List.mem_of_getElem? (i := 79) (by decide +kernel)) rfl
abbrev mX8_size : my := (yX8_size, cX8_size, 2, (some .int))
theorem kx_X8_size : Cond.code mX8_size.1 mX8_size.2.1 mX8_size.2.2.1 mX8_size.2.2.2 ∈ gw := tb_in (List.mem_of_getElem? (i := 935) (by decide +kernel)) rfl
theorem cw_X8_size {y : my} {index d2 : Nat} : Cw y mX8_size index 1 d2 := ⟨kx_X8_size, tb_in (List.mem_of_getElem? (i := 10) (by decide +kernel)) rfl, by decide +kernel, by decide⟩
theorem ki_X8_size : Cond.instanceMethod yX8_size ∈ gw := tb_in (List.mem_of_getElem? (i := 933) (by decide +kernel)) rfl
theorem ks_X8_size : Cond.selects RX8 yX8_size yX8_size ∈ gw := tb_in (List.mem_of_getElem? (i := 934) (by decide +kernel)) rfl
abbrev mX8_even : my := (yX8_even, cX8_even, 5, (some .int))
theorem kx_X8_even : Cond.code mX8_even.1 mX8_even.2.1 mX8_even.2.2.1 mX8_even.2.2.2 ∈ gw := tb_in (List.mem_of_getElem? (i := 943) (by decide +kernel)) rfl
theorem cw_X8_even {y : my} {index d2 : Nat} : Cw y mX8_even index 1 d2 := ⟨kx_X8_even, tb_in (List.mem_of_getElem? (i := 10) (by decide +kernel)) rfl, by decide +kernel, by decide⟩
theorem ki_X8_even : Cond.instanceMethod yX8_even ∈ gw := tb_in (List.mem_of_getElem? (i := 941) (by decide +kernel)) rfl
theorem ks_X8_even : Cond.selects RX8 yX8_even yX8_even ∈ gw := tb_in (List.mem_of_getElem? (i := 942) (by decide +kernel)) rfl
abbrev mX8_rings : my := (yX8_rings, cX8_rings, 3, (some .int))
theorem kx_X8_rings : Cond.code mX8_rings.1 mX8_rings.2.1 mX8_rings.2.2.1 mX8_rings.2.2.2 ∈ gw := tb_in (List.mem_of_getElem? (i := 947) (by decide +kernel)) rfl
theorem cw_X8_rings {y : my} {index d2 : Nat} : Cw y mX8_rings index 0 d2 := ⟨kx_X8_rings, tb_in (List.mem_of_getElem? (i := 10) (by decide +kernel)) rfl, by decide +kernel, by decide⟩
theorem ki_X8_rings : Cond.instanceMethod yX8_rings ∈ gw := tb_in (List.mem_of_getElem? (i := 945) (by decide +kernel)) rfl
theorem ks_X8_rings : Cond.selects RX8 yX8_rings yX8_rings ∈ gw := tb_in (List.mem_of_getElem? (i := 946) (by decide +kernel)) rfl
abbrev mX8_ringOf : my := (yX8_ringOf, cX8_ringOf, 4, (some .int))
theorem kx_X8_ringOf : Cond.code mX8_ringOf.1 mX8_ringOf.2.1 mX8_ringOf.2.2.1 mX8_ringOf.2.2.2 ∈ gw := tb_in (List.mem_of_getElem? (i := 951) (by decide +kernel)) rfl
theorem cw_X8_ringOf {y : my} {index d2 : Nat} : Cw y mX8_ringOf index 1 d2 := ⟨kx_X8_ringOf, tb_in (List.mem_of_getElem? (i := 10) (by decide +kernel)) rfl, by decide +kernel, by decide⟩
theorem ki_X8_ringOf : Cond.instanceMethod yX8_ringOf ∈ gw := tb_in (List.mem_of_getElem? (i := 949) (by decide +kernel)) rfl
theorem ks_X8_ringOf : Cond.selects RX8 yX8_ringOf yX8_ringOf ∈ gw := tb_in (List.mem_of_getElem? (i := 950) (by decide +kernel)) rfl
abbrev mX8_ring : my := (yX8_ring, cX8_ring, 4, (some .int))
theorem kx_X8_ring : Cond.code mX8_ring.1 mX8_ring.2.1 mX8_ring.2.2.1 mX8_ring.2.2.2 ∈ gw := tb_in (List.mem_of_getElem? (i := 955) (by decide +kernel)) rfl
theorem cw_X8_ring {y : my} {index d2 : Nat} : Cw y mX8_ring index 1 d2 := ⟨kx_X8_ring, tb_in (List.mem_of_getElem? (i := 10) (by decide +kernel)) rfl, by decide +kernel, by decide⟩
theorem ki_X8_ring : Cond.instanceMethod yX8_ring ∈ gw := tb_in (List.mem_of_getElem? (i := 953) (by decide +kernel)) rfl
theorem ks_X8_ring : Cond.selects RX8 yX8_ring yX8_ring ∈ gw := tb_in (List.mem_of_getElem? (i := 954) (by decide +kernel)) rfl
abbrev mX8_below : my := (yX8_below, cX8_below, 4, (some .int))
theorem kx_X8_below : Cond.code mX8_below.1 mX8_below.2.1 mX8_below.2.2.1 mX8_below.2.2.2 ∈ gw := tb_in (List.mem_of_getElem? (i := 959) (by decide +kernel)) rfl
theorem cw_X8_below {y : my} {index d2 : Nat} : Cw y mX8_below index 1 d2 := ⟨kx_X8_below, tb_in (List.mem_of_getElem? (i := 10) (by decide +kernel)) rfl, by decide +kernel, by decide⟩
theorem ki_X8_below : Cond.instanceMethod yX8_below ∈ gw := tb_in (List.mem_of_getElem? (i := 957) (by decide +kernel)) rfl
theorem ks_X8_below : Cond.selects RX8 yX8_below yX8_below ∈ gw := tb_in (List.mem_of_getElem? (i := 958) (by decide +kernel)) rfl
abbrev mX8_content : my := (yX8_content, cX8_content, 11, (some .int))
theorem kx_X8_content : Cond.code mX8_content.1 mX8_content.2.1 mX8_content.2.2.1 mX8_content.2.2.2 ∈ gw := tb_in (List.mem_of_getElem? (i := 963) (by decide +kernel)) rfl
theorem cw_X8_content {y : my} {index d2 : Nat} : Cw y mX8_content index 5 d2 := ⟨kx_X8_content, tb_in (List.mem_of_getElem? (i := 10) (by decide +kernel)) rfl, by decide +kernel, by decide⟩
theorem ki_X8_content : Cond.instanceMethod yX8_content ∈ gw := tb_in (List.mem_of_getElem? (i := 961) (by decide +kernel)) rfl
theorem ks_X8_content : Cond.selects RX8 yX8_content yX8_content ∈ gw := tb_in (List.mem_of_getElem? (i := 962) (by decide +kernel)) rfl
abbrev mX8_hasWanted : my := (yX8_hasWanted, cX8_hasWanted, 5, (some .boolean))
theorem kx_X8_hasWanted : Cond.code mX8_hasWanted.1 mX8_hasWanted.2.1 mX8_hasWanted.2.2.1 mX8_hasWanted.2.2.2 ∈ gw := tb_in (List.mem_of_getElem? (i := 967) (by decide +kernel)) rfl
theorem cw_X8_hasWanted {y : my} {index d2 : Nat} : Cw y mX8_hasWanted index 1 d2 := ⟨kx_X8_hasWanted, tb_in (List.mem_of_getElem? (i := 10) (by decide +kernel)) rfl, by decide +kernel, by decide⟩
theorem ki_X8_hasWanted : Cond.instanceMethod yX8_hasWanted ∈ gw := tb_in (List.mem_of_getElem? (i := 966) (by decide +kernel)) rfl
theorem ks_X8_hasWanted : Cond.selects RX8 yX8_hasWanted yX8_hasWanted ∈ gw := tb_sel (List.mem_of_getElem? (i := 80) (by decide +kernel)) rfl
abbrev mX8_lead : my := (yX8_lead, cX8_lead, 6, none)
theorem kx_X8_lead : Cond.code mX8_lead.1 mX8_lead.2.1 mX8_lead.2.2.1 mX8_lead.2.2.2 ∈ gw := tb_in (List.mem_of_getElem? (i := 812) (by decide +kernel)) rfl
theorem cw_X8_lead {y : my} {index d2 : Nat} : Cw y mX8_lead index 0 d2 := ⟨kx_X8_lead, tb_in (List.mem_of_getElem? (i := 10) (by decide +kernel)) rfl, by decide +kernel, by decide⟩
theorem ki_X8_lead : Cond.instanceMethod yX8_lead ∈ gw := tb_in (List.mem_of_getElem? (i := 811) (by decide +kernel)) rfl
theorem ks_X8_lead : Cond.selects RX8 yX8_lead yX8_lead ∈ gw := tb_sel (List.mem_of_getElem? (i := 77) (by decide +kernel)) rfl
abbrev mX8_factor : my := (yX8_factor, cX8_factor, 4, (some .int))
theorem kx_X8_factor : Cond.code mX8_factor.1 mX8_factor.2.1 mX8_factor.2.2.1 mX8_factor.2.2.2 ∈ gw := tb_in (List.mem_of_getElem? (i := 971) (by decide +kernel)) rfl
theorem cw_X8_factor {y : my} {index d2 : Nat} : Cw y mX8_factor index 2 d2 := ⟨kx_X8_factor, tb_in (List.mem_of_getElem? (i := 10) (by decide +kernel)) rfl, by decide +kernel, by decide⟩
theorem ki_X8_factor : Cond.instanceMethod yX8_factor ∈ gw := tb_in (List.mem_of_getElem? (i := 969) (by decide +kernel)) rfl
theorem ks_X8_factor : Cond.selects RX8 yX8_factor yX8_factor ∈ gw := tb_in (List.mem_of_getElem? (i := 970) (by decide +kernel)) rfl
abbrev mX8_sum : my := (yX8_sum, cX8_sum, 3, (some .int))
theorem kx_X8_sum : Cond.code mX8_sum.1 mX8_sum.2.1 mX8_sum.2.2.1 mX8_sum.2.2.2 ∈ gw := tb_in (List.mem_of_getElem? (i := 975) (by decide +kernel)) rfl
theorem cw_X8_sum {y : my} {index d2 : Nat} : Cw y mX8_sum index 1 d2 := ⟨kx_X8_sum, tb_in (List.mem_of_getElem? (i := 10) (by decide +kernel)) rfl, by decide +kernel, by decide⟩
theorem ki_X8_sum : Cond.instanceMethod yX8_sum ∈ gw := tb_in (List.mem_of_getElem? (i := 973) (by decide +kernel)) rfl
theorem ks_X8_sum : Cond.selects RX8 yX8_sum yX8_sum ∈ gw := tb_in (List.mem_of_getElem? (i := 974) (by decide +kernel)) rfl
abbrev mX8_go : my := (yX8_go, cX8_go, 2, (some .int))
theorem kx_X8_go : Cond.code mX8_go.1 mX8_go.2.1 mX8_go.2.2.1 mX8_go.2.2.2 ∈ gw := tb_in (List.mem_of_getElem? (i := 979) (by decide +kernel)) rfl
theorem cw_X8_go {y : my} {index d2 : Nat} : Cw y mX8_go index 1 d2 := ⟨kx_X8_go, tb_in (List.mem_of_getElem? (i := 10) (by decide +kernel)) rfl, by decide +kernel, by decide⟩
theorem ki_X8_go : Cond.instanceMethod yX8_go ∈ gw := tb_in (List.mem_of_getElem? (i := 977) (by decide +kernel)) rfl
theorem ks_X8_go : Cond.selects RX8 yX8_go yX8_go ∈ gw := tb_in (List.mem_of_getElem? (i := 978) (by decide +kernel)) rfl
abbrev mX8_isRight : my := (yX8_isRight, cX8_isRight, 3, (some .boolean))
theorem kx_X8_isRight : Cond.code mX8_isRight.1 mX8_isRight.2.1 mX8_isRight.2.2.1 mX8_isRight.2.2.2 ∈ gw := tb_in (List.mem_of_getElem? (i := 987) (by decide +kernel)) rfl
theorem cw_X8_isRight {y : my} {index d2 : Nat} : Cw y mX8_isRight index 0 d2 := ⟨kx_X8_isRight, tb_in (List.mem_of_getElem? (i := 10) (by decide +kernel)) rfl, by decide +kernel, by decide⟩
theorem ki_X8_isRight : Cond.instanceMethod yX8_isRight ∈ gw := tb_in (List.mem_of_getElem? (i := 986) (by decide +kernel)) rfl
theorem ks_X8_isRight : Cond.selects RX8 yX8_isRight yX8_isRight ∈ gw := tb_sel (List.mem_of_getElem? (i := 81) (by decide +kernel)) rfl
abbrev mX8_right : my := (yX8_right, cX8_right, 1, (some .int))
theorem kx_X8_right : Cond.code mX8_right.1 mX8_right.2.1 mX8_right.2.2.1 mX8_right.2.2.2 ∈ gw := tb_in (List.mem_of_getElem? (i := 983) (by decide +kernel)) rfl
theorem cw_X8_right {y : my} {index d2 : Nat} : Cw y mX8_right index 0 d2 := ⟨kx_X8_right, tb_in (List.mem_of_getElem? (i := 10) (by decide +kernel)) rfl, by decide +kernel, by decide⟩
theorem ki_X8_right : Cond.instanceMethod yX8_right ∈ gw := tb_in (List.mem_of_getElem? (i := 981) (by decide +kernel)) rfl
theorem ks_X8_right : Cond.selects RX8 yX8_right yX8_right ∈ gw := tb_in (List.mem_of_getElem? (i := 982) (by decide +kernel)) rfl
abbrev mX8_findCycles : my := (yX8_findCycles, cX8_findCycles, 3, none)
theorem kx_X8_findCycles : Cond.code mX8_findCycles.1 mX8_findCycles.2.1 mX8_findCycles.2.2.1 mX8_findCycles.2.2.2 ∈ gw := tb_in (List.mem_of_getElem? (i := 999) (by decide +kernel)) rfl
theorem cw_X8_findCycles {y : my} {index d2 : Nat} : Cw y mX8_findCycles index 0 d2 := ⟨kx_X8_findCycles, tb_in (List.mem_of_getElem? (i := 10) (by decide +kernel)) rfl, by decide +kernel, by decide⟩
theorem ki_X8_findCycles : Cond.instanceMethod yX8_findCycles ∈ gw := tb_in (List.mem_of_getElem? (i := 998) (by decide +kernel)) rfl
theorem ks_X8_findCycles : Cond.selects RX8 yX8_findCycles yX8_findCycles ∈ gw := tb_sel (List.mem_of_getElem? (i := 83) (by decide +kernel)) rfl
abbrev mX8_swap : my := (yX8_swap, cX8_swap, 4, none)
theorem kx_X8_swap : Cond.code mX8_swap.1 mX8_swap.2.1 mX8_swap.2.2.1 mX8_swap.2.2.2 ∈ gw := tb_in (List.mem_of_getElem? (i := 995) (by decide +kernel)) rfl
theorem cw_X8_swap {y : my} {index d2 : Nat} : Cw y mX8_swap index 2 d2 := ⟨kx_X8_swap, tb_in (List.mem_of_getElem? (i := 10) (by decide +kernel)) rfl, by decide +kernel, by decide⟩
theorem ki_X8_swap : Cond.instanceMethod yX8_swap ∈ gw := tb_in (List.mem_of_getElem? (i := 994) (by decide +kernel)) rfl
theorem ks_X8_swap : Cond.selects RX8 yX8_swap yX8_swap ∈ gw := tb_sel (List.mem_of_getElem? (i := 82) (by decide +kernel)) rfl
abbrev mX8_exchange : my := (yX8_exchange, cX8_exchange, 3, (some .int))
theorem kx_X8_exchange : Cond.code mX8_exchange.1 mX8_exchange.2.1 mX8_exchange.2.2.1 mX8_exchange.2.2.2 ∈ gw := tb_in (List.mem_of_getElem? (i := 991) (by decide +kernel)) rfl
theorem cw_X8_exchange {y : my} {index d2 : Nat} : Cw y mX8_exchange index 2 d2 := ⟨kx_X8_exchange, tb_in (List.mem_of_getElem? (i := 10) (by decide +kernel)) rfl, by decide +kernel, by decide⟩
theorem ki_X8_exchange : Cond.instanceMethod yX8_exchange ∈ gw := tb_in (List.mem_of_getElem? (i := 989) (by decide +kernel)) rfl
theorem ks_X8_exchange : Cond.selects RX8 yX8_exchange yX8_exchange ∈ gw := tb_in (List.mem_of_getElem? (i := 990) (by decide +kernel)) rfl
abbrev mX8_back : my := (yX8_back, cX8_back, 1, (some .int))
theorem kx_X8_back : Cond.code mX8_back.1 mX8_back.2.1 mX8_back.2.2.1 mX8_back.2.2.2 ∈ gw := tb_in (List.mem_of_getElem? (i := 1003) (by decide +kernel)) rfl
theorem cw_X8_back {y : my} {index d2 : Nat} : Cw y mX8_back index 0 d2 := ⟨kx_X8_back, tb_in (List.mem_of_getElem? (i := 10) (by decide +kernel)) rfl, by decide +kernel, by decide⟩
theorem ki_X8_back : Cond.instanceMethod yX8_back ∈ gw := tb_in (List.mem_of_getElem? (i := 1001) (by decide +kernel)) rfl
theorem ks_X8_back : Cond.selects RX8 yX8_back yX8_back ∈ gw := tb_in (List.mem_of_getElem? (i := 1002) (by decide +kernel)) rfl
abbrev mX8_cycles : my := (yX8_cycles, cX8_cycles, 1, (some .int))
theorem kx_X8_cycles : Cond.code mX8_cycles.1 mX8_cycles.2.1 mX8_cycles.2.2.1 mX8_cycles.2.2.2 ∈ gw := tb_in (List.mem_of_getElem? (i := 1007) (by decide +kernel)) rfl
theorem cw_X8_cycles {y : my} {index d2 : Nat} : Cw y mX8_cycles index 0 d2 := ⟨kx_X8_cycles, tb_in (List.mem_of_getElem? (i := 10) (by decide +kernel)) rfl, by decide +kernel, by decide⟩
theorem ki_X8_cycles : Cond.instanceMethod yX8_cycles ∈ gw := tb_in (List.mem_of_getElem? (i := 1005) (by decide +kernel)) rfl
theorem ks_X8_cycles : Cond.selects RX8 yX8_cycles yX8_cycles ∈ gw := tb_in (List.mem_of_getElem? (i := 1006) (by decide +kernel)) rfl
abbrev mX8_cycleOf : my := (yX8_cycleOf, cX8_cycleOf, 2, (some .int))
theorem kx_X8_cycleOf : Cond.code mX8_cycleOf.1 mX8_cycleOf.2.1 mX8_cycleOf.2.2.1 mX8_cycleOf.2.2.2 ∈ gw := tb_in (List.mem_of_getElem? (i := 1011) (by decide +kernel)) rfl
theorem cw_X8_cycleOf {y : my} {index d2 : Nat} : Cw y mX8_cycleOf index 1 d2 := ⟨kx_X8_cycleOf, tb_in (List.mem_of_getElem? (i := 10) (by decide +kernel)) rfl, by decide +kernel, by decide⟩
theorem ki_X8_cycleOf : Cond.instanceMethod yX8_cycleOf ∈ gw := tb_in (List.mem_of_getElem? (i := 1009) (by decide +kernel)) rfl
theorem ks_X8_cycleOf : Cond.selects RX8 yX8_cycleOf yX8_cycleOf ∈ gw := tb_in (List.mem_of_getElem? (i := 1010) (by decide +kernel)) rfl
abbrev mX8_cycle : my := (yX8_cycle, cX8_cycle, 6, (some .int))
theorem kx_X8_cycle : Cond.code mX8_cycle.1 mX8_cycle.2.1 mX8_cycle.2.2.1 mX8_cycle.2.2.2 ∈ gw := tb_in (List.mem_of_getElem? (i := 1015) (by decide +kernel)) rfl
theorem cw_X8_cycle {y : my} {index d2 : Nat} : Cw y mX8_cycle index 2 d2 := ⟨kx_X8_cycle, tb_in (List.mem_of_getElem? (i := 10) (by decide +kernel)) rfl, by decide +kernel, by decide⟩
theorem ki_X8_cycle : Cond.instanceMethod yX8_cycle ∈ gw := tb_in (List.mem_of_getElem? (i := 1013) (by decide +kernel)) rfl
theorem ks_X8_cycle : Cond.selects RX8 yX8_cycle yX8_cycle ∈ gw := tb_in (List.mem_of_getElem? (i := 1014) (by decide +kernel)) rfl
abbrev mX8_groupOf : my := (yX8_groupOf, cX8_groupOf, 3, (some .int))
theorem kx_X8_groupOf : Cond.code mX8_groupOf.1 mX8_groupOf.2.1 mX8_groupOf.2.2.1 mX8_groupOf.2.2.2 ∈ gw := tb_in (List.mem_of_getElem? (i := 1027) (by decide +kernel)) rfl
theorem cw_X8_groupOf {y : my} {index d2 : Nat} : Cw y mX8_groupOf index 1 d2 := ⟨kx_X8_groupOf, tb_in (List.mem_of_getElem? (i := 10) (by decide +kernel)) rfl, by decide +kernel, by decide⟩
theorem ki_X8_groupOf : Cond.instanceMethod yX8_groupOf ∈ gw := tb_in (List.mem_of_getElem? (i := 1026) (by decide +kernel)) rfl
theorem ks_X8_groupOf : Cond.selects RX8 yX8_groupOf yX8_groupOf ∈ gw := tb_sel (List.mem_of_getElem? (i := 85) (by decide +kernel)) rfl
abbrev mX8_joins : my := (yX8_joins, cX8_joins, 7, (some .int))
theorem kx_X8_joins : Cond.code mX8_joins.1 mX8_joins.2.1 mX8_joins.2.2.1 mX8_joins.2.2.2 ∈ gw := tb_in (List.mem_of_getElem? (i := 1023) (by decide +kernel)) rfl
theorem cw_X8_joins {y : my} {index d2 : Nat} : Cw y mX8_joins index 1 d2 := ⟨kx_X8_joins, tb_in (List.mem_of_getElem? (i := 10) (by decide +kernel)) rfl, by decide +kernel, by decide⟩
theorem ki_X8_joins : Cond.instanceMethod yX8_joins ∈ gw := tb_in (List.mem_of_getElem? (i := 1022) (by decide +kernel)) rfl
theorem ks_X8_joins : Cond.selects RX8 yX8_joins yX8_joins ∈ gw := tb_sel (List.mem_of_getElem? (i := 84) (by decide +kernel)) rfl
abbrev mX8_join : my := (yX8_join, cX8_join, 1, (some .int))
theorem kx_X8_join : Cond.code mX8_join.1 mX8_join.2.1 mX8_join.2.2.1 mX8_join.2.2.2 ∈ gw := tb_in (List.mem_of_getElem? (i := 1019) (by decide +kernel)) rfl
theorem cw_X8_join {y : my} {index d2 : Nat} : Cw y mX8_join index 0 d2 := ⟨kx_X8_join, tb_in (List.mem_of_getElem? (i := 10) (by decide +kernel)) rfl, by decide +kernel, by decide⟩
theorem ki_X8_join : Cond.instanceMethod yX8_join ∈ gw := tb_in (List.mem_of_getElem? (i := 1017) (by decide +kernel)) rfl
theorem ks_X8_join : Cond.selects RX8 yX8_join yX8_join ∈ gw := tb_in (List.mem_of_getElem? (i := 1018) (by decide +kernel)) rfl
abbrev mX8_leastRound : my := (yX8_leastRound, cX8_leastRound, 6, none)
theorem kx_X8_leastRound : Cond.code mX8_leastRound.1 mX8_leastRound.2.1 mX8_leastRound.2.2.1 mX8_leastRound.2.2.2 ∈ gw := tb_in (List.mem_of_getElem? (i := 1035) (by decide +kernel)) rfl
theorem cw_X8_leastRound {y : my} {index d2 : Nat} : Cw y mX8_leastRound index 0 d2 := ⟨kx_X8_leastRound, tb_in (List.mem_of_getElem? (i := 10) (by decide +kernel)) rfl, by decide +kernel, by decide⟩
theorem ki_X8_leastRound : Cond.instanceMethod yX8_leastRound ∈ gw := tb_in (List.mem_of_getElem? (i := 1034) (by decide +kernel)) rfl
theorem ks_X8_leastRound : Cond.selects RX8 yX8_leastRound yX8_leastRound ∈ gw := tb_sel (List.mem_of_getElem? (i := 86) (by decide +kernel)) rfl
abbrev mX8_greedyRound : my := (yX8_greedyRound, cX8_greedyRound, 5, none)
theorem kx_X8_greedyRound : Cond.code mX8_greedyRound.1 mX8_greedyRound.2.1 mX8_greedyRound.2.2.1 mX8_greedyRound.2.2.2 ∈ gw := tb_in (List.mem_of_getElem? (i := 1039) (by decide +kernel)) rfl
theorem cw_X8_greedyRound {y : my} {index d2 : Nat} : Cw y mX8_greedyRound index 0 d2 := ⟨kx_X8_greedyRound, tb_in (List.mem_of_getElem? (i := 10) (by decide +kernel)) rfl, by decide +kernel, by decide⟩
theorem ki_X8_greedyRound : Cond.instanceMethod yX8_greedyRound ∈ gw := tb_in (List.mem_of_getElem? (i := 1038) (by decide +kernel)) rfl
theorem ks_X8_greedyRound : Cond.selects RX8 yX8_greedyRound yX8_greedyRound ∈ gw := tb_sel (List.mem_of_getElem? (i := 87) (by decide +kernel)) rfl
abbrev mX8_round : my := (yX8_round, cX8_round, 5, (some .int))
theorem kx_X8_round : Cond.code mX8_round.1 mX8_round.2.1 mX8_round.2.2.1 mX8_round.2.2.2 ∈ gw := tb_in (List.mem_of_getElem? (i := 1031) (by decide +kernel)) rfl
theorem cw_X8_round {y : my} {index d2 : Nat} : Cw y mX8_round index 1 d2 := ⟨kx_X8_round, tb_in (List.mem_of_getElem? (i := 10) (by decide +kernel)) rfl, by decide +kernel, by decide⟩
theorem ki_X8_round : Cond.instanceMethod yX8_round ∈ gw := tb_in (List.mem_of_getElem? (i := 1029) (by decide +kernel)) rfl
theorem ks_X8_round : Cond.selects RX8 yX8_round yX8_round ∈ gw := tb_in (List.mem_of_getElem? (i := 1030) (by decide +kernel)) rfl
abbrev mX8_letter : my := (yX8_letter, cX8_letter, 2, (some .int))
theorem kx_X8_letter : Cond.code mX8_letter.1 mX8_letter.2.1 mX8_letter.2.2.1 mX8_letter.2.2.2 ∈ gw := tb_in (List.mem_of_getElem? (i := 1043) (by decide +kernel)) rfl
theorem cw_X8_letter {y : my} {index d2 : Nat} : Cw y mX8_letter index 1 d2 := ⟨kx_X8_letter, tb_in (List.mem_of_getElem? (i := 10) (by decide +kernel)) rfl, by decide +kernel, by decide⟩
theorem ki_X8_letter : Cond.instanceMethod yX8_letter ∈ gw := tb_in (List.mem_of_getElem? (i := 1041) (by decide +kernel)) rfl
theorem ks_X8_letter : Cond.selects RX8 yX8_letter yX8_letter ∈ gw := tb_in (List.mem_of_getElem? (i := 1042) (by decide +kernel)) rfl
abbrev mX8_place : my := (yX8_place, cX8_place, 2, (some .int))
theorem kx_X8_place : Cond.code mX8_place.1 mX8_place.2.1 mX8_place.2.2.1 mX8_place.2.2.2 ∈ gw := tb_in (List.mem_of_getElem? (i := 1047) (by decide +kernel)) rfl
theorem cw_X8_place {y : my} {index d2 : Nat} : Cw y mX8_place index 1 d2 := ⟨kx_X8_place, tb_in (List.mem_of_getElem? (i := 10) (by decide +kernel)) rfl, by decide +kernel, by decide⟩
theorem ki_X8_place : Cond.instanceMethod yX8_place ∈ gw := tb_in (List.mem_of_getElem? (i := 1045) (by decide +kernel)) rfl
theorem ks_X8_place : Cond.selects RX8 yX8_place yX8_place ∈ gw := tb_in (List.mem_of_getElem? (i := 1046) (by decide +kernel)) rfl
abbrev mX8_way : my := (yX8_way, cX8_way, 3, (some .int))
theorem kx_X8_way : Cond.code mX8_way.1 mX8_way.2.1 mX8_way.2.2.1 mX8_way.2.2.2 ∈ gw := tb_in (List.mem_of_getElem? (i := 1051) (by decide +kernel)) rfl
theorem cw_X8_way {y : my} {index d2 : Nat} : Cw y mX8_way index 2 d2 := ⟨kx_X8_way, tb_in (List.mem_of_getElem? (i := 10) (by decide +kernel)) rfl, by decide +kernel, by decide⟩
theorem ki_X8_way : Cond.instanceMethod yX8_way ∈ gw := tb_in (List.mem_of_getElem? (i := 1049) (by decide +kernel)) rfl
theorem ks_X8_way : Cond.selects RX8 yX8_way yX8_way ∈ gw := tb_in (List.mem_of_getElem? (i := 1050) (by decide +kernel)) rfl
abbrev mX8_met : my := (yX8_met, cX8_met, 2, (some .int))
theorem kx_X8_met : Cond.code mX8_met.1 mX8_met.2.1 mX8_met.2.2.1 mX8_met.2.2.2 ∈ gw := tb_in (List.mem_of_getElem? (i := 1063) (by decide +kernel)) rfl
theorem cw_X8_met {y : my} {index d2 : Nat} : Cw y mX8_met index 1 d2 := ⟨kx_X8_met, tb_in (List.mem_of_getElem? (i := 10) (by decide +kernel)) rfl, by decide +kernel, by decide⟩
theorem ki_X8_met : Cond.instanceMethod yX8_met ∈ gw := tb_in (List.mem_of_getElem? (i := 1062) (by decide +kernel)) rfl
theorem ks_X8_met : Cond.selects RX8 yX8_met yX8_met ∈ gw := tb_sel (List.mem_of_getElem? (i := 88) (by decide +kernel)) rfl
abbrev mX8_isTape : my := (yX8_isTape, cX8_isTape, 1, (some .boolean))
theorem kx_X8_isTape : Cond.code mX8_isTape.1 mX8_isTape.2.1 mX8_isTape.2.2.1 mX8_isTape.2.2.2 ∈ gw := tb_in (List.mem_of_getElem? (i := 1058) (by decide +kernel)) rfl
theorem cw_X8_isTape {y : my} {index d2 : Nat} : Cw y mX8_isTape index 1 d2 := ⟨kx_X8_isTape, tb_in (List.mem_of_getElem? (i := 10) (by decide +kernel)) rfl, by decide +kernel, by decide⟩
theorem kt_X8_isTape : Cond.static yX8_isTape ∈ gw := tb_in (List.mem_of_getElem? (i := 1057) (by decide +kernel)) rfl
abbrev mX8_tape : my := (yX8_tape, cX8_tape, 5, (some .int))
theorem kx_X8_tape : Cond.code mX8_tape.1 mX8_tape.2.1 mX8_tape.2.2.1 mX8_tape.2.2.2 ∈ gw := tb_in (List.mem_of_getElem? (i := 1055) (by decide +kernel)) rfl
theorem cw_X8_tape {y : my} {index d2 : Nat} : Cw y mX8_tape index 3 d2 := ⟨kx_X8_tape, tb_in (List.mem_of_getElem? (i := 10) (by decide +kernel)) rfl, by decide +kernel, by decide⟩
theorem ki_X8_tape : Cond.instanceMethod yX8_tape ∈ gw := tb_in (List.mem_of_getElem? (i := 1053) (by decide +kernel)) rfl
theorem ks_X8_tape : Cond.selects RX8 yX8_tape yX8_tape ∈ gw := tb_in (List.mem_of_getElem? (i := 1054) (by decide +kernel)) rfl
abbrev mX8_lose : my := (yX8_lose, cX8_lose, 2, (some .int))
theorem kx_X8_lose : Cond.code mX8_lose.1 mX8_lose.2.1 mX8_lose.2.2.1 mX8_lose.2.2.2 ∈ gw := tb_in (List.mem_of_getElem? (i := 1067) (by decide +kernel)) rfl
theorem cw_X8_lose {y : my} {index d2 : Nat} : Cw y mX8_lose index 1 d2 := ⟨kx_X8_lose, tb_in (List.mem_of_getElem? (i := 10) (by decide +kernel)) rfl, by decide +kernel, by decide⟩
theorem ki_X8_lose : Cond.instanceMethod yX8_lose ∈ gw := tb_in (List.mem_of_getElem? (i := 1065) (by decide +kernel)) rfl
theorem ks_X8_lose : Cond.selects RX8 yX8_lose yX8_lose ∈ gw := tb_in (List.mem_of_getElem? (i := 1066) (by decide +kernel)) rfl
abbrev mX8_lacks : my := (yX8_lacks, cX8_lacks, 4, (some .int))
theorem kx_X8_lacks : Cond.code mX8_lacks.1 mX8_lacks.2.1 mX8_lacks.2.2.1 mX8_lacks.2.2.2 ∈ gw := tb_in (List.mem_of_getElem? (i := 1075) (by decide +kernel)) rfl
theorem cw_X8_lacks {y : my} {index d2 : Nat} : Cw y mX8_lacks index 3 d2 := ⟨kx_X8_lacks, tb_in (List.mem_of_getElem? (i := 10) (by decide +kernel)) rfl, by decide +kernel, by decide⟩
theorem ki_X8_lacks : Cond.instanceMethod yX8_lacks ∈ gw := tb_in (List.mem_of_getElem? (i := 1074) (by decide +kernel)) rfl
theorem ks_X8_lacks : Cond.selects RX8 yX8_lacks yX8_lacks ∈ gw := tb_sel (List.mem_of_getElem? (i := 89) (by decide +kernel)) rfl
abbrev mX8_put : my := (yX8_put, cX8_put, 6, (some .int))
theorem kx_X8_put : Cond.code mX8_put.1 mX8_put.2.1 mX8_put.2.2.1 mX8_put.2.2.2 ∈ gw := tb_in (List.mem_of_getElem? (i := 1071) (by decide +kernel)) rfl
theorem cw_X8_put {y : my} {index d2 : Nat} : Cw y mX8_put index 4 d2 := ⟨kx_X8_put, tb_in (List.mem_of_getElem? (i := 10) (by decide +kernel)) rfl, by decide +kernel, by decide⟩
theorem ki_X8_put : Cond.instanceMethod yX8_put ∈ gw := tb_in (List.mem_of_getElem? (i := 1069) (by decide +kernel)) rfl
theorem ks_X8_put : Cond.selects RX8 yX8_put yX8_put ∈ gw := tb_in (List.mem_of_getElem? (i := 1070) (by decide +kernel)) rfl
abbrev mX8_get : my := (yX8_get, cX8_get, 4, (some .int))
theorem kx_X8_get : Cond.code mX8_get.1 mX8_get.2.1 mX8_get.2.2.1 mX8_get.2.2.2 ∈ gw := tb_in (List.mem_of_getElem? (i := 1080) (by decide +kernel)) rfl
theorem cw_X8_get {y : my} {index d2 : Nat} : Cw y mX8_get index 3 d2 := ⟨kx_X8_get, tb_in (List.mem_of_getElem? (i := 10) (by decide +kernel)) rfl, by decide +kernel, by decide⟩
theorem ki_X8_get : Cond.instanceMethod yX8_get ∈ gw := tb_in (List.mem_of_getElem? (i := 1078) (by decide +kernel)) rfl
theorem ks_X8_get : Cond.selects RX8 yX8_get yX8_get ∈ gw := tb_in (List.mem_of_getElem? (i := 1079) (by decide +kernel)) rfl
abbrev mX8_isWithin : my := (yX8_isWithin, cX8_isWithin, 4, (some .boolean))
theorem kx_X8_isWithin : Cond.code mX8_isWithin.1 mX8_isWithin.2.1 mX8_isWithin.2.2.1 mX8_isWithin.2.2.2 ∈ gw := tb_in (List.mem_of_getElem? (i := 1089) (by decide +kernel)) rfl
theorem cw_X8_isWithin {y : my} {index d2 : Nat} : Cw y mX8_isWithin index 3 d2 := ⟨kx_X8_isWithin, tb_in (List.mem_of_getElem? (i := 10) (by decide +kernel)) rfl, by decide +kernel, by decide⟩
theorem ki_X8_isWithin : Cond.instanceMethod yX8_isWithin ∈ gw := tb_in (List.mem_of_getElem? (i := 1088) (by decide +kernel)) rfl
theorem ks_X8_isWithin : Cond.selects RX8 yX8_isWithin yX8_isWithin ∈ gw := tb_sel (List.mem_of_getElem? (i := 90) (by decide +kernel)) rfl
abbrev mX8_copy : my := (yX8_copy, cX8_copy, 7, (some .int))
theorem kx_X8_copy : Cond.code mX8_copy.1 mX8_copy.2.1 mX8_copy.2.2.1 mX8_copy.2.2.2 ∈ gw := tb_in (List.mem_of_getElem? (i := 1085) (by decide +kernel)) rfl
theorem cw_X8_copy {y : my} {index d2 : Nat} : Cw y mX8_copy index 5 d2 := ⟨kx_X8_copy, tb_in (List.mem_of_getElem? (i := 10) (by decide +kernel)) rfl, by decide +kernel, by decide⟩
theorem ki_X8_copy : Cond.instanceMethod yX8_copy ∈ gw := tb_in (List.mem_of_getElem? (i := 1083) (by decide +kernel)) rfl
theorem ks_X8_copy : Cond.selects RX8 yX8_copy yX8_copy ∈ gw := tb_in (List.mem_of_getElem? (i := 1084) (by decide +kernel)) rfl
abbrev mX8_print : my := (yX8_print, cX8_print, 6, (some .int))
theorem kx_X8_print : Cond.code mX8_print.1 mX8_print.2.1 mX8_print.2.2.1 mX8_print.2.2.2 ∈ gw := tb_in (List.mem_of_getElem? (i := 1093) (by decide +kernel)) rfl
theorem cw_X8_print {y : my} {index d2 : Nat} : Cw y mX8_print index 4 d2 := ⟨kx_X8_print, tb_in (List.mem_of_getElem? (i := 10) (by decide +kernel)) rfl, by decide +kernel, by decide⟩
theorem ki_X8_print : Cond.instanceMethod yX8_print ∈ gw := tb_in (List.mem_of_getElem? (i := 1091) (by decide +kernel)) rfl
theorem ks_X8_print : Cond.selects RX8 yX8_print yX8_print ∈ gw := tb_in (List.mem_of_getElem? (i := 1092) (by decide +kernel)) rfl
abbrev mX8_find : my := (yX8_find, cX8_find, 10, (some .int))
theorem kx_X8_find : Cond.code mX8_find.1 mX8_find.2.1 mX8_find.2.2.1 mX8_find.2.2.2 ∈ gw := tb_in (List.mem_of_getElem? (i := 1097) (by decide +kernel)) rfl
theorem cw_X8_find {y : my} {index d2 : Nat} : Cw y mX8_find index 4 d2 := ⟨kx_X8_find, tb_in (List.mem_of_getElem? (i := 10) (by decide +kernel)) rfl, by decide +kernel, by decide⟩
theorem ki_X8_find : Cond.instanceMethod yX8_find ∈ gw := tb_in (List.mem_of_getElem? (i := 1095) (by decide +kernel)) rfl
theorem ks_X8_find : Cond.selects RX8 yX8_find yX8_find ∈ gw := tb_in (List.mem_of_getElem? (i := 1096) (by decide +kernel)) rfl
abbrev mX8_found : my := (yX8_found, cX8_found, 1, (some .int))
theorem kx_X8_found : Cond.code mX8_found.1 mX8_found.2.1 mX8_found.2.2.1 mX8_found.2.2.2 ∈ gw := tb_in (List.mem_of_getElem? (i := 1102) (by decide +kernel)) rfl
theorem cw_X8_found {y : my} {index d2 : Nat} : Cw y mX8_found index 0 d2 := ⟨kx_X8_found, tb_in (List.mem_of_getElem? (i := 10) (by decide +kernel)) rfl, by decide +kernel, by decide⟩
theorem ki_X8_found : Cond.instanceMethod yX8_found ∈ gw := tb_in (List.mem_of_getElem? (i := 1100) (by decide +kernel)) rfl
theorem ks_X8_found : Cond.selects RX8 yX8_found yX8_found ∈ gw := tb_in (List.mem_of_getElem? (i := 1101) (by decide +kernel)) rfl
abbrev mX8_noLetters : my := (yX8_noLetters, cX8_noLetters, 4, (some .int))
theorem kx_X8_noLetters : Cond.code mX8_noLetters.1 mX8_noLetters.2.1 mX8_noLetters.2.2.1 mX8_noLetters.2.2.2 ∈ gw := tb_in (List.mem_of_getElem? (i := 1110) (by decide +kernel)) rfl
theorem cw_X8_noLetters {y : my} {index d2 : Nat} : Cw y mX8_noLetters index 1 d2 := ⟨kx_X8_noLetters, tb_in (List.mem_of_getElem? (i := 10) (by decide +kernel)) rfl, by decide +kernel, by decide⟩
theorem ki_X8_noLetters : Cond.instanceMethod yX8_noLetters ∈ gw := tb_in (List.mem_of_getElem? (i := 1109) (by decide +kernel)) rfl
theorem ks_X8_noLetters : Cond.selects RX8 yX8_noLetters yX8_noLetters ∈ gw := tb_sel (List.mem_of_getElem? (i := 91) (by decide +kernel)) rfl
abbrev mX8_twice : my := (yX8_twice, cX8_twice, 7, (some .int))
theorem kx_X8_twice : Cond.code mX8_twice.1 mX8_twice.2.1 mX8_twice.2.2.1 mX8_twice.2.2.2 ∈ gw := tb_in (List.mem_of_getElem? (i := 1106) (by decide +kernel)) rfl
theorem cw_X8_twice {y : my} {index d2 : Nat} : Cw y mX8_twice index 1 d2 := ⟨kx_X8_twice, tb_in (List.mem_of_getElem? (i := 10) (by decide +kernel)) rfl, by decide +kernel, by decide⟩
theorem ki_X8_twice : Cond.instanceMethod yX8_twice ∈ gw := tb_in (List.mem_of_getElem? (i := 1104) (by decide +kernel)) rfl
theorem ks_X8_twice : Cond.selects RX8 yX8_twice yX8_twice ∈ gw := tb_in (List.mem_of_getElem? (i := 1105) (by decide +kernel)) rfl
abbrev mX8_parts : my := (yX8_parts, cX8_parts, 8, (some .int))
theorem kx_X8_parts : Cond.code mX8_parts.1 mX8_parts.2.1 mX8_parts.2.2.1 mX8_parts.2.2.2 ∈ gw := tb_in (List.mem_of_getElem? (i := 1114) (by decide +kernel)) rfl
theorem cw_X8_parts {y : my} {index d2 : Nat} : Cw y mX8_parts index 1 d2 := ⟨kx_X8_parts, tb_in (List.mem_of_getElem? (i := 10) (by decide +kernel)) rfl, by decide +kernel, by decide⟩
theorem ki_X8_parts : Cond.instanceMethod yX8_parts ∈ gw := tb_in (List.mem_of_getElem? (i := 1112) (by decide +kernel)) rfl
theorem ks_X8_parts : Cond.selects RX8 yX8_parts yX8_parts ∈ gw := tb_in (List.mem_of_getElem? (i := 1113) (by decide +kernel)) rfl
abbrev mX8_part : my := (yX8_part, cX8_part, 2, (some .int))
theorem kx_X8_part : Cond.code mX8_part.1 mX8_part.2.1 mX8_part.2.2.1 mX8_part.2.2.2 ∈ gw := tb_in (List.mem_of_getElem? (i := 1118) (by decide +kernel)) rfl
theorem cw_X8_part {y : my} {index d2 : Nat} : Cw y mX8_part index 1 d2 := ⟨kx_X8_part, tb_in (List.mem_of_getElem? (i := 10) (by decide +kernel)) rfl, by decide +kernel, by decide⟩
theorem ki_X8_part : Cond.instanceMethod yX8_part ∈ gw := tb_in (List.mem_of_getElem? (i := 1116) (by decide +kernel)) rfl
theorem ks_X8_part : Cond.selects RX8 yX8_part yX8_part ∈ gw := tb_in (List.mem_of_getElem? (i := 1117) (by decide +kernel)) rfl
abbrev mX8_inverse : my := (yX8_inverse, cX8_inverse, 3, (some .int))
theorem kx_X8_inverse : Cond.code mX8_inverse.1 mX8_inverse.2.1 mX8_inverse.2.2.1 mX8_inverse.2.2.2 ∈ gw := tb_in (List.mem_of_getElem? (i := 1130) (by decide +kernel)) rfl
theorem cw_X8_inverse {y : my} {index d2 : Nat} : Cw y mX8_inverse index 1 d2 := ⟨kx_X8_inverse, tb_in (List.mem_of_getElem? (i := 10) (by decide +kernel)) rfl, by decide +kernel, by decide⟩
theorem ki_X8_inverse : Cond.instanceMethod yX8_inverse ∈ gw := tb_in (List.mem_of_getElem? (i := 1129) (by decide +kernel)) rfl
theorem ks_X8_inverse : Cond.selects RX8 yX8_inverse yX8_inverse ∈ gw := tb_sel (List.mem_of_getElem? (i := 93) (by decide +kernel)) rfl
abbrev mX8_leastLength : my := (yX8_leastLength, cX8_leastLength, 10, (some .int))
theorem kx_X8_leastLength : Cond.code mX8_leastLength.1 mX8_leastLength.2.1 mX8_leastLength.2.2.1 mX8_leastLength.2.2.2 ∈ gw := tb_in (List.mem_of_getElem? (i := 1126) (by decide +kernel)) rfl
theorem cw_X8_leastLength {y : my} {index d2 : Nat} : Cw y mX8_leastLength index 1 d2 := ⟨kx_X8_leastLength, tb_in (List.mem_of_getElem? (i := 10) (by decide +kernel)) rfl, by decide +kernel, by decide⟩
theorem ki_X8_leastLength : Cond.instanceMethod yX8_leastLength ∈ gw := tb_in (List.mem_of_getElem? (i := 1125) (by decide +kernel)) rfl
theorem ks_X8_leastLength : Cond.selects RX8 yX8_leastLength yX8_leastLength ∈ gw := tb_sel (List.mem_of_getElem? (i := 92) (by decide +kernel)) rfl
abbrev mX8_solve : my := (yX8_solve, cX8_solve, 13, none)
theorem kx_X8_solve : Cond.code mX8_solve.1 mX8_solve.2.1 mX8_solve.2.2.1 mX8_solve.2.2.2 ∈ gw := tb_in (List.mem_of_getElem? (i := 1134) (by decide +kernel)) rfl
theorem cw_X8_solve {y : my} {index d2 : Nat} : Cw y mX8_solve index 2 d2 := ⟨kx_X8_solve, tb_in (List.mem_of_getElem? (i := 10) (by decide +kernel)) rfl, by decide +kernel, by decide⟩
theorem ki_X8_solve : Cond.instanceMethod yX8_solve ∈ gw := tb_in (List.mem_of_getElem? (i := 1133) (by decide +kernel)) rfl
theorem ks_X8_solve : Cond.selects RX8 yX8_solve yX8_solve ∈ gw := tb_sel (List.mem_of_getElem? (i := 94) (by decide +kernel)) rfl
abbrev mX8_recurrence : my := (yX8_recurrence, cX8_recurrence, 2, (some .int))
theorem kx_X8_recurrence : Cond.code mX8_recurrence.1 mX8_recurrence.2.1 mX8_recurrence.2.2.1 mX8_recurrence.2.2.2 ∈ gw := tb_in (List.mem_of_getElem? (i := 1122) (by decide +kernel)) rfl
theorem cw_X8_recurrence {y : my} {index d2 : Nat} : Cw y mX8_recurrence index 1 d2 := ⟨kx_X8_recurrence, tb_in (List.mem_of_getElem? (i := 10) (by decide +kernel)) rfl, by decide +kernel, by decide⟩
theorem ki_X8_recurrence : Cond.instanceMethod yX8_recurrence ∈ gw := tb_in (List.mem_of_getElem? (i := 1120) (by decide +kernel)) rfl
theorem ks_X8_recurrence : Cond.selects RX8 yX8_recurrence yX8_recurrence ∈ gw := tb_in (List.mem_of_getElem? (i := 1121) (by decide +kernel)) rfl
abbrev mX8_coefficient : my := (yX8_coefficient, cX8_coefficient, 2, (some .int))
theorem kx_X8_coefficient : Cond.code mX8_coefficient.1 mX8_coefficient.2.1 mX8_coefficient.2.2.1 mX8_coefficient.2.2.2 ∈ gw := tb_in (List.mem_of_getElem? (i := 1138) (by decide +kernel)) rfl
theorem cw_X8_coefficient {y : my} {index d2 : Nat} : Cw y mX8_coefficient index 1 d2 := ⟨kx_X8_coefficient, tb_in (List.mem_of_getElem? (i := 10) (by decide +kernel)) rfl, by decide +kernel, by decide⟩
theorem ki_X8_coefficient : Cond.instanceMethod yX8_coefficient ∈ gw := tb_in (List.mem_of_getElem? (i := 1136) (by decide +kernel)) rfl
theorem ks_X8_coefficient : Cond.selects RX8 yX8_coefficient yX8_coefficient ∈ gw := tb_in (List.mem_of_getElem? (i := 1137) (by decide +kernel)) rfl
abbrev mX8_count : my := (yX8_count, cX8_count, 2, (some .int))
theorem kx_X8_count : Cond.code mX8_count.1 mX8_count.2.1 mX8_count.2.2.1 mX8_count.2.2.2 ∈ gw := tb_in (List.mem_of_getElem? (i := 1142) (by decide +kernel)) rfl
theorem cw_X8_count {y : my} {index d2 : Nat} : Cw y mX8_count index 1 d2 := ⟨kx_X8_count, tb_in (List.mem_of_getElem? (i := 10) (by decide +kernel)) rfl, by decide +kernel, by decide⟩
theorem ki_X8_count : Cond.instanceMethod yX8_count ∈ gw := tb_in (List.mem_of_getElem? (i := 1140) (by decide +kernel)) rfl
theorem ks_X8_count : Cond.selects RX8 yX8_count yX8_count ∈ gw := tb_in (List.mem_of_getElem? (i := 1141) (by decide +kernel)) rfl
abbrev mX8_digest : my := (yX8_digest, cX8_digest, 4, (some .long))
theorem kx_X8_digest : Cond.code mX8_digest.1 mX8_digest.2.1 mX8_digest.2.2.1 mX8_digest.2.2.2 ∈ gw := tb_in (List.mem_of_getElem? (i := 1146) (by decide +kernel)) rfl
theorem cw_X8_digest {y : my} {index d2 : Nat} : Cw y mX8_digest index 0 d2 := ⟨kx_X8_digest, tb_in (List.mem_of_getElem? (i := 10) (by decide +kernel)) rfl, by decide +kernel, by decide⟩
theorem ki_X8_digest : Cond.instanceMethod yX8_digest ∈ gw := tb_in (List.mem_of_getElem? (i := 1144) (by decide +kernel)) rfl
theorem ks_X8_digest : Cond.selects RX8 yX8_digest yX8_digest ∈ gw := tb_in (List.mem_of_getElem? (i := 1145) (by decide +kernel)) rfl
abbrev mJ13_bitCount_95d88 : my := (yJ13_bitCount_95d88, cJ13_bitCount_95d88, 2, (some .int))
theorem kx_J13_bitCount_95d88 : Cond.code mJ13_bitCount_95d88.1 mJ13_bitCount_95d88.2.1 mJ13_bitCount_95d88.2.2.1 mJ13_bitCount_95d88.2.2.2 ∈ gw := tb_in (List.mem_of_getElem? (i := 698) (by decide +kernel)) rfl
theorem cw_J13_bitCount_95d88 {y : my} {index d2 : Nat} : Cw y mJ13_bitCount_95d88 index 1 d2 := ⟨kx_J13_bitCount_95d88, tb_in (List.mem_of_getElem? (i := 13) (by decide +kernel)) rfl, by decide +kernel, by decide⟩
theorem kt_J13_bitCount_95d88 : Cond.static yJ13_bitCount_95d88 ∈ gw := tb_in (List.mem_of_getElem? (i := 697) (by decide +kernel)) rfl
abbrev mJ9_min_7cf53 : my := (yJ9_min_7cf53, cJ9_min_7cf53, 2, (some .int))
theorem kx_J9_min_7cf53 : Cond.code mJ9_min_7cf53.1 mJ9_min_7cf53.2.1 mJ9_min_7cf53.2.2.1 mJ9_min_7cf53.2.2.2 ∈ gw := tb_in (List.mem_of_getElem? (i := 315) (by decide +kernel)) rfl
theorem cw_J9_min_7cf53 {y : my} {index d2 : Nat} : Cw y mJ9_min_7cf53 index 2 d2 := ⟨kx_J9_min_7cf53, tb_in (List.mem_of_getElem? (i := 11) (by decide +kernel)) rfl, by decide +kernel, by decide⟩
theorem kt_J9_min_7cf53 : Cond.static yJ9_min_7cf53 ∈ gw := tb_in (List.mem_of_getElem? (i := 314) (by decide +kernel)) rfl
abbrev mJ7_rangeCheck_23922 : my := (yJ7_rangeCheck_23922, cJ7_rangeCheck_23922, 3, none)
theorem kx_J7_rangeCheck_23922 : Cond.code mJ7_rangeCheck_23922.1 mJ7_rangeCheck_23922.2.1 mJ7_rangeCheck_23922.2.2.1 mJ7_rangeCheck_23922.2.2.2 ∈ gw := tb_in (List.mem_of_getElem? (i := 371) (by decide +kernel)) rfl
theorem cw_J7_rangeCheck_23922 {y : my} {index d2 : Nat} : Cw y mJ7_rangeCheck_23922 index 3 d2 := ⟨kx_J7_rangeCheck_23922, tb_in (List.mem_of_getElem? (i := 5) (by decide +kernel)) rfl, by decide +kernel, by decide⟩
theorem kt_J7_rangeCheck_23922 : Cond.static yJ7_rangeCheck_23922 ∈ gw := tb_in (List.mem_of_getElem? (i := 370) (by decide +kernel)) rfl
abbrev mJ7_fill_d0a16 : my := (yJ7_fill_d0a16, cJ7_fill_d0a16, 5, none)
theorem kx_J7_fill_d0a16 : Cond.code mJ7_fill_d0a16.1 mJ7_fill_d0a16.2.1 mJ7_fill_d0a16.2.2.1 mJ7_fill_d0a16.2.2.2 ∈ gw := tb_in (List.mem_of_getElem? (i := 690) (by decide +kernel)) rfl
theorem cw_J7_fill_d0a16 {y : my} {index d2 : Nat} : Cw y mJ7_fill_d0a16 index 2 d2 := ⟨kx_J7_fill_d0a16, tb_in (List.mem_of_getElem? (i := 5) (by decide +kernel)) rfl, by decide +kernel, by decide⟩
theorem kt_J7_fill_d0a16 : Cond.static yJ7_fill_d0a16 ∈ gw := tb_in (List.mem_of_getElem? (i := 689) (by decide +kernel)) rfl
abbrev mJ7_fill_53178 : my := (yJ7_fill_53178, cJ7_fill_53178, 4, none)
theorem kx_J7_fill_53178 : Cond.code mJ7_fill_53178.1 mJ7_fill_53178.2.1 mJ7_fill_53178.2.2.1 mJ7_fill_53178.2.2.2 ∈ gw := tb_in (List.mem_of_getElem? (i := 98) (by decide +kernel)) rfl
theorem cw_J7_fill_53178 {y : my} {index d2 : Nat} : Cw y mJ7_fill_53178 index 2 d2 := ⟨kx_J7_fill_53178, tb_in (List.mem_of_getElem? (i := 5) (by decide +kernel)) rfl, by decide +kernel, by decide⟩
theorem kt_J7_fill_53178 : Cond.static yJ7_fill_53178 ∈ gw := tb_in (List.mem_of_getElem? (i := 97) (by decide +kernel)) rfl
abbrev mJ7_fill_fda19 : my := (yJ7_fill_fda19, cJ7_fill_fda19, 5, none)
theorem kx_J7_fill_fda19 : Cond.code mJ7_fill_fda19.1 mJ7_fill_fda19.2.1 mJ7_fill_fda19.2.2.1 mJ7_fill_fda19.2.2.2 ∈ gw := tb_in (List.mem_of_getElem? (i := 368) (by decide +kernel)) rfl
theorem cw_J7_fill_fda19 {y : my} {index d2 : Nat} : Cw y mJ7_fill_fda19 index 4 d2 := ⟨kx_J7_fill_fda19, tb_in (List.mem_of_getElem? (i := 5) (by decide +kernel)) rfl, by decide +kernel, by decide⟩
theorem kt_J7_fill_fda19 : Cond.static yJ7_fill_fda19 ∈ gw := tb_in (List.mem_of_getElem? (i := 367) (by decide +kernel)) rfl
abbrev mJ7_fill_eb02e : my := (yJ7_fill_eb02e, cJ7_fill_eb02e, 5, none)
theorem kx_J7_fill_eb02e : Cond.code mJ7_fill_eb02e.1 mJ7_fill_eb02e.2.1 mJ7_fill_eb02e.2.2.1 mJ7_fill_eb02e.2.2.2 ∈ gw := tb_in (List.mem_of_getElem? (i := 578) (by decide +kernel)) rfl
theorem cw_J7_fill_eb02e {y : my} {index d2 : Nat} : Cw y mJ7_fill_eb02e index 4 d2 := ⟨kx_J7_fill_eb02e, tb_in (List.mem_of_getElem? (i := 5) (by decide +kernel)) rfl, by decide +kernel, by decide⟩
theorem kt_J7_fill_eb02e : Cond.static yJ7_fill_eb02e ∈ gw := tb_in (List.mem_of_getElem? (i := 577) (by decide +kernel)) rfl
abbrev mL_law : my := (yL_law, cL_law, 4, (some .boolean))
end
